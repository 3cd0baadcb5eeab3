/-! ROUNDS, CALM, SOON, both sides -/
def sP1 (p : Nat) : Nat → Nat → Bool → (Nat → Nat) → Bool × (Nat → Nat)
  | 0, _, a, s => (a, s)
  | m + 1, i, a, s => if cP s i = true then sP1 p m (i + 1) true (sPro s i p) else sP1 p m (i + 1) a s
def sT1 : Nat → Nat → (Nat → Nat) → (Nat → Nat)
  | 0, _, s => s
  | m + 1, i, s => sT1 m (i + 1) (if cT s i = true then sTO s i else s)
def sRe (x : Bool × (Nat → Nat)) (z : Nat) : Nat → Nat := if x.1 = true then x.2 else sT1 z 0 x.2
def sRd (s : Nat → Nat) (p : Nat) : Nat → Nat := sRe (sP1 p (s 0 + 4) 0 false s) (s 0 + 4)
theorem ok_P1 {p : Nat} (hp : p ≤ 999) : ∀ (m i : Nat) (a : Bool) (s : Nat → Nat), okS s → i + m ≤ 7 → okS (sP1 p m i a s).2 ∧ Mo s (sP1 p m i a s).2
  | 0, i, a, s, h, hi => ⟨h, Mo_r⟩
  | m + 1, i, a, s, h, hi => by
    show okS (if cP s i = true then sP1 p m (i + 1) true (sPro s i p) else sP1 p m (i + 1) a s).2 ∧ Mo s (if cP s i = true then sP1 p m (i + 1) true (sPro s i p) else sP1 p m (i + 1) a s).2
    split
    · rename_i c
      have r := ok_P1 hp m (i + 1) true _ (ok_pro h (k := i) (by omega) c hp) (by omega)
      exact ⟨r.1, Mo_t (Mo_pro h (by omega) c hp) r.2⟩
    · exact ok_P1 hp m (i + 1) a s h (by omega)
theorem ok_T1 : ∀ (m i : Nat) (s : Nat → Nat), okS s → i + m ≤ 7 → okS (sT1 m i s) ∧ Mo s (sT1 m i s)
  | 0, i, s, h, hi => ⟨h, Mo_r⟩
  | m + 1, i, s, h, hi => by
    show okS (sT1 m (i + 1) (if cT s i = true then sTO s i else s)) ∧ Mo s (sT1 m (i + 1) (if cT s i = true then sTO s i else s))
    split
    · rename_i c
      have r := ok_T1 m (i + 1) _ (ok_TO h (k := i) (by omega) c) (by omega)
      exact ⟨r.1, Mo_t (Mo_TO h (by omega)) r.2⟩
    · exact ok_T1 m (i + 1) s h (by omega)
theorem ok_Rd {s : Nat → Nat} (h : okS s) {p : Nat} (hp : p ≤ 999) : okS (sRd s p) ∧ Mo s (sRd s p) := by
  have h0 := h.2.2.1.1
  have a := ok_P1 hp (s 0 + 4) 0 false s h (by omega)
  unfold sRd sRe
  split
  · exact a
  · have b := ok_T1 (s 0 + 4) 0 _ a.1 (by omega)
    exact ⟨b.1, Mo_t a.2 b.2⟩
def b01 (a : Bool) : Nat := if a = true then 1 else 0
section Rd
variable {q w : Nat} {I : ev_I}
theorem r_T1 : ∀ (m i n : Nat) (s : Nat → Nat), okS s → i + m = s 0 + 4 → m + 10 < n → lX10_goesRound_44 q n (nI 0) (nI i) (M q I s) = some (M q I (sT1 m i s)) := by
  intro m
  induction m with
  | zero =>
    intro i n s hs hi hn
    obtain ⟨n, rfl⟩ : ∃ k, n = k + 1 := ⟨n - 1, by omega⟩
    have h0 := hs.2.2.1.1
    show cX10_goesRound_44 q _ n _ _ _ = _
    unfold cX10_goesRound_44
    rw [r_nodeMany, bn_s, if_pos (nI_le (by omega) (by omega))]; rfl
  | succ m ih =>
    intro i n s hs hi hn
    obtain ⟨n, rfl⟩ : ∃ k, n = k + 1 := ⟨n - 1, by omega⟩
    have h0 := hs.2.2.1.1
    show cX10_goesRound_44 q _ n _ _ _ = some (M q I (sT1 m (i + 1) (if cT s i = true then sTO s i else s)))
    unfold cX10_goesRound_44 cX10_goesRound_69
    rw [r_nodeMany, bn_s, if_neg (nI_ge (by omega) (by omega)), if_pos (show nI 0 = 0 by decide), r_canT hs (by omega), bn_s, show (1 : Int32) = nI 1 from rfl, nI_add]
    by_cases c : cT s i = true
    · rw [if_pos c, if_neg (show ¬ nI 1 = 0 by decide), r_TO hs (by omega) (by omega), bn_s, if_pos c]
      exact ih (i + 1) n _ (ok_TO hs (by omega) c) (by rw [(Mo_TO hs (by omega)).1]; omega) (by omega)
    · rw [if_neg c, if_pos (show nI 0 = 0 by decide), if_neg c]
      exact ih (i + 1) n _ hs (by omega) (by omega)
theorem r_P1 {p : Nat} (hp : p ≤ 999) : ∀ (m i n : Nat) (a : Bool) (s : Nat → Nat), okS s → i + m = s 0 + 4 → m + 30 < n → lX10_goesRound_8 q n (nI p) (nI (b01 a)) (nI i) (M q I s) = some (M q I (sRe (sP1 p m i a s) (s 0 + 4))) := by
  intro m
  induction m with
  | zero =>
    intro i n a s hs hi hn
    obtain ⟨n, rfl⟩ : ∃ k, n = k + 1 := ⟨n - 1, by omega⟩
    have h0 := hs.2.2.1.1
    show cX10_goesRound_8 q _ n _ _ _ _ = some (M q I (if a = true then s else sT1 (s 0 + 4) 0 s))
    unfold cX10_goesRound_8
    rw [r_nodeMany, bn_s, if_pos (nI_le (by omega) (by omega))]
    cases a with
    | false => exact r_T1 (s 0 + 4) 0 n s hs (by omega) (by omega)
    | true =>
      obtain ⟨n, rfl⟩ : ∃ k, n = k + 1 := ⟨n - 1, by omega⟩
      show cX10_goesRound_44 q _ n _ _ _ = _
      unfold cX10_goesRound_44
      rw [r_nodeMany, bn_s, if_neg (show ¬ nI (s 0 + 4) ≤ 0 from nI_nle (by omega) (by omega)), if_neg (by decide)]
      rfl
  | succ m ih =>
    intro i n a s hs hi hn
    obtain ⟨n, rfl⟩ : ∃ k, n = k + 1 := ⟨n - 1, by omega⟩
    have h0 := hs.2.2.1.1
    show cX10_goesRound_8 q _ n _ _ _ _ = some (M q I (sRe (if cP s i = true then sP1 p m (i + 1) true (sPro s i p) else sP1 p m (i + 1) a s) (s 0 + 4)))
    unfold cX10_goesRound_8 cX10_goesRound_36
    rw [r_nodeMany, bn_s, if_neg (nI_ge (by omega) (by omega)), r_canP hs (by omega), bn_s]
    by_cases c : cP s i = true
    · rw [if_pos c, if_neg (show ¬ nI 1 = 0 by decide), r_proposes hs (by omega) c hp (by omega), bn_s, if_pos c]
      have e0 := (Mo_pro hs (k := i) (by omega) c hp).1
      have := ih (i + 1) n true _ (ok_pro hs (by omega) c hp) (by rw [e0]; omega) (by omega)
      rw [e0] at this
      rw [show (1 : Int32) = nI 1 from rfl, nI_add]
      exact this
    · rw [if_neg c, if_pos (show nI 0 = 0 by decide), if_neg c, show (1 : Int32) = nI 1 from rfl, nI_add]
      exact ih (i + 1) n a s hs (by omega) (by omega)
theorem r_round {n p : Nat} {s : Nat → Nat} (hs : okS s) (hp : p ≤ 999) (hn : 1500 ≤ n) : ∃ J, pX10_goesRound n q (nI p) (M q I s) = some (M q J (sRd (sDN 400 s) p)) ∧ Sk q I J := by
  obtain ⟨J, e, hJ⟩ := r_deliversAll (q := q) (I := I) (n := n) hs hn
  refine ⟨J, ?_, hJ⟩
  unfold pX10_goesRound
  rw [e, bn_s]
  exact r_P1 hp _ 0 n false _ (ok_DN 400 s hs) (by omega) (by have := (ok_DN 400 s hs).2.2.1.1; omega)
theorem c_T1 {h : Nat} : ∀ (m i n : Nat) (r : Nat → Int32) (s : Nat → Nat), okS s → okR s h r → i + m = s 0 + 4 → m + 10 < n → ∃ r', lX8_goOn_38 w n (nI 0) (nI i) (C w I s h r) = some (C w I (sT1 m i s) h r') ∧ okR (sT1 m i s) h r' := by
  intro m
  induction m with
  | zero =>
    intro i n r s hs hr hi hn
    obtain ⟨n, rfl⟩ : ∃ k, n = k + 1 := ⟨n - 1, by omega⟩
    have h0 := hs.2.2.1.1
    refine ⟨r, ?_, hr⟩
    show cX8_goOn_38 w _ n _ _ _ = _
    unfold cX8_goOn_38
    rw [cg_size, if_pos (nI_le (by omega) (by omega))]; rfl
  | succ m ih =>
    intro i n r s hs hr hi hn
    obtain ⟨n, rfl⟩ : ∃ k, n = k + 1 := ⟨n - 1, by omega⟩
    have h0 := hs.2.2.1.1
    obtain ⟨r1, e1, hr1⟩ := c_timeOutBy (n := n) (w := w) (I := I) (k := i) hs hr (by omega) (by omega)
    have ok1 : okS (if cT s i = true then sTO s i else s) ∧ (if cT s i = true then sTO s i else s) 0 = s 0 := by
      split
      · rename_i c; exact ⟨ok_TO hs (by omega) c, (Mo_TO hs (by omega)).1⟩
      · exact ⟨hs, rfl⟩
    obtain ⟨r2, e2, hr2⟩ := ih (i + 1) n r1 _ ok1.1 hr1 (by rw [ok1.2]; omega) (by omega)
    refine ⟨r2, ?_, hr2⟩
    show cX8_goOn_38 w _ n _ _ _ = _
    unfold cX8_goOn_38
    rw [cg_size, if_neg (nI_ge (by omega) (by omega)), if_pos (show nI 0 = 0 by decide), e1, bn_s, show (1 : Int32) = nI 1 from rfl, nI_add]
    exact e2
theorem c_P1 {h p : Nat} (hp : p ≤ 999) : ∀ (m i n : Nat) (a : Bool) (r : Nat → Int32) (s : Nat → Nat), okS s → okR s h r → i + m = s 0 + 4 → m + 30 < n → ∃ r', lX8_goOn_4 w n (nI p) (nI (b01 a)) (nI i) (C w I s h r) = some (C w I (sRe (sP1 p m i a s) (s 0 + 4)) h r') ∧ okR (sRe (sP1 p m i a s) (s 0 + 4)) h r' := by
  intro m
  induction m with
  | zero =>
    intro i n a r s hs hr hi hn
    obtain ⟨n, rfl⟩ : ∃ k, n = k + 1 := ⟨n - 1, by omega⟩
    have h0 := hs.2.2.1.1
    show ∃ r', cX8_goOn_4 w _ n _ _ _ _ = some (C w I (if a = true then s else sT1 (s 0 + 4) 0 s) h r') ∧ okR (if a = true then s else sT1 (s 0 + 4) 0 s) h r'
    unfold cX8_goOn_4
    rw [cg_size, if_pos (nI_le (by omega) (by omega))]
    cases a with
    | false => exact c_T1 (s 0 + 4) 0 n r s hs hr (by omega) (by omega)
    | true =>
      obtain ⟨n, rfl⟩ : ∃ k, n = k + 1 := ⟨n - 1, by omega⟩
      refine ⟨r, ?_, hr⟩
      show cX8_goOn_38 w _ n _ _ _ = _
      unfold cX8_goOn_38
      rw [cg_size, if_neg (show ¬ nI (s 0 + 4) ≤ 0 from nI_nle (by omega) (by omega)), if_neg (by decide)]
      rfl
  | succ m ih =>
    intro i n a r s hs hr hi hn
    obtain ⟨n, rfl⟩ : ∃ k, n = k + 1 := ⟨n - 1, by omega⟩
    have h0 := hs.2.2.1.1
    have h3 := hs.b3
    obtain ⟨r1, e1, hr1⟩ := c_proposeBy (n := n) (w := w) (I := I) (k := i) (p := p) hs hr (by omega) hp (by omega)
    show ∃ r', cX8_goOn_4 w _ n _ _ _ _ = some (C w I (sRe (if cP s i = true then sP1 p m (i + 1) true (sPro s i p) else sP1 p m (i + 1) a s) (s 0 + 4)) h r') ∧ okR (sRe (if cP s i = true then sP1 p m (i + 1) true (sPro s i p) else sP1 p m (i + 1) a s) (s 0 + 4)) h r'
    unfold cX8_goOn_4 cX8_goOn_28
    rw [cg_size, if_neg (nI_ge (by omega) (by omega)), e1, bn_s]
    by_cases c : cP s i = true
    · simp only [if_pos c] at hr1 ⊢
      have e0 := (Mo_pro hs (k := i) (by omega) c hp).1
      obtain ⟨r2, e2, hr2⟩ := ih (i + 1) n true r1 _ (ok_pro hs (by omega) c hp) hr1 (by rw [e0]; omega) (by omega)
      rw [e0] at e2 hr2
      refine ⟨r2, ?_, hr2⟩
      rw [if_neg (nI_m1 (by omega)), show (1 : Int32) = nI 1 from rfl, nI_add]
      have eo : nI (b01 a) ||| nI 1 = nI (b01 true) := by cases a <;> rfl
      rw [eo]
      exact e2
    · simp only [if_neg c] at hr1 ⊢
      obtain ⟨r2, e2, hr2⟩ := ih (i + 1) n a r1 _ hs hr1 (by omega) (by omega)
      refine ⟨r2, ?_, hr2⟩
      rw [if_pos trivial, show (1 : Int32) = nI 1 from rfl, nI_add]
      have eo : nI (b01 a) ||| (0 : Int32) = nI (b01 a) := by cases a <;> rfl
      rw [eo]
      exact e2
theorem c_goOn {n p h : Nat} {r : Nat → Int32} {s : Nat → Nat} (hs : okS s) (hr : okR s h r) (hp : p ≤ 999) (hn : 100 ≤ n) : ∃ r', pX8_goOn n w (nI p) (C w I s h r) = some (C w I (sRd s p) h r') ∧ okR (sRd s p) h r' := c_P1 hp _ 0 n false r s hs hr (by omega) (by have := hs.2.2.1.1; omega)
end Rd
/-- the logs together; those of the honest -/
def lgN (s : Nat → Nat) : Nat → Nat
  | 0 => 0
  | m + 1 => lgN s m + (s (2416 + 513 * m + 8) + 1)
def lhN (s : Nat → Nat) : Nat → Nat
  | 0 => 0
  | m + 1 => lhN s m + (if s (2416 + 513 * m) = 0 then s (2416 + 513 * m + 8) + 1 else 0)
theorem lgN_b {s : Nat → Nat} (hs : okS s) : ∀ m, m ≤ 7 → lgN s m ≤ 100 * m
  | 0, _ => Nat.le_refl _
  | m + 1, h => by
    have := lgN_b hs m (by omega)
    have := (hs.2.2.2.1 m (by omega)).2.1.1
    have := hs.b3
    show lgN s m + _ ≤ _
    omega
theorem lhN_b {s : Nat → Nat} (hs : okS s) : ∀ m, m ≤ 7 → lhN s m ≤ 100 * m
  | 0, _ => Nat.le_refl _
  | m + 1, h => by
    have := lhN_b hs m (by omega)
    have := (hs.2.2.2.1 m (by omega)).2.1.1
    have := hs.b3
    show lhN s m + _ ≤ _
    split <;> omega
theorem lgN_m {s t : Nat → Nat} (h : Mo s t) : ∀ m, m ≤ 7 → lgN s m ≤ lgN t m
  | 0, _ => Nat.le_refl _
  | m + 1, hm => by
    have := lgN_m h m (by omega)
    have := (h.2.1 m (by omega)).2
    show lgN s m + _ ≤ lgN t m + _
    omega
/-- some honest log is longer -/
def loN (u s : Nat → Nat) : Nat → Nat → Bool
  | _, 0 => false
  | i, m + 1 => (decide (s (2416 + 513 * i) = 0) && decide (u (2416 + 513 * i + 8) < s (2416 + 513 * i + 8))) || loN u s (i + 1) m
theorem loN_iff {u s : Nat → Nat} : ∀ (m i : Nat), loN u s i m = true ↔ ∃ j, i ≤ j ∧ j < i + m ∧ s (2416 + 513 * j) = 0 ∧ u (2416 + 513 * j + 8) < s (2416 + 513 * j + 8)
  | 0, i => by
    constructor
    · intro h; cases h
    · intro ⟨j, h1, h2, _⟩; omega
  | m + 1, i => by
    show ((decide (s (2416 + 513 * i) = 0) && decide (u (2416 + 513 * i + 8) < s (2416 + 513 * i + 8))) || loN u s (i + 1) m) = true ↔ _
    rw [Bool.or_eq_true, loN_iff m (i + 1), Bool.and_eq_true, decide_eq_true_eq, decide_eq_true_eq]
    constructor
    · rintro (h | ⟨j, h1, h2, h3⟩)
      · exact ⟨i, by omega, by omega, h⟩
      · exact ⟨j, by omega, by omega, h3⟩
    · intro ⟨j, h1, h2, h3⟩
      by_cases hj : j = i
      · subst hj; exact Or.inl h3
      · exact Or.inr ⟨j, by omega, by omega, h3⟩
theorem lhN_lo {u s : Nat → Nat} (h : Mo u s) : ∀ m, m ≤ 7 → (lhN u m ≤ lhN s m ∧ (lhN u m < lhN s m ↔ ∃ j, j < m ∧ s (2416 + 513 * j) = 0 ∧ u (2416 + 513 * j + 8) < s (2416 + 513 * j + 8)))
  | 0, _ => ⟨Nat.le_refl _, ⟨fun q => absurd q (Nat.lt_irrefl _), fun q => absurd q.choose_spec.1 (Nat.not_lt_zero _)⟩⟩
  | m + 1, hm => by
    obtain ⟨a, b⟩ := lhN_lo h m (by omega)
    obtain ⟨c, d⟩ := h.2.1 m (by omega)
    show lhN u m + _ ≤ lhN s m + _ ∧ (lhN u m + _ < lhN s m + _ ↔ _)
    rw [c]
    by_cases z : u (2416 + 513 * m) = 0
    · rw [if_pos z, if_pos z]
      refine ⟨by omega, ⟨fun q => ?_, fun ⟨j, h1, h2, h3⟩ => ?_⟩⟩
      · by_cases e : u (2416 + 513 * m + 8) < s (2416 + 513 * m + 8)
        · exact ⟨m, by omega, by rw [c]; exact z, e⟩
        · obtain ⟨j, h1, h2⟩ := b.mp (by omega)
          exact ⟨j, by omega, h2⟩
      · by_cases e : j = m
        · subst e; omega
        · have := b.mpr ⟨j, by omega, h2, h3⟩
          omega
    · rw [if_neg z, if_neg z]
      refine ⟨by omega, ⟨fun q => ?_, fun ⟨j, h1, h2, h3⟩ => ?_⟩⟩
      · obtain ⟨j, h1, h2⟩ := b.mp (by omega)
        exact ⟨j, by omega, h2⟩
      · by_cases e : j = m
        · subst e; rw [c] at h2; exact absurd h2 z
        · have := b.mpr ⟨j, by omega, h2, h3⟩
          omega
theorem lo_lh {u s : Nat → Nat} (h : Mo u s) {m : Nat} (hm : m ≤ 7) : loN u s 0 m = true ↔ lhN u m < lhN s m := by
  rw [loN_iff, (lhN_lo h m hm).2]
  constructor
  · intro ⟨j, _, h2, h3⟩; exact ⟨j, by omega, h3⟩
  · intro ⟨j, h2, h3⟩; exact ⟨j, by omega, by omega, h3⟩
def sRds : Nat → Nat → (Nat → Nat) → (Nat → Nat)
  | 0, _, s => s
  | m + 1, k, s => sRds m (k + 1) (sRd (sDN 400 s) k)
theorem ok_Rds : ∀ (m k : Nat) (s : Nat → Nat), okS s → k + m ≤ 900 → okS (sRds m k s) ∧ Mo s (sRds m k s)
  | 0, k, s, h, hk => ⟨h, Mo_r⟩
  | m + 1, k, s, h, hk => by
    have a := ok_Rd (ok_DN 400 s h) (p := k) (by omega)
    have b := ok_Rds m (k + 1) _ a.1 (by omega)
    exact ⟨b.1, Mo_t (Mo_DN 400 s h) (Mo_t a.2 b.2)⟩
/-- in how few rounds -/
def sSo (u : Nat → Nat) : Nat → Nat → (Nat → Nat) → Int32
  | 0, _, _ => -1
  | m + 1, k, s => if loN u (sDN 400 (sRd s k)) 0 (u 0 + 4) = true then nI (k + 1) else sSo u m (k + 1) (sDN 400 (sRd s k))
section Cm
variable {q w : Nat}
theorem r_lgL {I : ev_I} {s : Nat → Nat} (hs : okS s) : ∀ (m i n : Nat), i + m = s 0 + 4 → m < n → lX10_logsTogether_4 q n (nI (lgN s i)) (nI i) (M q I s) = some (nI (lgN s (s 0 + 4))) := by
  have h0 := hs.2.2.1.1
  intro m
  induction m with
  | zero =>
    intro i n hi hn
    obtain ⟨n, rfl⟩ : ∃ k, n = k + 1 := ⟨n - 1, by omega⟩
    show cX10_logsTogether_4 q _ n _ _ _ = _
    unfold cX10_logsTogether_4
    rw [r_nodeMany, bn_s, if_pos (nI_le (by omega) (by omega)), show i = s 0 + 4 by omega]
  | succ m ih =>
    intro i n hi hn
    obtain ⟨n, rfl⟩ : ∃ k, n = k + 1 := ⟨n - 1, by omega⟩
    show cX10_logsTogether_4 q _ n _ _ _ = _
    unfold cX10_logsTogether_4
    rw [r_nodeMany, bn_s, if_neg (nI_ge (by omega) (by omega)), r_logMany (by omega), bn_s, show (1 : Int32) = nI 1 from rfl, nI_add, nI_add]
    exact ih (i + 1) n (by omega) (by omega)
theorem r_lg {n : Nat} {I : ev_I} {s : Nat → Nat} (hs : okS s) (hn : 10 ≤ n) : pX10_logsTogether n q (M q I s) = some (nI (lgN s (s 0 + 4))) := r_lgL hs (s 0 + 4) 0 n (by omega) (by have := hs.2.2.1.1; omega)
theorem c_lgL {I : ev_I} {h : Nat} {r : Nat → Int32} {s : Nat → Nat} (hs : okS s) : ∀ (m i n : Nat), i + m = s 0 + 4 → m < n → lX8_loggedByAll_4 w n (nI (lgN s i)) (nI i) (C w I s h r) = some (nI (lgN s (s 0 + 4))) := by
  have h0 := hs.2.2.1.1
  intro m
  induction m with
  | zero =>
    intro i n hi hn
    obtain ⟨n, rfl⟩ : ∃ k, n = k + 1 := ⟨n - 1, by omega⟩
    show cX8_loggedByAll_4 w _ n _ _ _ = _
    unfold cX8_loggedByAll_4
    rw [cg_size, if_pos (nI_le (by omega) (by omega)), show i = s 0 + 4 by omega]
  | succ m ih =>
    intro i n hi hn
    obtain ⟨n, rfl⟩ : ∃ k, n = k + 1 := ⟨n - 1, by omega⟩
    show cX8_loggedByAll_4 w _ n _ _ _ = _
    unfold cX8_loggedByAll_4
    rw [cg_size, if_neg (nI_ge (by omega) (by omega)), ck_in (by omega) (by omega), nI_clamp (by omega), cg_logn (by omega), show (1 : Int32) = nI 1 from rfl, nI_add, nI_add]
    exact ih (i + 1) n (by omega) (by omega)
theorem c_lg {n h : Nat} {I : ev_I} {r : Nat → Int32} {s : Nat → Nat} (hs : okS s) (hn : 10 ≤ n) : pX8_loggedByAll n w (C w I s h r) = some (nI (lgN s (s 0 + 4))) := c_lgL hs (s 0 + 4) 0 n (by omega) (by have := hs.2.2.1.1; omega)
theorem c_lhL {I : ev_I} {h : Nat} {r : Nat → Int32} {s : Nat → Nat} (hs : okS s) : ∀ (m i n : Nat), i + m = s 0 + 4 → m < n → lX8_loggedByHonest_4 w n (nI (lhN s i)) (nI i) (C w I s h r) = some (nI (lhN s (s 0 + 4))) := by
  have h0 := hs.2.2.1.1
  intro m
  induction m with
  | zero =>
    intro i n hi hn
    obtain ⟨n, rfl⟩ : ∃ k, n = k + 1 := ⟨n - 1, by omega⟩
    show cX8_loggedByHonest_4 w _ n _ _ _ = _
    unfold cX8_loggedByHonest_4
    rw [cg_size, if_pos (nI_le (by omega) (by omega)), show i = s 0 + 4 by omega]
  | succ m ih =>
    intro i n hi hn
    obtain ⟨n, rfl⟩ : ∃ k, n = k + 1 := ⟨n - 1, by omega⟩
    have f0 := (hs.2.2.2.1 i (by omega)).1.1
    have hr := ih (i + 1) n (by omega) (by omega)
    have el : lhN s (i + 1) = lhN s i + (if s (2416 + 513 * i) = 0 then s (2416 + 513 * i + 8) + 1 else 0) := rfl
    rw [el] at hr
    show cX8_loggedByHonest_4 w _ n _ _ _ = _
    unfold cX8_loggedByHonest_4 cX8_loggedByHonest_38
    rw [cg_size, if_neg (nI_ge (by omega) (by omega)), ck_in (by omega) (by omega), nI_clamp (by omega), cg_mode (by omega)]
    by_cases c : s (2416 + 513 * i) = 0
    · rw [if_pos c] at hr
      rw [if_pos (by rw [c]; rfl), ck_in (by omega) (by omega), cg_logn (by omega), show (1 : Int32) = nI 1 from rfl, nI_add, nI_add]
      exact hr
    · rw [if_neg c] at hr
      rw [if_neg (nI_ne0 (by omega) (by omega)), show (1 : Int32) = nI 1 from rfl, show (0 : Int32) = nI 0 from rfl, nI_add, nI_add]
      exact hr
theorem c_lh {n h : Nat} {I : ev_I} {r : Nat → Int32} {s : Nat → Nat} (hs : okS s) (hn : 10 ≤ n) : pX8_loggedByHonest n w (C w I s h r) = some (nI (lhN s (s 0 + 4))) := c_lhL hs (s 0 + 4) 0 n (by omega) (by have := hs.2.2.1.1; omega)
theorem r_calmL {R : Nat} (hR : R ≤ 20) {was : Int32} : ∀ (m k n : Nat) (I : ev_I) (s : Nat → Nat), okS s → k + m = R → m + 1600 < n → ∃ J, lX10_calm_25 q n (nI R) was (nI k) (M q I s) = some (nI (lgN (sDN 400 (sRds m k s)) (s 0 + 4)) - was, M q J (sDN 400 (sRds m k s))) ∧ Sk q I J := by
  intro m
  induction m with
  | zero =>
    intro k n I s hs hk hn
    obtain ⟨n, rfl⟩ : ∃ k, n = k + 1 := ⟨n - 1, by omega⟩
    obtain ⟨J, e, hJ⟩ := r_deliversAll (q := q) (I := I) (n := n) hs (by omega)
    refine ⟨J, ?_, hJ⟩
    show cX10_calm_25 q _ n _ _ _ _ = _
    unfold cX10_calm_25
    rw [if_pos (nI_le (by omega) (by omega)), e, bn_s, r_lg (ok_DN 400 s hs) (by omega), bn_s, (Mo_DN 400 s hs).1]
    rfl
  | succ m ih =>
    intro k n I s hs hk hn
    obtain ⟨n, rfl⟩ : ∃ k, n = k + 1 := ⟨n - 1, by omega⟩
    obtain ⟨J, e, hJ⟩ := r_round (q := q) (I := I) (n := n) (p := k) hs (by omega) (by omega)
    have a := ok_Rd (ok_DN 400 s hs) (p := k) (by omega)
    obtain ⟨J2, e2, hJ2⟩ := ih (k + 1) n J _ a.1 (by omega) (by omega)
    rw [(Mo_t (Mo_DN 400 s hs) a.2).1] at e2
    refine ⟨J2, ?_, Sk_t hJ hJ2⟩
    show cX10_calm_25 q _ n _ _ _ _ = _
    unfold cX10_calm_25
    rw [if_neg (nI_ge (by omega) (by omega)), e, bn_s, show (1 : Int32) = nI 1 from rfl, nI_add]
    exact e2
theorem c_calmL {I : ev_I} {R : Nat} (hR : R ≤ 20) {was : Int32} : ∀ (m k n h : Nat) (r : Nat → Int32) (s : Nat → Nat), okS s → okR s h r → k + m = R → m + 1600 < n → ∃ h' r', lX8_calmRounds_7 w n (nI R) was (nI k) (C w I s h r) = some (nI (lgN (sDN 400 (sRds m k s)) (s 0 + 4)) - was, C w I (sDN 400 (sRds m k s)) h' r') ∧ okR (sDN 400 (sRds m k s)) h' r' := by
  intro m
  induction m with
  | zero =>
    intro k n h r s hs hr hk hn
    obtain ⟨n, rfl⟩ : ∃ k, n = k + 1 := ⟨n - 1, by omega⟩
    obtain ⟨h', r', e, hr'⟩ := c_deliverAll (w := w) (I := I) (n := n) hs hr (by omega)
    refine ⟨h', r', ?_, hr'⟩
    show cX8_calmRounds_7 w _ n _ _ _ _ = _
    unfold cX8_calmRounds_7
    rw [if_pos (nI_le (by omega) (by omega)), e, bn_s, c_lg (ok_DN 400 s hs) (by omega), bn_s, (Mo_DN 400 s hs).1]
    rfl
  | succ m ih =>
    intro k n h r s hs hr hk hn
    obtain ⟨n, rfl⟩ : ∃ k, n = k + 1 := ⟨n - 1, by omega⟩
    obtain ⟨h1, r1, e1, hr1⟩ := c_deliverAll (w := w) (I := I) (n := n) hs hr (by omega)
    have d := ok_DN 400 s hs
    obtain ⟨r2, e2, hr2⟩ := c_goOn (w := w) (I := I) (n := n) (p := k) d hr1 (by omega) (by omega)
    have a := ok_Rd d (p := k) (by omega)
    obtain ⟨h3, r3, e3, hr3⟩ := ih (k + 1) n h1 r2 _ a.1 hr2 (by omega) (by omega)
    rw [(Mo_t (Mo_DN 400 s hs) a.2).1] at e3
    refine ⟨h3, r3, ?_, hr3⟩
    show cX8_calmRounds_7 w _ n _ _ _ _ = _
    unfold cX8_calmRounds_7
    rw [if_neg (nI_ge (by omega) (by omega)), e1, bn_s, e2, bn_s, show (1 : Int32) = nI 1 from rfl, nI_add]
    exact e3
theorem r_loL {I : ev_I} {u s : Nat → Nat} (hs : okS s) (hu : okS u) (h0 : s 0 = u 0) (hI : ∀ i, i < u 0 + 4 → I (q + 5) i = nI (u (2416 + 513 * i + 8) + 1)) : ∀ (m i n : Nat), i + m = u 0 + 4 → m < n → lX10_isLonger_2 q n (nI i) (M q I s) = some (nI (b01 (loN u s i m))) := by
  have z0 := hs.2.2.1.1
  intro m
  induction m with
  | zero =>
    intro i n hi hn
    obtain ⟨n, rfl⟩ : ∃ k, n = k + 1 := ⟨n - 1, by omega⟩
    show cX10_isLonger_2 q _ n _ _ = _
    unfold cX10_isLonger_2
    rw [r_nodeMany, bn_s, if_pos (nI_le (by omega) (by omega))]
    rfl
  | succ m ih =>
    intro i n hi hn
    obtain ⟨n, rfl⟩ : ∃ k, n = k + 1 := ⟨n - 1, by omega⟩
    have f0 := (hs.2.2.2.1 i (by omega)).1.1
    have l1 := (hs.2.2.2.1 i (by omega)).2.1.1
    have l2 := (hu.2.2.2.1 i (by omega)).2.1.1
    have s3 := hs.b3
    have u3 := hu.b3
    have hr := ih (i + 1) n (by omega) (by omega)
    have mo : M q I s (q + 5) i = I (q + 5) i := by rw [M_oth (by omega)]
    have eq2 : ∀ x y : Nat, x < 1000 → y < 1000 → (nI (x + 1) ≤ nI (y + 1) ↔ x ≤ y) := fun x y hx hy => by rw [nI_leI (by omega) (by omega)]; omega
    show cX10_isLonger_2 q _ n _ _ = some (nI (b01 ((decide (s (2416 + 513 * i) = 0) && decide (u (2416 + 513 * i + 8) < s (2416 + 513 * i + 8))) || loN u s (i + 1) m)))
    unfold cX10_isLonger_2 cX10_isLonger_41
    rw [r_nodeMany, bn_s, if_neg (nI_ge (by omega) (by omega)), r_nodeAt, bn_s, show (0 : Int32) = nI 0 from rfl, show (1 : Int32) = nI 1 from rfl, nI_add, nI_add, Nat.add_zero, ck_in (by omega) (by omega), nI_clamp (by omega), M_get, r_logMany (by omega), bn_s, ck_in (by omega) (by omega), nI_clamp (by omega), mo, hI i (by omega)]
    simp (disch := omega) only [nI_eq, eq2, lt_b, hr]
    by_cases c0 : s (2416 + 513 * i) = 0
    · rw [if_pos c0]
      by_cases c1 : s (2416 + 513 * i + 8) ≤ u (2416 + 513 * i + 8)
      · rw [if_pos c1]
        have : ¬ u (2416 + 513 * i + 8) < s (2416 + 513 * i + 8) := by omega
        simp [c0, this]
      · rw [if_neg c1]
        have : u (2416 + 513 * i + 8) < s (2416 + 513 * i + 8) := by omega
        simp [c0, this, b01]
    · rw [if_neg c0]
      simp [c0]
theorem r_soL {u : Nat → Nat} (hu : okS u) : ∀ (m k n : Nat) (I : ev_I) (s : Nat → Nat), okS s → Mo u s → (∀ i, i < u 0 + 4 → I (q + 5) i = nI (u (2416 + 513 * i + 8) + 1)) → k + m = 20 → m + 1600 < n → ∃ J t, lX10_soonOf_29 q n (nI k) (M q I s) = some (sSo u m k (sDN 400 s), M q J t) ∧ Sk q I J ∧ Mo s t := by
  have u0 := hu.2.2.1.1
  intro m
  induction m with
  | zero =>
    intro k n I s hs hm hI hk hn
    obtain ⟨n, rfl⟩ : ∃ k, n = k + 1 := ⟨n - 1, by omega⟩
    refine ⟨I, s, ?_, Sk_r, Mo_r⟩
    show cX10_soonOf_29 q _ n _ _ = _
    unfold cX10_soonOf_29
    rw [if_pos (show (20 : Int32) ≤ nI k from nI_le (a := 20) (by omega) (by omega))]
    rfl
  | succ m ih =>
    intro k n I s hs hm hI hk hn
    obtain ⟨n, rfl⟩ : ∃ k, n = k + 1 := ⟨n - 1, by omega⟩
    obtain ⟨J, e, hJ⟩ := r_round (q := q) (I := I) (n := n) (p := k) hs (by omega) (by omega)
    have d := ok_DN 400 s hs
    have a := ok_Rd d (p := k) (by omega)
    obtain ⟨J2, e2, hJ2⟩ := r_deliversAll (q := q) (I := J) (n := n) a.1 (by omega)
    have d2 := ok_DN 400 _ a.1
    have m2 : Mo s (sDN 400 (sRd (sDN 400 s) k)) := Mo_t (Mo_DN 400 s hs) (Mo_t a.2 (Mo_DN 400 _ a.1))
    have hI2 : ∀ i, i < u 0 + 4 → J2 (q + 5) i = nI (u (2416 + 513 * i + 8) + 1) := fun i hi => by rw [hJ2 _ _ (by omega), hJ _ _ (by omega)]; exact hI i hi
    have hl := r_loL (q := q) (I := J2) d2 hu (Mo_t hm m2).1 hI2 (u 0 + 4) 0 n (by omega) (by omega)
    show ∃ J t, cX10_soonOf_29 q _ n _ _ = some (if loN u (sDN 400 (sRd (sDN 400 s) k)) 0 (u 0 + 4) = true then nI (k + 1) else sSo u m (k + 1) (sDN 400 (sRd (sDN 400 s) k)), M q J t) ∧ _ ∧ _
    unfold cX10_soonOf_29 pX10_isLonger
    rw [if_neg (show ¬ (20 : Int32) ≤ nI k from nI_ge (b := 20) (by omega) (by omega)), e, bn_s, e2, bn_s, show (0 : Int32) = nI 0 from rfl, show (1 : Int32) = nI 1 from rfl, hl, bn_s, nI_add]
    by_cases c : loN u (sDN 400 (sRd (sDN 400 s) k)) 0 (u 0 + 4) = true
    · refine ⟨J2, _, ?_, Sk_t hJ hJ2, m2⟩
      rw [if_pos c, c, if_neg (by decide)]
    · obtain ⟨J3, t, e3, hJ3, m3⟩ := ih (k + 1) n J2 _ d2 (Mo_t hm m2) hI2 (by omega) (by omega)
      refine ⟨J3, t, ?_, Sk_t hJ (Sk_t hJ2 hJ3), Mo_t m2 m3⟩
      rw [if_neg c, eq_false_of_ne_true c, if_pos (by decide)]
      rw [sDN_z (sDN_e 400 _ a.1 (mu_le a.1))] at e3
      exact e3
theorem c_soL {I : ev_I} {u : Nat → Nat} (hu : okS u) : ∀ (m k n h : Nat) (r : Nat → Int32) (s : Nat → Nat), okS s → okR s h r → Mo u s → k + m = 20 → m + 1600 < n → ∃ h' r' t, lX8_roundsTillMore_16 w n (nI (lhN u (u 0 + 4))) (nI k) (C w I s h r) = some (sSo u m k s, C w I t h' r') := by
  have u0 := hu.2.2.1.1
  intro m
  induction m with
  | zero =>
    intro k n h r s hs hr hm hk hn
    obtain ⟨n, rfl⟩ : ∃ k, n = k + 1 := ⟨n - 1, by omega⟩
    refine ⟨h, r, s, ?_⟩
    show cX8_roundsTillMore_16 w _ n _ _ _ = _
    unfold cX8_roundsTillMore_16
    rw [if_pos (show (20 : Int32) ≤ nI k from nI_le (a := 20) (by omega) (by omega))]
    rfl
  | succ m ih =>
    intro k n h r s hs hr hm hk hn
    obtain ⟨n, rfl⟩ : ∃ k, n = k + 1 := ⟨n - 1, by omega⟩
    obtain ⟨r1, e1, hr1⟩ := c_goOn (w := w) (I := I) (n := n) (p := k) hs hr (by omega) (by omega)
    have a := ok_Rd hs (p := k) (by omega)
    obtain ⟨h2, r2, e2, hr2⟩ := c_deliverAll (w := w) (I := I) (n := n) a.1 hr1 (by omega)
    have d2 := ok_DN 400 _ a.1
    have m2 : Mo u (sDN 400 (sRd s k)) := Mo_t hm (Mo_t a.2 (Mo_DN 400 _ a.1))
    have hl := c_lh (w := w) (I := I) (n := n) (h := h2) (r := r2) d2 (by omega)
    rw [m2.1] at hl
    have b1 := lhN_b hu (u 0 + 4) (by omega)
    have b2 := lhN_b d2 (u 0 + 4) (by omega)
    have hlo := lo_lh m2 (m := u 0 + 4) (by omega)
    show ∃ h' r' t, cX8_roundsTillMore_16 w _ n _ _ _ = some (if loN u (sDN 400 (sRd s k)) 0 (u 0 + 4) = true then nI (k + 1) else sSo u m (k + 1) (sDN 400 (sRd s k)), C w I t h' r')
    unfold cX8_roundsTillMore_16
    rw [if_neg (show ¬ (20 : Int32) ≤ nI k from nI_ge (b := 20) (by omega) (by omega)), e1, bn_s, e2, bn_s, hl, bn_s, show (1 : Int32) = nI 1 from rfl, nI_add]
    by_cases c : loN u (sDN 400 (sRd s k)) 0 (u 0 + 4) = true
    · refine ⟨h2, r2, sDN 400 (sRd s k), ?_⟩
      rw [if_pos c, if_neg (nI_ge (hlo.mp c) (by omega))]
    · obtain ⟨h3, r3, t, e3⟩ := ih (k + 1) n h2 r2 _ d2 hr2 m2 (by omega) (by omega)
      refine ⟨h3, r3, t, ?_⟩
      have : ¬ lhN u (u 0 + 4) < lhN (sDN 400 (sRd s k)) (u 0 + 4) := fun q => c (hlo.mpr q)
      rw [if_neg c, if_pos (nI_le (by omega) (by omega))]
      exact e3
theorem c_soon {n h : Nat} {r : Nat → Int32} {I : ev_I} {s : Nat → Nat} (hs : okS s) (hr : okR s h r) (hn : 2000 ≤ n) : ∃ h' r' t, pX8_roundsTillMore n w (C w I s h r) = some (sSo s 20 0 (sDN 400 s), C w I t h' r') := by
  obtain ⟨h1, r1, e1, hr1⟩ := c_deliverAll (w := w) (I := I) (n := n) hs hr (by omega)
  obtain ⟨h2, r2, t, e2⟩ := c_soL (w := w) (I := I) (u := s) hs 20 0 n h1 r1 _ (ok_DN 400 s hs) hr1 (Mo_DN 400 s hs) (by omega) (by omega)
  refine ⟨h2, r2, t, ?_⟩
  unfold pX8_roundsTillMore
  rw [c_lh hs (by omega), bn_s, e1, bn_s]
  exact e2
theorem r_wasL {u : Nat → Nat} (hu : okS u) : ∀ (m i n : Nat) (I : ev_I), (∀ j, j < i → I (q + 5) j = nI (u (2416 + 513 * j + 8) + 1)) → i + m = u 0 + 4 → m + 1700 < n → ∃ J t, lX10_soonOf_2 q n (nI i) (M q I u) = some (sSo u 20 0 (sDN 400 u), M q J t) ∧ (∀ a j, a ≠ q + 3 → a ≠ q + 5 → J a j = I a j) ∧ Mo u t := by
  have u0 := hu.2.2.1.1
  intro m
  induction m with
  | zero =>
    intro i n I hI hi hn
    obtain ⟨n, rfl⟩ : ∃ k, n = k + 1 := ⟨n - 1, by omega⟩
    obtain ⟨J, t, e, hJ, hm⟩ := r_soL (q := q) hu 20 0 n I u hu Mo_r (fun j hj => hI j (by omega)) (by omega) (by omega)
    refine ⟨J, t, ?_, fun a j h1 h2 => hJ a j h1, hm⟩
    show cX10_soonOf_2 q _ n _ _ = _
    unfold cX10_soonOf_2
    rw [r_nodeMany, bn_s, if_pos (nI_le (by omega) (by omega))]
    exact e
  | succ m ih =>
    intro i n I hI hi hn
    obtain ⟨n, rfl⟩ : ∃ k, n = k + 1 := ⟨n - 1, by omega⟩
    obtain ⟨J, t, e, hJ, hm⟩ := ih (i + 1) n (ev_u2 I (q + 5) i (nI (u (2416 + 513 * i + 8) + 1))) (fun j hj => by
      unfold ev_u2
      by_cases c : j = i
      · subst c; rw [if_pos ⟨rfl, rfl⟩]
      · rw [if_neg (by omega)]; exact hI j (by omega)) (by omega) (by omega)
    refine ⟨J, t, ?_, fun a j h1 h2 => by rw [hJ a j h1 h2]; unfold ev_u2; rw [if_neg (by omega)], hm⟩
    show cX10_soonOf_2 q _ n _ _ = _
    unfold cX10_soonOf_2
    rw [r_nodeMany, bn_s, if_neg (nI_ge (by omega) (by omega)), r_logMany (by omega), bn_s, ck_in (by omega) (by omega), nI_clamp (by omega), M_pd (by omega), show (1 : Int32) = nI 1 from rfl, nI_add]
    exact e
theorem r_soonOf {n : Nat} {I : ev_I} {u : Nat → Nat} (hu : okS u) (hn : 2000 ≤ n) : ∃ J t, pX10_soonOf n q (M q I u) = some (sSo u 20 0 (sDN 400 u), M q J t) ∧ (∀ a j, a ≠ q + 3 → a ≠ q + 5 → J a j = I a j) ∧ Mo u t := r_wasL hu (u 0 + 4) 0 n I (fun j hj => by omega) (by omega) (by have := hu.2.2.1.1; omega)
end Cm
