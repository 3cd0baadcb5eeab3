/-! THE TAPE: lines, as a plain function; the class follows it -/
def bd {α β : Type} : Sum (Nat × Nat) α → (α → Sum (Nat × Nat) β) → Sum (Nat × Nat) β
  | .inl e, _ => .inl e
  | .inr a, f => f a
section Prs
variable (L : Nat) (T : Nat → Nat)
def nmr (lo hi b : Nat) : Sum (Nat × Nat) (Nat × Nat) := if kct L T b = 2 then (if lo ≤ nvl L T b ∧ nvl L T b ≤ hi then .inr (nvl L T b, ent L T b) else .inl (2, stt L T b)) else .inl (1, stt L T b)
def sem (b : Nat) : Sum (Nat × Nat) Nat := if kct L T b = 3 then .inr (ent L T b) else .inl (1, stt L T b)
def wix (b : Nat) : Nat := if kct L T b = 1 then wv T (stt L T b) (ent L T b) else 10
def loL : List Nat := [0, 1, 1, 0, 0, 0, 0, 0, 0, 1]
def hiL : List Nat := [6, 50, 50, 6, 50, 6, 6, 0, 0, 20]
def n1 (w b : Nat) : Sum (Nat × Nat) (Nat × Nat) := nmr L T (loL.getD w 0) (hiL.getD w 0) b
def opr (w b : Nat) : Sum (Nat × Nat) (Nat × Nat) := if w = 6 then (if wix L T b = 7 then .inr (9, ent L T b) else if wix L T b = 8 then .inr (10, ent L T b) else if wix L T b = 5 then .inr (11, ent L T b) else .inl (1, stt L T b)) else .inr (tx w + 1, b)
def n2 (o b : Nat) : Sum (Nat × Nat) (Nat × Nat) := if o = 1 then nmr L T 0 999 b else if o = 9 then nmr L T 0 99 b else if o = 10 then nmr L T 0 99 b else if o = 11 then nmr L T 1 200 b else .inr (0, b)
def n3 (o b : Nat) : Sum (Nat × Nat) (Nat × Nat) := if o = 10 then nmr L T 1 200 b else .inr (0, b)
def rst (o b : Nat) : Sum (Nat × Nat) (Nat × Nat × Nat) := bd (n2 L T o b) fun x => bd (n3 L T o x.2) fun y => bd (sem L T y.2) fun c => .inr (x.1, y.1, c)
def bad (w : Nat) : Bool := w == 7 || w == 8 || w == 10
/-- one line: its order, its numbers, the place behind it -/
def pln (p b : Nat) : Sum (Nat × Nat) ((Nat × Nat × Nat × Nat) × Nat) := if bad (wix L T b) = true then .inl (1, stt L T b) else if p = 24 then .inl (3, stt L T b) else bd (n1 L T (wix L T b) (ent L T b)) fun x => bd (opr L T (wix L T b) x.2) fun y => bd (rst L T y.1 y.2) fun z => .inr ((y.1, x.1, z.1, z.2.1), z.2.2)
def prs : Nat → Nat → Nat → (Nat → Nat × Nat × Nat × Nat) → Sum (Nat × Nat) (Nat × (Nat → Nat × Nat × Nat × Nat))
  | 0, p, _, F => .inr (p, F)
  | m + 1, p, b, F => if kct L T b = 0 then .inr (p, F) else bd (pln L T p b) fun x => prs m (p + 1) x.2 (fun i => if i = p then x.1 else F i)
end Prs
theorem wix_b {L b : Nat} {T : Nat → Nat} : wix L T b ≤ 10 := by
  unfold wix
  by_cases c : kct L T b = 1
  · rw [if_pos c]
    rcases wv_s (T := T) (a := stt L T b) (e := ent L T b) with d | d <;> omega
  · rw [if_neg c]
    omega
def AtC (t L : Nat) (T : Nat → Nat) (b : Nat) (I : ev_I) : Prop := (TpC t L T I ∧ b ≤ L) ∧ I t 2 = nI 0 ∧ I t 5 = nI (stt L T b) ∧ I t 6 = nI (ent L T b) ∧ I t 7 = nI (kct L T b) ∧ I t 3 = -1
def FaC (t : Nat) (e : Nat × Nat) (I : ev_I) : Prop := (0 < e.1 ∧ e.1 < 4 ∧ e.2 < 2 ^ 31) ∧ I t 2 = nI e.1 ∧ I t 3 = nI e.2
def FC (t : Nat) (I J : ev_I) : Prop := ∀ a j, ¬ (a = t ∧ 2 ≤ j ∧ j ≤ 7) → J a j = I a j
theorem FC_t {t : Nat} {I J K : ev_I} (h1 : FC t I J) (h2 : FC t J K) : FC t I K := fun a j h => (h2 a j h).trans (h1 a j h)
theorem FC_3 {t : Nat} {I J : ev_I} (h : F3 t I J) : FC t I J := fun a j g => h a j (by omega)
theorem FC_r {t : Nat} {I : ev_I} : FC t I I := fun _ _ _ => rfl
theorem kct_b {L b : Nat} {T : Nat → Nat} : kct L T b ≤ 4 := by
  unfold kct
  by_cases c : stt L T b < L
  · rw [if_pos c]
    by_cases d : isL (T (stt L T b)) = true
    · rw [if_pos d]; omega
    · rw [if_neg d]
      by_cases e : isD (T (stt L T b)) = true
      · rw [if_pos e]
        by_cases f : ent L T b - stt L T b ≤ 4
        · rw [if_pos f]; omega
        · rw [if_neg f]; omega
      · rw [if_neg e]
        by_cases f : T (stt L T b) = 59
        · rw [if_pos f]; omega
        · rw [if_neg f]; omega
  · rw [if_neg c]; omega
theorem kct_2 {L b : Nat} {T : Nat → Nat} (h : kct L T b = 2) : ent L T b - stt L T b ≤ 4 ∧ ∀ j, stt L T b ≤ j → j < ent L T b → isD (T j) = true := by
  unfold kct at h
  by_cases c : stt L T b < L
  · rw [if_pos c] at h
    by_cases d : isL (T (stt L T b)) = true
    · rw [if_pos d] at h; omega
    · rw [if_neg d] at h
      by_cases e : isD (T (stt L T b)) = true
      · rw [if_pos e] at h
        by_cases f : ent L T b - stt L T b ≤ 4
        · refine ⟨f, fun j h1 h2 => ?_⟩
          have ee : ent L T b = rn T isD (L - stt L T b) (stt L T b) := by unfold ent; rw [if_pos c, if_neg d, if_pos e]
          rw [ee] at h2
          exact rn_p _ _ j h1 h2
        · rw [if_neg f] at h; omega
      · rw [if_neg e] at h
        by_cases f : T (stt L T b) = 59
        · rw [if_pos f] at h; omega
        · rw [if_neg f] at h; omega
  · rw [if_neg c] at h; omega
theorem dv_b {T : Nat → Nat} {a : Nat} : ∀ m, (∀ j, a ≤ j → j < a + m → 48 ≤ T j ∧ T j ≤ 57) → dv T a m < 10 ^ m
  | 0, _ => by show 0 < 1; omega
  | m + 1, h => by
    have := dv_b m (fun j h1 h2 => h j h1 (by omega))
    have h' := h (a + m) (by omega) (by omega)
    show 10 * dv T a m + (T (a + m) - 48) < 10 ^ (m + 1)
    rw [Nat.pow_succ]
    omega
section Cp
variable {n t L b : Nat} {T : Nat → Nat} {I : ev_I}
theorem nvl_b (hT : okT L T) (hb : b ≤ L) (h : kct L T b = 2) : nvl L T b < 10000 := by
  obtain ⟨h1, h2⟩ := kct_2 h
  have e := ent_b (T := T) hb
  have s := stt_b (T := T) hb
  have := dv_b (T := T) (a := stt L T b) (ent L T b - stt L T b) (fun j g1 g2 => by
    obtain ⟨_, x, y⟩ := isD_n _ (hT.2 j (by omega)) (h2 j g1 (by omega))
    exact ⟨x, y⟩)
  have p : 10 ^ (ent L T b - stt L T b) ≤ 10 ^ 4 := Nat.pow_le_pow_right (by omega) h1
  unfold nvl
  omega
theorem c_step' (hT : okT L T) (hI : AtC t L T b I) (hn : 1000 ≤ n) : ∃ J, pX7_step n t I = some J ∧ AtC t L T (ent L T b) J ∧ FC t I J := by
  have e := ent_b (T := T) hI.1.2
  obtain ⟨J, h1, h2, h3, h4, h5⟩ := c_stp hT hI.1.1 e.2 hI.2.2.2.1 hn
  exact ⟨J, h1, ⟨⟨TpC_F hI.1.1 h5, e.2⟩, by rw [h5 t 2 (by omega)]; exact hI.2.1, h2, h3, h4, by rw [h5 t 3 (by omega)]; exact hI.2.2.2.2.2⟩, FC_3 h5⟩
theorem c_fail {x : Nat} (hx : 0 < x ∧ x < 4) (hT : okT L T) (hI : AtC t L T b I) : ∃ J, pX7_fail n t (nI x) I = some J ∧ FaC t (x, stt L T b) J ∧ FC t I J := by
  have s := stt_b (T := T) hI.1.2
  have hL := hT.1
  unfold pX7_fail
  rw [lt_b, lt_b, u2_o (by omega), hI.2.2.1]
  refine ⟨_, rfl, ⟨⟨hx.1, hx.2, by show stt L T b < _; omega⟩, (u2_o (by omega)).trans u2_s, u2_s⟩, fun a j g => ?_⟩
  rw [u2_o (by omega), u2_o (by omega)]
theorem c_nhL (hT : okT L T) (hI : AtC t L T b I) (hk : kct L T b = 2) : ∀ (m i n : Nat), stt L T b + i + m = ent L T b → m < n → lX7_numberHere_7 t n (nI (dv T (stt L T b) i)) (nI (stt L T b + i)) I = some (nI (nvl L T b)) := by
  have hL := hT.1
  obtain ⟨k1, k2⟩ := kct_2 hk
  have e := ent_b (T := T) hI.1.2
  intro m
  induction m with
  | zero =>
    intro i n hi hn
    obtain ⟨n, rfl⟩ : ∃ k, n = k + 1 := ⟨n - 1, by omega⟩
    show cX7_numberHere_7 t _ n _ _ _ = _
    unfold cX7_numberHere_7 nvl
    rw [hI.2.2.2.1, if_pos (nI_le (by omega) (by omega)), show ent L T b - stt L T b = i by omega]
  | succ m ih =>
    intro i n hi hn
    obtain ⟨n, rfl⟩ : ∃ k, n = k + 1 := ⟨n - 1, by omega⟩
    obtain ⟨d1, d2, d3⟩ := isD_n _ (hT.2 (stt L T b + i) (by omega)) (k2 (stt L T b + i) (by omega) (by omega))
    show cX7_numberHere_7 t _ n _ _ _ = _
    unfold cX7_numberHere_7
    rw [hI.2.2.2.1, if_neg (nI_ge (by omega) (by omega)), ck_in (by omega) (by omega), nI_clamp (by omega), hI.1.1.2 _ (by omega), d1, lt_b, lt_b, nI_1, show (10 : Int32) = nI 10 from rfl, show (48 : Int32) = nI 48 from rfl, pk_mul, nI_add, pk_sub (by omega), show 10 * dv T (stt L T b) i + T (stt L T b + i) - 48 = dv T (stt L T b) (i + 1) by show _ = 10 * dv T (stt L T b) i + (T (stt L T b + i) - 48); omega]
    exact ih (i + 1) n (by omega) (by omega)
theorem c_nh (hT : okT L T) (hI : AtC t L T b I) (hk : kct L T b = 2) (hn : 1000 ≤ n) : pX7_numberHere n t I = some (nI (nvl L T b)) := by
  obtain ⟨k1, k2⟩ := kct_2 hk
  have e := ent_b (T := T) hI.1.2
  unfold pX7_numberHere
  rw [lt_b, hI.2.2.1]
  exact c_nhL hT hI hk (ent L T b - stt L T b) 0 n (by omega) (by omega)
theorem ifs {c : Prop} [Decidable c] {α : Type} {a d : Option α} (h1 : ∃ z, a = some z) (h2 : ∃ z, d = some z) : ∃ z, (if c then a else d) = some z := by
  by_cases g : c
  · rw [if_pos g]; exact h1
  · rw [if_neg g]; exact h2
theorem nof_s {x : Int32} : ∃ z, pX7_numbersOf n x I = some z := by
  unfold pX7_numbersOf
  exact ifs ⟨_, rfl⟩ (ifs ⟨_, rfl⟩ (ifs ⟨_, rfl⟩ (ifs ⟨_, rfl⟩ (ifs ⟨_, rfl⟩ (ifs ⟨_, rfl⟩ (ifs ⟨_, rfl⟩ (ifs ⟨_, rfl⟩ (ifs ⟨_, rfl⟩ (ifs ⟨_, rfl⟩ (ifs ⟨_, rfl⟩ ⟨_, rfl⟩))))))))))
theorem FaC_0 {e : Nat × Nat} (h : FaC t e I) : ¬ I t 2 = 0 := by
  rw [h.2.1]
  exact nI_ne0 h.1.1 (by have := h.1.2.1; omega)
theorem c_numF {x y : Int32} {e : Nat × Nat} (h : FaC t e I) : pX7_readNumber n t x y I = some (nI 0, I) := by
  unfold pX7_readNumber
  obtain ⟨z, hz⟩ := nof_s (n := n) (x := x) (I := I)
  rw [hz, bn_s, if_neg (FaC_0 h)]
  rfl
theorem c_semF {e : Nat × Nat} (h : FaC t e I) : pX7_readSemicolon n t I = some I := by
  unfold pX7_readSemicolon
  rw [if_neg (FaC_0 h)]
theorem c_63F {x y : Int32} {e : Nat × Nat} (h : FaC t e I) : cX7_readLine_63 t n x y I = some I := by
  unfold cX7_readLine_63
  rw [c_numF h, bn_s, c_numF h, bn_s, c_semF h, bn_s, if_neg (FaC_0 h)]
/-- what became of a reading that yields a number -/
def RsN (t L : Nat) (T : Nat → Nat) (I : ev_I) (r : Sum (Nat × Nat) (Nat × Nat)) (x : Option (Int32 × ev_I)) : Prop := (∃ e J, r = .inl e ∧ x = some (nI 0, J) ∧ FaC t e J ∧ FC t I J) ∨ (∃ v b' J, r = .inr (v, b') ∧ v < 1000 ∧ x = some (nI v, J) ∧ AtC t L T b' J ∧ FC t I J)
theorem c_num {z lo hi x : Nat} {o : Int32} (hT : okT L T) (hI : AtC t L T b I) (hn : 1000 ≤ n) (hz : pX7_numbersOf n o I = some z) (hz' : z < 19) (hx : x < ev_ln.getD z 0) (hl : ev_ln.getD z 0 < 10) (hlo : pX7_leastOf n (ev_ch z x) I = some (nI lo)) (hhi : pX7_mostOf n (ev_ch z x) I = some (nI hi)) (h1 : lo < 1000) (h2 : hi < 1000) : RsN t L T I (nmr L T lo hi b) (pX7_readNumber n t o (nI x) I) := by
  unfold pX7_readNumber nmr
  rw [hz, bn_s, if_pos (show I t 2 = 0 from hI.2.1), ev_ckT (by unfold ev_le; rw [decide_eq_true_eq]; omega), if_pos (nI_lt hx (by omega)), hI.2.2.2.2.1]
  have kb := kct_b (L := L) (T := T) (b := b)
  by_cases c : kct L T b = 2
  · have nb := nvl_b hT hI.1.2 c
    rw [if_pos c, if_pos (show nI (kct L T b) = (2 : Int32) from congrArg nI c), c_nh hT hI c hn, bn_s, ev_ckT (by unfold ev_le; rw [decide_eq_true_eq]; omega), ck_in (by omega) (by omega), nI_clamp (by omega), hlo, bn_s]
    by_cases d : lo ≤ nvl L T b
    · rw [if_neg (nI_nlt d (by omega)), ev_ckT (by unfold ev_le; rw [decide_eq_true_eq]; omega), ck_in (by omega) (by omega), hhi, bn_s]
      by_cases e : nvl L T b ≤ hi
      · rw [if_pos (nI_le e (by omega)), if_pos ⟨d, e⟩]
        obtain ⟨J, e1, e2, e3⟩ := c_step' hT hI hn
        rw [e1]
        exact Or.inr ⟨_, _, J, rfl, by omega, rfl, e2, e3⟩
      · rw [if_neg (nI_ge (by omega) (by omega)), if_neg (fun q => e q.2)]
        obtain ⟨J, e1, e2, e3⟩ := c_fail (n := n) (x := 2) (by omega) hT hI
        unfold cX7_readNumber_69
        exact Or.inl ⟨_, J, rfl, by rw [show (2 : Int32) = nI 2 from rfl, e1]; rfl, e2, e3⟩
    · rw [if_pos (nI_lt (by omega) (by omega)), if_neg (fun q => d q.1)]
      obtain ⟨J, e1, e2, e3⟩ := c_fail (n := n) (x := 2) (by omega) hT hI
      unfold cX7_readNumber_69
      exact Or.inl ⟨_, J, rfl, by rw [show (2 : Int32) = nI 2 from rfl, e1]; rfl, e2, e3⟩
  · rw [if_neg c, if_neg (show ¬ nI (kct L T b) = (2 : Int32) from fun q => c ((nI_eq (b := 2) (by omega) (by omega)).mp q))]
    obtain ⟨J, e1, e2, e3⟩ := c_fail (n := n) (x := 1) (by omega) hT hI
    exact Or.inl ⟨_, J, rfl, by rw [show (1 : Int32) = nI 1 from rfl, e1]; rfl, e2, e3⟩
theorem c_numE {z x : Nat} {o : Int32} (hI : AtC t L T b I) (hz : pX7_numbersOf n o I = some z) (hz' : z < 19) (hx : ev_ln.getD z 0 ≤ x) (hx' : x < 10) : RsN t L T I (.inr (0, b)) (pX7_readNumber n t o (nI x) I) := by
  unfold pX7_readNumber
  rw [hz, bn_s, if_pos (show I t 2 = 0 from hI.2.1), ev_ckT (by unfold ev_le; rw [decide_eq_true_eq]; omega), if_neg (nI_nlt hx (by omega))]
  exact Or.inr ⟨0, b, I, rfl, by omega, rfl, hI, FC_r⟩
theorem t_ln : ev_ln.getD 11 0 = 2 ∧ ev_ln.getD 12 0 = 1 ∧ ev_ln.getD 13 0 = 1 ∧ ev_ln.getD 14 0 = 1 ∧ ev_ln.getD 15 0 = 1 ∧ ev_ln.getD 16 0 = 2 ∧ ev_ln.getD 17 0 = 3 ∧ ev_ln.getD 18 0 = 2 := by decide +kernel
theorem t_ch : ev_ch 11 0 = nI 78 ∧ ev_ch 11 1 = nI 80 ∧ ev_ch 12 0 = nI 75 ∧ ev_ch 13 0 = nI 78 ∧ ev_ch 14 0 = nI 77 ∧ ev_ch 15 0 = nI 82 ∧ ev_ch 16 1 = nI 66 ∧ ev_ch 17 1 = nI 66 ∧ ev_ch 17 2 = nI 86 ∧ ev_ch 18 1 = nI 86 := by decide +kernel
end Cp
