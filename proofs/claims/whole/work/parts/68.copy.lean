/-! COPIES OF WORLDS; soon, without, image, in plain -/
def Cp (a b : Nat) (P : Nat → Nat → Prop) (I J : ev_I) : Prop := (∀ o j, o < 58 → P o j → J (a + o) j = I (b + o) j) ∧ (∀ o j, o < 58 → ¬ P o j → J (a + o) j = I (a + o) j) ∧ ∀ x, (x < a ∨ a + 58 ≤ x) → J x = I x
section Cpy
variable {a b n : Nat} {P P' : Nat → Nat → Prop} {I J : ev_I}
theorem Cp_0 : Cp a b (fun _ _ => False) I I := ⟨fun _ _ _ h => h.elim, fun _ _ _ _ => rfl, fun _ _ => rfl⟩
theorem Cp_eq (h : Cp a b P I J) (e : ∀ o j, P o j ↔ P' o j) : Cp a b P' I J := ⟨fun o j ho hp => h.1 o j ho ((e o j).mpr hp), fun o j ho hp => h.2.1 o j ho (fun q => hp ((e o j).mp q)), h.2.2⟩
theorem cp_2 (hab : b + 58 ≤ a ∨ a + 58 ≤ b) (h : Cp a b P I J) (o : Nat) (ho : o < 58) (k : Nat) : Cp a b (fun o' j' => P o' j' ∨ (o' = o ∧ j' = k)) I (ev_u2 J (a + o) k (J (b + o) k)) := by
  have hb : J (b + o) k = I (b + o) k := by rw [h.2.2 (b + o) (by omega)]
  refine ⟨fun o' j' ho' hp => ?_, fun o' j' ho' hp => ?_, fun x hx => ?_⟩
  · unfold ev_u2
    by_cases c : a + o' = a + o ∧ j' = k
    · rw [if_pos c, hb, c.2, show o' = o by omega]
    · rw [if_neg c]
      rcases hp with hp | hp
      · exact h.1 o' j' ho' hp
      · exact absurd ⟨by omega, hp.2⟩ c
  · unfold ev_u2
    rw [if_neg (fun c => hp (Or.inr ⟨by omega, c.2⟩))]
    exact h.2.1 o' j' ho' (fun q => hp (Or.inl q))
  · funext j
    unfold ev_u2
    rw [if_neg (by omega), h.2.2 x hx]
theorem cp_2' (hab : b + 58 ≤ a ∨ a + 58 ≤ b) {o k : Nat} (h : Cp a b (fun o' j' => P o' j' ∨ (o' = o ∧ j' < k)) I J) (ho : o < 58) : Cp a b (fun o' j' => P o' j' ∨ (o' = o ∧ j' < k + 1)) I (ev_u2 J (a + o) k (J (b + o) k)) := Cp_eq (cp_2 hab h o ho k) (fun o' j' => by
  by_cases p : P o' j'
  · simp [p]
  · simp only [p, false_or]
    omega)
theorem cp_2z (h : Cp a b P I J) {o : Nat} : Cp a b (fun o' j' => P o' j' ∨ (o' = o ∧ j' < 0)) I J := Cp_eq h (fun o' j' => ⟨Or.inl, fun q => by
  rcases q with q | q
  · exact q
  · omega⟩)
theorem cp_1 (hab : b + 58 ≤ a ∨ a + 58 ≤ b) (h : Cp a b P I J) (o : Nat) (ho : o < 58) (N : Nat) {N' : Int32} (hN : N'.toNatClampNeg = N) : Cp a b (fun o' j' => P o' j' ∨ (o' = o ∧ j' < N)) I (ev_u1 J (a + o) (va_cpy (J (b + o)) (J (a + o)) (0 : Int32).toNatClampNeg (0 : Int32).toNatClampNeg N'.toNatClampNeg)) := by
  have hb : J (b + o) = I (b + o) := h.2.2 (b + o) (by omega)
  have hv : ∀ k, va_cpy (J (b + o)) (J (a + o)) (0 : Int32).toNatClampNeg (0 : Int32).toNatClampNeg N'.toNatClampNeg k = if k < N then I (b + o) k else J (a + o) k := fun k => by
    rw [hN, hb]
    show (if 0 ≤ k ∧ k < 0 + N then I (b + o) (0 + (k - 0)) else J (a + o) k) = _
    by_cases c : k < N
    · rw [if_pos (by omega), if_pos c, show 0 + (k - 0) = k by omega]
    · rw [if_neg (by omega), if_neg c]
  refine ⟨fun o' j' ho' hp => ?_, fun o' j' ho' hp => ?_, fun x hx => ?_⟩
  · unfold ev_u1
    by_cases c : a + o' = a + o
    · have e : o' = o := by omega
      rw [if_pos c, hv, e]
      by_cases d : j' < N
      · rw [if_pos d]
      · rw [if_neg d]
        rcases hp with hp | hp
        · rw [← e]; exact h.1 o' j' ho' hp
        · exact absurd hp.2 d
    · rw [if_neg c]
      rcases hp with hp | hp
      · exact h.1 o' j' ho' hp
      · exact absurd (by rw [hp.1]) c
  · unfold ev_u1
    by_cases c : a + o' = a + o
    · have e : o' = o := by omega
      rw [if_pos c, hv, if_neg (fun d => hp (Or.inr ⟨e, d⟩)), ← e]
      exact h.2.1 o' j' ho' (fun q => hp (Or.inl q))
    · rw [if_neg c]
      exact h.2.1 o' j' ho' (fun q => hp (Or.inl q))
  · rw [u1_o (by omega), h.2.2 x hx]
theorem cp_r (hab : b + 58 ≤ a ∨ a + 58 ≤ b) {L K N : Nat} {N' : Int32} (hN : N'.toNatClampNeg = N) (h : Cp a b (fun o' j' => P o' j' ∨ (L ≤ o' ∧ o' < K ∧ j' < N)) I J) (hL : L ≤ K) (hK : K < 58) : Cp a b (fun o' j' => P o' j' ∨ (L ≤ o' ∧ o' < K + 1 ∧ j' < N)) I (ev_u1 J (a + K) (va_cpy (J (b + K)) (J (a + K)) (0 : Int32).toNatClampNeg (0 : Int32).toNatClampNeg N'.toNatClampNeg)) := Cp_eq (cp_1 hab h K hK N hN) (fun o' j' => by
  by_cases p : P o' j'
  · simp [p]
  · simp only [p, false_or]
    omega)
theorem cp_rz (h : Cp a b P I J) {L N : Nat} : Cp a b (fun o' j' => P o' j' ∨ (L ≤ o' ∧ o' < L ∧ j' < N)) I J := Cp_eq h (fun o' j' => ⟨Or.inl, fun q => by
  rcases q with q | q
  · exact q
  · omega⟩)
theorem cp_X1 (hab : b + 58 ≤ a ∨ a + 58 ≤ b) (h : Cp a b P I J) : ∃ J', pX1_copyFrom n (a + 1) (b + 1) J = some J' ∧ Cp a b (fun o j => (P o j ∨ (o = 1 ∧ j = 0)) ∨ (2 ≤ o ∧ o < 10 ∧ j < 100)) I J' := by
  have h1 := cp_rz (cp_2 hab h 1 (by omega) 0) (L := 2) (N := 100)
  have h2 := cp_r hab (N' := 100) rfl h1 (by omega) (by omega)
  have h3 := cp_r hab (N' := 100) rfl h2 (by omega) (by omega)
  have h4 := cp_r hab (N' := 100) rfl h3 (by omega) (by omega)
  have h5 := cp_r hab (N' := 100) rfl h4 (by omega) (by omega)
  have h6 := cp_r hab (N' := 100) rfl h5 (by omega) (by omega)
  have h7 := cp_r hab (N' := 100) rfl h6 (by omega) (by omega)
  have h8 := cp_r hab (N' := 100) rfl h7 (by omega) (by omega)
  have h9 := cp_r hab (N' := 100) rfl h8 (by omega) (by omega)
  exact ⟨_, rfl, h9⟩
def Qm (k o j : Nat) : Prop := ((o = 23 + 5 * k ∧ j < 11) ∨ (23 + 5 * k + 1 ≤ o ∧ o < 23 + 5 * k + 4 ∧ j < 100)) ∨ (o = 23 + 5 * k + 4 ∧ j < 201)
theorem cp_X3 (hab : b + 58 ≤ a ∨ a + 58 ≤ b) (h : Cp a b P I J) {k : Nat} (hk : k < 7) : ∃ J', pX3_copyFrom n (a + (23 + 5 * k)) (b + (23 + 5 * k)) J = some J' ∧ Cp a b (fun o j => P o j ∨ Qm k o j) I J' := by
  have g0 := cp_2' hab (cp_2z h (o := 23 + 5 * k)) (by omega)
  have g1 := cp_2' hab g0 (by omega)
  have g2 := cp_2' hab g1 (by omega)
  have g3 := cp_2' hab g2 (by omega)
  have g4 := cp_2' hab g3 (by omega)
  have g5 := cp_2' hab g4 (by omega)
  have g6 := cp_2' hab g5 (by omega)
  have g7 := cp_2' hab g6 (by omega)
  have g8 := cp_2' hab g7 (by omega)
  have g9 := cp_2' hab g8 (by omega)
  have g10 := cp_2' hab g9 (by omega)
  have h0 := cp_rz g10 (L := 23 + 5 * k + 1) (N := 100)
  have h1 := cp_r hab (N' := 100) rfl h0 (by omega) (by omega)
  have h2 := cp_r hab (N' := 100) rfl h1 (by omega) (by omega)
  have h3 := cp_r hab (N' := 100) rfl h2 (by omega) (by omega)
  have h4 := cp_1 hab h3 (23 + 5 * k + 4) (by omega) 201 (N' := 201) rfl
  exact ⟨_, rfl, Cp_eq h4 (fun o j => by unfold Qm; rw [or_assoc, or_assoc, ← or_assoc (a := o = 23 + 5 * k ∧ j < 11)]; exact Iff.rfl)⟩
theorem cp_X4 (hab : b + 58 ≤ a ∨ a + 58 ≤ b) (h : Cp a b P I J) : ∃ J', pX4_copyFrom n (a + 11) (b + 11) J = some J' ∧ Cp a b (fun o j => ((P o j ∨ (o = 11 ∧ j < 5)) ∨ (o = 12 ∧ j < 200)) ∨ (o = 13 ∧ j < 7)) I J' := by
  have g0 := cp_2' hab (cp_2z h (o := 11)) (by omega)
  have g1 := cp_2' hab g0 (by omega)
  have g2 := cp_2' hab g1 (by omega)
  have g3 := cp_2' hab g2 (by omega)
  have g4 := cp_2' hab g3 (by omega)
  have h1 := cp_1 hab g4 12 (by omega) 200 (N' := 200) rfl
  have h2 := cp_1 hab h1 13 (by omega) 7 (N' := 7) rfl
  exact ⟨_, rfl, h2⟩
theorem bk_e {q0 q1 Z : Nat} (hZ : Z < 2 ^ 31) : pX2_copyFrom n q0 Z q1 Z I = some (ev_u1 (ev_u2 I q0 1 (I q1 1)) (q0 + 1) (va_cpy (ev_u2 I q0 1 (I q1 1) (q1 + 1)) (ev_u2 I q0 1 (I q1 1) (q0 + 1)) (0 : Int32).toNatClampNeg (0 : Int32).toNatClampNeg (nI Z).toNatClampNeg)) := by
  unfold pX2_copyFrom
  simp only [ite_self]
  rw [lt_b, ev_ckT (show ev_ps 0 = true by decide), ev_ckT (show ev_ps 0 = true by decide), ev_ckT (show ev_ps (Int32.ofNat Z) = true by unfold ev_ps; rw [decide_eq_true_eq]; exact nI_pos hZ), ev_ckT (by unfold ev_le; rw [decide_eq_true_eq]; show 0 + (nI Z).toNatClampNeg ≤ Z; rw [nI_clamp hZ]; omega), ev_ckT (by unfold ev_le; rw [decide_eq_true_eq]; show 0 + (nI Z).toNatClampNeg ≤ Z; rw [nI_clamp hZ]; omega), lt_b]
  rfl
theorem cp_X2 (hab : b + 58 ≤ a ∨ a + 58 ≤ b) (h : Cp a b P I J) {o Z : Nat} (ho : o < 57) (hZ : Z < 2 ^ 31) : ∃ J', pX2_copyFrom n (a + o) Z (b + o) Z J = some J' ∧ Cp a b (fun o' j => (P o' j ∨ (o' = o ∧ j = 1)) ∨ (o' = o + 1 ∧ j < Z)) I J' := by
  have g0 := cp_2 hab h o (by omega) 1
  have h1 := cp_1 hab g0 (o + 1) (by omega) Z (N' := nI Z) (nI_clamp hZ)
  exact ⟨_, bk_e hZ, h1⟩
theorem cp_X5 (hab : b + 58 ≤ a ∨ a + 58 ≤ b) (h : Cp a b P I J) : ∃ J', pX5_copyFrom n (a + 18) (b + 18) J = some J' ∧ Cp a b (fun o j => (P o j ∨ (o = 18 ∧ j < 2)) ∨ (19 ≤ o ∧ o < 23 ∧ j < 24)) I J' := by
  have g0 := cp_2' hab (cp_2z h (o := 18)) (by omega)
  have g1 := cp_rz (cp_2' hab g0 (by omega)) (L := 19) (N := 24)
  have h1 := cp_r hab (N' := 24) rfl g1 (by omega) (by omega)
  have h2 := cp_r hab (N' := 24) rfl h1 (by omega) (by omega)
  have h3 := cp_r hab (N' := 24) rfl h2 (by omega) (by omega)
  have h4 := cp_r hab (N' := 24) rfl h3 (by omega) (by omega)
  exact ⟨_, rfl, h4⟩
/-- what is copied -/
def PB (o j : Nat) : Prop := ((((False ∨ (o = 0 ∧ j = 0)) ∨ (o = 0 ∧ j = 1)) ∨ (o = 0 ∧ j = 2)) ∨ (o = 1 ∧ j = 0)) ∨ (2 ≤ o ∧ o < 10 ∧ j < 100)
def PF (i o j : Nat) : Prop := PB o j ∨ ∃ k, k < i ∧ Qm k o j
def PG (o j : Nat) : Prop := ((((((((PF 7 o j ∨ (o = 11 ∧ j < 5)) ∨ (o = 12 ∧ j < 200)) ∨ (o = 13 ∧ j < 7)) ∨ (o = 14 ∧ j = 1)) ∨ (o = 14 + 1 ∧ j < 300)) ∨ (o = 16 ∧ j = 1)) ∨ (o = 16 + 1 ∧ j < 500)) ∨ (o = 18 ∧ j < 2)) ∨ (19 ≤ o ∧ o < 23 ∧ j < 24)
theorem PF_s {i o j : Nat} : (PF i o j ∨ Qm i o j) ↔ PF (i + 1) o j := by
  unfold PF
  constructor
  · intro h
    rcases h with (h | ⟨k, hk, h⟩) | h
    · exact Or.inl h
    · exact Or.inr ⟨k, by omega, h⟩
    · exact Or.inr ⟨i, by omega, h⟩
  · intro h
    rcases h with h | ⟨k, hk, h⟩
    · exact Or.inl (Or.inl h)
    · by_cases c : k = i
      · rw [c] at h; exact Or.inr h
      · exact Or.inl (Or.inr ⟨k, by omega, h⟩)
theorem cp_mem (hab : b + 58 ≤ a ∨ a + 58 ≤ b) : ∀ (m i n : Nat) (J : ev_I), i + m = 7 → Cp a b (PF i) I J → m < n → ∃ J', lX8_copyFrom_37 a b n (nI i) J = some J' ∧ Cp a b PG I J' := by
  intro m
  induction m with
  | zero =>
    intro i n J hi h hn
    obtain ⟨n, rfl⟩ : ∃ k, n = k + 1 := ⟨n - 1, by omega⟩
    have e : i = 7 := by omega
    subst e
    obtain ⟨J1, e1, h1⟩ := cp_X4 (n := n) hab h
    obtain ⟨J2, e2, h2⟩ := cp_X2 (n := n) hab h1 (o := 14) (Z := 300) (by omega) (by omega)
    obtain ⟨J3, e3, h3⟩ := cp_X2 (n := n) hab h2 (o := 16) (Z := 500) (by omega) (by omega)
    obtain ⟨J4, e4, h4⟩ := cp_X5 (n := n) hab h3
    refine ⟨J4, ?_, h4⟩
    show cX8_copyFrom_37 a b _ n _ _ = _
    unfold cX8_copyFrom_37
    rw [if_pos (show (7 : Int32) ≤ nI 7 by decide), e1, bn_s, e2, bn_s, e3, bn_s, e4, bn_s]
  | succ m ih =>
    intro i n J hi h hn
    obtain ⟨n, rfl⟩ : ∃ k, n = k + 1 := ⟨n - 1, by omega⟩
    obtain ⟨J1, e1, h1⟩ := cp_X3 (n := n) hab h (k := i) (by omega)
    obtain ⟨J', e2, h2⟩ := ih (i + 1) n J1 (by omega) (Cp_eq h1 (fun o j => PF_s)) (by omega)
    refine ⟨J', ?_, h2⟩
    show cX8_copyFrom_37 a b _ n _ _ = _
    unfold cX8_copyFrom_37
    rw [if_neg (show ¬ (7 : Int32) ≤ nI i from nI_ge (b := 7) (by omega) (by omega)), ck_in (by omega) (by omega), ck_in (by omega) (by omega), nI_clamp (by omega), e1, bn_s, lt_b, nI_1]
    exact e2
theorem cp_all (hab : b + 58 ≤ a ∨ a + 58 ≤ b) (hn : 20 ≤ n) : ∃ J, pX8_copyFrom n a b I = some J ∧ Cp a b PG I J := by
  have g0 := cp_2 hab (Cp_0 (a := a) (b := b) (I := I)) 0 (by omega) 0
  have g1 := cp_2 hab g0 0 (by omega) 1
  have g2 := cp_2 hab g1 0 (by omega) 2
  obtain ⟨J1, e1, h1⟩ := cp_X1 (n := n) hab g2
  obtain ⟨J, e2, h2⟩ := cp_mem hab 7 0 n J1 (by omega) (Cp_eq h1 (fun o j => ⟨Or.inl, fun q => by
    rcases q with q | ⟨k, hk, _⟩
    · exact q
    · omega⟩)) (by omega)
  refine ⟨J, ?_, h2⟩
  unfold pX8_copyFrom
  simp only [lt_b]
  refine Eq.trans (congrArg (fun o => Option.bind o _) e1) ?_
  exact e2
theorem pg0 {o j : Nat} (h : o = 0) (hj : j < 3) : PG o j := by
  have : j = 0 ∨ j = 1 ∨ j = 2 := by omega
  refine Or.inl (Or.inl (Or.inl (Or.inl (Or.inl (Or.inl (Or.inl (Or.inl (Or.inl (Or.inl (Or.inl (Or.inl ?_)))))))))))
  rcases this with e | e | e
  · exact Or.inl (Or.inl (Or.inr ⟨h, e⟩))
  · exact Or.inl (Or.inr ⟨h, e⟩)
  · exact Or.inr ⟨h, e⟩
theorem pg1 {o j : Nat} (h : o = 1) (hj : j = 0) : PG o j := Or.inl (Or.inl (Or.inl (Or.inl (Or.inl (Or.inl (Or.inl (Or.inl (Or.inl (Or.inl (Or.inl (Or.inr ⟨h, hj⟩)))))))))))
theorem pg2 {o j : Nat} (h : 2 ≤ o ∧ o < 10) (hj : j < 100) : PG o j := Or.inl (Or.inl (Or.inl (Or.inl (Or.inl (Or.inl (Or.inl (Or.inl (Or.inl (Or.inl (Or.inr ⟨h.1, h.2, hj⟩))))))))))
theorem pgm {o j : Nat} (k : Nat) (hk : k < 7) (h : Qm k o j) : PG o j := Or.inl (Or.inl (Or.inl (Or.inl (Or.inl (Or.inl (Or.inl (Or.inl (Or.inl (Or.inr ⟨k, hk, h⟩)))))))))
theorem pgm0 {o j : Nat} (h : 23 ≤ o ∧ o < 58 ∧ (o - 23) % 5 = 0) (hj : j < 11) : PG o j := pgm ((o - 23) / 5) (by omega) (Or.inl (Or.inl ⟨by omega, hj⟩))
theorem pgm1 {o j : Nat} (h : 23 ≤ o ∧ o < 58 ∧ 1 ≤ (o - 23) % 5 ∧ (o - 23) % 5 ≤ 3) (hj : j < 100) : PG o j := pgm ((o - 23) / 5) (by omega) (Or.inl (Or.inr ⟨by omega, by omega, hj⟩))
theorem pgm4 {o j : Nat} (h : 23 ≤ o ∧ o < 58 ∧ (o - 23) % 5 = 4) (hj : j < 201) : PG o j := pgm ((o - 23) / 5) (by omega) (Or.inr ⟨by omega, hj⟩)
theorem pg11 {o j : Nat} (h : o = 11) (hj : j < 5) : PG o j := Or.inl (Or.inl (Or.inl (Or.inl (Or.inl (Or.inl (Or.inl (Or.inl (Or.inr ⟨h, hj⟩))))))))
theorem pg12 {o j : Nat} (h : o = 12) (hj : j < 200) : PG o j := Or.inl (Or.inl (Or.inl (Or.inl (Or.inl (Or.inl (Or.inl (Or.inr ⟨h, hj⟩)))))))
theorem pg13 {o j : Nat} (h : o = 13) (hj : j < 7) : PG o j := Or.inl (Or.inl (Or.inl (Or.inl (Or.inl (Or.inl (Or.inr ⟨h, hj⟩))))))
theorem pg14 {o j : Nat} (h : o = 14) (hj : j = 1) : PG o j := Or.inl (Or.inl (Or.inl (Or.inl (Or.inl (Or.inr ⟨h, hj⟩)))))
theorem pg15 {o j : Nat} (h : o = 15) (hj : j < 300) : PG o j := Or.inl (Or.inl (Or.inl (Or.inl (Or.inr ⟨h, hj⟩))))
theorem pg16 {o j : Nat} (h : o = 16) (hj : j = 1) : PG o j := Or.inl (Or.inl (Or.inl (Or.inr ⟨h, hj⟩)))
theorem pg17 {o j : Nat} (h : o = 17) (hj : j < 500) : PG o j := Or.inl (Or.inl (Or.inr ⟨h, hj⟩))
theorem pg18 {o j : Nat} (h : o = 18) (hj : j < 2) : PG o j := Or.inl (Or.inr ⟨h, hj⟩)
theorem pg19 {o j : Nat} (h : 19 ≤ o ∧ o < 23) (hj : j < 24) : PG o j := Or.inr ⟨h.1, h.2, hj⟩
theorem pgn {o j : Nat} (h : (o = 14 ∨ o = 16) ∧ j = 0) : ¬ PG o j := by
  intro q
  rcases q with ((((((((q | q) | q) | q) | q) | q) | q) | q) | q) | q
  · rcases q with q | ⟨k, hk, q⟩
    · rcases q with ((((q | q) | q) | q) | q) | q
      · exact q
      · omega
      · omega
      · omega
      · omega
      · omega
    · rcases q with (q | q) | q <;> omega
  · omega
  · omega
  · omega
  · omega
  · omega
  · omega
  · omega
  · omega
  · omega
end Cpy
/-- a world at w that stands for the row s -/
def CC (w : Nat) (I : ev_I) (s : Nat → Nat) (h : Nat) (r : Nat → Int32) : Prop := ∀ x j, w ≤ x → x < w + 58 → I x j = C w I s h r x j
section Cw
variable {w n q z : Nat} {I J : ev_I} {s : Nat → Nat} {h : Nat} {r : Nat → Int32}
theorem CC_e (h1 : CC w I s h r) : I = C w I s h r := by
  funext x j
  by_cases c : w ≤ x ∧ x < w + 58
  · exact h1 x j c.1 c.2
  · rw [C_out (by omega)]
theorem C_loc {x j : Nat} (e : J x j = I x j) : C w J s h r x j = C w I s h r x j := by
  unfold C
  by_cases c : w ≤ x ∧ x < w + 58
  · rw [if_pos c, if_pos c]
    cases src (x - w) j with
    | some k => rfl
    | none => rw [e]
  · rw [if_neg c, if_neg c, e]
theorem CC_c (h1 : CC w I s h r) (e : ∀ x, w ≤ x → x < w + 58 → J x = I x) : CC w J s h r := fun x j hx hy => by
  rw [e x hx hy, h1 x j hx hy]
  exact (C_loc (by rw [e x hx hy])).symm
theorem CC_C : CC w (C w I s h r) s h r := fun x j hx hy => by
  have e : ∀ K : ev_I, C w K s h r x j = (match src (x - w) j with | some k => vl (x - w) j (s k) | none => if x = w + 11 ∧ j = 1 then nI h else if x = w + 12 ∧ j < 200 then r j else if x = w + 14 ∧ j = 0 then nI 60 else if x = w + 16 ∧ j = 0 then nI 100 else K x j) := fun K => by
    unfold C
    rw [if_pos ⟨hx, hy⟩]
    cases src (x - w) j with
    | some k => rfl
    | none => rfl
  rw [e (C w I s h r), e I]
  cases src (x - w) j with
  | some k => rfl
  | none =>
    show (if x = w + 11 ∧ j = 1 then nI h else if x = w + 12 ∧ j < 200 then r j else if x = w + 14 ∧ j = 0 then nI 60 else if x = w + 16 ∧ j = 0 then nI 100 else I x j) = (if x = w + 11 ∧ j = 1 then nI h else if x = w + 12 ∧ j < 200 then r j else if x = w + 14 ∧ j = 0 then nI 60 else if x = w + 16 ∧ j = 0 then nI 100 else (if x = w + 11 ∧ j = 1 then nI h else if x = w + 12 ∧ j < 200 then r j else if x = w + 14 ∧ j = 0 then nI 60 else if x = w + 16 ∧ j = 0 then nI 100 else I x j))
    by_cases c1 : x = w + 11 ∧ j = 1
    · simp only [if_pos c1]
    · by_cases c2 : x = w + 12 ∧ j < 200
      · simp only [if_neg c1, if_pos c2]
      · by_cases c3 : x = w + 14 ∧ j = 0
        · simp only [if_neg c1, if_neg c2, if_pos c3]
        · by_cases c4 : x = w + 16 ∧ j = 0
          · simp only [if_neg c1, if_neg c2, if_neg c3, if_pos c4]
          · simp only [if_neg c1, if_neg c2, if_neg c3, if_neg c4]
theorem PG_src {o j k : Nat} (ho : o < 58) (hs : src o j = some k) : PG o j := by
  unfold src at hs
  revert hs
  repeat' refine its (fun _ => ?_) (fun _ => ?_)
  all_goals (intro hs; cases hs; try first | exact pg0 (by omega) (by omega) | exact pg1 (by omega) (by omega) | exact pg2 (by omega) (by omega) | exact pg11 (by omega) (by omega) | exact pg13 (by omega) (by omega) | exact pg14 (by omega) (by omega) | exact pg15 (by omega) (by omega) | exact pg16 (by omega) (by omega) | exact pg17 (by omega) (by omega) | exact pg18 (by omega) (by omega) | exact pgm0 (by omega) (by omega) | exact pgm1 (by omega) (by omega) | exact pgm4 (by omega) (by omega))
/-- a copy of such a world is such a world -/
theorem cp_CC {a b : Nat} (hb : CC b I s h r) (hc : Cp a b PG I J) (h60 : I (a + 14) 0 = nI 60) (h100 : I (a + 16) 0 = nI 100) : CC a J s h r := fun x j hx hy => by
  obtain ⟨o, rfl⟩ : ∃ o, x = a + o := ⟨x - a, by omega⟩
  have ho : o < 58 := by omega
  have bb := hb (b + o) j (by omega) (by omega)
  unfold C at bb ⊢
  rw [if_pos ⟨by omega, by omega⟩] at bb ⊢
  rw [show b + o - b = o by omega] at bb
  rw [show a + o - a = o by omega]
  cases e : src o j with
  | some k =>
    rw [e] at bb
    rw [hc.1 o j ho (PG_src ho e)]
    exact bb
  | none =>
    rw [e] at bb
    show J (a + o) j = if a + o = a + 11 ∧ j = 1 then nI h else if a + o = a + 12 ∧ j < 200 then r j else if a + o = a + 14 ∧ j = 0 then nI 60 else if a + o = a + 16 ∧ j = 0 then nI 100 else J (a + o) j
    have bb : I (b + o) j = if b + o = b + 11 ∧ j = 1 then nI h else if b + o = b + 12 ∧ j < 200 then r j else if b + o = b + 14 ∧ j = 0 then nI 60 else if b + o = b + 16 ∧ j = 0 then nI 100 else I (b + o) j := bb
    by_cases c1 : o = 11 ∧ j = 1
    · rw [if_pos (by omega)] at bb ⊢
      rw [hc.1 o j ho (pg11 c1.1 (by omega))]
      exact bb
    · rw [if_neg (by omega)] at bb ⊢
      by_cases c2 : o = 12 ∧ j < 200
      · rw [if_pos (by omega)] at bb ⊢
        rw [hc.1 o j ho (pg12 c2.1 c2.2)]
        exact bb
      · rw [if_neg (by omega)] at bb ⊢
        by_cases c3 : o = 14 ∧ j = 0
        · rw [if_pos (by omega), hc.2.1 o j ho (pgn (by omega)), c3.1, c3.2]
          exact h60
        · rw [if_neg (by omega)]
          by_cases c4 : o = 16 ∧ j = 0
          · rw [if_pos (by omega), hc.2.1 o j ho (pgn (by omega)), c4.1, c4.2]
            exact h100
          · rw [if_neg (by omega)]
theorem CC_60 (h1 : CC w I s h r) : I (w + 14) 0 = nI 60 ∧ I (w + 16) 0 = nI 100 := by
  rw [CC_e h1]
  exact ⟨cg_lim1, cg_lim2⟩
/-- the reference: soon, without -/
theorem r_soon (hs : okS s) (hI : I q 0 = 0) (hn : 6200 ≤ n) : ∃ J, pX10_soon n q (M q I s) = some (sSo s 20 0 (sDN 400 s), M q J s) ∧ Sc q I J := by
  obtain ⟨J, t, e1, e2, e3⟩ := r_soonOf (n := n) (q := q) (I := Wt q I s 6010) hs (by omega)
  refine ⟨J, ?_, fun a j ha => ?_⟩
  · unfold pX10_soon
    rw [Mt hI, lt_b, r_think (by omega), bn_s, e1, bn_s, r_ends (s := s) (fun j hj => by rw [e2 _ _ (by omega) (by omega)]; exact Wt_g hj) (fun j hj => e3.2.2 j (Or.inr hj)) (by omega), bn_s]
  · rw [e2 a j (by omega) (by omega)]
    exact Wt_Sc a j ha
theorem r_without {k : Nat} (hs : okS s) (hk : k < s 0 + 4) (hI : I q 0 = 0) (hn : 6200 ≤ n) : ∃ J, pX10_without n q (nI k) (M q I s) = some (sSo (up s (2416 + 513 * k) 1) 20 0 (sDN 400 (up s (2416 + 513 * k) 1)), M q J s) ∧ Sc q I J := by
  have h0 := hs.2.2.1.1
  have hu : okS (up s (2416 + 513 * k) 1) := ok_nd hs (d := 0) (k := k) (by omega) (by omega)
  obtain ⟨J, t, e1, e2, e3⟩ := r_soonOf (n := n) (q := q) (I := Wt q I s 6010) hu (by omega)
  refine ⟨J, ?_, fun a j ha => ?_⟩
  · have z0 : (nI (2416 + 513 * k) + (0 : Int32)) = nI (2416 + 513 * k) := by rw [show (0 : Int32) = nI 0 from rfl, nI_add, Nat.add_zero]
    unfold pX10_without
    rw [Mt hI, lt_b, r_node, bn_s, if_b, if_pos (gd_n hk (by omega)), r_think (by omega), bn_s, r_nodeAt, bn_s, z0, ck_in (by omega) (by omega), nI_clamp (by omega), show (1 : Int32) = nI 1 from rfl, M_put, lt_b, e1, bn_s, r_ends (s := s) (fun j hj => by rw [e2 _ _ (by omega) (by omega)]; exact Wt_g hj) (fun j hj => (e3.2.2 j (Or.inr hj)).trans (up_o (by omega))) (by omega), bn_s]
  · rw [e2 a j (by omega) (by omega)]
    exact Wt_Sc a j ha
theorem r_withoutN {x : Int32} (hx : ¬ gd x (s 0 + 4) = true) (hI : I q 0 = 0) : pX10_without n q x (M q I s) = some (-1, M q I s) := by
  unfold pX10_without
  rw [Mt hI, lt_b, r_node, bn_s, if_b, if_neg hx]
/-- okS looks at the row itself alone -/
theorem okS_b {t : Nat → Nat} (hs : okS s) (e0 : ∀ j, j < 6007 → t j = s j) : okS t := by
  obtain ⟨hB, hC, hZ, hN, hM, hE⟩ := hs
  have h3 := hB.1
  have e3 := e0 3 (by omega)
  refine ⟨?_, ?_, ⟨by rw [e0 0 (by omega)]; exact hZ.1, by rw [e0 1 (by omega)]; exact hZ.2.1, by rw [e0 4 (by omega)]; exact hZ.2.2.1, by rw [e0 8 (by omega)]; exact hZ.2.2.2⟩, ?_, okM_c hM hZ.2.2.1 e3 (e0 4 (by omega)) (fun j h1 h2 => e0 j (by omega)), okE_c hE (e0 7 (by omega)) (fun j h1 h2 => e0 j (by omega))⟩
  · exact okB_c hB (fun j hj => e0 j (by omega))
  · exact okC_c hC h3 (fun j _ hj => e0 j (by omega))
  · intro k hk
    obtain ⟨⟨f1, f2, f3, f4, f5, f6, f7, f8, f9, f10, f11⟩, ⟨l1, l2, l3⟩, ⟨g1, g2, g3⟩⟩ := hN k hk
    refine ⟨⟨?_, ?_, ?_, ?_, ?_, ?_, ?_, ?_, ?_, fun b hb => ?_, fun v hv => ?_⟩, ⟨?_, fun i hi => ?_, fun i hi => ?_⟩, ⟨?_, fun j hj => ?_, fun i j hij hj => ?_⟩⟩
    · rw [e0 _ (by omega)]; exact f1
    · rw [e0 _ (by omega)]; exact f2
    · rw [e0 _ (by omega)]; exact f3
    · rw [e0 _ (by omega)]; exact f4
    · rw [e0 _ (by omega)]; exact f5
    · rw [e0 _ (by omega), e3]; exact f6
    · rw [e0 _ (by omega), e3]; exact f7
    · rw [e0 _ (by omega)]; exact f8
    · rw [e0 _ (by omega)]; exact f9
    · rw [e0 _ (by omega)]; exact f10 _ hb
    · rw [e0 _ (by omega)]; exact f11 v hv
    · rw [e0 _ (by omega), e3]; exact l1
    · rw [e0 (2416 + 513 * k + 8) (by omega)] at hi
      have := l2 i hi
      rw [e0 (2416 + 513 * k + 12 + i) (by omega), e3, e0 (516 + _) (by omega)]
      exact this
    · rw [e0 (2416 + 513 * k + 8) (by omega)] at hi
      have := l2 (i + 1) (by omega)
      rw [e0 (2416 + 513 * k + 12 + (i + 1)) (by omega), e0 (2416 + 513 * k + 12 + i) (by omega), e0 (116 + _) (by omega)]
      exact l3 i hi
    · rw [e0 _ (by omega), e3]; exact g1
    · rw [e0 (2416 + 513 * k + 10) (by omega)] at hj
      rw [e0 (2416 + 513 * k + 112 + j) (by omega), e3]
      exact g2 j hj
    · rw [e0 (2416 + 513 * k + 10) (by omega)] at hj
      rw [e0 (2416 + 513 * k + 112 + j) (by omega), e0 (2416 + 513 * k + 112 + i) (by omega)]
      exact g3 i j hij hj
theorem okX_b {t : Nat → Nat} (hs : okS s) (h1 : okX s) (e0 : ∀ j, j < 6007 → t j = s j) : okX t := okX_c h1 hs.2.2.2.2.2.1 (Nat.le_of_eq (e0 3 (by omega)).symm) (fun k hk b _ _ => e0 _ (by omega)) (e0 7 (by omega)) (fun j _ _ => e0 j (by omega))
theorem okR_b {t : Nat → Nat} (hs : okS s) (h1 : okR s h r) (e0 : ∀ j, j < 6007 → t j = s j) : okR t h r := okR_c h1 hs.2.2.1.2.2.1 (e0 0 (by omega)) (e0 4 (by omega)) (fun j _ _ => e0 j (by omega))
/-- the reference: an image is taken -/
def ImT (q : Nat) (I : ev_I) (s : Nat → Nat) (i : Nat) : ev_I := fun a j => if a = q + 10 ∧ j < i then nI (s j) else I a j
def ImP (q : Nat) (I : ev_I) (i : Nat) : ev_I := fun a j => if a = q + 10 ∧ 6010 ≤ j ∧ j < 6010 + i then I (q + 9) (j - 6010) else I a j
set_option maxRecDepth 100000 in
theorem r_im2 {x : Int32} (hx : ¬ x = 0) : ∀ (m i n : Nat), i + m = 120 → m < n → lX10_image_71 q n x (nI i) (M q (ImP q I i) s) = some (1, M q (ev_u2 (ImP q I 120) (q + 10) 6130 (I q 18)) s) := by
  intro m
  induction m with
  | zero =>
    intro i n hi hn
    obtain ⟨n, rfl⟩ : ∃ k, n = k + 1 := ⟨n - 1, by omega⟩
    have e : i = 120 := by omega
    subst e
    show cX10_image_71 q _ n _ _ _ = _
    unfold cX10_image_71
    rw [if_pos (show (120 : Int32) ≤ nI 120 by decide), if_neg hx, show (6130 : Int32).toNatClampNeg = 6130 from rfl, M_0, show ImP q I 120 q 18 = I q 18 by unfold ImP; rw [if_neg (by omega)], M_pd (by omega), lt_b]
  | succ m ih =>
    intro i n hi hn
    obtain ⟨n, rfl⟩ : ∃ k, n = k + 1 := ⟨n - 1, by omega⟩
    show cX10_image_71 q _ n _ _ _ = _
    unfold cX10_image_71 cX10_image_116
    rw [if_neg (show ¬ (120 : Int32) ≤ nI i from nI_ge (b := 120) (by omega) (by omega)), if_neg hx, ck_in (by omega) (by omega), show (6010 : Int32) = nI 6010 from rfl, nI_add, ck_in (by omega) (by omega), nI_clamp (by omega), nI_clamp (by omega), M_oth (show q + 9 ≠ q + 1 by omega), M_pd (by omega), lt_b, lt_b, nI_1]
    refine Eq.trans ?_ (ih (i + 1) n (by omega) (by omega))
    congr 2
    funext a j
    unfold ev_u2 ImP
    by_cases c : a = q + 10 ∧ j = 6010 + i
    · rw [if_pos c, if_neg (by omega), if_pos (by omega), c.2, show 6010 + i - 6010 = i by omega]
    · rw [if_neg c]
      by_cases c2 : a = q + 10 ∧ 6010 ≤ j ∧ j < 6010 + i
      · rw [if_pos c2, if_pos (by omega)]
      · rw [if_neg c2, if_neg (by omega)]
set_option maxRecDepth 100000 in
theorem r_im1 {x : Int32} (hx : ¬ x = 0) : ∀ (m i n : Nat), i + m = 6010 → m + 200 < n → lX10_image_25 q n x (nI i) (M q (ImT q I s i) s) = some (1, M q (ev_u2 (ImP q (ImT q I s 6010) 120) (q + 10) 6130 (I q 18)) s) := by
  intro m
  induction m with
  | zero =>
    intro i n hi hn
    obtain ⟨n, rfl⟩ : ∃ k, n = k + 1 := ⟨n - 1, by omega⟩
    have e : i = 6010 := by omega
    subst e
    show cX10_image_25 q _ n _ _ _ = _
    unfold cX10_image_25
    rw [if_pos (show (6010 : Int32) ≤ nI 6010 by decide)]
    have := r_im2 (q := q) (I := ImT q I s 6010) (s := s) hx 120 0 n (by omega) (by omega)
    rw [show ImP q (ImT q I s 6010) 0 = ImT q I s 6010 from funext (fun a => funext (fun j => if_neg (by omega))), show ImT q I s 6010 q 18 = I q 18 by unfold ImT; rw [if_neg (by omega)]] at this
    exact this
  | succ m ih =>
    intro i n hi hn
    obtain ⟨n, rfl⟩ : ∃ k, n = k + 1 := ⟨n - 1, by omega⟩
    show cX10_image_25 q _ n _ _ _ = _
    unfold cX10_image_25 cX10_image_63
    rw [if_neg (show ¬ (6010 : Int32) ≤ nI i from nI_ge (b := 6010) (by omega) (by omega)), if_neg hx, ck_in (by omega) (by omega), ck_in (by omega) (by omega), nI_clamp (by omega), M_get, M_pd (by omega), lt_b, lt_b, nI_1]
    refine Eq.trans ?_ (ih (i + 1) n (by omega) (by omega))
    congr 2
    funext a j
    unfold ev_u2 ImT
    by_cases c : a = q + 10 ∧ j = i
    · rw [if_pos c, if_pos (by omega), c.2]
    · rw [if_neg c]
      by_cases c2 : a = q + 10 ∧ j < i
      · rw [if_pos c2, if_pos (by omega)]
      · rw [if_neg c2, if_neg (by omega)]
theorem r_imgT {x : Int32} (hx : ¬ x = 0) (hI : I q 0 = 0) (hn : 6500 ≤ n) : ∃ J, pX10_image n q x (M q I s) = some (1, M q J s) ∧ (∀ a, a ≠ q → a ≠ q + 10 → J a = I a) ∧ (∀ f, f ≠ 20 → J q f = I q f) ∧ J q 20 = 1 ∧ (∀ j, j < 6010 → J (q + 10) j = nI (s j)) ∧ (∀ j, j < 120 → J (q + 10) (6010 + j) = I (q + 9) j) ∧ J (q + 10) 6130 = I q 18 := by
  have e := r_im1 (q := q) (I := ev_u2 I q 20 (1 : Int32)) (s := s) hx 6010 0 n (by omega) (by omega)
  rw [show ImT q (ev_u2 I q 20 (1 : Int32)) s 0 = ev_u2 I q 20 (1 : Int32) from funext (fun a => funext (fun j => if_neg (by omega)))] at e
  refine ⟨ev_u2 (ImP q (ImT q (ev_u2 I q 20 (1 : Int32)) s 6010) 120) (q + 10) 6130 (ev_u2 I q 20 (1 : Int32) q 18), ?_, fun a h1 h2 => ?_, fun f hf => ?_, ?_, fun j hj => ?_, fun j hj => ?_, ?_⟩
  · unfold pX10_image cX10_image_18
    rw [Mt hI, lt_b, if_neg hx, M_pt, lt_b]
    exact e
  · funext j
    simp only [ev_u2, ImP, ImT]
    rw [if_neg (by omega), if_neg (by omega), if_neg (by omega), if_neg (by omega)]
  · simp only [ev_u2, ImP, ImT]
    rw [if_neg (by omega), if_neg (by omega), if_neg (by omega), if_neg (by omega)]
  · simp only [ev_u2, ImP, ImT]
    rw [if_neg (by omega), if_neg (by omega), if_neg (by omega), if_pos ⟨trivial, trivial⟩]
  · simp only [ev_u2, ImP, ImT]
    rw [if_neg (by omega), if_neg (by omega), if_pos ⟨trivial, hj⟩]
  · simp only [ev_u2, ImP, ImT]
    rw [if_neg (by omega), if_pos ⟨trivial, by omega, by omega⟩, if_neg (by omega), if_neg (by omega), show 6010 + j - 6010 = j by omega]
  · simp only [ev_u2, ImP, ImT]
    rw [if_pos ⟨trivial, trivial⟩, if_neg (by omega)]
/-- the reference: an image comes back -/
def ImF (q : Nat) (I : ev_I) (i : Nat) : ev_I := fun a j => if a = q + 9 ∧ j < i then I (q + 10) (6010 + j) else I a j
set_option maxRecDepth 100000 in
theorem r_im4 : ∀ (m i n : Nat), i + m = 120 → m < n → lX10_image_71 q n 0 (nI i) (M q (ImF q I i) s) = some (1, M q (ev_u2 (ImF q I 120) q 18 (I (q + 10) 6130)) s) := by
  intro m
  induction m with
  | zero =>
    intro i n hi hn
    obtain ⟨n, rfl⟩ : ∃ k, n = k + 1 := ⟨n - 1, by omega⟩
    have e : i = 120 := by omega
    subst e
    show cX10_image_71 q _ n _ _ _ = _
    unfold cX10_image_71
    rw [if_pos (show (120 : Int32) ≤ nI 120 by decide), if_pos rfl, show (6130 : Int32).toNatClampNeg = 6130 from rfl, M_oth (show q + 10 ≠ q + 1 by omega), show ImF q I 120 (q + 10) 6130 = I (q + 10) 6130 by unfold ImF; rw [if_neg (by omega)], M_pt, lt_b]
  | succ m ih =>
    intro i n hi hn
    obtain ⟨n, rfl⟩ : ∃ k, n = k + 1 := ⟨n - 1, by omega⟩
    show cX10_image_71 q _ n _ _ _ = _
    unfold cX10_image_71 cX10_image_116
    rw [if_neg (show ¬ (120 : Int32) ≤ nI i from nI_ge (b := 120) (by omega) (by omega)), if_pos rfl, show (6010 : Int32) = nI 6010 from rfl, nI_add, ck_in (by omega) (by omega), ck_in (by omega) (by omega), nI_clamp (by omega), nI_clamp (by omega), M_oth (show q + 10 ≠ q + 1 by omega), M_pd (by omega), lt_b, lt_b, nI_1]
    refine Eq.trans ?_ (ih (i + 1) n (by omega) (by omega))
    congr 2
    funext a j
    unfold ev_u2 ImF
    by_cases c : a = q + 9 ∧ j = i
    · rw [if_pos c, if_neg (by omega), if_pos (by omega), c.2]
    · rw [if_neg c]
      by_cases c2 : a = q + 9 ∧ j < i
      · rw [if_pos c2, if_pos (by omega)]
      · rw [if_neg c2, if_neg (by omega)]
set_option maxRecDepth 100000 in
theorem r_im3 {t : Nat → Nat} (hJ : ∀ j, j < 6010 → I (q + 10) j = nI (t j)) : ∀ (m i n : Nat), i + m = 6010 → m + 200 < n → lX10_image_25 q n 0 (nI i) (M q I (fun j => if j < i then t j else s j)) = some (1, M q (ev_u2 (ImF q I 120) q 18 (I (q + 10) 6130)) (fun j => if j < 6010 then t j else s j)) := by
  intro m
  induction m with
  | zero =>
    intro i n hi hn
    obtain ⟨n, rfl⟩ : ∃ k, n = k + 1 := ⟨n - 1, by omega⟩
    have e : i = 6010 := by omega
    subst e
    show cX10_image_25 q _ n _ _ _ = _
    unfold cX10_image_25
    rw [if_pos (show (6010 : Int32) ≤ nI 6010 by decide)]
    have := r_im4 (q := q) (I := I) (s := fun j => if j < 6010 then t j else s j) 120 0 n (by omega) (by omega)
    rw [show ImF q I 0 = I from funext (fun a => funext (fun j => if_neg (by omega)))] at this
    exact this
  | succ m ih =>
    intro i n hi hn
    obtain ⟨n, rfl⟩ : ∃ k, n = k + 1 := ⟨n - 1, by omega⟩
    show cX10_image_25 q _ n _ _ _ = _
    unfold cX10_image_25 cX10_image_63
    rw [if_neg (show ¬ (6010 : Int32) ≤ nI i from nI_ge (b := 6010) (by omega) (by omega)), if_pos rfl, ck_in (by omega) (by omega), ck_in (by omega) (by omega), nI_clamp (by omega), M_oth (show q + 10 ≠ q + 1 by omega), hJ i (by omega), M_put, lt_b, lt_b, nI_1]
    refine Eq.trans ?_ (ih (i + 1) n (by omega) (by omega))
    congr 2
    funext j
    show (if j = i then t i else if j < i then t j else s j) = (if j < i + 1 then t j else s j)
    refine it0 (fun e => ?_) (fun e => it0 (fun e2 => ?_) (fun e2 => ?_))
    · rw [if_pos (by omega), e]
    · rw [if_pos (by omega)]
    · rw [if_neg (by omega)]
theorem r_imgF {t : Nat → Nat} (hJ : ∀ j, j < 6010 → I (q + 10) j = nI (t j)) (hI : I q 0 = 0) (h20 : ¬ I q 20 = 0) (hn : 6500 ≤ n) : ∃ J, pX10_image n q 0 (M q I s) = some (1, M q J (fun j => if j < 6010 then t j else s j)) ∧ (∀ a, a ≠ q → a ≠ q + 9 → J a = I a) ∧ (∀ f, f ≠ 20 → f ≠ 18 → J q f = I q f) ∧ J q 20 = 1 ∧ (∀ j, j < 120 → J (q + 9) j = I (q + 10) (6010 + j)) ∧ J q 18 = I (q + 10) 6130 := by
  have e := r_im3 (q := q) (I := ev_u2 I q 20 (1 : Int32)) (s := s) (t := t) (fun j hj => by unfold ev_u2; rw [if_neg (by omega)]; exact hJ j hj) 6010 0 n (by omega) (by omega)
  rw [show (fun j => if j < 0 then t j else s j) = s from funext (fun j => if_neg (by omega))] at e
  refine ⟨ev_u2 (ImF q (ev_u2 I q 20 (1 : Int32)) 120) q 18 (ev_u2 I q 20 (1 : Int32) (q + 10) 6130), ?_, fun a h1 h2 => ?_, fun f hf hf2 => ?_, ?_, fun j hj => ?_, ?_⟩
  · unfold pX10_image cX10_image_18
    rw [Mt hI, lt_b, if_pos rfl, M_0, if_neg h20, M_pt, lt_b]
    exact e
  · funext j
    simp only [ev_u2, ImF]
    rw [if_neg (by omega), if_neg (by omega), if_neg (by omega)]
  · simp only [ev_u2, ImF]
    rw [if_neg (by omega), if_neg (by omega), if_neg (by omega)]
  · simp only [ev_u2, ImF]
    rw [if_neg (by omega), if_neg (by omega), if_pos ⟨trivial, trivial⟩]
  · simp only [ev_u2, ImF]
    rw [if_neg (by omega), if_pos ⟨trivial, hj⟩, if_neg (by omega)]
  · simp only [ev_u2, ImF]
    rw [if_pos ⟨trivial, trivial⟩, if_neg (by omega)]
theorem r_img0 (hI : I q 0 = 0) (h20 : I q 20 = 0) : pX10_image n q 0 (M q I s) = some (0, M q I s) := by
  unfold pX10_image
  rw [Mt hI, lt_b, if_pos rfl, M_0, if_pos h20]
end Cw
