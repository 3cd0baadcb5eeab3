/-! THE TAPE: the class reads lines -/
def wofL : List Nat := [0, 0, 1, 2, 3, 4, 5, 6, 7, 8, 9, 5]
def wof (y : Nat) : Nat := wofL.getD y 0
def wsr (g : Nat → Bool) : Nat → Nat → Nat
  | 0, _ => 0
  | m + 1, y => if g (wof y) = true then y else wsr g m (y + 1)
theorem wof_b : ∀ y, y < 12 → wof y < 10 := by decide +kernel
theorem wsr_c {g g' : Nat → Bool} (h : ∀ k, k < 10 → g k = g' k) : ∀ (m y : Nat), y + m ≤ 12 → wsr g m y = wsr g' m y
  | 0, _, _ => rfl
  | m + 1, y, hy => by
    show (if g (wof y) = true then y else wsr g m (y + 1)) = (if g' (wof y) = true then y else wsr g' m (y + 1))
    rw [h _ (wof_b y (by omega)), wsr_c h m (y + 1) (by omega)]
theorem wsr_8 : ∀ w, w < 11 → wsr (fun k => decide (w < 10 ∧ k = tx w)) 8 1 = if bad w = true then 0 else tx w + 1 := by decide +kernel
theorem wsr_3 : ∀ w, w < 11 → wsr (fun k => decide (w < 10 ∧ k = tx w)) 3 9 = if w = 7 then 9 else if w = 8 then 10 else if w = 5 then 11 else 0 := by decide +kernel
theorem wof_p : ∀ y, y < 12 → 0 < y → pX7_wordOf 0 (nI y) (fun _ _ => 0) = some (wof y) := by decide +kernel
def okO (o : Nat) : Prop := (1 ≤ o ∧ o ≤ 7) ∨ (9 ≤ o ∧ o ≤ 11)
def okFn (o f : Nat) : Prop := ((o = 2 ∨ o = 3) → 1 ≤ f) ∧ (o = 7 → 1 ≤ f ∧ f ≤ 20)
def okLn (x : Nat × Nat × Nat × Nat) : Prop := okO x.1 ∧ x.2.1 < 1000 ∧ x.2.2.1 < 1000 ∧ x.2.2.2 < 1000 ∧ okFn x.1 x.2.1
def CLn (w p : Nat) (F : Nat → Nat × Nat × Nat × Nat) (I : ev_I) : Prop := I w 0 = nI p ∧ ∀ i, i < p → I (w + 1) i = nI (F i).1 ∧ I (w + 2) i = nI (F i).2.1 ∧ I (w + 3) i = nI (F i).2.2.1 ∧ I (w + 4) i = nI (F i).2.2.2
def FD (t : Nat) (I J : ev_I) : Prop := ∀ a j, ¬ (a = t ∧ 2 ≤ j ∧ j ≤ 7) → ¬ (a = t + 2 ∧ j = 0) → ¬ (t + 3 ≤ a ∧ a ≤ t + 6) → J a j = I a j
theorem FD_t {t : Nat} {I J K : ev_I} (h1 : FD t I J) (h2 : FD t J K) : FD t I K := fun a j g1 g2 g3 => (h2 a j g1 g2 g3).trans (h1 a j g1 g2 g3)
theorem FD_C {t : Nat} {I J : ev_I} (h : FC t I J) : FD t I J := fun a j g _ _ => h a j g
theorem CLn_F {t p : Nat} {F : Nat → Nat × Nat × Nat × Nat} {I J : ev_I} (h : CLn (t + 2) p F I) (f : FC t I J) : CLn (t + 2) p F J := by
  refine ⟨by rw [f (t + 2) 0 (by omega)]; exact h.1, fun i hi => ?_⟩
  rw [f (t + 2 + 1) i (by omega), f (t + 2 + 2) i (by omega), f (t + 2 + 3) i (by omega), f (t + 2 + 4) i (by omega)]
  exact h.2 i hi
section Cl
variable {n t L b p : Nat} {T : Nat → Nat} {I : ev_I} {F : Nat → Nat × Nat × Nat × Nat}
theorem c_add {w : Nat} {x : Nat × Nat × Nat × Nat} (h : CLn w p F I) (hp : p < 24) : ∃ J, pX5_add n w (nI x.1) (nI x.2.1) (nI x.2.2.1) (nI x.2.2.2) I = some J ∧ CLn w (p + 1) (fun i => if i = p then x else F i) J ∧ ∀ a j, ¬ (a = w ∧ j = 0) → ¬ (w + 1 ≤ a ∧ a ≤ w + 4) → J a j = I a j := by
  have e0 := h.1
  unfold pX5_add pX5_isFull
  rw [e0, if_pos (show nI p < (24 : Int32) from nI_lt (b := 24) hp (by omega)), bn_s, if_pos rfl, ck_in (by omega) (by omega), nI_clamp (by omega), lt_b]
  have e1 : ∀ v, ev_u2 I (w + 1) p v w 0 = nI p := fun v => (u2_o (by omega)).trans e0
  rw [e1, ck_in (by omega) (by omega), nI_clamp (by omega), lt_b]
  have e2 : ∀ v v', ev_u2 (ev_u2 I (w + 1) p v) (w + 2) p v' w 0 = nI p := fun v v' => (u2_o (by omega)).trans (e1 v)
  rw [e2, ck_in (by omega) (by omega), nI_clamp (by omega), lt_b]
  have e3 : ∀ v v' v'', ev_u2 (ev_u2 (ev_u2 I (w + 1) p v) (w + 2) p v') (w + 3) p v'' w 0 = nI p := fun v v' v'' => (u2_o (by omega)).trans (e2 v v')
  rw [e3, ck_in (by omega) (by omega), nI_clamp (by omega), lt_b]
  have e4 : ∀ v v' v'' u, ev_u2 (ev_u2 (ev_u2 (ev_u2 I (w + 1) p v) (w + 2) p v') (w + 3) p v'') (w + 4) p u w 0 = nI p := fun v v' v'' u => (u2_o (by omega)).trans (e3 v v' v'')
  rw [e4, lt_b, nI_1]
  refine ⟨_, rfl, ⟨u2_s, fun i hi => ?_⟩, fun a j g1 g2 => ?_⟩
  · by_cases c : i = p
    · rw [c]
      simp only [if_true]
      refine ⟨?_, ?_, ?_, ?_⟩
      · rw [u2_o (by omega), u2_o (by omega), u2_o (by omega), u2_o (by omega), u2_s]
      · rw [u2_o (by omega), u2_o (by omega), u2_o (by omega), u2_s]
      · rw [u2_o (by omega), u2_o (by omega), u2_s]
      · rw [u2_o (by omega), u2_s]
    · have g := h.2 i (by omega)
      simp only [c, if_false]
      refine ⟨?_, ?_, ?_, ?_⟩
      · rw [u2_o (by omega), u2_o (by omega), u2_o (by omega), u2_o (by omega), u2_o (by omega)]; exact g.1
      · rw [u2_o (by omega), u2_o (by omega), u2_o (by omega), u2_o (by omega), u2_o (by omega)]; exact g.2.1
      · rw [u2_o (by omega), u2_o (by omega), u2_o (by omega), u2_o (by omega), u2_o (by omega)]; exact g.2.2.1
      · rw [u2_o (by omega), u2_o (by omega), u2_o (by omega), u2_o (by omega), u2_o (by omega)]; exact g.2.2.2
  · rw [u2_o (by omega), u2_o (by omega), u2_o (by omega), u2_o (by omega), u2_o (by omega)]
theorem c_wa (hT : okT L T) (hI : AtC t L T b I) : ∀ (m y n : Nat), y + m ≤ 12 → 1 ≤ y → m + 200 < n → lX7_wordAmong_2 t n (nI (y + m - 1)) (nI y) I = some (nI (wsr (fun k => decide (kct L T b = 1) && weq T k (stt L T b) (ent L T b)) m y), I) := by
  have hL := hT.1
  have eb := ent_b (T := T) hI.1.2
  have kb := kct_b (L := L) (T := T) (b := b)
  intro m
  induction m with
  | zero =>
    intro y n hy h1 hn
    obtain ⟨n, rfl⟩ : ∃ k, n = k + 1 := ⟨n - 1, by omega⟩
    show cX7_wordAmong_2 t _ n _ _ _ = _
    unfold cX7_wordAmong_2
    rw [if_pos (nI_lt (by omega) (by omega))]
    rfl
  | succ m ih =>
    intro y n hy h1 hn
    obtain ⟨n, rfl⟩ : ∃ k, n = k + 1 := ⟨n - 1, by omega⟩
    have i0 := ih (y + 1) n (by omega) (by omega) (by omega)
    rw [show y + 1 + m - 1 = y + (m + 1) - 1 by omega] at i0
    show cX7_wordAmong_2 t _ n _ _ _ = _
    unfold cX7_wordAmong_2 cX7_wordAmong_28
    rw [if_neg (nI_nlt (by omega) (by omega)), hI.2.2.2.2.1]
    by_cases c : kct L T b = 1
    · rw [if_pos (show nI (kct L T b) = (1 : Int32) from congrArg nI c), show pX7_wordOf n (nI y) I = some (wof y) from wof_p y (by omega) (by omega), bn_s, c_isHere hT hI.1.1 (wof_b y (by omega)) hI.2.2.1 hI.2.2.2.1 eb.1 eb.2 (by omega), bn_s, if_b]
      by_cases d : weq T (wof y) (stt L T b) (ent L T b) = true
      · rw [if_pos d]
        congr 2
        congr 1
        exact (if_pos (by simp [c, d])).symm
      · rw [if_neg d, lt_b, nI_1, i0]
        congr 2
        congr 1
        exact (if_neg (by simp [c, d])).symm
    · rw [if_neg (show ¬ nI (kct L T b) = (1 : Int32) from fun q => c ((nI_eq (b := 1) (by omega) (by omega)).mp q)), lt_b, nI_1, i0]
      congr 2
      congr 1
      exact (if_neg (by simp [c])).symm
theorem wix_g {k : Nat} (hk : k < 10) : (decide (kct L T b = 1) && weq T k (stt L T b) (ent L T b)) = decide (wix L T b < 10 ∧ k = tx (wix L T b)) := by
  unfold wix
  by_cases c : kct L T b = 1
  · rw [if_pos c, decide_eq_true c, Bool.true_and]
    rcases wv_s (T := T) (a := stt L T b) (e := ent L T b) with d | d
    · rw [d.2 k hk, d.1]
      rfl
    · rw [d.2 k hk]
      simp [d.1]
  · rw [if_neg c, decide_eq_false c]
    rfl
theorem c_wa1 (hT : okT L T) (hI : AtC t L T b I) (hn : 1000 ≤ n) : pX7_wordAmong n t 1 8 I = some (nI (if bad (wix L T b) = true then 0 else tx (wix L T b) + 1), I) := by
  have h := c_wa hT hI 8 1 n (by omega) (by omega) (by omega)
  rw [wsr_c (g' := fun k => decide (wix L T b < 10 ∧ k = tx (wix L T b))) (fun k hk => wix_g hk) 8 1 (by omega), wsr_8 _ (by have := wix_b (L := L) (T := T) (b := b); omega)] at h
  exact h
theorem c_wa9 (hT : okT L T) (hI : AtC t L T b I) (hn : 1000 ≤ n) : pX7_wordAmong n t 9 11 I = some (nI (if wix L T b = 7 then 9 else if wix L T b = 8 then 10 else if wix L T b = 5 then 11 else 0), I) := by
  have h := c_wa hT hI 3 9 n (by omega) (by omega) (by omega)
  rw [wsr_c (g' := fun k => decide (wix L T b < 10 ∧ k = tx (wix L T b))) (fun k hk => wix_g hk) 3 9 (by omega), wsr_3 _ (by have := wix_b (L := L) (T := T) (b := b); omega)] at h
  exact h
theorem c_n1 (hT : okT L T) (hI : AtC t L T b I) (hn : 1000 ≤ n) {w : Nat} (hw : w ≤ 10) (hb : ¬ bad w = true) : RsN t L T I (n1 L T w b) (pX7_readNumber n t (nI (tx w + 1)) 0 I) := by
  obtain ⟨l1, l2, l3, l4, l5, l6, l7, l8⟩ := t_ln
  obtain ⟨c1, c2, c3, c4, c5, c6, c7, c8, c9, c10⟩ := t_ch
  have hb' : w ≠ 7 ∧ w ≠ 8 ∧ w ≠ 10 := by
    simp [bad] at hb
    omega
  obtain rfl | rfl | rfl | rfl | rfl | rfl | rfl | rfl : w = 0 ∨ w = 1 ∨ w = 2 ∨ w = 3 ∨ w = 4 ∨ w = 5 ∨ w = 6 ∨ w = 9 := by omega
  · exact c_num (z := 11) (x := 0) hT hI hn rfl (by omega) (by omega) (by omega) (by rw [c1]; rfl) (by rw [c1]; rfl) (by decide) (by decide)
  · exact c_num (z := 12) (x := 0) hT hI hn rfl (by omega) (by omega) (by omega) (by rw [c3]; rfl) (by rw [c3]; rfl) (by decide) (by decide)
  · exact c_num (z := 12) (x := 0) hT hI hn rfl (by omega) (by omega) (by omega) (by rw [c3]; rfl) (by rw [c3]; rfl) (by decide) (by decide)
  · exact c_num (z := 13) (x := 0) hT hI hn rfl (by omega) (by omega) (by omega) (by rw [c4]; rfl) (by rw [c4]; rfl) (by decide) (by decide)
  · exact c_num (z := 14) (x := 0) hT hI hn rfl (by omega) (by omega) (by omega) (by rw [c5]; rfl) (by rw [c5]; rfl) (by decide) (by decide)
  · exact c_num (z := 13) (x := 0) hT hI hn rfl (by omega) (by omega) (by omega) (by rw [c4]; rfl) (by rw [c4]; rfl) (by decide) (by decide)
  · exact c_num (z := 13) (x := 0) hT hI hn rfl (by omega) (by omega) (by omega) (by rw [c4]; rfl) (by rw [c4]; rfl) (by decide) (by decide)
  · exact c_num (z := 15) (x := 0) hT hI hn rfl (by omega) (by omega) (by omega) (by rw [c6]; rfl) (by rw [c6]; rfl) (by decide) (by decide)
theorem c_n2 (hT : okT L T) (hI : AtC t L T b I) (hn : 1000 ≤ n) {o : Nat} (ho : okO o) : RsN t L T I (n2 L T o b) (pX7_readNumber n t (nI o) 1 I) := by
  obtain ⟨l1, l2, l3, l4, l5, l6, l7, l8⟩ := t_ln
  obtain ⟨c1, c2, c3, c4, c5, c6, c7, c8, c9, c10⟩ := t_ch
  unfold okO at ho
  obtain rfl | rfl | rfl | rfl | rfl | rfl | rfl | rfl | rfl | rfl : o = 1 ∨ o = 2 ∨ o = 3 ∨ o = 4 ∨ o = 5 ∨ o = 6 ∨ o = 7 ∨ o = 9 ∨ o = 10 ∨ o = 11 := by omega
  · exact c_num (z := 11) (x := 1) (lo := 0) (hi := 999) hT hI hn rfl (by omega) (by omega) (by omega) (by rw [c2]; rfl) (by rw [c2]; rfl) (by decide) (by decide)
  · exact c_numE (z := 12) (x := 1) hI rfl (by omega) (by omega) (by omega)
  · exact c_numE (z := 12) (x := 1) hI rfl (by omega) (by omega) (by omega)
  · exact c_numE (z := 13) (x := 1) hI rfl (by omega) (by omega) (by omega)
  · exact c_numE (z := 14) (x := 1) hI rfl (by omega) (by omega) (by omega)
  · exact c_numE (z := 13) (x := 1) hI rfl (by omega) (by omega) (by omega)
  · exact c_numE (z := 15) (x := 1) hI rfl (by omega) (by omega) (by omega)
  · exact c_num (z := 16) (x := 1) (lo := 0) (hi := 99) hT hI hn rfl (by omega) (by omega) (by omega) (by rw [c7]; rfl) (by rw [c7]; rfl) (by decide) (by decide)
  · exact c_num (z := 17) (x := 1) (lo := 0) (hi := 99) hT hI hn rfl (by omega) (by omega) (by omega) (by rw [c8]; rfl) (by rw [c8]; rfl) (by decide) (by decide)
  · exact c_num (z := 18) (x := 1) (lo := 1) (hi := 200) hT hI hn rfl (by omega) (by omega) (by omega) (by rw [c10]; rfl) (by rw [c10]; rfl) (by decide) (by decide)
theorem c_n3 (hT : okT L T) (hI : AtC t L T b I) (hn : 1000 ≤ n) {o : Nat} (ho : okO o) : RsN t L T I (n3 L T o b) (pX7_readNumber n t (nI o) 2 I) := by
  obtain ⟨l1, l2, l3, l4, l5, l6, l7, l8⟩ := t_ln
  obtain ⟨c1, c2, c3, c4, c5, c6, c7, c8, c9, c10⟩ := t_ch
  unfold okO at ho
  obtain rfl | rfl | rfl | rfl | rfl | rfl | rfl | rfl | rfl | rfl : o = 1 ∨ o = 2 ∨ o = 3 ∨ o = 4 ∨ o = 5 ∨ o = 6 ∨ o = 7 ∨ o = 9 ∨ o = 10 ∨ o = 11 := by omega
  · exact c_numE (z := 11) (x := 2) hI rfl (by omega) (by omega) (by omega)
  · exact c_numE (z := 12) (x := 2) hI rfl (by omega) (by omega) (by omega)
  · exact c_numE (z := 12) (x := 2) hI rfl (by omega) (by omega) (by omega)
  · exact c_numE (z := 13) (x := 2) hI rfl (by omega) (by omega) (by omega)
  · exact c_numE (z := 14) (x := 2) hI rfl (by omega) (by omega) (by omega)
  · exact c_numE (z := 13) (x := 2) hI rfl (by omega) (by omega) (by omega)
  · exact c_numE (z := 15) (x := 2) hI rfl (by omega) (by omega) (by omega)
  · exact c_numE (z := 16) (x := 2) hI rfl (by omega) (by omega) (by omega)
  · exact c_num (z := 17) (x := 2) (lo := 1) (hi := 200) hT hI hn rfl (by omega) (by omega) (by omega) (by rw [c9]; rfl) (by rw [c9]; rfl) (by decide) (by decide)
  · exact c_numE (z := 18) (x := 2) hI rfl (by omega) (by omega) (by omega)
theorem c_sem (hT : okT L T) (hI : AtC t L T b I) (hn : 1000 ≤ n) : (∃ e J, sem L T b = .inl e ∧ pX7_readSemicolon n t I = some J ∧ FaC t e J ∧ FC t I J) ∨ (∃ c J, sem L T b = .inr c ∧ pX7_readSemicolon n t I = some J ∧ AtC t L T c J ∧ FC t I J) := by
  have kb := kct_b (L := L) (T := T) (b := b)
  unfold sem pX7_readSemicolon
  rw [if_pos (show I t 2 = 0 from hI.2.1), hI.2.2.2.2.1]
  by_cases c : kct L T b = 3
  · rw [if_pos c, if_pos (show nI (kct L T b) = (3 : Int32) from congrArg nI c)]
    obtain ⟨J, e1, e2, e3⟩ := c_step' hT hI hn
    exact Or.inr ⟨_, J, rfl, by rw [e1]; rfl, e2, e3⟩
  · rw [if_neg c, if_neg (show ¬ nI (kct L T b) = (3 : Int32) from fun q => c ((nI_eq (b := 3) (by omega) (by omega)).mp q))]
    obtain ⟨J, e1, e2, e3⟩ := c_fail (n := n) (x := 1) (by omega) hT hI
    exact Or.inl ⟨_, J, rfl, by rw [show (1 : Int32) = nI 1 from rfl, e1]; rfl, e2, e3⟩
theorem AtC_F {I J : ev_I} (h : AtC t L T b I) (f : ∀ a j, a = t ∨ a = t + 1 → J a j = I a j) : AtC t L T b J := ⟨⟨⟨by rw [f t 1 (Or.inl rfl)]; exact h.1.1.1, fun j hj => by rw [f (t + 1) j (Or.inr rfl)]; exact h.1.1.2 j hj⟩, h.1.2⟩, by rw [f t 2 (Or.inl rfl)]; exact h.2.1, by rw [f t 5 (Or.inl rfl)]; exact h.2.2.1, by rw [f t 6 (Or.inl rfl)]; exact h.2.2.2.1, by rw [f t 7 (Or.inl rfl)]; exact h.2.2.2.2.1, by rw [f t 3 (Or.inl rfl)]; exact h.2.2.2.2.2⟩
theorem c_63 (hT : okT L T) (hI : AtC t L T b I) (hn : 1000 ≤ n) {o f : Nat} (ho : okO o) (hf : f < 1000) (hF : okFn o f) (hC : CLn (t + 2) p F I) (hp : p < 24) : (∃ e J, rst L T o b = .inl e ∧ cX7_readLine_63 t n (nI o) (nI f) I = some J ∧ FaC t e J ∧ FD t I J) ∨ (∃ s d c J, rst L T o b = .inr (s, d, c) ∧ okLn (o, f, s, d) ∧ cX7_readLine_63 t n (nI o) (nI f) I = some J ∧ AtC t L T c J ∧ CLn (t + 2) (p + 1) (fun i => if i = p then (o, f, s, d) else F i) J ∧ FD t I J) := by
  unfold cX7_readLine_63 rst
  rcases c_n2 hT hI hn ho with ⟨e, J, r1, r2, r3, r4⟩ | ⟨s, b2, J, r1, rb, r2, r3, r4⟩
  · rw [r1, r2, bn_s]
    refine Or.inl ⟨e, J, rfl, ?_, r3, FD_C r4⟩
    rw [c_numF r3, bn_s, c_semF r3, bn_s, if_neg (FaC_0 r3)]
  · rw [r1, r2, bn_s]
    simp only [bd]
    rcases c_n3 hT r3 hn ho with ⟨e, K, q1, q2, q3, q4⟩ | ⟨d, b3, K, q1, qb, q2, q3, q4⟩
    · rw [q1, q2, bn_s]
      refine Or.inl ⟨e, K, rfl, ?_, q3, FD_C (FC_t r4 q4)⟩
      rw [c_semF q3, bn_s, if_neg (FaC_0 q3)]
    · rw [q1, q2, bn_s]
      simp only []
      rcases c_sem hT q3 hn with ⟨e, Z, z1, z2, z3, z4⟩ | ⟨c, Z, z1, z2, z3, z4⟩
      · rw [z1, z2, bn_s]
        refine Or.inl ⟨e, Z, rfl, ?_, z3, FD_C (FC_t r4 (FC_t q4 z4))⟩
        rw [if_neg (FaC_0 z3)]
      · rw [z1, z2, bn_s, if_pos (show Z t 2 = 0 from z3.2.1)]
        obtain ⟨Y, y1, y2, y3⟩ := c_add (n := n) (x := (o, f, s, d)) (CLn_F hC (FC_t r4 (FC_t q4 z4))) hp
        refine Or.inr ⟨s, d, c, Y, rfl, ⟨ho, hf, rb, qb, hF⟩, ?_, AtC_F z3 (fun a j g => y3 a j (by omega) (by omega)), y2, FD_t (FD_C (FC_t r4 (FC_t q4 z4))) (fun a j g1 g2 g3 => y3 a j (by omega) (by omega))⟩
        show (pX5_add n (t + 2) (nI o) (nI f) (nI s) (nI d) Z).bind _ = _
        rw [show pX5_add n (t + 2) (nI o) (nI f) (nI s) (nI d) Z = some Y from y1]
        rfl
end Cl
