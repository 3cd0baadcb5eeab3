/-! PAIRS OF CALLS: cut, ask, storm, lie -/
def bset (a j : Nat) (on : Bool) : Nat := if on = true then a ||| 2 ^ j else a - a / 2 ^ j % 2 * 2 ^ j
theorem bset_b {a j : Nat} {on : Bool} (ha : a < 128) (hj : j < 7) : bset a j on < 128 := by
  unfold bset
  split
  · exact or_b a ha j hj
  · omega
def sCut (s : Nat → Nat) (a b : Nat) (on : Bool) : Nat → Nat := up (up s (2416 + 513 * a + 11) (bset (s (2416 + 513 * a + 11)) b on)) (2416 + 513 * b + 11) (bset (up s (2416 + 513 * a + 11) (bset (s (2416 + 513 * a + 11)) b on) (2416 + 513 * b + 11)) a on)
def z01 (x : Int32) : Bool := !decide (x = 0)
section F2
variable {n q w z : Nat} {I : ev_I} {s : Nat → Nat} {h : Nat} {r : Nat → Int32}
theorem r_cuts {a b : Nat} {x : Int32} (ha : a < 7) (hb : b < 7) (hc : s (2416 + 513 * a + 11) < 128) : pX10_cuts n q (nI a) (nI b) x (M q I s) = some (M q I (up s (2416 + 513 * a + 11) (bset (s (2416 + 513 * a + 11)) b (z01 x)))) := by
  have h1 := an_n _ hc b hb
  have h2 := or_n _ hc b hb
  by_cases c : x = 0
  · have hv : bset (s (2416 + 513 * a + 11)) b (z01 x) = s (2416 + 513 * a + 11) - s (2416 + 513 * a + 11) / 2 ^ b % 2 * 2 ^ b := by unfold bset z01; simp [c]
    rw [hv]
    unfold pX10_cuts cX10_cuts_47
    rw [r_nodeAt, bn_s, lt_b, if_pos c]
    simp (disch := omega) only [li, nI_add, ck_in, nI_clamp, M_get, lt_b, h1, M_put]
  · have hv : bset (s (2416 + 513 * a + 11)) b (z01 x) = s (2416 + 513 * a + 11) ||| 2 ^ b := by unfold bset z01; simp [c]
    rw [hv]
    unfold pX10_cuts cX10_cuts_47
    rw [r_nodeAt, bn_s, lt_b, if_neg c]
    simp (disch := omega) only [li, nI_add, ck_in, nI_clamp, M_get, lt_b, h2, M_put]
theorem c_setCut {a b : Nat} {x : Int32} (ha : a < 7) (hb : b < 7) (hc : s (2416 + 513 * a + 11) < 128) (hd : s (2416 + 513 * b + 11) < 128) : pX4_setCut n (w + 11) (nI a) (nI b) x (C w I s h r) = some (C w I (sCut s a b (z01 x)) h r) := by
  have h1 := an_n _ hc b hb
  have h2 := or_n _ hc b hb
  have hu : ∀ v, v < 128 → up s (2416 + 513 * a + 11) v (2416 + 513 * b + 11) < 128 := fun v hv => by
    unfold up
    split <;> omega
  unfold pX4_setCut cX4_setCut_34 cX4_setCut_69 sCut
  by_cases c : x = 0
  · have hv : bset (s (2416 + 513 * a + 11)) b (z01 x) = s (2416 + 513 * a + 11) - s (2416 + 513 * a + 11) / 2 ^ b % 2 * 2 ^ b := by unfold bset z01; simp [c]
    have h3 := an_n _ (hu _ (show s (2416 + 513 * a + 11) - s (2416 + 513 * a + 11) / 2 ^ b % 2 * 2 ^ b < 128 by omega)) a ha
    rw [hv, if_pos c]
    simp (disch := omega) only [li, ck_in, nI_clamp, cg_cuts, h1, cp_cuts, lt_b, h3]
    rw [if_pos (show x = nI 0 from c)]
    unfold bset z01
    simp [c]
  · have hv : bset (s (2416 + 513 * a + 11)) b (z01 x) = s (2416 + 513 * a + 11) ||| 2 ^ b := by unfold bset z01; simp [c]
    have h3 := or_n _ (hu _ (or_b _ hc b hb)) a ha
    rw [hv, if_neg c]
    simp (disch := omega) only [li, ck_in, nI_clamp, cg_cuts, h2, cp_cuts, lt_b, h3]
    rw [if_neg (show ¬ x = nI 0 from c)]
    unfold bset z01
    simp [c]
theorem pa_cut (hs : okS s) (hr : okR s h r) {x y v : Int32} : PAt (fun z => pX9_cut n z x y v) (fun q => pX10_cut n q x y v) s h r := by
  have h0 := hs.2.2.1.1
  have eX : ∀ (I : ev_I) z, pX9_cut n z x y v (C (z + 1) I s h r) = if gd x (s 0 + 4) = true ∧ gd y (s 0 + 4) = true ∧ ¬ x = y then (pX4_setCut n (z + 1 + 11) x y v (C (z + 1) I s h r)).bind fun z6 => some (1, z6) else some (0, C (z + 1) I s h r) := by
    intro I z
    unfold pX9_cut
    rw [c_node, bn_s, if_b, c_node, bn_s, if_b]
    by_cases a : gd x (s 0 + 4) = true
    · by_cases b : gd y (s 0 + 4) = true
      · by_cases c : x = y
        · simp [c]
        · simp [a, b, c]
      · simp [a, b]
    · simp [a]
  have eM : ∀ (I : ev_I) q, I q 0 = 0 → pX10_cut n q x y v (M q I s) = if gd x (s 0 + 4) = true ∧ gd y (s 0 + 4) = true ∧ ¬ x = y then (pX10_cuts n q x y v (M q I s)).bind fun z7 => (pX10_cuts n q y x v z7).bind fun z8 => some (1, z8) else some (0, M q I s) := by
    intro I q hI
    unfold pX10_cut
    rw [Mt hI, lt_b, r_node, bn_s, if_b, r_node, bn_s, if_b]
    by_cases a : gd x (s 0 + 4) = true
    · by_cases b : gd y (s 0 + 4) = true
      · by_cases c : x = y
        · simp [c]
        · simp [a, b, c]
      · simp [a, b]
    · simp [a]
  by_cases c : gd x (s 0 + 4) = true ∧ gd y (s 0 + 4) = true ∧ ¬ x = y
  · obtain ⟨a, ha, rfl⟩ := gd_e c.1 (by omega)
    obtain ⟨b, hb, rfl⟩ := gd_e c.2.1 (by omega)
    have fa := (hs.2.2.2.1 a (by omega)).1.2.2.2.2.2.2.2.2.1
    have fb := (hs.2.2.2.1 b (by omega)).1.2.2.2.2.2.2.2.2.1
    have u1 : okS (up s (2416 + 513 * a + 11) (bset (s (2416 + 513 * a + 11)) b (z01 v))) := ok_nd hs (d := 11) (k := a) (by omega) (by have := bset_b (on := z01 v) fa (show b < 7 by omega); omega)
    have f2 := (u1.2.2.2.1 b (by omega)).1.2.2.2.2.2.2.2.2.1
    have u2 : okS (sCut s a b (z01 v)) := ok_nd u1 (d := 11) (k := b) (by omega) (by have := bset_b (on := z01 v) f2 (show a < 7 by omega); omega)
    refine PA_1 (ans := 1) (s' := sCut s a b (z01 v)) u2 (fun x => okX_nd u1 (okX_nd hs x (by omega) (by omega)) (by omega) (by omega)) (okR_up (okR_up hr hs.2.2.1.2.2.1 (by omega) (by omega)) u1.2.2.1.2.2.1 (by omega) (by omega)) (by unfold sCut; rw [up_o (by omega), up_o (by omega)]) (fun I z => ?_) (fun I q hI => ?_)
    · refine (eX I z).trans ?_
      rw [if_pos c, c_setCut (by omega) (by omega) fa fb]
      rfl
    · refine (eM I q hI).trans ?_
      rw [if_pos c, r_cuts (by omega) (by omega) fa, bn_s, r_cuts (by omega) (by omega) f2]
      rfl
  · exact PA_0 (ans := 0) hs hr (fun I z => (eX I z).trans (if_neg c)) (fun I q hI => ⟨I, (eM I q hI).trans (if_neg c), Sc_r⟩)
/-- ask -/
def mxn (a b : Nat) : Nat := if a ≤ b then b else a
def sAsk (s : Nat → Nat) (k c p : Nat) : Nat → Nat := up (up (sLearn s k c) (2416 + 513 * k + 7) p) (2416 + 513 * k + 1) (mxn (sLearn s k c (2416 + 513 * k + 1) + 1) (mxn (p + 1) (sLearn s k c (16 + sLearn s k c (2416 + 513 * k + 5)) + 1)) - 1)
theorem mxn_b {a b N : Nat} (h1 : a ≤ N) (h2 : b ≤ N) : mxn a b ≤ N := by unfold mxn; split <;> omega
theorem mxn_1 {a b : Nat} : mxn (a + 1) (b + 1) = mxn a b + 1 := by unfold mxn; split <;> split <;> omega
theorem pa_ask (hs : okS s) (hr : okR s h r) {x y : Int32} (hn : 400 ≤ n) : PAt (fun z => pX9_ask n z x y) (fun q => pX10_ask n q x y) s h r := by
  have h0 := hs.2.2.1.1
  by_cases c : gd x (s 0 + 4) = true ∧ gd y (s 0 + 4) = true
  · obtain ⟨a, ha, rfl⟩ := gd_e c.1 (by omega)
    obtain ⟨b, hb, rfl⟩ := gd_e c.2 (by omega)
    have ma := (hs.2.2.2.1 a (by omega)).1.1
    have mb := (hs.2.2.2.1 b (by omega)).1.1
    by_cases d : a = b ∨ s (2416 + 513 * a) = 1 ∨ s (2416 + 513 * b) = 1
    · refine PA_0 (ans := 0) hs hr (fun I z => ?_) (fun I q hI => ⟨I, ?_, Sc_r⟩)
      · show pX9_ask n z _ _ _ = _
        unfold pX9_ask
        rw [c_isAwake ha h0 ma, bn_s, c_isAwake hb h0 mb, bn_s]
        by_cases d1 : s (2416 + 513 * a) = 1
        · rw [if_pos d1, if_pos (by decide)]
        · rw [if_neg d1, if_neg (by decide)]
          by_cases d2 : s (2416 + 513 * b) = 1
          · rw [if_pos d2, if_pos (by decide)]
          · rw [if_neg d2, if_neg (by decide), if_pos (congrArg nI (by omega))]
      · show pX10_ask n q _ _ _ = _
        unfold pX10_ask
        rw [Mt hI, lt_b, r_node, bn_s, if_b, if_pos c.1, r_node, bn_s, if_b, if_pos c.2, r_isSilent (by omega) (by omega), bn_s, r_isSilent (by omega) (by omega), bn_s]
        by_cases d0 : a = b
        · rw [if_pos (congrArg nI d0)]
        · rw [if_neg (fun q => d0 ((nI_eq (by omega) (by omega)).mp q))]
          by_cases d1 : s (2416 + 513 * a) = 1
          · rw [if_pos d1, if_neg (by decide)]
          · rw [if_neg d1, if_pos (by decide), if_pos (show s (2416 + 513 * b) = 1 by omega), if_neg (by decide)]
    · have d0 : a ≠ b := fun q => d (Or.inl q)
      have d1 : ¬ s (2416 + 513 * a) = 1 := fun q => d (Or.inr (Or.inl q))
      have d2 : ¬ s (2416 + 513 * b) = 1 := fun q => d (Or.inr (Or.inr q))
      have a7 : a < 7 := by omega
      have b7 : b < 7 := by omega
      have f5 := (hs.2.2.2.1 b b7).1.2.2.2.2.2.1
      have l1 := ok_learn hs a7 f5
      have p1 := (l1.2.2.2.1 a a7).1.2.2.2.2.2.2.2.1
      have p2 := (l1.2.2.2.1 b b7).1.2.2.2.2.2.2.2.1
      have v1 := (l1.2.2.2.1 a a7).1.2.1
      have g5 := (l1.2.2.2.1 a a7).1.2.2.2.2.2.1
      have gv := l1.view g5
      have l3 := l1.b3
      have o1 := Mo_learn hs (k := a) (c := s (2416 + 513 * b + 5)) a7 f5
      generalize ht : sLearn s a (s (2416 + 513 * b + 5)) = t at *
      have hp : mxn (t (2416 + 513 * a + 7)) (t (2416 + 513 * b + 7)) ≤ 200 := by unfold mxn; split <;> omega
      have u1 : okS (up t (2416 + 513 * a + 7) (mxn (t (2416 + 513 * a + 7)) (t (2416 + 513 * b + 7)))) := ok_nd l1 (d := 7) a7 (by omega)
      have hv : mxn (t (2416 + 513 * a + 1) + 1) (mxn (mxn (t (2416 + 513 * a + 7)) (t (2416 + 513 * b + 7)) + 1) (t (16 + t (2416 + 513 * a + 5)) + 1)) ≤ 201 := by
        exact mxn_b (by omega) (mxn_b (by omega) (by omega))
      have hv1 : 1 ≤ mxn (t (2416 + 513 * a + 1) + 1) (mxn (mxn (t (2416 + 513 * a + 7)) (t (2416 + 513 * b + 7)) + 1) (t (16 + t (2416 + 513 * a + 5)) + 1)) := by
        rw [mxn_1, mxn_1]; omega
      have hrT : okR t h r := by rw [← ht]; exact okR_learn hs a7 f5 hr
      refine PA_1 (ans := 1) (s' := up (up t (2416 + 513 * a + 7) (mxn (t (2416 + 513 * a + 7)) (t (2416 + 513 * b + 7)))) (2416 + 513 * a + 1) (mxn (t (2416 + 513 * a + 1) + 1) (mxn (mxn (t (2416 + 513 * a + 7)) (t (2416 + 513 * b + 7)) + 1) (t (16 + t (2416 + 513 * a + 5)) + 1)) - 1)) (ok_nd u1 (d := 1) a7 (by omega)) (fun x => okX_nd u1 (okX_nd l1 (by rw [← ht]; exact okX_learn hs x a7 f5) a7 (by omega)) a7 (by omega)) (okR_up (okR_up hrT l1.2.2.1.2.2.1 (by omega) (by omega)) u1.2.2.1.2.2.1 (by omega) (by omega)) (by rw [up_o (by omega), up_o (by omega)]; exact o1.2.2 9 (by omega)) (fun I z => ?_) (fun I q hI => ?_)
      · show pX9_ask n z _ _ _ = _
        unfold pX9_ask pX8_askAnother
        rw [c_isAwake ha h0 ma, bn_s, c_isAwake hb h0 mb, bn_s, if_neg d1, if_neg (by decide), if_neg d2, if_neg (by decide), if_neg (fun q => d0 ((nI_eq (by omega) (by omega)).mp q))]
        have eL := c_learn (n := n) (w := z + 1) (I := I) (h := h) (r := r) hs a7 f5 (by omega)
        rw [ht] at eL
        have e1 : ∀ x y : Nat, x < 1000 → y < 1000 → (if nI x < nI y then nI y else nI x) = nI (mxn x y) := fun x y hx hy => by
          simp (disch := omega) only [nI_ltI]
          unfold mxn
          by_cases q : x < y
          · rw [if_pos q, if_pos (by omega)]
          · rw [if_neg q]
            by_cases q2 : x = y
            · rw [if_pos (by omega), q2]
            · rw [if_neg (by omega)]
        have hq := mxn_b (N := 200) hp gv
        simp (disch := omega) only [ck_in, nI_clamp, cg_high, eL, bn_s, cg_proof, e1, cp_proof, lt_b, up_o, cg_mview, cg_view, up_s, li, nI_add]
        rw [cp_mview a7 (by rw [mxn_1]; omega)]
        simp only [mxn_1]
      · show pX10_ask n q _ _ _ = _
        unfold pX10_ask
        rw [Mt hI, lt_b, r_node, bn_s, if_b, if_pos c.1, r_node, bn_s, if_b, if_pos c.2, r_isSilent a7 (by omega), bn_s, r_isSilent b7 (by omega), bn_s, if_neg (fun q => d0 ((nI_eq (by omega) (by omega)).mp q)), if_neg d1, if_pos (by decide), if_neg d2, if_pos (by decide), r_nodeAt, bn_s, r_nodeAt, bn_s]
        have eL := r_learns (n := n) (q := q) (I := I) hs a7 f5 (by omega)
        rw [ht] at eL
        have e1 : ∀ (x y : Nat) (J : ev_I), x < 1000 → y < 1000 → pX10_greater n q (nI x) (nI y) J = some (nI (mxn x y)) := fun x y J hx hy => by
          unfold pX10_greater mxn
          simp (disch := omega) only [nI_leI]
          split <;> rfl
        simp (disch := omega) only [li, nI_add, ck_in, nI_clamp, M_get, eL, bn_s, r_nodeAt, e1, M_put, lt_b, r_viewOf, up_o, up_s]
        rw [e1 _ _ _ (by omega) (Nat.lt_of_le_of_lt (mxn_b (N := 201) (by omega) (by omega)) (by omega)), bn_s, r_goesTo a7 (by rw [mxn_1, mxn_1]; omega)]
        rfl
  · refine PA_0 (ans := 0) hs hr (fun I z => ?_) (fun I q hI => ⟨I, ?_, Sc_r⟩)
    · show pX9_ask n z x y _ = _
      unfold pX9_ask
      by_cases a : gd x (s 0 + 4) = true
      · obtain ⟨k, hk, rfl⟩ := gd_e a (by omega)
        have mk := (hs.2.2.2.1 k (by omega)).1.1
        rw [c_isAwake hk h0 mk, bn_s, c_awN (fun b => c ⟨a, b⟩), bn_s, if_pos (show (0 : Int32) = 0 from rfl)]
        split <;> rfl
      · rw [c_awN a, bn_s, if_pos rfl]
    · show pX10_ask n q x y _ = _
      unfold pX10_ask
      rw [Mt hI, lt_b, r_node, bn_s, if_b, r_node, bn_s, if_b]
      by_cases a : gd x (s 0 + 4) = true
      · rw [if_pos a, if_neg (fun b => c ⟨a, b⟩)]
      · rw [if_neg a]
end F2
