/-! A BLOCK IS HEARD, both sides -/
def vA (s : Nat → Nat) (k b : Nat) : Nat := if s (2416 + 513 * k + 1) + 1 < s (16 + b) ∧ (s (16 + s (216 + b)) = s (16 + b) - 1 ∨ s (616 + b) = 1 ∨ s (16 + b) - 1 ≤ s (2416 + 513 * k + 7)) then s (16 + b) else s (2416 + 513 * k + 1) + 1
def sCome (s : Nat → Nat) (k b : Nat) : Nat → Nat := up s (2416 + 513 * k + 1) (vA s k b - 1)
def due (s : Nat → Nat) (k b v : Nat) : Bool := s (16 + b) == v && decide (s (2416 + 513 * k + 2) < v) && s (116 + b) == s (216 + b) + 1
def safe (s : Nat → Nat) (b l : Nat) : Bool := ext s b l || decide (s (16 + l) < s (16 + s (216 + b)))
def sMark (s : Nat → Nat) (f b : Nat) : Nat → Nat := sSend s f (ldr s (s (16 + b) + 1)) 2 b 0
def sVote (s : Nat → Nat) (k b : Nat) : Nat → Nat := if due s k b (s (2416 + 513 * k + 1) + 1) = false then s else if safe s b (s (2416 + 513 * k + 6)) = false then sTell s 1 k b else sMark (sTell (up s (2416 + 513 * k + 2) (s (16 + b))) 0 k b) k b
def sHB (s : Nat → Nat) (k b : Nat) : Nat → Nat := sVote (sCome (sLearn (sGive s k b) k (s (216 + b))) k b) k b
theorem vA_b {s : Nat → Nat} {k b : Nat} (h1 : s (2416 + 513 * k + 1) ≤ 200) (h2 : s (16 + b) ≤ 200) : 1 ≤ vA s k b ∧ vA s k b ≤ 201 := by
  unfold vA
  split <;> omega
theorem ok_come {s : Nat → Nat} (h : okS s) {k b : Nat} (hk : k < 7) (hb : b ≤ s 3) : okS (sCome s k b) := by
  have := (h.2.2.2.1 k hk).1.2.1
  have := h.view hb
  have := vA_b (s := s) (k := k) (b := b) (by omega) (by omega)
  exact ok_nd h (d := 1) hk (by omega)
theorem ok_mark {s : Nat → Nat} (h : okS s) {k b : Nat} (hk : k < 7) (h1 : 1 ≤ b) (hb : b ≤ s 3) : okS (sMark s k b) :=
  ok_send h ⟨hk, ldr_l h.2.2.1.1, Or.inl ⟨Or.inr rfl, h1, hb, rfl⟩⟩
theorem ok_vote {s : Nat → Nat} (h : okS s) {k b : Nat} (hk : k < 7) (h1 : 1 ≤ b) (hb : b ≤ s 3) : okS (sVote s k b) := by
  have := h.view hb
  have h8 := h.2.2.1.2.2.2
  unfold sVote
  split
  · exact h
  · split
    · exact ok_tell h _ _ _
    · have h2 : okS (up s (2416 + 513 * k + 2) (s (16 + b))) := ok_nd h (d := 2) hk (by omega)
      refine ok_mark (ok_tell h2 _ _ _) hk h1 ?_
      rw [sTell_o (by omega) (by rw [up_o (by omega)]; exact h8), up_o (by omega)]
      exact hb
theorem sGL {s : Nat → Nat} (h : okS s) {k b : Nat} (hk : k < 7) (h1 : 1 ≤ b) (hb : b ≤ s 3) : okS (sGive s k b) ∧ sGive s k b 3 = s 3 ∧ sGive s k b (216 + b) = s (216 + b) ∧ s (216 + b) ≤ sGive s k b 3 := by
  have h3 := h.b3
  have h7 := h.2.2.2.2.2.1
  have hg := (h.2.2.2.1 k hk).2.2.1
  have e3 := sGive_o h7 (k := k) (b := b) (j := 3) (by omega) (by omega)
  exact ⟨ok_give h hk h1 hb, e3, sGive_o h7 (by omega) (by omega), by rw [e3]; exact h.just hb⟩
theorem ok_HB {s : Nat → Nat} (h : okS s) {k b : Nat} (hk : k < 7) (h1 : 1 ≤ b) (hb : b ≤ s 3) : okS (sHB s k b) := by
  obtain ⟨g1, g2, g3, g4⟩ := sGL h hk h1 hb
  have l1 := ok_learn g1 hk g4
  have e3 : sLearn (sGive s k b) k (s (216 + b)) 3 = s 3 := by rw [sLearn_o g1 hk g4 (by omega), g2]
  have c1 := ok_come l1 (k := k) (b := b) hk (by rw [e3]; exact hb)
  exact ok_vote c1 hk h1 (by unfold sCome; rw [up_o (by omega), e3]; exact hb)
section Hb
variable {n q w : Nat} {I : ev_I} {s : Nat → Nat} {h : Nat} {r : Nat → Int32}
theorem r_ldr {v : Nat} (hv : v < 300) (h0 : s 0 ≤ 3) (h1 : s 1 ≤ 2) : pX10_leaderOf n q (nI v) (M q I s) = some (nI (ldr s v)) := r_leaderOf hv h0 h1
theorem r_come (hs : okS s) {k b : Nat} (hk : k < 7) (h1 : 1 ≤ b) (hb : b ≤ s 3) : pX10_comesToView n q (nI k) (nI b) (M q I s) = some (M q I (sCome s k b)) := by
  have h3 := hs.b3
  have hd := hs.just hb
  have v1 := hs.view hb
  have v2 := hs.view hd
  have v3 := (hs.2.1.2.2.2.2.2.2 b h1 hb).1
  have p1 := (hs.2.1.2.2.2.2.2.1 b hb).2.2.2.2.1
  have f1 := (hs.2.2.2.1 k hk).1.2.1
  have f7 := (hs.2.2.2.1 k hk).1.2.2.2.2.2.2.2.1
  simp (disch := omega) only [pX10_comesToView, cX10_comesToView_83, li, nI_add, ck_in, nI_clamp, M_get, pk_sub, lt_b, r_viewOf, r_nodeAt, bn_s, nI_ltI, nI_eq, r_goesTo]
  have e0 : up s (2416 + 513 * k + 1) (s (2416 + 513 * k + 1) + 1 - 1) = s := up_id rfl
  unfold sCome vA
  by_cases c1 : s (2416 + 513 * k + 1) + 1 < s (16 + b)
  · by_cases c2 : s (16 + s (216 + b)) = s (16 + b) - 1
    · simp [c1, c2]
    · by_cases c3 : s (616 + b) = 1
      · simp [c1, c2, c3]
      · by_cases c4 : s (2416 + 513 * k + 7) < s (16 + b) - 1
        · have c4' : ¬ s (16 + b) - 1 ≤ s (2416 + 513 * k + 7) := by omega
          rw [if_pos c1, if_neg c2, if_neg c3, if_pos c4, if_neg (by omega), e0]
        · rw [if_pos c1, if_neg c2, if_neg c3, if_neg c4, if_pos (by omega)]
  · rw [if_neg c1, if_neg (by omega), e0]
theorem r_could (hs : okS s) {k b : Nat} (hk : k < 7) (hb : b ≤ s 3) : pX10_couldVote n q (nI k) (nI b) (M q I s) = some (nI (if due s k b (s (2416 + 513 * k + 1) + 1) = true then 1 else 0)) := by
  have h3 := hs.b3
  have hd := hs.just hb
  have v1 := hs.view hb
  have f1 := (hs.2.2.2.1 k hk).1.2.1
  have f2 := (hs.2.2.2.1 k hk).1.2.2.1
  have p1 : s (116 + b) ≤ 100 := by
    by_cases c0 : b = 0
    · subst c0; rw [show 116 + 0 = 116 from rfl, hs.1.2.2.1]; omega
    · have := (hs.1.2.2.2 b (by omega) hb).2.1; omega
  simp (disch := omega) only [pX10_couldVote, li, nI_add, ck_in, nI_clamp, M_get, lt_b, r_viewOf, r_nodeAt, bn_s, nI_leI, nI_eq, r_parentN, sb1_eq]
  unfold due
  by_cases c1 : s (16 + b) = s (2416 + 513 * k + 1) + 1
  · by_cases c2 : s (16 + b) ≤ s (2416 + 513 * k + 2)
    · rw [if_pos c1, if_pos c2, if_neg (by simp; omega)]
    · by_cases c3 : s (116 + b) = s (216 + b) + 1
      · rw [if_pos c1, if_neg c2, if_pos c3, if_pos (by simp; omega)]
      · rw [if_pos c1, if_neg c2, if_neg c3, if_neg (by simp; omega)]
  · rw [if_neg c1, if_neg (by simp; omega)]
theorem r_safe (hs : okS s) {k b : Nat} (hk : k < 7) (hb : b ≤ s 3) (hn : 101 ≤ n) : pX10_isSafe n q (nI k) (nI b) (M q I s) = some (nI (if safe s b (s (2416 + 513 * k + 6)) = true then 1 else 0)) := by
  have h3 := hs.b3
  have hd := hs.just hb
  have hl := (hs.2.2.2.1 k hk).1.2.2.2.2.2.2.1
  have v1 := hs.view hd
  have v2 := hs.view hl
  have hx := r_ext (n := n) (q := q) (I := I) hs.1 hb hl hn
  simp (disch := omega) only [pX10_isSafe, r_nodeAt, bn_s, li, nI_add, ck_in, nI_clamp, M_get, lt_b, hx, nI_leI]
  unfold safe
  by_cases c1 : ext s b (s (2416 + 513 * k + 6)) = true
  · rw [if_pos c1, if_neg (by decide), if_pos (by simp [c1])]
  · rw [if_neg c1, if_pos (by decide)]
    by_cases c2 : s (16 + s (216 + b)) ≤ s (16 + s (2416 + 513 * k + 6))
    · rw [if_pos c2, if_neg (by simp [c1]; omega)]
    · rw [if_neg c2, if_pos (by simp; omega)]
theorem r_HB (hs : okS s) {k b : Nat} (hk : k < 7) (h1 : 1 ≤ b) (hb : b ≤ s 3) (hn : 300 ≤ n) : pX10_hearsBlock n q (nI k) (nI b) (M q I s) = some (M q I (sHB s k b)) := by
  have h3 := hs.b3
  obtain ⟨g1, g2, g3, g4⟩ := sGL hs hk h1 hb
  have l1 := ok_learn g1 hk g4
  have e3 : sLearn (sGive s k b) k (s (216 + b)) 3 = s 3 := by rw [sLearn_o g1 hk g4 (by omega), g2]
  have hb1 : b ≤ sLearn (sGive s k b) k (s (216 + b)) 3 := by rw [e3]; exact hb
  have c1 := ok_come l1 (k := k) (b := b) hk hb1
  have hb2 : b ≤ sCome (sLearn (sGive s k b) k (s (216 + b))) k b 3 := by unfold sCome; rw [up_o (by omega)]; exact hb1
  unfold pX10_hearsBlock
  rw [r_give hs hk h1 hb (by omega), bn_s]
  simp (disch := omega) only [li, nI_add, ck_in, nI_clamp, M_get, g3]
  rw [r_learns g1 hk g4 hn, bn_s, r_come l1 hk h1 hb1, bn_s]
  unfold sHB
  generalize sCome (sLearn (sGive s k b) k (s (216 + b))) k b = t at *
  have t8 := c1.2.2.1.2.2.2
  have tv := c1.view hb2
  rw [r_could c1 hk hb2, bn_s, r_safe c1 hk hb2 (by omega), bn_s]
  unfold sVote
  by_cases d1 : due t k b (t (2416 + 513 * k + 1) + 1) = true
  · rw [if_pos d1, if_neg (show ¬ nI 1 = nI 0 by decide), if_neg (show ¬ due t k b (t (2416 + 513 * k + 1) + 1) = false by rw [d1]; simp)]
    by_cases d2 : safe t b (t (2416 + 513 * k + 6)) = true
    · rw [if_pos d2, if_neg (show ¬ nI 1 = nI 0 by decide), if_neg (show ¬ safe t b (t (2416 + 513 * k + 6)) = false by rw [d2]; simp)]
      have hs1 : okS (up t (2416 + 513 * k + 2) (t (16 + b))) := ok_nd c1 (d := 2) hk (by omega)
      have u8 : up t (2416 + 513 * k + 2) (t (16 + b)) 8 ≤ 100 := by rw [up_o (by omega)]; exact t8
      have hs2 := ok_tell hs1 0 k b
      have eb : sTell (up t (2416 + 513 * k + 2) (t (16 + b))) 0 k b (16 + b) = t (16 + b) := by rw [sTell_o (by omega) u8, up_o (by omega)]
      have hsd := r_sends (n := n) (q := q) (I := I) (f := k) (t := ldr (sTell (up t (2416 + 513 * k + 2) (t (16 + b))) 0 k b) (t (16 + b) + 1)) (kd := 2) (w := b) (hu := 0) (x := -nI 1) hk (ldr_l hs2.2.2.1.1) (hs2.2.2.2.1 k hk).1.2.2.2.2.2.2.2.2.1 hs2.2.2.1.2.2.1 (by decide)
      have z0 := hs2.2.2.1.1
      have z1 := hs2.2.2.1.2.1
      have ht := r_tells (n := n) (q := q) (I := I) (a := 0) (b := k) (c := b) u8
      simp (disch := omega) only [r_nodeAt, bn_s, nI_add, ck_in, nI_clamp, M_get, lt_b, M_put, ht, eb, r_ldr, hsd]
      unfold sMark
      rw [eb]
    · rw [if_neg d2, if_pos (show nI 0 = nI 0 from rfl), if_pos (eq_false_of_ne_true d2), r_tells t8]; rfl
  · rw [if_neg d1, if_pos (show nI 0 = nI 0 from rfl), if_pos (eq_false_of_ne_true d1)]
theorem c_viewAfter (hs : okS s) {k b : Nat} (hk : k < 7) (h1 : 1 ≤ b) (hb : b ≤ s 3) : pX8_viewAfter n w (w + (23 + 5 * k)) (nI b) (C w I s h r) = some (nI (vA s k b)) := by
  have h3 := hs.b3
  have hd := hs.just hb
  have v1 := hs.view hb
  have v2 := hs.view hd
  have v3 := (hs.2.1.2.2.2.2.2.2 b h1 hb).1
  have p1 := (hs.2.1.2.2.2.2.2.1 b hb).2.2.2.2.1
  have f1 := (hs.2.2.2.1 k hk).1.2.1
  have f7 := (hs.2.2.2.1 k hk).1.2.2.2.2.2.2.2.1
  simp (disch := omega) only [pX8_viewAfter, cX8_viewAfter_56, cX8_viewAfter_61, li, ck_in, nI_clamp, cg_view, cg_justify, cg_proved, cg_proof, cg_mview, pk_sub, lt_b, nI_ltI, nI_leI, nI_eq]
  unfold vA
  by_cases c1 : s (2416 + 513 * k + 1) + 1 < s (16 + b)
  · have c1' : ¬ s (16 + b) ≤ s (2416 + 513 * k + 1) + 1 := by omega
    by_cases c2 : s (16 + s (216 + b)) = s (16 + b) - 1
    · simp [c1, c1', c2]
    · by_cases c3 : s (616 + b) = 1
      · simp [c1, c1', c2, c3]
      · by_cases c4 : s (2416 + 513 * k + 7) < s (16 + b) - 1
        · have c4' : ¬ s (16 + b) - 1 ≤ s (2416 + 513 * k + 7) := by omega
          rw [if_neg c2, if_neg c3, if_pos c4, if_neg c1', if_neg (show ¬ (s (2416 + 513 * k + 1) + 1 < s (16 + b) ∧ _) by omega)]
          simp
        · rw [if_neg c2, if_neg c3, if_neg c4, if_neg c1', if_pos (show (s (2416 + 513 * k + 1) + 1 < s (16 + b) ∧ _) by omega)]
          simp
  · have c1' : s (16 + b) ≤ s (2416 + 513 * k + 1) + 1 := by omega
    simp only [c1', if_true, ite_self]
    rw [if_neg (by omega)]
theorem c_isDue (hs : okS s) {k b v : Nat} (hk : k < 7) (hb : b ≤ s 3) (hv : v < 1000) : pX8_isDue n w (w + (23 + 5 * k)) (nI b) (nI v) (C w I s h r) = some (nI (if due s k b v = true then 1 else 0)) := by
  have h3 := hs.b3
  have hd := hs.just hb
  have v1 := hs.view hb
  have f2 := (hs.2.2.2.1 k hk).1.2.2.1
  simp (disch := omega) only [pX8_isDue, li, ck_in, nI_clamp, cg_view, cg_justify, cg_voted, nI_leI, nI_eq, cg_par_eq hs hb]
  unfold due
  by_cases c1 : s (16 + b) = v
  · by_cases c2 : v ≤ s (2416 + 513 * k + 2)
    · rw [if_pos c1, if_pos c2, if_neg (by simp; omega)]
    · by_cases c3 : s (116 + b) = s (216 + b) + 1
      · rw [if_pos c1, if_neg c2, if_pos c3, if_pos (by simp; omega)]
      · rw [if_pos c1, if_neg c2, if_neg c3, if_neg (by simp; omega)]
  · rw [if_neg c1, if_neg (by simp; omega)]
theorem c_safe (hs : okS s) {b l : Nat} (hb : b ≤ s 3) (hl : l ≤ s 3) (hn : 101 ≤ n) : pX8_isSafe n w (nI b) (nI l) (C w I s h r) = some (nI (if safe s b l = true then 1 else 0)) := by
  have h3 := hs.b3
  have hd := hs.just hb
  have v1 := hs.view hd
  have v2 := hs.view hl
  have hx := c_reaches (n := n) (w := w) (I := I) (h := h) (r := r) hs.1 hb hl hn
  simp (disch := omega) only [pX8_isSafe, bn_s, ck_in, nI_clamp, cg_view, cg_justify, hx, nI_leI]
  unfold safe
  by_cases c1 : ext s b l = true
  · rw [if_pos c1, if_neg (by decide), if_pos (by simp [c1])]; rfl
  · rw [if_neg c1, if_pos (by decide)]
    by_cases c2 : s (16 + s (216 + b)) ≤ s (16 + l)
    · rw [if_pos c2, if_neg (by simp [c1]; omega)]; rfl
    · rw [if_neg c2, if_pos (by simp; omega)]; rfl
theorem okR_tell {a b c : Nat} (hr : okR s h r) (h4 : s 4 ≤ 200) (h8 : s 8 ≤ 100) : okR (sTell s a b c) h r := okR_c hr h4 (sTell_o (by omega) h8) (sTell_o (by omega) h8) (fun j _ _ => sTell_o (by omega) h8)
theorem okR_up {k v : Nat} (hr : okR s h r) (h4 : s 4 ≤ 200) (hk : k ≠ 4 ∧ k ≠ 0) (hk2 : k < 816 ∨ 1816 ≤ k) : okR (up s k v) h r := okR_c hr h4 (up_o (by omega)) (up_o (by omega)) (fun j _ _ => up_o (by omega))
theorem okR_learn (hs : okS s) {k c : Nat} (hk : k < 7) (hc : c ≤ s 3) (hr : okR s h r) : okR (sLearn s k c) h r := okR_c hr hs.2.2.1.2.2.1 (sLearn_o hs hk hc (by omega)) (sLearn_o hs hk hc (by omega)) (fun j _ _ => sLearn_o hs hk hc (by omega))
theorem okR_give (hs : okS s) {k b : Nat} (hk : k < 7) (hr : okR s h r) : okR (sGive s k b) h r := by
  have h7 := hs.2.2.2.2.2.1
  have hg := (hs.2.2.2.1 k hk).2.2.1
  have h3 := hs.b3
  exact okR_c hr hs.2.2.1.2.2.1 (sGive_o h7 (by omega) (by omega)) (sGive_o h7 (by omega) (by omega)) (fun j _ _ => sGive_o h7 (by omega) (by omega))
theorem c_HB (hs : okS s) (hr : okR s h r) {k b : Nat} (hk : k < 7) (h1 : 1 ≤ b) (hb : b ≤ s 3) (hn : 300 ≤ n) : ∃ r', pX8_takeBlock n w (nI k) (nI b) (C w I s h r) = some (C w I (sHB s k b) h r') ∧ okR (sHB s k b) h r' := by
  have h3 := hs.b3
  have hby := (hs.2.1.2.2.2.2.2.2 b h1 hb).2.1
  obtain ⟨g1, g2, g3, g4⟩ := sGL hs hk h1 hb
  have l1 := ok_learn g1 hk g4
  have e3 : sLearn (sGive s k b) k (s (216 + b)) 3 = s 3 := by rw [sLearn_o g1 hk g4 (by omega), g2]
  have hb1 : b ≤ sLearn (sGive s k b) k (s (216 + b)) 3 := by rw [e3]; exact hb
  have c1 := ok_come l1 (k := k) (b := b) hk hb1
  have r1 := okR_learn g1 hk g4 (okR_give hs hk (b := b) hr)
  unfold pX8_takeBlock
  simp (disch := omega) only [ck_in, nI_clamp, cg_by]
  rw [c_give hs hk h1 hb (by omega)]
  simp (disch := omega) only [cg_justify, g3]
  rw [c_learn g1 hk g4 hn, bn_s, c_viewAfter l1 hk h1 hb1]
  have lf := (l1.2.2.2.1 k hk).1.2.1
  have lv := l1.view hb1
  have hvA := vA_b (s := sLearn (sGive s k b) k (s (216 + b))) (k := k) (b := b) (by omega) (by omega)
  simp (disch := omega) only [bn_s, lt_b, cp_mview, cg_mview]
  have hr2 : okR (sCome (sLearn (sGive s k b) k (s (216 + b))) k b) h r := okR_up r1 l1.2.2.1.2.2.1 (by omega) (by omega)
  have hb2 : b ≤ sCome (sLearn (sGive s k b) k (s (216 + b))) k b 3 := by unfold sCome; rw [up_o (by omega)]; exact hb1
  show ∃ r', ((pX8_isDue n w (w + (23 + 5 * k)) (nI b) (nI (sCome (sLearn (sGive s k b) k (s (216 + b))) k b (2416 + 513 * k + 1) + 1)) (C w I (sCome (sLearn (sGive s k b) k (s (216 + b))) k b) h r)).bind _) = some (C w I (sVote (sCome (sLearn (sGive s k b) k (s (216 + b))) k b) k b) h r') ∧ okR (sVote (sCome (sLearn (sGive s k b) k (s (216 + b))) k b) k b) h r'
  have eC : up (sLearn (sGive s k b) k (s (216 + b))) (2416 + 513 * k + 1) (vA (sLearn (sGive s k b) k (s (216 + b))) k b - 1) = sCome (sLearn (sGive s k b) k (s (216 + b))) k b := rfl
  rw [eC]
  generalize sCome (sLearn (sGive s k b) k (s (216 + b))) k b = t at *
  have tl := (c1.2.2.2.1 k hk).1.2.2.2.2.2.2.1
  have tf := (c1.2.2.2.1 k hk).1.2.1
  have t8 := c1.2.2.1.2.2.2
  have t4 := c1.2.2.1.2.2.1
  have tv := c1.view hb2
  rw [c_isDue c1 hk hb2 (by omega), bn_s]
  simp (disch := omega) only [cg_lock]
  rw [c_safe c1 hb2 tl (by omega), bn_s]
  unfold sVote
  by_cases d1 : due t k b (t (2416 + 513 * k + 1) + 1) = true
  · rw [if_pos d1, if_neg (show ¬ nI 1 = 0 by decide), if_neg (show ¬ due t k b (t (2416 + 513 * k + 1) + 1) = false by rw [d1]; simp)]
    have ev : t (16 + b) = t (2416 + 513 * k + 1) + 1 := by
      unfold due at d1
      simp at d1
      exact d1.1.1
    by_cases d2 : safe t b (t (2416 + 513 * k + 6)) = true
    · rw [if_pos d2, if_neg (show ¬ nI 1 = 0 by decide), if_neg (show ¬ safe t b (t (2416 + 513 * k + 6)) = false by rw [d2]; simp)]
      have hs1 : okS (up t (2416 + 513 * k + 2) (t (16 + b))) := ok_nd c1 (d := 2) hk (by omega)
      have u8 : up t (2416 + 513 * k + 2) (t (16 + b)) 8 ≤ 100 := by rw [up_o (by omega)]; exact t8
      have hs2 := ok_tell hs1 0 k b
      have eb : sTell (up t (2416 + 513 * k + 2) (t (16 + b))) 0 k b (16 + b) = t (16 + b) := by rw [sTell_o (by omega) u8, up_o (by omega)]
      have hr3 : okR (sTell (up t (2416 + 513 * k + 2) (t (16 + b))) 0 k b) h r := okR_tell (okR_up hr2 t4 (by omega) (by omega)) (by rw [up_o (by omega)]; exact t4) u8
      obtain ⟨r', hm, hr'⟩ := c_sendMark (n := n) (w := w) (I := I) (f := k) (b := b) hr3 hk (by omega) (by rw [eb]; exact tv) (hs2.2.2.2.1 k hk).1.2.2.2.2.2.2.2.2.1 hs2.2.2.1.1 hs2.2.2.1.2.1 hs2.2.2.1.2.2.1
      refine ⟨r', ?_, hr'⟩
      have ht := c_tell (n := n) (w := w) (I := I) (h := h) (r := r) (a := 0) (b := k) (c := b) u8
      simp (disch := omega) only [cp_voted]
      rw [← ev, show (0 : Int32) = nI 0 from rfl, ht, bn_s, hm]
      rfl
    · rw [if_neg d2, if_pos (show nI 0 = 0 by decide), if_pos (eq_false_of_ne_true d2), show pX2_add n (w + 16) 500 (1 : Int32) (nI k) (nI b) (-1) (-1) (C w I t h r) = _ from c_tell (a := 1) t8]
      exact ⟨r, rfl, okR_tell hr2 t4 t8⟩
  · rw [if_neg d1, if_pos (show nI 0 = 0 by decide), if_pos (eq_false_of_ne_true d1)]
    exact ⟨r, rfl, hr2⟩
end Hb
