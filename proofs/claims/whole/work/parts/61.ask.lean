/-! PAIRS OF CALLS: what only asks -/
def PQt (f : Nat → ev_I → Option Int32) (g : Nat → ev_I → Option (Int32 × ev_I)) (s : Nat → Nat) (h : Nat) (r : Nat → Int32) : Prop := ∃ ans, (∀ (I : ev_I) z, f z (C (z + 1) I s h r) = some ans) ∧ ∀ (I : ev_I) q, I q 0 = 0 → ∃ J, g q (M q I s) = some (ans, M q J s) ∧ Sc q I J
theorem PQ_0 {f : Nat → ev_I → Option Int32} {g : Nat → ev_I → Option (Int32 × ev_I)} {s : Nat → Nat} {h : Nat} {r : Nat → Int32} {ans : Int32} (hf : ∀ (I : ev_I) z, f z (C (z + 1) I s h r) = some ans) (hg : ∀ (I : ev_I) q, I q 0 = 0 → g q (M q I s) = some (ans, M q I s)) : PQt f g s h r := ⟨ans, hf, fun I q hI => ⟨I, hg I q hI, Sc_r⟩⟩
theorem inb_f {x : Int32} {a b : Nat} (h : ¬ inb x (nI a) (nI b) = true) (ha : a < 2 ^ 31) (hb : b < 2 ^ 31) : x < 0 ∨ ∃ j, j < 2 ^ 31 ∧ (j < a ∨ b < j) ∧ x = nI j := by
  by_cases c : x < 0
  · exact Or.inl c
  · obtain ⟨j, hj, rfl⟩ := nI_of c
    refine Or.inr ⟨j, hj, ?_, rfl⟩
    by_cases d : j < a ∨ b < j
    · exact d
    · exact absurd (inb_n (by omega) (by omega) hb) h
theorem gd_f {x : Int32} {N : Nat} (h : ¬ gd x N = true) (hN : N < 2 ^ 31) : x < 0 ∨ ∃ j, j < 2 ^ 31 ∧ N ≤ j ∧ x = nI j := by
  by_cases c : x < 0
  · exact Or.inl c
  · obtain ⟨j, hj, rfl⟩ := nI_of c
    refine Or.inr ⟨j, hj, ?_, rfl⟩
    by_cases d : N ≤ j
    · exact d
    · exact absurd (gd_n (by omega) hN) h
theorem inb_ne {y : Int32} {N j : Nat} (d : ¬ inb y (nI 0) (nI N) = true) (hj : j ≤ N) (hN : N < 2 ^ 31) : ¬ y = nI j := fun e => d (by rw [e]; exact inb_n (by omega) hj hN)
theorem m1_lt {j : Nat} (hj : j < 2 ^ 31) : nI 0 - 1 < nI j := by
  rw [Int32.lt_iff_toInt_lt, nI_toInt hj]
  have : (nI 0 - 1 : Int32).toInt = -1 := by decide
  omega
theorem inb_gd {x : Int32} {m : Nat} (hm : m < 2 ^ 31) : inb x (nI 0) (nI m - 1) = gd x m := by
  unfold inb gd
  by_cases c : x < 0
  · simp [c, show x < nI 0 from c]
  · obtain ⟨j, hj, rfl⟩ := nI_of c
    have e : (nI m - 1 < nI j) ↔ (nI m ≤ nI j) := by
      cases m with
      | zero => exact ⟨fun _ => nI_le (by omega) hj, fun _ => m1_lt hj⟩
      | succ m => rw [nI_pred, nI_ltI (by omega) hj, nI_leI hm hj]; omega
    simp only [e]
    rfl
theorem fl_if {n : Nat} {I : ev_I} {c : Prop} {i : Decidable c} : pX6_flag n (nI (if c then 1 else 0)) I = some (nI (if c then 1 else 0)) := by
  unfold pX6_flag
  by_cases h : c
  · rw [if_pos h, if_neg (by decide)]; rfl
  · rw [if_neg h, if_pos (by decide)]; rfl
theorem if_n01 {α : Type} {c : Prop} {i : Decidable c} {x y : α} : (if nI (if c then 1 else 0) = 0 then x else y) = if c then y else x := by
  by_cases h : c
  · rw [if_pos h, if_pos h, if_neg (by decide)]
  · rw [if_neg h, if_neg h, if_pos (by decide)]
theorem lt_1 {x : Int32} (e : x < 0) : x < (1 : Int32) := by
  rw [Int32.lt_iff_toInt_lt] at e ⊢
  have : (1 : Int32).toInt = 1 := by decide
  have : (0 : Int32).toInt = 0 := by decide
  omega
section F3
variable {n q w z : Nat} {I : ev_I} {s : Nat → Nat} {h : Nat} {r : Nat → Int32}
theorem pq_reach (hs : okS s) {x : Int32} : PQt (fun z => pX9_reach n z x) (fun q => pX10_reach n q x) s h r := by
  have h0 := hs.2.2.1.1
  by_cases c : gd x (s 0 + 4) = true
  · obtain ⟨k, hk, rfl⟩ := gd_e c (by omega)
    refine PQ_0 (ans := (((1 : Int32) <<< (nI (s 0 + 4) &&& 31)) - (1 : Int32)) &&& (nI (s (2416 + 513 * k + 11)) ^^^ (-1 : Int32))) (fun I z => ?_) (fun I q hI => ?_)
    · show pX9_reach n z _ _ = _
      unfold pX9_reach pX8_everybody
      rw [c_node, bn_s, if_b, if_pos c, bn_s, ck_in (by omega) (by omega), nI_clamp (by omega), cg_cuts (by omega), cg_size]
    · show pX10_reach n q _ _ = _
      unfold pX10_reach
      rw [Mt hI, lt_b, r_node, bn_s, if_b, if_pos c, r_nodeMany, bn_s, r_nodeAt, bn_s, show (11 : Int32) = nI 11 from rfl, nI_add, ck_in (by omega) (by omega), nI_clamp (by omega), M_get]
  · refine PQ_0 (ans := -1) (fun I z => ?_) (fun I q hI => ?_)
    · show pX9_reach n z _ _ = _
      unfold pX9_reach
      rw [c_node, bn_s, if_b, if_neg c]
    · show pX10_reach n q _ _ = _
      unfold pX10_reach
      rw [Mt hI, lt_b, r_node, bn_s, if_b, if_neg c]
theorem pq_log (hs : okS s) {x y : Int32} : PQt (fun z => pX9_log n z x y) (fun q => pX10_log n q x y) s h r := by
  have h0 := hs.2.2.1.1
  have h3 := hs.b3
  by_cases c : gd x (s 0 + 4) = true
  · obtain ⟨k, hk, rfl⟩ := gd_e c (by omega)
    have l1 := (hs.2.2.2.1 k (by omega)).2.1.1
    have eM : ∀ (I : ev_I) q, I q 0 = 0 → pX10_log n q (nI k) y (M q I s) = if gd y (s (2416 + 513 * k + 8) + 1) = true then (ev_ck (ev_in ((nI (2416 + 513 * k) + (12 : Int32)) + y) 6010) <| some ((M q I s (q + 1) ((nI (2416 + 513 * k) + (12 : Int32)) + y).toNatClampNeg), M q I s)) else some (-1, M q I s) := by
      intro I q hI
      unfold pX10_log
      rw [Mt hI, lt_b, r_node, bn_s, if_b, if_pos c, r_logMany (by omega), bn_s, r_inb, bn_s, if_b, show (0 : Int32) = nI 0 from rfl, inb_gd (by omega), r_nodeAt, bn_s]
    by_cases d : gd y (s (2416 + 513 * k + 8) + 1) = true
    · obtain ⟨i, hi, rfl⟩ := gd_e d (by omega)
      refine PQ_0 (ans := nI (s (2416 + 513 * k + 12 + i))) (fun I z => ?_) (fun I q hI => ?_)
      · show pX9_log n z _ _ _ = _
        unfold pX9_log
        rw [c_node, bn_s, if_b, if_pos c, if_neg (nI_pos (by omega)), ck_in (by omega) (by omega), nI_clamp (by omega), cg_logn (by omega), if_pos (nI_lt (by omega) (by omega)), ck_in (by omega) (by omega), ck_in (by omega) (by omega), nI_clamp (by omega), cg_logged (by omega) (by omega)]
      · refine (eM I q hI).trans ?_
        rw [if_pos d]
        simp (disch := omega) only [li, nI_add, ck_in, nI_clamp, M_get]
    · refine PQ_0 (ans := -1) (fun I z => ?_) (fun I q hI => (eM I q hI).trans (if_neg d))
      show pX9_log n z _ _ _ = _
      unfold pX9_log
      rw [c_node, bn_s, if_b, if_pos c]
      rcases gd_f d (by omega) with e | ⟨j, hj, hj2, rfl⟩
      · rw [if_pos e]
      · rw [if_neg (nI_pos (by omega)), ck_in (by omega) (by omega), nI_clamp (by omega), cg_logn (by omega), if_neg (nI_nlt (by omega) (by omega))]
  · refine PQ_0 (ans := -1) (fun I z => ?_) (fun I q hI => ?_)
    · show pX9_log n z _ _ _ = _
      unfold pX9_log
      rw [c_node, bn_s, if_b, if_neg c]
    · show pX10_log n q _ _ _ = _
      unfold pX10_log
      rw [Mt hI, lt_b, r_node, bn_s, if_b, if_neg c]
theorem c_both {x y : Int32} : pX9_hasBoth n z x y (C (z + 1) I s h r) = some (nI (b01 (gd x (s 0 + 4) && gd y (s 3 + 1)))) := by
  unfold pX9_hasBoth
  rw [c_node, bn_s, if_b, c_blk, bn_s, if_b]
  by_cases a : gd x (s 0 + 4) = true
  · by_cases b : gd y (s 3 + 1) = true
    · simp [a, b, b01]; rfl
    · simp [a, b, b01]; rfl
  · simp [a, b01]; rfl
theorem mk_hd (hs : okS s) {x y : Int32} (c : (gd x (s 0 + 4) && gd y (s 3 + 1)) = true) : ∃ k b, k < s 0 + 4 ∧ b ≤ s 3 ∧ x = nI k ∧ y = nI b ∧ gd (nI k) (s 0 + 4) = true ∧ gd (nI b) (s 3 + 1) = true := by
  have h0 := hs.2.2.1.1
  have h3 := hs.b3
  rw [Bool.and_eq_true] at c
  obtain ⟨k, hk, rfl⟩ := gd_e c.1 (by omega)
  obtain ⟨b, hb, rfl⟩ := gd_e c.2 (by omega)
  exact ⟨k, b, hk, by omega, rfl, rfl, c.1, c.2⟩

theorem pq_marks (hs : okS s) {x y : Int32} (hn : 100 ≤ n) : PQt (fun z => pX9_marks n z x y) (fun q => pX10_marks n q x y) s h r := by
  have h0 := hs.2.2.1.1
  have h3 := hs.b3
  by_cases c : (gd x (s 0 + 4) && gd y (s 3 + 1)) = true
  · obtain ⟨k, b, hk, hb, rfl, rfl, c1, c2⟩ := mk_hd hs c
    have f1 := (hs.2.2.2.1 k (by omega)).1.2.2.2.2.2.2.2.2.2.1 b (by omega)
    refine PQ_0 (ans := nI (pcn (s (2416 + 513 * k + 212 + b)))) (fun I z => ?_) (fun I q hI => ?_)
    · show pX9_marks n z _ _ _ = _
      unfold pX9_marks
      rw [c_both, bn_s, if_b, if_pos c, ck_in (by omega) (by omega), ck_in (by omega) (by omega), nI_clamp (by omega), nI_clamp (by omega), cg_markers (by omega) (by omega), c_bc f1, bn_s]
    · show pX10_marks n q _ _ _ = _
      unfold pX10_marks
      rw [Mt hI, lt_b, r_node, bn_s, if_b, if_pos c1, r_blk, bn_s, if_b, if_pos c2, r_nodeAt, bn_s]
      simp (disch := omega) only [li, nI_add, ck_in, nI_clamp, M_get]
      rw [r_onesOf f1 (by omega), bn_s]
  · refine PQ_0 (ans := -1) (fun I z => ?_) (fun I q hI => ?_)
    · show pX9_marks n z _ _ _ = _
      unfold pX9_marks
      rw [c_both, bn_s, if_b, if_neg c]
    · show pX10_marks n q _ _ _ = _
      unfold pX10_marks
      rw [Mt hI, lt_b, r_node, bn_s, if_b, r_blk, bn_s, if_b]
      by_cases a : gd x (s 0 + 4) = true
      · by_cases b : gd y (s 3 + 1) = true
        · exact absurd (by rw [a, b]; rfl) c
        · rw [if_pos a, if_neg b]
      · rw [if_neg a]

theorem pq_markers (hs : okS s) {x y : Int32} : PQt (fun z => pX9_markers n z x y) (fun q => pX10_markers n q x y) s h r := by
  have h0 := hs.2.2.1.1
  have h3 := hs.b3
  by_cases c : (gd x (s 0 + 4) && gd y (s 3 + 1)) = true
  · obtain ⟨k, b, hk, hb, rfl, rfl, c1, c2⟩ := mk_hd hs c
    have f1 := (hs.2.2.2.1 k (by omega)).1.2.2.2.2.2.2.2.2.2.1 b (by omega)
    refine PQ_0 (ans := nI (s (2416 + 513 * k + 212 + b))) (fun I z => ?_) (fun I q hI => ?_)
    · show pX9_markers n z _ _ _ = _
      unfold pX9_markers
      rw [c_both, bn_s, if_b, if_pos c, ck_in (by omega) (by omega), ck_in (by omega) (by omega), nI_clamp (by omega), nI_clamp (by omega), cg_markers (by omega) (by omega)]
    · show pX10_markers n q _ _ _ = _
      unfold pX10_markers
      rw [Mt hI, lt_b, r_node, bn_s, if_b, if_pos c1, r_blk, bn_s, if_b, if_pos c2, r_nodeAt, bn_s]
      simp (disch := omega) only [li, nI_add, ck_in, nI_clamp, M_get]
  · refine PQ_0 (ans := -1) (fun I z => ?_) (fun I q hI => ?_)
    · show pX9_markers n z _ _ _ = _
      unfold pX9_markers
      rw [c_both, bn_s, if_b, if_neg c]
    · show pX10_markers n q _ _ _ = _
      unfold pX10_markers
      rw [Mt hI, lt_b, r_node, bn_s, if_b, r_blk, bn_s, if_b]
      by_cases a : gd x (s 0 + 4) = true
      · by_cases b : gd y (s 3 + 1) = true
        · exact absurd (by rw [a, b]; rfl) c
        · rw [if_pos a, if_neg b]
      · rw [if_neg a]

theorem pq_timeouts (hs : okS s) {x y : Int32} (hn : 100 ≤ n) : PQt (fun z => pX9_timeouts n z x y) (fun q => pX10_timeouts n q x y) s h r := by
  have h0 := hs.2.2.1.1
  by_cases c : gd x (s 0 + 4) = true
  · obtain ⟨k, hk, rfl⟩ := gd_e c (by omega)
    by_cases d : inb y (nI 1) (nI 200) = true
    · obtain ⟨v, hv1, hv, rfl⟩ := inb_e d (by omega) (by omega)
      have f1 := (hs.2.2.2.1 k (by omega)).1.2.2.2.2.2.2.2.2.2.2 v (by omega)
      refine PQ_0 (ans := nI (pcn (s (2416 + 513 * k + 312 + v)))) (fun I z => ?_) (fun I q hI => ?_)
      · show pX9_timeouts n z _ _ _ = _
        unfold pX9_timeouts
        rw [c_node, bn_s, if_b, if_pos c, if_neg (show ¬ nI v < (1 : Int32) from nI_nlt (b := 1) hv1 (by omega)), if_pos (show nI v ≤ (200 : Int32) from nI_le (b := 200) hv (by omega)), ck_in (by omega) (by omega), ck_in (by omega) (by omega), nI_clamp (by omega), nI_clamp (by omega), cg_timers (by omega) (by omega), c_bc f1, bn_s]
      · show pX10_timeouts n q _ _ _ = _
        unfold pX10_timeouts
        rw [Mt hI, lt_b, r_node, bn_s, if_b, if_pos c, r_inb, bn_s, show (1 : Int32) = nI 1 from rfl, show (200 : Int32) = nI 200 from rfl, if_b, if_pos d, r_nodeAt, bn_s]
        simp (disch := omega) only [li, nI_add, ck_in, nI_clamp, M_get]
        rw [r_onesOf f1 (by omega), bn_s]
    · refine PQ_0 (ans := -1) (fun I z => ?_) (fun I q hI => ?_)
      · show pX9_timeouts n z _ _ _ = _
        unfold pX9_timeouts
        rw [c_node, bn_s, if_b, if_pos c]
        rcases inb_f d (by omega) (by omega) with e | ⟨j, hj, hj2, rfl⟩
        · rw [if_pos (lt_1 e)]
        · by_cases e : j < 1
          · rw [if_pos (show nI j < (1 : Int32) from nI_lt (b := 1) e (by omega))]
          · rw [if_neg (show ¬ nI j < (1 : Int32) from nI_nlt (b := 1) (by omega) (by omega)), if_neg (show ¬ nI j ≤ (200 : Int32) from nI_ge (a := 200) (by omega) hj)]
      · show pX10_timeouts n q _ _ _ = _
        unfold pX10_timeouts
        rw [Mt hI, lt_b, r_node, bn_s, if_b, if_pos c, r_inb, bn_s, show (1 : Int32) = nI 1 from rfl, show (200 : Int32) = nI 200 from rfl, if_b, if_neg d]
  · refine PQ_0 (ans := -1) (fun I z => ?_) (fun I q hI => ?_)
    · show pX9_timeouts n z _ _ _ = _
      unfold pX9_timeouts
      rw [c_node, bn_s, if_b, if_neg c]
    · show pX10_timeouts n q _ _ _ = _
      unfold pX10_timeouts
      rw [Mt hI, lt_b, r_node, bn_s, if_b, if_neg c]

theorem pq_message (hs : okS s) (hr : okR s h r) {x y : Int32} : PQt (fun z => pX9_message n z x y) (fun q => pX10_message n q x y) s h r := by
  have h4 := hs.2.2.1.2.2.1
  by_cases c : gd x (s 4) = true
  · obtain ⟨k, hk, rfl⟩ := gd_e c (by omega)
    have eC : ∀ (I : ev_I) z, pX9_message n z (nI k) y (C (z + 1) I s h r) = (pX6_ofMessage n (nI (pkm s k)) y (C (z + 1) I s h r)).bind fun z4 => some z4 := by
      intro I z
      unfold pX9_message
      rw [c_mes, bn_s, if_b, if_pos c, c_at hr.1 (by omega), bn_s, hr.2.1 k hk]
    have eM : ∀ (I : ev_I) q, I q 0 = 0 → pX10_message n q (nI k) y (M q I s) = if inb y (nI 0) (nI 4) = true then (ev_ck (ev_in (((816 : Int32) + ((5 : Int32) * nI k)) + y) 6010) <| ev_lt (M q I s (q + 1) (((816 : Int32) + ((5 : Int32) * nI k)) + y).toNatClampNeg) fun v7 => if y = (4 : Int32) then some ((v7 - (1 : Int32)), M q I s) else some (v7, M q I s)) else some (-2, M q I s) := by
      intro I q hI
      unfold pX10_message
      rw [Mt hI, lt_b, r_mes, bn_s, if_b, if_pos c, r_inb, bn_s, if_b]
      rfl
    by_cases d : inb y (nI 0) (nI 4) = true
    · obtain ⟨j, -, hj, rfl⟩ := inb_e d (by omega) (by omega)
      have hj' : j = 0 ∨ j = 1 ∨ j = 2 ∨ j = 3 ∨ j = 4 := by omega
      rcases hj' with rfl | rfl | rfl | rfl | rfl
      · refine PQ_0 (ans := nI (s (816 + 5 * k))) (fun I z => ?_) (fun I q hI => ?_)
        · refine (eC I z).trans ?_
          unfold pX6_ofMessage
          rw [if_pos (show nI 0 = (0 : Int32) from rfl), (c_msg hs hk).1, bn_s, bn_s]
        · refine (eM I q hI).trans ?_
          rw [if_pos d, lt_b, if_neg (show ¬ nI 0 = (4 : Int32) by decide)]
          simp (disch := omega) only [li, nI_add, pk_mul, ck_in, nI_clamp, M_get, lt_b, Nat.add_zero]
      · refine PQ_0 (ans := nI (s (816 + 5 * k + 1))) (fun I z => ?_) (fun I q hI => ?_)
        · refine (eC I z).trans ?_
          unfold pX6_ofMessage
          rw [if_neg (show ¬ nI 1 = (0 : Int32) by decide), if_pos (show nI 1 = (1 : Int32) from rfl), (c_msg hs hk).2.1, bn_s, bn_s]
        · refine (eM I q hI).trans ?_
          rw [if_pos d, lt_b, if_neg (show ¬ nI 1 = (4 : Int32) by decide)]
          simp (disch := omega) only [li, nI_add, pk_mul, ck_in, nI_clamp, M_get, lt_b, Nat.add_zero]
      · refine PQ_0 (ans := nI (s (816 + 5 * k + 2))) (fun I z => ?_) (fun I q hI => ?_)
        · refine (eC I z).trans ?_
          unfold pX6_ofMessage
          rw [if_neg (show ¬ nI 2 = (0 : Int32) by decide), if_neg (show ¬ nI 2 = (1 : Int32) by decide), if_pos (show nI 2 = (2 : Int32) from rfl), (c_msg hs hk).2.2.1, bn_s, bn_s]
        · refine (eM I q hI).trans ?_
          rw [if_pos d, lt_b, if_neg (show ¬ nI 2 = (4 : Int32) by decide)]
          simp (disch := omega) only [li, nI_add, pk_mul, ck_in, nI_clamp, M_get, lt_b, Nat.add_zero]
      · refine PQ_0 (ans := nI (s (816 + 5 * k + 3))) (fun I z => ?_) (fun I q hI => ?_)
        · refine (eC I z).trans ?_
          unfold pX6_ofMessage
          rw [if_neg (show ¬ nI 3 = (0 : Int32) by decide), if_neg (show ¬ nI 3 = (1 : Int32) by decide), if_neg (show ¬ nI 3 = (2 : Int32) by decide), if_pos (show nI 3 = (3 : Int32) from rfl), (c_msg hs hk).2.2.2.1, bn_s, bn_s]
        · refine (eM I q hI).trans ?_
          rw [if_pos d, lt_b, if_neg (show ¬ nI 3 = (4 : Int32) by decide)]
          simp (disch := omega) only [li, nI_add, pk_mul, ck_in, nI_clamp, M_get, lt_b, Nat.add_zero]
      · refine PQ_0 (ans := nI (s (816 + 5 * k + 4)) - nI 1) (fun I z => ?_) (fun I q hI => ?_)
        · refine (eC I z).trans ?_
          unfold pX6_ofMessage
          rw [if_neg (show ¬ nI 4 = (0 : Int32) by decide), if_neg (show ¬ nI 4 = (1 : Int32) by decide), if_neg (show ¬ nI 4 = (2 : Int32) by decide), if_neg (show ¬ nI 4 = (3 : Int32) by decide), if_pos (show nI 4 = (4 : Int32) from rfl), (c_msg hs hk).2.2.2.2, bn_s, bn_s]
        · refine (eM I q hI).trans ?_
          rw [if_pos d, lt_b, if_pos (show nI 4 = (4 : Int32) from rfl)]
          simp (disch := omega) only [li, nI_add, pk_mul, ck_in, nI_clamp, M_get, lt_b, Nat.add_zero]
    · refine PQ_0 (ans := -2) (fun I z => ?_) (fun I q hI => (eM I q hI).trans (if_neg d))
      refine (eC I z).trans ?_
      unfold pX6_ofMessage
      rw [if_neg (show ¬ y = (0 : Int32) from inb_ne d (j := 0) (by omega) (by omega)), if_neg (show ¬ y = (1 : Int32) from inb_ne d (j := 1) (by omega) (by omega)), if_neg (show ¬ y = (2 : Int32) from inb_ne d (j := 2) (by omega) (by omega)), if_neg (show ¬ y = (3 : Int32) from inb_ne d (j := 3) (by omega) (by omega)), if_neg (show ¬ y = (4 : Int32) from inb_ne d (j := 4) (by omega) (by omega)), bn_s]
  · refine PQ_0 (ans := -2) (fun I z => ?_) (fun I q hI => ?_)
    · show pX9_message n z _ _ _ = _
      unfold pX9_message
      rw [c_mes, bn_s, if_b, if_neg c]
    · show pX10_message n q _ _ _ = _
      unfold pX10_message
      rw [Mt hI, lt_b, r_mes, bn_s, if_b, if_neg c]

theorem pq_evidence (hs : okS s) {x y : Int32} : PQt (fun z => pX9_evidence n z x y) (fun q => pX10_evidence n q x y) s h r := by
  have h7 := hs.2.2.2.2.2.1
  have eM : ∀ (I : ev_I) q, I q 0 = 0 → pX10_evidence n q x y (M q I s) = if gd x (s 7) = true ∧ inb y (nI 0) (nI 4) = true then (ev_ck (ev_in (((1816 : Int32) + ((5 : Int32) * x)) + y) 6010) <| some ((M q I s (q + 1) (((1816 : Int32) + ((5 : Int32) * x)) + y).toNatClampNeg), M q I s)) else some (-1, M q I s) := by
    intro I q hI
    unfold pX10_evidence
    rw [Mt hI, lt_b, show (7 : Int32).toNatClampNeg = 7 from rfl, M_get, r_inb, bn_s, if_b, r_inb, bn_s, if_b, show (0 : Int32) = nI 0 from rfl, inb_gd (by omega), show (4 : Int32) = nI 4 from rfl]
    by_cases a : gd x (s 7) = true
    · by_cases b : inb y (nI 0) (nI 4) = true
      · rw [if_pos a, if_pos b, if_pos ⟨a, b⟩]
      · rw [if_pos a, if_neg b, if_neg (fun q => b q.2)]
    · rw [if_neg a, if_neg (fun q => a q.1)]
  by_cases c : gd x (s 7) = true ∧ inb y (nI 0) (nI 4) = true
  · obtain ⟨k, hk, rfl⟩ := gd_e c.1 (by omega)
    obtain ⟨j, -, hj, rfl⟩ := inb_e c.2 (by omega) (by omega)
    refine PQ_0 (ans := nI (s (1816 + 5 * k + j))) (fun I z => ?_) (fun I q hI => ?_)
    · show pX9_evidence n z _ _ _ = _
      unfold pX9_evidence pX2_at
      rw [if_neg (nI_pos (by omega)), cg_evc, if_neg (nI_ge (by omega) (by omega)), if_neg (nI_pos (by omega)), if_pos (show nI j < (5 : Int32) from nI_lt (b := 5) (by omega) (by omega)), show (5 : Int32) = nI 5 from rfl, pk_mul, nI_add, ck_in (by omega) (by omega), nI_clamp (by omega), cg_ev (by omega), bn_s]
      rw [show 1816 + (5 * k + j) = 1816 + 5 * k + j by omega]
    · refine (eM I q hI).trans ?_
      rw [if_pos c]
      simp (disch := omega) only [li, nI_add, pk_mul, ck_in, nI_clamp, M_get]
  · refine PQ_0 (ans := -1) (fun I z => ?_) (fun I q hI => (eM I q hI).trans (if_neg c))
    show pX9_evidence n z _ _ _ = _
    unfold pX9_evidence pX2_at
    rw [cg_evc]
    by_cases a : gd x (s 7) = true
    · obtain ⟨k, hk, rfl⟩ := gd_e a (by omega)
      rw [if_neg (nI_pos (by omega)), if_neg (nI_ge (by omega) (by omega))]
      rcases inb_f (fun b => c ⟨a, b⟩) (by omega) (by omega) with e | ⟨j, hj, hj2, rfl⟩
      · rw [if_pos e, bn_s]
      · rw [if_neg (nI_pos (by omega)), if_neg (show ¬ nI j < (5 : Int32) from nI_nlt (b := 5) (by omega) (by omega)), bn_s]
    · rcases gd_f a (by omega) with e | ⟨j, hj, hj2, rfl⟩
      · rw [if_pos e, bn_s]
      · rw [if_neg (nI_pos (by omega)), if_pos (nI_le (by omega) (by omega)), bn_s]

theorem pq_event (hs : okS s) {x y : Int32} : PQt (fun z => pX9_event n z x y) (fun q => pX10_event n q x y) s h r := by
  have h7 := hs.2.2.1.2.2.2
  have eM : ∀ (I : ev_I) q, I q 0 = 0 → pX10_event n q x y (M q I s) = if gd x (s 8) = true ∧ inb y (nI 0) (nI 2) = true then (ev_ck (ev_in (((2116 : Int32) + ((3 : Int32) * x)) + y) 6010) <| some ((M q I s (q + 1) (((2116 : Int32) + ((3 : Int32) * x)) + y).toNatClampNeg), M q I s)) else some (-1, M q I s) := by
    intro I q hI
    unfold pX10_event
    rw [Mt hI, lt_b, show (8 : Int32).toNatClampNeg = 8 from rfl, M_get, r_inb, bn_s, if_b, r_inb, bn_s, if_b, show (0 : Int32) = nI 0 from rfl, inb_gd (by omega), show (2 : Int32) = nI 2 from rfl]
    by_cases a : gd x (s 8) = true
    · by_cases b : inb y (nI 0) (nI 2) = true
      · rw [if_pos a, if_pos b, if_pos ⟨a, b⟩]
      · rw [if_pos a, if_neg b, if_neg (fun q => b q.2)]
    · rw [if_neg a, if_neg (fun q => a q.1)]
  by_cases c : gd x (s 8) = true ∧ inb y (nI 0) (nI 2) = true
  · obtain ⟨k, hk, rfl⟩ := gd_e c.1 (by omega)
    obtain ⟨j, -, hj, rfl⟩ := inb_e c.2 (by omega) (by omega)
    refine PQ_0 (ans := nI (s (2116 + 3 * k + j))) (fun I z => ?_) (fun I q hI => ?_)
    · show pX9_event n z _ _ _ = _
      unfold pX9_event pX2_at
      rw [if_neg (nI_pos (by omega)), cg_vnc, if_neg (nI_ge (by omega) (by omega)), if_neg (nI_pos (by omega)), if_pos (show nI j < (3 : Int32) from nI_lt (b := 3) (by omega) (by omega)), show (5 : Int32) = nI 5 from rfl, pk_mul, nI_add, ck_in (by omega) (by omega), nI_clamp (by omega), cg_vn (by omega) (by omega), bn_s]
    · refine (eM I q hI).trans ?_
      rw [if_pos c]
      simp (disch := omega) only [li, nI_add, pk_mul, ck_in, nI_clamp, M_get]
  · refine PQ_0 (ans := -1) (fun I z => ?_) (fun I q hI => (eM I q hI).trans (if_neg c))
    show pX9_event n z _ _ _ = _
    unfold pX9_event pX2_at
    rw [cg_vnc]
    by_cases a : gd x (s 8) = true
    · obtain ⟨k, hk, rfl⟩ := gd_e a (by omega)
      rw [if_neg (nI_pos (by omega)), if_neg (nI_ge (by omega) (by omega))]
      rcases inb_f (fun b => c ⟨a, b⟩) (by omega) (by omega) with e | ⟨j, hj, hj2, rfl⟩
      · rw [if_pos e, bn_s]
      · rw [if_neg (nI_pos (by omega)), if_neg (show ¬ nI j < (3 : Int32) from nI_nlt (b := 3) (by omega) (by omega)), bn_s]
    · rcases gd_f a (by omega) with e | ⟨j, hj, hj2, rfl⟩
      · rw [if_pos e, bn_s]
      · rw [if_neg (nI_pos (by omega)), if_pos (nI_le (by omega) (by omega)), bn_s]

theorem pq_block (hs : okS s) {x y : Int32} : PQt (fun z => pX9_block n z x y) (fun q => pX10_block n q x y) s h r := by
  have h3 := hs.b3
  by_cases c : gd x (s 3 + 1) = true
  · obtain ⟨b, hb, rfl⟩ := gd_e c (by omega)
    have f1 := hs.2.1.2.2.2.2.2.1 b (by omega)
    have eC : ∀ (I : ev_I) z, pX9_block n z (nI b) y (C (z + 1) I s h r) = (pX6_ofBlock n (z + 1 + 1) (nI b) y (C (z + 1) I s h r)).bind fun z4 => some z4 := by
      intro I z
      unfold pX9_block
      rw [c_blk, bn_s, if_b, if_pos c]
    have eM : ∀ (I : ev_I) q, I q 0 = 0 → pX10_block n q (nI b) y (M q I s) = if inb y (nI 0) (nI 7) = true then (if y = (7 : Int32) then (pX10_isCertified n q (nI b) (M q I s)).bind fun z11 => if z11 = 0 then some ((0 : Int32), M q I s) else some ((1 : Int32), M q I s) else ev_ck (ev_in (((16 : Int32) + ((100 : Int32) * y)) + nI b) 6010) <| ev_lt (M q I s (q + 1) (((16 : Int32) + ((100 : Int32) * y)) + nI b).toNatClampNeg) fun v8 => if y = (1 : Int32) then some ((v8 - (1 : Int32)), M q I s) else if y = (4 : Int32) then some ((v8 - (1 : Int32)), M q I s) else some (v8, M q I s)) else some (-1, M q I s) := by
      intro I q hI
      unfold pX10_block
      rw [Mt hI, lt_b, r_blk, bn_s, if_b, if_pos c, r_inb, bn_s, if_b]
      rfl
    by_cases d : inb y (nI 0) (nI 7) = true
    · obtain ⟨j, -, hj, rfl⟩ := inb_e d (by omega) (by omega)
      have hj' : j = 0 ∨ j = 1 ∨ j = 2 ∨ j = 3 ∨ j = 4 ∨ j = 5 ∨ j = 6 ∨ j = 7 := by omega
      rcases hj' with rfl | rfl | rfl | rfl | rfl | rfl | rfl | rfl
      · refine PQ_0 (ans := nI (s (16 + b))) (fun I z => ?_) (fun I q hI => ?_)
        · refine (eC I z).trans ?_
          unfold pX6_ofBlock
          rw [if_pos (show nI 0 = (0 : Int32) from rfl), ck_in (by omega) (by omega), nI_clamp (by omega), cg_view (by omega), bn_s]
        · refine (eM I q hI).trans ?_
          rw [if_pos d, if_neg (show ¬ nI 0 = (7 : Int32) by decide), lt_b, if_neg (show ¬ nI 0 = (1 : Int32) by decide), if_neg (show ¬ nI 0 = (4 : Int32) by decide)]
          simp (disch := omega) only [li, nI_add, pk_mul, ck_in, nI_clamp, M_get, lt_b]
      · refine PQ_0 (ans := nI (s (116 + b)) - nI 1) (fun I z => ?_) (fun I q hI => ?_)
        · refine (eC I z).trans ?_
          unfold pX6_ofBlock
          rw [if_neg (show ¬ nI 1 = (0 : Int32) by decide), if_pos (show nI 1 = (1 : Int32) from rfl), ck_in (by omega) (by omega), nI_clamp (by omega)]
          by_cases e0 : b = 0
          · subst e0
            rw [cg_parent0 hs.1.2.2.1, bn_s, show s (116 + 0) = 0 from hs.1.2.2.1]
            rfl
          · have p1 := (hs.1.2.2.2 b (by omega) (by omega)).1
            rw [cg_parent (by omega) p1, bn_s, pk_sub p1]
        · refine (eM I q hI).trans ?_
          rw [if_pos d, if_neg (show ¬ nI 1 = (7 : Int32) by decide), lt_b, if_pos (show nI 1 = (1 : Int32) from rfl)]
          simp (disch := omega) only [li, nI_add, pk_mul, ck_in, nI_clamp, M_get, lt_b]
      · refine PQ_0 (ans := nI (s (216 + b))) (fun I z => ?_) (fun I q hI => ?_)
        · refine (eC I z).trans ?_
          unfold pX6_ofBlock
          rw [if_neg (show ¬ nI 2 = (0 : Int32) by decide), if_neg (show ¬ nI 2 = (1 : Int32) by decide), if_pos (show nI 2 = (2 : Int32) from rfl), ck_in (by omega) (by omega), nI_clamp (by omega), cg_justify (by omega), bn_s]
        · refine (eM I q hI).trans ?_
          rw [if_pos d, if_neg (show ¬ nI 2 = (7 : Int32) by decide), lt_b, if_neg (show ¬ nI 2 = (1 : Int32) by decide), if_neg (show ¬ nI 2 = (4 : Int32) by decide)]
          simp (disch := omega) only [li, nI_add, pk_mul, ck_in, nI_clamp, M_get, lt_b]
      · refine PQ_0 (ans := nI (s (316 + b))) (fun I z => ?_) (fun I q hI => ?_)
        · refine (eC I z).trans ?_
          unfold pX6_ofBlock
          rw [if_neg (show ¬ nI 3 = (0 : Int32) by decide), if_neg (show ¬ nI 3 = (1 : Int32) by decide), if_neg (show ¬ nI 3 = (2 : Int32) by decide), if_pos (show nI 3 = (3 : Int32) from rfl), ck_in (by omega) (by omega), nI_clamp (by omega), cg_payload (by omega), bn_s]
        · refine (eM I q hI).trans ?_
          rw [if_pos d, if_neg (show ¬ nI 3 = (7 : Int32) by decide), lt_b, if_neg (show ¬ nI 3 = (1 : Int32) by decide), if_neg (show ¬ nI 3 = (4 : Int32) by decide)]
          simp (disch := omega) only [li, nI_add, pk_mul, ck_in, nI_clamp, M_get, lt_b]
      · refine PQ_0 (ans := nI (s (416 + b)) - nI 1) (fun I z => ?_) (fun I q hI => ?_)
        · refine (eC I z).trans ?_
          unfold pX6_ofBlock
          rw [if_neg (show ¬ nI 4 = (0 : Int32) by decide), if_neg (show ¬ nI 4 = (1 : Int32) by decide), if_neg (show ¬ nI 4 = (2 : Int32) by decide), if_neg (show ¬ nI 4 = (3 : Int32) by decide), if_pos (show nI 4 = (4 : Int32) from rfl), ck_in (by omega) (by omega), nI_clamp (by omega)]
          by_cases e0 : b = 0
          · subst e0
            rw [cg_by0 hs.2.1.2.2.2.1, bn_s, show s (416 + 0) = 0 from hs.2.1.2.2.2.1]
            rfl
          · have p1 := (hs.2.1.2.2.2.2.2.2 b (by omega) (by omega)).2.1
            rw [cg_by (by omega) p1, bn_s, pk_sub p1]
        · refine (eM I q hI).trans ?_
          rw [if_pos d, if_neg (show ¬ nI 4 = (7 : Int32) by decide), lt_b, if_neg (show ¬ nI 4 = (1 : Int32) by decide), if_pos (show nI 4 = (4 : Int32) from rfl)]
          simp (disch := omega) only [li, nI_add, pk_mul, ck_in, nI_clamp, M_get, lt_b]
      · refine PQ_0 (ans := nI (s (516 + b))) (fun I z => ?_) (fun I q hI => ?_)
        · refine (eC I z).trans ?_
          unfold pX6_ofBlock
          rw [if_neg (show ¬ nI 5 = (0 : Int32) by decide), if_neg (show ¬ nI 5 = (1 : Int32) by decide), if_neg (show ¬ nI 5 = (2 : Int32) by decide), if_neg (show ¬ nI 5 = (3 : Int32) by decide), if_neg (show ¬ nI 5 = (4 : Int32) by decide), if_pos (show nI 5 = (5 : Int32) from rfl), ck_in (by omega) (by omega), nI_clamp (by omega), cg_height (by omega), bn_s]
        · refine (eM I q hI).trans ?_
          rw [if_pos d, if_neg (show ¬ nI 5 = (7 : Int32) by decide), lt_b, if_neg (show ¬ nI 5 = (1 : Int32) by decide), if_neg (show ¬ nI 5 = (4 : Int32) by decide)]
          simp (disch := omega) only [li, nI_add, pk_mul, ck_in, nI_clamp, M_get, lt_b]
      · refine PQ_0 (ans := nI (s (616 + b))) (fun I z => ?_) (fun I q hI => ?_)
        · refine (eC I z).trans ?_
          unfold pX6_ofBlock
          rw [if_neg (show ¬ nI 6 = (0 : Int32) by decide), if_neg (show ¬ nI 6 = (1 : Int32) by decide), if_neg (show ¬ nI 6 = (2 : Int32) by decide), if_neg (show ¬ nI 6 = (3 : Int32) by decide), if_neg (show ¬ nI 6 = (4 : Int32) by decide), if_neg (show ¬ nI 6 = (5 : Int32) by decide), if_pos (show nI 6 = (6 : Int32) from rfl), ck_in (by omega) (by omega), nI_clamp (by omega), cg_proved (by omega), bn_s]
        · refine (eM I q hI).trans ?_
          rw [if_pos d, if_neg (show ¬ nI 6 = (7 : Int32) by decide), lt_b, if_neg (show ¬ nI 6 = (1 : Int32) by decide), if_neg (show ¬ nI 6 = (4 : Int32) by decide)]
          simp (disch := omega) only [li, nI_add, pk_mul, ck_in, nI_clamp, M_get, lt_b]
      · refine PQ_0 (ans := nI (if b = 0 ∨ s (716 + b) = 1 then 1 else 0)) (fun I z => ?_) (fun I q hI => ?_)
        · refine (eC I z).trans ?_
          unfold pX6_ofBlock
          rw [if_neg (show ¬ nI 7 = (0 : Int32) by decide), if_neg (show ¬ nI 7 = (1 : Int32) by decide), if_neg (show ¬ nI 7 = (2 : Int32) by decide), if_neg (show ¬ nI 7 = (3 : Int32) by decide), if_neg (show ¬ nI 7 = (4 : Int32) by decide), if_neg (show ¬ nI 7 = (5 : Int32) by decide), if_neg (show ¬ nI 7 = (6 : Int32) by decide), if_pos (show nI 7 = (7 : Int32) from rfl), ck_in (by omega) (by omega), nI_clamp (by omega)]
          by_cases e0 : b = 0
          · subst e0
            rw [cg_cert0, bn_s, if_pos (Or.inl rfl)]
          · rw [cg_cert (by omega) e0, bn_s]
            by_cases e1 : s (716 + b) = 1
            · rw [if_pos (Or.inr e1), e1]
            · rw [if_neg (by omega), show s (716 + b) = 0 by omega]
        · refine (eM I q hI).trans ?_
          rw [if_pos d, if_pos (show nI 7 = (7 : Int32) from rfl), r_isCertified (by omega) (by omega), bn_s, if_n01]
          by_cases e : b = 0 ∨ s (716 + b) = 1
          · rw [if_pos e, if_pos e]; rfl
          · rw [if_neg e, if_neg e]; rfl
    · refine PQ_0 (ans := -1) (fun I z => ?_) (fun I q hI => (eM I q hI).trans (if_neg d))
      refine (eC I z).trans ?_
      unfold pX6_ofBlock
      rw [if_neg (show ¬ y = (0 : Int32) from inb_ne d (j := 0) (by omega) (by omega)), if_neg (show ¬ y = (1 : Int32) from inb_ne d (j := 1) (by omega) (by omega)), if_neg (show ¬ y = (2 : Int32) from inb_ne d (j := 2) (by omega) (by omega)), if_neg (show ¬ y = (3 : Int32) from inb_ne d (j := 3) (by omega) (by omega)), if_neg (show ¬ y = (4 : Int32) from inb_ne d (j := 4) (by omega) (by omega)), if_neg (show ¬ y = (5 : Int32) from inb_ne d (j := 5) (by omega) (by omega)), if_neg (show ¬ y = (6 : Int32) from inb_ne d (j := 6) (by omega) (by omega)), if_neg (show ¬ y = (7 : Int32) from inb_ne d (j := 7) (by omega) (by omega)), bn_s]
  · refine PQ_0 (ans := -1) (fun I z => ?_) (fun I q hI => ?_)
    · show pX9_block n z _ _ _ = _
      unfold pX9_block
      rw [c_blk, bn_s, if_b, if_neg c]
    · show pX10_block n q _ _ _ = _
      unfold pX10_block
      rw [Mt hI, lt_b, r_blk, bn_s, if_b, if_neg c]

theorem pq_node (hs : okS s) {x y : Int32} : PQt (fun z => pX9_node n z x y) (fun q => pX10_node n q x y) s h r := by
  have h0 := hs.2.2.1.1
  have h3 := hs.b3
  by_cases c : gd x (s 0 + 4) = true
  · obtain ⟨k, hk, rfl⟩ := gd_e c (by omega)
    have l1 := (hs.2.2.2.1 k (by omega)).2.1.1
    have eC : ∀ (I : ev_I) z, pX9_node n z (nI k) y (C (z + 1) I s h r) = (pX6_ofNode n (z + 1) (nI k) y (C (z + 1) I s h r)).bind fun z4 => some z4 := by
      intro I z
      unfold pX9_node
      rw [c_node, bn_s, if_b, if_pos c]
    by_cases d : inb y (nI 0) (nI 12) = true
    · have eM : ∀ (I : ev_I) q, I q 0 = 0 → ∀ o, (if y = (1 : Int32) then (pX10_viewOf n q (nI k) (M q I s)).bind fun z21 => some (z21, M q I s) else if y = (8 : Int32) then (pX10_logMany n q (nI k) (M q I s)).bind fun z20 => some (z20, M q I s) else if y = (9 : Int32) then (pX10_logLast n q (nI k) (M q I s)).bind fun z19 => some (z19, M q I s) else if y = (10 : Int32) then ev_ck (ev_in (nI (2416 + 513 * k) + (9 : Int32)) 6010) <| some ((M q I s (q + 1) (nI (2416 + 513 * k) + (9 : Int32)).toNatClampNeg), M q I s) else if y = (11 : Int32) then (pX10_canPropose n q (nI k) (M q I s)).bind fun z16 => if z16 = 0 then some ((0 : Int32), M q I s) else some ((1 : Int32), M q I s) else if y = (12 : Int32) then (pX10_canTimeOut n q (nI k) (M q I s)).bind fun z14 => if z14 = 0 then some ((0 : Int32), M q I s) else some ((1 : Int32), M q I s) else ev_ck (ev_in (nI (2416 + 513 * k) + y) 6010) <| some ((M q I s (q + 1) (nI (2416 + 513 * k) + y).toNatClampNeg), M q I s)) = some o → pX10_node n q (nI k) y (M q I s) = some o := by
        intro I q hI o ho
        unfold pX10_node
        rw [Mt hI, lt_b, r_node, bn_s, if_b, if_pos c, r_inb, bn_s, if_b, if_pos (show inb y (0 : Int32) (12 : Int32) = true from d), r_nodeAt, bn_s]
        exact ho
      obtain ⟨j, -, hj, rfl⟩ := inb_e d (by omega) (by omega)
      have hj' : j = 0 ∨ j = 1 ∨ j = 2 ∨ j = 3 ∨ j = 4 ∨ j = 5 ∨ j = 6 ∨ j = 7 ∨ j = 8 ∨ j = 9 ∨ j = 10 ∨ j = 11 ∨ j = 12 := by omega
      rcases hj' with rfl | rfl | rfl | rfl | rfl | rfl | rfl | rfl | rfl | rfl | rfl | rfl | rfl
      · refine PQ_0 (ans := nI (s (2416 + 513 * k))) (fun I z => ?_) (fun I q hI => eM I q hI _ ?_)
        · refine (eC I z).trans ?_
          unfold pX6_ofNode
          rw [ck_in (by omega) (by omega), nI_clamp (by omega), if_pos (show nI 0 = (0 : Int32) from rfl), cg_mode (by omega), bn_s]
        · rw [if_neg (show ¬ nI 0 = (1 : Int32) by decide), if_neg (show ¬ nI 0 = (8 : Int32) by decide), if_neg (show ¬ nI 0 = (9 : Int32) by decide), if_neg (show ¬ nI 0 = (10 : Int32) by decide), if_neg (show ¬ nI 0 = (11 : Int32) by decide), if_neg (show ¬ nI 0 = (12 : Int32) by decide)]
          simp (disch := omega) only [li, nI_add, ck_in, nI_clamp, M_get, Nat.add_zero]
      · refine PQ_0 (ans := nI (s (2416 + 513 * k + 1) + 1)) (fun I z => ?_) (fun I q hI => eM I q hI _ ?_)
        · refine (eC I z).trans ?_
          unfold pX6_ofNode
          rw [ck_in (by omega) (by omega), nI_clamp (by omega), if_neg (show ¬ nI 1 = (0 : Int32) by decide), if_pos (show nI 1 = (1 : Int32) from rfl), cg_mview (by omega), bn_s]
        · rw [if_pos (show nI 1 = (1 : Int32) from rfl)]
          rw [r_viewOf (by omega), bn_s]
      · refine PQ_0 (ans := nI (s (2416 + 513 * k + 2))) (fun I z => ?_) (fun I q hI => eM I q hI _ ?_)
        · refine (eC I z).trans ?_
          unfold pX6_ofNode
          rw [ck_in (by omega) (by omega), nI_clamp (by omega), if_neg (show ¬ nI 2 = (0 : Int32) by decide), if_neg (show ¬ nI 2 = (1 : Int32) by decide), if_pos (show nI 2 = (2 : Int32) from rfl), cg_voted (by omega), bn_s]
        · rw [if_neg (show ¬ nI 2 = (1 : Int32) by decide), if_neg (show ¬ nI 2 = (8 : Int32) by decide), if_neg (show ¬ nI 2 = (9 : Int32) by decide), if_neg (show ¬ nI 2 = (10 : Int32) by decide), if_neg (show ¬ nI 2 = (11 : Int32) by decide), if_neg (show ¬ nI 2 = (12 : Int32) by decide)]
          simp (disch := omega) only [li, nI_add, ck_in, nI_clamp, M_get, Nat.add_zero]
      · refine PQ_0 (ans := nI (s (2416 + 513 * k + 3))) (fun I z => ?_) (fun I q hI => eM I q hI _ ?_)
        · refine (eC I z).trans ?_
          unfold pX6_ofNode
          rw [ck_in (by omega) (by omega), nI_clamp (by omega), if_neg (show ¬ nI 3 = (0 : Int32) by decide), if_neg (show ¬ nI 3 = (1 : Int32) by decide), if_neg (show ¬ nI 3 = (2 : Int32) by decide), if_pos (show nI 3 = (3 : Int32) from rfl), cg_prop (by omega), bn_s]
        · rw [if_neg (show ¬ nI 3 = (1 : Int32) by decide), if_neg (show ¬ nI 3 = (8 : Int32) by decide), if_neg (show ¬ nI 3 = (9 : Int32) by decide), if_neg (show ¬ nI 3 = (10 : Int32) by decide), if_neg (show ¬ nI 3 = (11 : Int32) by decide), if_neg (show ¬ nI 3 = (12 : Int32) by decide)]
          simp (disch := omega) only [li, nI_add, ck_in, nI_clamp, M_get, Nat.add_zero]
      · refine PQ_0 (ans := nI (s (2416 + 513 * k + 4))) (fun I z => ?_) (fun I q hI => eM I q hI _ ?_)
        · refine (eC I z).trans ?_
          unfold pX6_ofNode
          rw [ck_in (by omega) (by omega), nI_clamp (by omega), if_neg (show ¬ nI 4 = (0 : Int32) by decide), if_neg (show ¬ nI 4 = (1 : Int32) by decide), if_neg (show ¬ nI 4 = (2 : Int32) by decide), if_neg (show ¬ nI 4 = (3 : Int32) by decide), if_pos (show nI 4 = (4 : Int32) from rfl), cg_timed (by omega), bn_s]
        · rw [if_neg (show ¬ nI 4 = (1 : Int32) by decide), if_neg (show ¬ nI 4 = (8 : Int32) by decide), if_neg (show ¬ nI 4 = (9 : Int32) by decide), if_neg (show ¬ nI 4 = (10 : Int32) by decide), if_neg (show ¬ nI 4 = (11 : Int32) by decide), if_neg (show ¬ nI 4 = (12 : Int32) by decide)]
          simp (disch := omega) only [li, nI_add, ck_in, nI_clamp, M_get, Nat.add_zero]
      · refine PQ_0 (ans := nI (s (2416 + 513 * k + 5))) (fun I z => ?_) (fun I q hI => eM I q hI _ ?_)
        · refine (eC I z).trans ?_
          unfold pX6_ofNode
          rw [ck_in (by omega) (by omega), nI_clamp (by omega), if_neg (show ¬ nI 5 = (0 : Int32) by decide), if_neg (show ¬ nI 5 = (1 : Int32) by decide), if_neg (show ¬ nI 5 = (2 : Int32) by decide), if_neg (show ¬ nI 5 = (3 : Int32) by decide), if_neg (show ¬ nI 5 = (4 : Int32) by decide), if_pos (show nI 5 = (5 : Int32) from rfl), cg_high (by omega), bn_s]
        · rw [if_neg (show ¬ nI 5 = (1 : Int32) by decide), if_neg (show ¬ nI 5 = (8 : Int32) by decide), if_neg (show ¬ nI 5 = (9 : Int32) by decide), if_neg (show ¬ nI 5 = (10 : Int32) by decide), if_neg (show ¬ nI 5 = (11 : Int32) by decide), if_neg (show ¬ nI 5 = (12 : Int32) by decide)]
          simp (disch := omega) only [li, nI_add, ck_in, nI_clamp, M_get, Nat.add_zero]
      · refine PQ_0 (ans := nI (s (2416 + 513 * k + 6))) (fun I z => ?_) (fun I q hI => eM I q hI _ ?_)
        · refine (eC I z).trans ?_
          unfold pX6_ofNode
          rw [ck_in (by omega) (by omega), nI_clamp (by omega), if_neg (show ¬ nI 6 = (0 : Int32) by decide), if_neg (show ¬ nI 6 = (1 : Int32) by decide), if_neg (show ¬ nI 6 = (2 : Int32) by decide), if_neg (show ¬ nI 6 = (3 : Int32) by decide), if_neg (show ¬ nI 6 = (4 : Int32) by decide), if_neg (show ¬ nI 6 = (5 : Int32) by decide), if_pos (show nI 6 = (6 : Int32) from rfl), cg_lock (by omega), bn_s]
        · rw [if_neg (show ¬ nI 6 = (1 : Int32) by decide), if_neg (show ¬ nI 6 = (8 : Int32) by decide), if_neg (show ¬ nI 6 = (9 : Int32) by decide), if_neg (show ¬ nI 6 = (10 : Int32) by decide), if_neg (show ¬ nI 6 = (11 : Int32) by decide), if_neg (show ¬ nI 6 = (12 : Int32) by decide)]
          simp (disch := omega) only [li, nI_add, ck_in, nI_clamp, M_get, Nat.add_zero]
      · refine PQ_0 (ans := nI (s (2416 + 513 * k + 7))) (fun I z => ?_) (fun I q hI => eM I q hI _ ?_)
        · refine (eC I z).trans ?_
          unfold pX6_ofNode
          rw [ck_in (by omega) (by omega), nI_clamp (by omega), if_neg (show ¬ nI 7 = (0 : Int32) by decide), if_neg (show ¬ nI 7 = (1 : Int32) by decide), if_neg (show ¬ nI 7 = (2 : Int32) by decide), if_neg (show ¬ nI 7 = (3 : Int32) by decide), if_neg (show ¬ nI 7 = (4 : Int32) by decide), if_neg (show ¬ nI 7 = (5 : Int32) by decide), if_neg (show ¬ nI 7 = (6 : Int32) by decide), if_pos (show nI 7 = (7 : Int32) from rfl), cg_proof (by omega), bn_s]
        · rw [if_neg (show ¬ nI 7 = (1 : Int32) by decide), if_neg (show ¬ nI 7 = (8 : Int32) by decide), if_neg (show ¬ nI 7 = (9 : Int32) by decide), if_neg (show ¬ nI 7 = (10 : Int32) by decide), if_neg (show ¬ nI 7 = (11 : Int32) by decide), if_neg (show ¬ nI 7 = (12 : Int32) by decide)]
          simp (disch := omega) only [li, nI_add, ck_in, nI_clamp, M_get, Nat.add_zero]
      · refine PQ_0 (ans := nI (s (2416 + 513 * k + 8) + 1)) (fun I z => ?_) (fun I q hI => eM I q hI _ ?_)
        · refine (eC I z).trans ?_
          unfold pX6_ofNode
          rw [ck_in (by omega) (by omega), nI_clamp (by omega), if_neg (show ¬ nI 8 = (0 : Int32) by decide), if_neg (show ¬ nI 8 = (1 : Int32) by decide), if_neg (show ¬ nI 8 = (2 : Int32) by decide), if_neg (show ¬ nI 8 = (3 : Int32) by decide), if_neg (show ¬ nI 8 = (4 : Int32) by decide), if_neg (show ¬ nI 8 = (5 : Int32) by decide), if_neg (show ¬ nI 8 = (6 : Int32) by decide), if_neg (show ¬ nI 8 = (7 : Int32) by decide), if_pos (show nI 8 = (8 : Int32) from rfl), cg_logn (by omega), bn_s]
        · rw [if_neg (show ¬ nI 8 = (1 : Int32) by decide), if_pos (show nI 8 = (8 : Int32) from rfl)]
          rw [r_logMany (by omega), bn_s]
      · refine PQ_0 (ans := nI (s (2416 + 513 * k + 12 + s (2416 + 513 * k + 8)))) (fun I z => ?_) (fun I q hI => eM I q hI _ ?_)
        · refine (eC I z).trans ?_
          unfold pX6_ofNode
          rw [ck_in (by omega) (by omega), nI_clamp (by omega), if_neg (show ¬ nI 9 = (0 : Int32) by decide), if_neg (show ¬ nI 9 = (1 : Int32) by decide), if_neg (show ¬ nI 9 = (2 : Int32) by decide), if_neg (show ¬ nI 9 = (3 : Int32) by decide), if_neg (show ¬ nI 9 = (4 : Int32) by decide), if_neg (show ¬ nI 9 = (5 : Int32) by decide), if_neg (show ¬ nI 9 = (6 : Int32) by decide), if_neg (show ¬ nI 9 = (7 : Int32) by decide), if_neg (show ¬ nI 9 = (8 : Int32) by decide), if_pos (show nI 9 = (9 : Int32) from rfl), c_last (by omega) (by omega), bn_s, bn_s]
        · rw [if_neg (show ¬ nI 9 = (1 : Int32) by decide), if_neg (show ¬ nI 9 = (8 : Int32) by decide), if_pos (show nI 9 = (9 : Int32) from rfl)]
          rw [r_logLast (by omega) (by omega), bn_s]
      · refine PQ_0 (ans := nI (s (2416 + 513 * k + 9))) (fun I z => ?_) (fun I q hI => eM I q hI _ ?_)
        · refine (eC I z).trans ?_
          unfold pX6_ofNode
          rw [ck_in (by omega) (by omega), nI_clamp (by omega), if_neg (show ¬ nI 10 = (0 : Int32) by decide), if_neg (show ¬ nI 10 = (1 : Int32) by decide), if_neg (show ¬ nI 10 = (2 : Int32) by decide), if_neg (show ¬ nI 10 = (3 : Int32) by decide), if_neg (show ¬ nI 10 = (4 : Int32) by decide), if_neg (show ¬ nI 10 = (5 : Int32) by decide), if_neg (show ¬ nI 10 = (6 : Int32) by decide), if_neg (show ¬ nI 10 = (7 : Int32) by decide), if_neg (show ¬ nI 10 = (8 : Int32) by decide), if_neg (show ¬ nI 10 = (9 : Int32) by decide), if_pos (show nI 10 = (10 : Int32) from rfl), cg_forks (by omega), bn_s]
        · rw [if_neg (show ¬ nI 10 = (1 : Int32) by decide), if_neg (show ¬ nI 10 = (8 : Int32) by decide), if_neg (show ¬ nI 10 = (9 : Int32) by decide), if_pos (show nI 10 = (10 : Int32) from rfl)]
          simp (disch := omega) only [li, nI_add, ck_in, nI_clamp, M_get, Nat.add_zero]
      · refine PQ_0 (ans := nI (if cP s k = true then 1 else 0)) (fun I z => ?_) (fun I q hI => eM I q hI _ ?_)
        · refine (eC I z).trans ?_
          unfold pX6_ofNode
          rw [ck_in (by omega) (by omega), nI_clamp (by omega), if_neg (show ¬ nI 11 = (0 : Int32) by decide), if_neg (show ¬ nI 11 = (1 : Int32) by decide), if_neg (show ¬ nI 11 = (2 : Int32) by decide), if_neg (show ¬ nI 11 = (3 : Int32) by decide), if_neg (show ¬ nI 11 = (4 : Int32) by decide), if_neg (show ¬ nI 11 = (5 : Int32) by decide), if_neg (show ¬ nI 11 = (6 : Int32) by decide), if_neg (show ¬ nI 11 = (7 : Int32) by decide), if_neg (show ¬ nI 11 = (8 : Int32) by decide), if_neg (show ¬ nI 11 = (9 : Int32) by decide), if_neg (show ¬ nI 11 = (10 : Int32) by decide), if_pos (show nI 11 = (11 : Int32) from rfl), c_canP hs hk, bn_s, fl_if, bn_s, bn_s]
        · rw [if_neg (show ¬ nI 11 = (1 : Int32) by decide), if_neg (show ¬ nI 11 = (8 : Int32) by decide), if_neg (show ¬ nI 11 = (9 : Int32) by decide), if_neg (show ¬ nI 11 = (10 : Int32) by decide), if_pos (show nI 11 = (11 : Int32) from rfl)]
          rw [r_canP hs (by omega), bn_s, if_n01]
          split <;> rfl
      · refine PQ_0 (ans := nI (if cT s k = true then 1 else 0)) (fun I z => ?_) (fun I q hI => eM I q hI _ ?_)
        · refine (eC I z).trans ?_
          unfold pX6_ofNode
          rw [ck_in (by omega) (by omega), nI_clamp (by omega), if_neg (show ¬ nI 12 = (0 : Int32) by decide), if_neg (show ¬ nI 12 = (1 : Int32) by decide), if_neg (show ¬ nI 12 = (2 : Int32) by decide), if_neg (show ¬ nI 12 = (3 : Int32) by decide), if_neg (show ¬ nI 12 = (4 : Int32) by decide), if_neg (show ¬ nI 12 = (5 : Int32) by decide), if_neg (show ¬ nI 12 = (6 : Int32) by decide), if_neg (show ¬ nI 12 = (7 : Int32) by decide), if_neg (show ¬ nI 12 = (8 : Int32) by decide), if_neg (show ¬ nI 12 = (9 : Int32) by decide), if_neg (show ¬ nI 12 = (10 : Int32) by decide), if_neg (show ¬ nI 12 = (11 : Int32) by decide), if_pos (show nI 12 = (12 : Int32) from rfl), c_canT hs hk, bn_s, fl_if, bn_s, bn_s]
        · rw [if_neg (show ¬ nI 12 = (1 : Int32) by decide), if_neg (show ¬ nI 12 = (8 : Int32) by decide), if_neg (show ¬ nI 12 = (9 : Int32) by decide), if_neg (show ¬ nI 12 = (10 : Int32) by decide), if_neg (show ¬ nI 12 = (11 : Int32) by decide), if_pos (show nI 12 = (12 : Int32) from rfl)]
          rw [r_canT hs (by omega), bn_s, if_n01]
          split <;> rfl
    · refine PQ_0 (ans := -1) (fun I z => ?_) (fun I q hI => ?_)
      · refine (eC I z).trans ?_
        unfold pX6_ofNode
        rw [ck_in (by omega) (by omega), if_neg (show ¬ y = (0 : Int32) from inb_ne d (j := 0) (by omega) (by omega)), if_neg (show ¬ y = (1 : Int32) from inb_ne d (j := 1) (by omega) (by omega)), if_neg (show ¬ y = (2 : Int32) from inb_ne d (j := 2) (by omega) (by omega)), if_neg (show ¬ y = (3 : Int32) from inb_ne d (j := 3) (by omega) (by omega)), if_neg (show ¬ y = (4 : Int32) from inb_ne d (j := 4) (by omega) (by omega)), if_neg (show ¬ y = (5 : Int32) from inb_ne d (j := 5) (by omega) (by omega)), if_neg (show ¬ y = (6 : Int32) from inb_ne d (j := 6) (by omega) (by omega)), if_neg (show ¬ y = (7 : Int32) from inb_ne d (j := 7) (by omega) (by omega)), if_neg (show ¬ y = (8 : Int32) from inb_ne d (j := 8) (by omega) (by omega)), if_neg (show ¬ y = (9 : Int32) from inb_ne d (j := 9) (by omega) (by omega)), if_neg (show ¬ y = (10 : Int32) from inb_ne d (j := 10) (by omega) (by omega)), if_neg (show ¬ y = (11 : Int32) from inb_ne d (j := 11) (by omega) (by omega)), if_neg (show ¬ y = (12 : Int32) from inb_ne d (j := 12) (by omega) (by omega)), bn_s]
      · show pX10_node n q _ _ _ = _
        unfold pX10_node
        rw [Mt hI, lt_b, r_node, bn_s, if_b, if_pos c, r_inb, bn_s, if_b, if_neg (show ¬ inb y (0 : Int32) (12 : Int32) = true from d)]
  · refine PQ_0 (ans := -1) (fun I z => ?_) (fun I q hI => ?_)
    · show pX9_node n z _ _ _ = _
      unfold pX9_node
      rw [c_node, bn_s, if_b, if_neg c]
    · show pX10_node n q _ _ _ = _
      unfold pX10_node
      rw [Mt hI, lt_b, r_node, bn_s, if_b, if_neg c]

theorem r_atL (hB : okB s) {t : Nat} (ht : t < 1000) : ∀ (m x n : Nat), x ≤ s 3 → s (516 + x) ≤ m → m < n → lX10_atHeight_2 q n (nI t) (nI x) (M q I s) = some (nI (anc s m x t)) := by
  have h3 := hB.1
  intro m
  induction m with
  | zero =>
    intro x n hx hm hn
    obtain ⟨n, rfl⟩ : ∃ k, n = k + 1 := ⟨n - 1, by omega⟩
    show cX10_atHeight_2 q _ n _ _ _ = _
    simp (disch := omega) only [cX10_atHeight_2, li, nI_add, ck_in, nI_clamp, M_get, nI_leI]
    rw [if_pos (by omega)]
    rfl
  | succ m ih =>
    intro x n hx hm hn
    obtain ⟨n, rfl⟩ : ∃ k, n = k + 1 := ⟨n - 1, by omega⟩
    have e3 := hB.ht x hx
    show cX10_atHeight_2 q _ n _ _ _ = _
    simp (disch := omega) only [cX10_atHeight_2, li, nI_add, ck_in, nI_clamp, M_get, nI_leI]
    show _ = some (nI (if s (516 + x) ≤ t then x else anc s m (s (116 + x) - 1) t))
    by_cases hc : s (516 + x) ≤ t
    · rw [if_pos hc, if_pos hc]
    · rw [if_neg hc, if_neg hc]
      have h1 := hB.pos hx (by omega)
      obtain ⟨h2, h4, h5⟩ := hB.2.2.2 x h1 hx
      rw [r_parentOf (by omega) h2, bn_s]
      exact ih _ n (by omega) (by omega) (by omega)
theorem r_at (hB : okB s) {b t : Nat} (hb : b ≤ s 3) (ht : t < 1000) (hn : 101 ≤ n) : pX10_atHeight n q (nI b) (nI t) (M q I s) = some (nI (anc s 100 b t)) := r_atL hB ht 100 b n hb (by have := hB.ht b hb; have := hB.1; omega) (by omega)
theorem c_atL (hB : okB s) {t : Nat} (ht : t < 1000) : ∀ (m x st n : Nat), x ≤ s 3 → s (516 + x) ≤ m → st + m ≤ 100 → m < n → lX1_ancestorOfHeight_5 (w + 1) n (nI t) (nI x) (nI st) (C w I s h r) = some (nI (anc s m x t)) := by
  have h3 := hB.1
  intro m
  induction m with
  | zero =>
    intro x st n hx hm hst hn
    obtain ⟨n, rfl⟩ : ∃ k, n = k + 1 := ⟨n - 1, by omega⟩
    show cX1_ancestorOfHeight_5 (w + 1) _ n _ _ _ _ = _
    simp (disch := omega) only [cX1_ancestorOfHeight_5, li, ck_in, nI_clamp, cg_height, nI_leI]
    rw [if_pos (show s (516 + x) ≤ t by omega)]
    split <;> rfl
  | succ m ih =>
    intro x st n hx hm hst hn
    obtain ⟨n, rfl⟩ : ∃ k, n = k + 1 := ⟨n - 1, by omega⟩
    have e3 := hB.ht x hx
    show cX1_ancestorOfHeight_5 (w + 1) _ n _ _ _ _ = _
    simp (disch := omega) only [cX1_ancestorOfHeight_5, li, ck_in, nI_clamp, cg_height, nI_leI, nI_add, lt_b]
    show _ = some (nI (if s (516 + x) ≤ t then x else anc s m (s (116 + x) - 1) t))
    rw [if_neg (by omega)]
    by_cases hc : s (516 + x) ≤ t
    · rw [if_pos hc, if_pos hc]
    · rw [if_neg hc, if_neg hc]
      have h1 := hB.pos hx (by omega)
      obtain ⟨h2, h4, h5⟩ := hB.2.2.2 x h1 hx
      rw [cg_parent (by omega) h2]
      exact ih _ _ n (by omega) (by omega) (by omega) (by omega)
theorem c_atH (hB : okB s) {b t : Nat} (hb : b ≤ s 3) (ht : t < 1000) (hn : 101 ≤ n) : pX1_ancestorOfHeight n (w + 1) (nI b) (nI t) (C w I s h r) = some (nI (anc s 100 b t)) := c_atL hB ht 100 b 0 n hb (by have := hB.ht b hb; have := hB.1; omega) (by omega) (by omega)
theorem pq_path (hs : okS s) {x y : Int32} (hn : 200 ≤ n) : PQt (fun z => pX9_path n z x y) (fun q => pX10_path n q x y) s h r := by
  have h3 := hs.b3
  by_cases c : gd x (s 3 + 1) = true
  · obtain ⟨b, hb, rfl⟩ := gd_e c (by omega)
    have e3 := hs.1.ht b (by omega)
    have eM : ∀ (I : ev_I) q, I q 0 = 0 → pX10_path n q (nI b) y (M q I s) = if inb y (nI 0) (nI (s (516 + b))) = true then (pX10_atHeight n q (nI b) y (M q I s)).bind fun z7 => some (z7, M q I s) else some (-1, M q I s) := by
      intro I q hI
      unfold pX10_path
      rw [Mt hI, lt_b, r_blk, bn_s, if_b, if_pos c, show (516 : Int32) = nI 516 from rfl, nI_add, ck_in (by omega) (by omega), nI_clamp (by omega), M_get, r_inb, bn_s, if_b]
      rfl
    by_cases d : inb y (nI 0) (nI (s (516 + b))) = true
    · obtain ⟨t, -, ht, rfl⟩ := inb_e d (by omega) (by omega)
      refine PQ_0 (ans := nI (anc s 100 b t)) (fun I z => ?_) (fun I q hI => ?_)
      · show pX9_path n z _ _ _ = _
        unfold pX9_path
        rw [c_blk, bn_s, if_b, if_pos c, if_neg (nI_pos (by omega)), ck_in (by omega) (by omega), nI_clamp (by omega), cg_height (by omega), if_pos (nI_le (by omega) (by omega)), c_atH hs.1 (by omega) (by omega) (by omega), bn_s]
      · refine (eM I q hI).trans ?_
        rw [if_pos d, r_at hs.1 (by omega) (by omega) (by omega), bn_s]
    · refine PQ_0 (ans := -1) (fun I z => ?_) (fun I q hI => (eM I q hI).trans (if_neg d))
      show pX9_path n z _ _ _ = _
      unfold pX9_path
      rw [c_blk, bn_s, if_b, if_pos c]
      rcases inb_f d (by omega) (by omega) with e | ⟨j, hj, hj2, rfl⟩
      · rw [if_pos e]
      · rw [if_neg (nI_pos (by omega)), ck_in (by omega) (by omega), nI_clamp (by omega), cg_height (by omega), if_neg (nI_ge (by omega) (by omega))]
  · refine PQ_0 (ans := -1) (fun I z => ?_) (fun I q hI => ?_)
    · show pX9_path n z _ _ _ = _
      unfold pX9_path
      rw [c_blk, bn_s, if_b, if_neg c]
    · show pX10_path n q _ _ _ = _
      unfold pX10_path
      rw [Mt hI, lt_b, r_blk, bn_s, if_b, if_neg c]
/-- messages that go to a node -/
def pnN (s : Nat → Nat) (k kd : Nat) : Nat → Nat → Nat
  | 0, _ => 0
  | m + 1, i => (if s (816 + 5 * i + 1) = k ∧ (kd = 0 ∨ s (816 + 5 * i + 2) = kd) then 1 else 0) + pnN s k kd m (i + 1)
theorem okm_b (hs : okS s) {i : Nat} (hi : i < s 4) : s (816 + 5 * i + 1) < 7 ∧ s (816 + 5 * i + 2) < 4 := by
  have := hs.2.2.2.2.1 i hi
  omega
theorem r_pnL (hs : okS s) {k kd : Nat} (hk : k < 7) (hd : kd < 4) : ∀ (m i c n : Nat), i + m = s 4 → m < n → lX10_pending_30 q n (nI k) (nI kd) (nI c) (nI i) (M q I s) = some (nI (c + pnN s k kd m i), M q I s) := by
  have h4 := hs.2.2.1.2.2.1
  intro m
  induction m with
  | zero =>
    intro i c n hi hn
    obtain ⟨n, rfl⟩ : ∃ k, n = k + 1 := ⟨n - 1, by omega⟩
    show cX10_pending_30 q _ n _ _ _ _ _ = _
    unfold cX10_pending_30
    rw [show (4 : Int32).toNatClampNeg = 4 from rfl, M_get, if_pos (nI_le (by omega) (by omega))]
    rfl
  | succ m ih =>
    intro i c n hi hn
    obtain ⟨n, rfl⟩ : ∃ k, n = k + 1 := ⟨n - 1, by omega⟩
    have hb := okm_b hs (i := i) (by omega)
    show cX10_pending_30 q _ n _ _ _ _ _ = _
    unfold cX10_pending_30 cX10_pending_81 cX10_pending_85
    rw [show (4 : Int32).toNatClampNeg = 4 from rfl, M_get, if_neg (nI_ge (by omega) (by omega))]
    simp (disch := omega) only [li, pk_mul, nI_add, lt_b, ck_in, nI_clamp, M_get, nI_eq]
    show _ = some (nI (c + ((if s (816 + 5 * i + 1) = k ∧ (kd = 0 ∨ s (816 + 5 * i + 2) = kd) then 1 else 0) + pnN s k kd m (i + 1))), _)
    by_cases a : s (816 + 5 * i + 1) = k
    · by_cases b : kd = 0
      · rw [if_pos a, if_pos b, if_pos ⟨a, Or.inl b⟩, ih _ _ n (by omega) (by omega), Nat.add_assoc]
      · by_cases e : s (816 + 5 * i + 2) = kd
        · rw [if_pos a, if_neg b, if_pos e, if_pos ⟨a, Or.inr e⟩, ih _ _ n (by omega) (by omega), Nat.add_assoc]
        · rw [if_pos a, if_neg b, if_neg e, if_neg (by omega), ih _ _ n (by omega) (by omega), Nat.zero_add]
    · rw [if_neg a, if_neg (by omega), ih _ _ n (by omega) (by omega), Nat.zero_add]
theorem c_pnL (hs : okS s) (hr : okR s h r) {k kd : Nat} (hk : k < 7) (hd : kd < 4) : ∀ (m i c n : Nat), i + m = s 4 → m < n → lX4_countTo_5 (w + 11) n (nI k) (nI kd) (nI c) (nI i) (C w I s h r) = some (nI (c + pnN s k kd m i)) := by
  have h4 := hs.2.2.1.2.2.1
  intro m
  induction m with
  | zero =>
    intro i c n hi hn
    obtain ⟨n, rfl⟩ : ∃ k, n = k + 1 := ⟨n - 1, by omega⟩
    show cX4_countTo_5 (w + 11) _ n _ _ _ _ _ = _
    unfold cX4_countTo_5
    rw [cg_nc, if_pos (nI_le (by omega) (by omega))]
    rfl
  | succ m ih =>
    intro i c n hi hn
    obtain ⟨n, rfl⟩ : ∃ k, n = k + 1 := ⟨n - 1, by omega⟩
    have hb := okm_b hs (i := i) (by omega)
    have hm := fun (n : Nat) (I : ev_I) => c_msg (n := n) (I := I) hs (k := i) (by omega)
    show cX4_countTo_5 (w + 11) _ n _ _ _ _ _ = _
    unfold cX4_countTo_5 cX4_countTo_44 cX4_countTo_47
    rw [cg_nc, if_neg (nI_ge (by omega) (by omega)), c_at hr.1 (by omega), bn_s, hr.2.1 i (by omega), (hm n _).2.1, bn_s, (hm n _).2.2.1, bn_s]
    simp (disch := omega) only [li, nI_add, lt_b, nI_eq]
    show _ = some (nI (c + ((if s (816 + 5 * i + 1) = k ∧ (kd = 0 ∨ s (816 + 5 * i + 2) = kd) then 1 else 0) + pnN s k kd m (i + 1))))
    by_cases a : s (816 + 5 * i + 1) = k
    · by_cases b : kd = 0
      · rw [if_pos a, if_pos b, if_pos ⟨a, Or.inl b⟩, ih _ _ n (by omega) (by omega), Nat.add_assoc]
      · by_cases e : s (816 + 5 * i + 2) = kd
        · rw [if_pos a, if_neg b, if_pos e, if_pos ⟨a, Or.inr e⟩, ih _ _ n (by omega) (by omega), Nat.add_assoc]
        · rw [if_pos a, if_neg b, if_neg e, if_neg (by omega), ih _ _ n (by omega) (by omega), Nat.zero_add]
    · rw [if_neg a, if_neg (by omega), ih _ _ n (by omega) (by omega), Nat.zero_add]
theorem pq_pending (hs : okS s) (hr : okR s h r) {x y : Int32} (hn : 300 ≤ n) : PQt (fun z => pX9_pending n z x y) (fun q => pX10_pending n q x y) s h r := by
  have h0 := hs.2.2.1.1
  have h4 := hs.2.2.1.2.2.1
  by_cases c : gd x (s 0 + 4) = true
  · obtain ⟨k, hk, rfl⟩ := gd_e c (by omega)
    by_cases d : inb y (nI 0) (nI 3) = true
    · obtain ⟨t, -, ht, rfl⟩ := inb_e d (by omega) (by omega)
      refine PQ_0 (ans := nI (0 + pnN s k t (s 4) 0)) (fun I z => ?_) (fun I q hI => ?_)
      · show pX9_pending n z _ _ _ = _
        unfold pX9_pending pX4_countTo
        rw [c_node, bn_s, if_b, if_pos c, if_neg (nI_pos (by omega)), if_pos (show nI t ≤ (3 : Int32) from nI_le (b := 3) ht (by omega)), show (0 : Int32) = nI 0 from rfl, c_pnL hs hr (by omega) (by omega) (s 4) 0 0 n (by omega) (by omega), bn_s]
      · show pX10_pending n q _ _ _ = _
        unfold pX10_pending
        rw [Mt hI, lt_b, r_node, bn_s, if_b, if_pos c, r_inb, bn_s, if_b, if_pos (show inb (nI t) (0 : Int32) (3 : Int32) = true from d)]
        exact r_pnL hs (by omega) (by omega) (s 4) 0 0 n (by omega) (by omega)
    · refine PQ_0 (ans := -1) (fun I z => ?_) (fun I q hI => ?_)
      · show pX9_pending n z _ _ _ = _
        unfold pX9_pending
        rw [c_node, bn_s, if_b, if_pos c]
        rcases inb_f d (by omega) (by omega) with e | ⟨j, hj, hj2, rfl⟩
        · rw [if_pos e]
        · rw [if_neg (nI_pos (by omega)), if_neg (show ¬ nI j ≤ (3 : Int32) from nI_ge (a := 3) (by omega) hj)]
      · show pX10_pending n q _ _ _ = _
        unfold pX10_pending
        rw [Mt hI, lt_b, r_node, bn_s, if_b, if_pos c, r_inb, bn_s, if_b, if_neg (show ¬ inb y (0 : Int32) (3 : Int32) = true from d)]
  · refine PQ_0 (ans := -1) (fun I z => ?_) (fun I q hI => ?_)
    · show pX9_pending n z _ _ _ = _
      unfold pX9_pending
      rw [c_node, bn_s, if_b, if_neg c]
    · show pX10_pending n q _ _ _ = _
      unfold pX10_pending
      rw [Mt hI, lt_b, r_node, bn_s, if_b, if_neg c]
end F3
