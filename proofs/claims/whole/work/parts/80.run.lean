/-! RUN: up to 24 lines -/
theorem ok_9 {s : Nat → Nat} {v : Nat} (hs : okS s) : okS (up s 9 v) := by
  obtain ⟨hB, hC, hZ, hN, hM, hE⟩ := hs
  have h3 := hB.1
  have e0 : ∀ j, j ≠ 9 → up s 9 v j = s j := fun j hj => up_o hj
  refine ⟨?_, ?_, ⟨by rw [e0 0 (by omega)]; exact hZ.1, by rw [e0 1 (by omega)]; exact hZ.2.1, by rw [e0 4 (by omega)]; exact hZ.2.2.1, by rw [e0 8 (by omega)]; exact hZ.2.2.2⟩, ?_, okM_c hM hZ.2.2.1 (e0 3 (by omega)) (e0 4 (by omega)) (fun j h1 h2 => e0 j (by omega)), okE_c hE (e0 7 (by omega)) (fun j h1 h2 => e0 j (by omega))⟩
  · refine ⟨by rw [e0 3 (by omega)]; exact hB.1, by rw [e0 516 (by omega)]; exact hB.2.1, by rw [e0 116 (by omega)]; exact hB.2.2.1, fun b h1 h2 => ?_⟩
    rw [e0 3 (by omega)] at h2
    rw [e0 (116 + b) (by omega), e0 (516 + b) (by omega), e0 (516 + (s (116 + b) - 1)) (by omega)]
    exact hB.2.2.2 b h1 h2
  · obtain ⟨a1, a2, a3, a4, a5, a6, a7⟩ := hC
    refine ⟨by rw [e0 _ (by omega)]; exact a1, by rw [e0 _ (by omega)]; exact a2, by rw [e0 _ (by omega)]; exact a3, by rw [e0 _ (by omega)]; exact a4, by rw [e0 _ (by omega)]; exact a5, fun b hb => ?_, fun b h1 hb => ?_⟩
    · rw [e0 3 (by omega)] at hb
      rw [e0 (16 + b) (by omega), e0 (216 + b) (by omega), e0 (316 + b) (by omega), e0 (416 + b) (by omega), e0 (616 + b) (by omega), e0 (716 + b) (by omega)]
      exact a6 b hb
    · rw [e0 3 (by omega)] at hb
      rw [e0 (16 + b) (by omega), e0 (216 + b) (by omega), e0 (416 + b) (by omega)]
      exact a7 b h1 hb
  · intro k hk
    obtain ⟨⟨f1, f2, f3, f4, f5, f6, f7, f8, f9, f10, f11⟩, ⟨l1, l2, l3⟩, ⟨g1, g2, g3⟩⟩ := hN k hk
    have e3 := e0 3 (by omega)
    refine ⟨⟨?_, ?_, ?_, ?_, ?_, ?_, ?_, ?_, ?_, fun b hb => ?_, fun v hv => ?_⟩, ⟨?_, fun i hi => ?_, fun i hi => ?_⟩, ⟨?_, fun j hj => ?_, fun i j hij hj => ?_⟩⟩
    · rw [e0 _ (by omega)]; exact f1
    · rw [e0 _ (by omega)]; exact f2
    · rw [e0 _ (by omega)]; exact f3
    · rw [e0 _ (by omega)]; exact f4
    · rw [e0 _ (by omega)]; exact f5
    · rw [e0 _ (by omega), e3]; exact f6
    · rw [e0 _ (by omega), e3]; exact f7
    · rw [e0 _ (by omega)]; exact f8
    · rw [e0 _ (by omega)]; exact f9
    · rw [e0 _ (by omega)]; exact f10 _ hb
    · rw [e0 _ (by omega)]; exact f11 v hv
    · rw [e0 _ (by omega), e3]; exact l1
    · rw [e0 (2416 + 513 * k + 8) (by omega)] at hi
      rw [e0 (2416 + 513 * k + 12 + i) (by omega), e3, e0 (516 + _) (by omega)]
      exact l2 i hi
    · rw [e0 (2416 + 513 * k + 8) (by omega)] at hi
      rw [e0 (2416 + 513 * k + 12 + (i + 1)) (by omega), e0 (2416 + 513 * k + 12 + i) (by omega), e0 (116 + _) (by omega)]
      exact l3 i hi
    · rw [e0 _ (by omega), e3]; exact g1
    · rw [e0 (2416 + 513 * k + 10) (by omega)] at hj
      rw [e0 (2416 + 513 * k + 112 + j) (by omega), e3]
      exact g2 j hj
    · rw [e0 (2416 + 513 * k + 10) (by omega)] at hj
      rw [e0 (2416 + 513 * k + 112 + j) (by omega), e0 (2416 + 513 * k + 112 + i) (by omega)]
      exact g3 i j hij hj
theorem okX_9 {s : Nat → Nat} {v : Nat} (hs : okS s) (h1 : okX s) : okX (up s 9 v) := okX_c h1 hs.2.2.2.2.2.1 (Nat.le_of_eq (up_o (by omega)).symm) (fun k hk b _ _ => up_o (by omega)) (up_o (by omega)) (fun j _ _ => up_o (by omega))
theorem okR_9 {s : Nat → Nat} {v h : Nat} {r : Nat → Int32} (hs : okS s) (h1 : okR s h r) : okR (up s 9 v) h r := okR_c h1 hs.2.2.1.2.2.1 (up_o (by omega)) (up_o (by omega)) (fun j _ _ => up_o (by omega))
section Ru
variable {n w q z h p : Nat} {I : ev_I} {s : Nat → Nat} {r : Nat → Int32} {v : Int32} {F : Nat → Nat × Nat × Nat × Nat}
theorem cu_C {m : Nat} : cu (w + 18) (nI m) (C w I s h r) = C w I (up s 9 m) h r := C_put (o := 18) (j := 1) (k := 9) (v := m) (by omega) rfl (by omega) rfl
theorem C_18 : C w I s h r (w + 18) 1 = nI (s 9) := C_get (o := 18) (j := 1) (k := 9) (by omega) rfl
theorem C_180 : C w I s h r (w + 18) 0 = I (w + 18) 0 := by
  unfold C
  rw [if_pos (by omega), show w + 18 - w = 18 by omega]
  show (if w + 18 = w + 11 ∧ 0 = 1 then _ else _) = _
  rw [if_neg (by omega), if_neg (by omega), if_neg (by omega), if_neg (by omega)]
theorem run_L {T : Nat} (hT : T ≤ 24) (hp : p ≤ 24) (hF : ∀ i, i < p → okLn (F i)) (hI : CLn (z + 1 + 18) p F I) : ∀ (m i y n : Nat) (s : Nat → Nat) (h : Nat) (r : Nat → Int32), okS s → okX s → okR s h r → s 9 ≤ p → i + m = T → y ≤ i → 7000 + m < n → ∃ y' s' h' r', okS s' ∧ okX s' ∧ okR s' h' r' ∧ s' 9 ≤ p ∧ lX9_run_17 z n (nI T) (nI y) (nI i) (C (z + 1) I s h r) = some (nI y', C (z + 1) I s' h' r') ∧ ∀ (q : Nat) (I : ev_I), RLn 0 p F (I (q + 9)) → I q 18 = nI p → I q 0 = 0 → ∃ J, lX10_run_22 q n (nI T) (nI y) (nI i) (M q I s) = some (nI y', M q J s') ∧ Sc q I J := by
  intro m
  induction m with
  | zero =>
    intro i y n s h r hs hx hr h9 hi hy hn
    obtain ⟨n, rfl⟩ : ∃ k, n = k + 1 := ⟨n - 1, by omega⟩
    refine ⟨y, s, h, r, hs, hx, hr, h9, ?_, fun q I hR h18 h0 => ⟨I, ?_, Sc_r⟩⟩
    · show cX9_run_17 z _ n _ _ _ _ = _
      unfold cX9_run_17
      rw [if_pos (nI_le (by omega) (by omega))]
    · show cX10_run_22 q _ n _ _ _ _ = _
      unfold cX10_run_22
      rw [if_pos (nI_le (by omega) (by omega))]
  | succ m ih =>
    intro i y n s h r hs hx hr h9 hi hy hn
    obtain ⟨n, rfl⟩ : ∃ k, n = k + 1 := ⟨n - 1, by omega⟩
    by_cases c : p ≤ s 9
    · refine ⟨y, s, h, r, hs, hx, hr, h9, ?_, fun q I hR h18 h0 => ⟨I, ?_, Sc_r⟩⟩
      · show cX9_run_17 z _ n _ _ _ _ = _
        unfold cX9_run_17
        rw [if_neg (nI_ge (by omega) (by omega)), C_18, C_180, hI.1, if_pos (nI_le c (by omega))]
      · show cX10_run_22 q _ n _ _ _ _ = _
        unfold cX10_run_22
        rw [if_neg (nI_ge (by omega) (by omega)), M_0, h18, show (9 : Int32).toNatClampNeg = 9 from rfl, M_get, if_pos (nI_le c (by omega))]
    · obtain ⟨b, s1, hb, ⟨o1, o2⟩, o9, hc, hg⟩ := prl_all hs hr (show 7000 ≤ n by omega) (hF (s 9) (by omega))
      obtain ⟨h1, r1, e1, hr1⟩ := hc I z (s 9) (nI (s 9 + 1)) (by omega) (hI.2 (s 9) (by omega))
      rw [cu_C (s := s1)] at e1
      obtain ⟨y', s', h', r', a1, a2, a3, a4, a5, a6⟩ := ih (i + 1) (y + b) n (up s1 9 (s 9 + 1)) h1 r1 (ok_9 o1) (okX_9 o1 (o2 hx)) (okR_9 o1 hr1) (by rw [up_s]; omega) (by omega) (by omega) (by omega)
      refine ⟨y', s', h', r', a1, a2, a3, a4, ?_, fun q I hR h18 h0 => ?_⟩
      · show cX9_run_17 z _ n _ _ _ _ = _
        unfold cX9_run_17 cX9_run_86
        rw [if_neg (nI_ge (by omega) (by omega)), C_18, C_180, hI.1, if_neg (nI_ge (by omega) (by omega)), lt_b, lt_b, nI_1]
        show ((pX8_runLine n (z + 1) (nI (s 9)) (cu (z + 1 + 18) (nI (s 9 + 1)) (C (z + 1) I s h r))).bind _) = _
        rw [e1, bn_s]
        rcases hb with rfl | rfl
        · rw [if_pos (show nI 0 = (0 : Int32) from rfl), lt_b, nI_1]
          exact a5
        · rw [if_neg (show ¬ nI 1 = (0 : Int32) by decide), lt_b, lt_b, nI_1, nI_1]
          exact a5
      · obtain ⟨J, e2, hJ⟩ := hg I q (5 * s 9) (by omega) (by
          have := hR (s 9) (by omega)
          rw [Nat.zero_add] at this
          exact this) h0
        have j9 : J (q + 9) = I (q + 9) := by
          funext j
          exact hJ _ _ (by omega)
        obtain ⟨K, e3, hK⟩ := a6 q J (by rw [j9]; exact hR) (by rw [hJ _ _ (by omega)]; exact h18) (by rw [hJ _ _ (by omega)]; exact h0)
        refine ⟨K, ?_, Sc_t hJ hK⟩
        show cX10_run_22 q _ n _ _ _ _ = _
        unfold cX10_run_22 cX10_run_61
        rw [if_neg (nI_ge (by omega) (by omega)), M_0, h18, show (9 : Int32).toNatClampNeg = 9 from rfl, M_get, if_neg (nI_ge (by omega) (by omega)), show (5 : Int32) * nI (s 9) = nI (5 * s 9) from pk_mul 5 (s 9), e2, bn_s]
        have em : ev_u2 (M q J s1) (q + 1) 9 (M q J s1 (q + 1) 9 + 1) = M q J (up s1 9 (s 9 + 1)) := by
          rw [M_get, nI_1, o9]
          exact M_put
        rcases hb with rfl | rfl
        · rw [if_pos (show nI 0 = (0 : Int32) from rfl), lt_b, lt_b, em, nI_1]
          exact e3
        · rw [if_neg (show ¬ nI 1 = (0 : Int32) by decide), lt_b, lt_b, lt_b, em, nI_1, nI_1]
          exact e3
theorem pr_run {x : Int32} (hs : okS s) (hx : okX s) (hr : okR s h r) (hp : p ≤ 24) (h9 : s 9 ≤ p) (hF : ∀ i, i < p → okLn (F i)) (hI : CLn (z + 1 + 18) p F I) (hn : 7100 ≤ n) : ∃ ans s' h' r', okS s' ∧ okX s' ∧ okR s' h' r' ∧ s' 9 ≤ p ∧ pX9_run n z x (C (z + 1) I s h r) = some (ans, C (z + 1) I s' h' r') ∧ ∀ (q : Nat) (I : ev_I), RLn 0 p F (I (q + 9)) → I q 18 = nI p → I q 0 = 0 → ∃ J, pX10_run n q x (M q I s) = some (ans, M q J s') ∧ Sc q I J := by
  by_cases c : inb x (nI 1) (nI 24) = true
  · obtain ⟨T, h1, hT, rfl⟩ := inb_e c (by omega) (by omega)
    obtain ⟨y', s', h', r', a1, a2, a3, a4, a5, a6⟩ := run_L hT hp hF hI T 0 0 n s h r hs hx hr h9 (by omega) (by omega) (by omega)
    refine ⟨nI y', s', h', r', a1, a2, a3, a4, ?_, fun q I hR h18 h0 => ?_⟩
    · unfold pX9_run
      rw [if_neg (show ¬ nI T < (1 : Int32) from nI_nlt (b := 1) h1 (by omega)), if_pos (show nI T ≤ (24 : Int32) from nI_le (b := 24) hT (by omega))]
      exact a5
    · obtain ⟨J, e, hJ⟩ := a6 q I hR h18 h0
      refine ⟨J, ?_, hJ⟩
      unfold pX10_run
      rw [Mt h0, lt_b, r_inb, bn_s, if_b, show (1 : Int32) = nI 1 from rfl, show (24 : Int32) = nI 24 from rfl, if_pos c]
      exact e
  · refine ⟨-1, s, h, r, hs, hx, hr, h9, ?_, fun q I hR h18 h0 => ⟨I, ?_, Sc_r⟩⟩
    · unfold pX9_run
      by_cases d : x < (1 : Int32)
      · rw [if_pos d]
      · rw [if_neg d, if_neg]
        intro e
        apply c
        unfold inb
        simp [show ¬ x < nI 1 from d, show ¬ nI 24 < x from le_lt.mp e]
    · unfold pX10_run
      rw [Mt h0, lt_b, r_inb, bn_s, if_b, show (1 : Int32) = nI 1 from rfl, show (24 : Int32) = nI 24 from rfl, if_neg c]
end Ru
