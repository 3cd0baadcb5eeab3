/-! PROPOSING AND TIMING OUT, both sides -/
def cP (s : Nat → Nat) (k : Nat) : Bool := decide (s (2416 + 513 * k) ≠ 1 ∧ s 3 ≠ 99 ∧ s (2416 + 513 * k + 1) + 1 ≤ 200 ∧ ldr s (s (2416 + 513 * k + 1) + 1) = k ∧ s (2416 + 513 * k + 3) < s (2416 + 513 * k + 1) + 1 ∧ (s (2416 + 513 * k + 1) + 1 = 1 ∨ s (16 + s (2416 + 513 * k + 5)) = s (2416 + 513 * k + 1) ∨ s (2416 + 513 * k + 1) ≤ s (2416 + 513 * k + 7)))
def cT (s : Nat → Nat) (k : Nat) : Bool := decide (s (2416 + 513 * k) ≠ 1 ∧ s (2416 + 513 * k + 1) + 1 ≤ 200 ∧ s (2416 + 513 * k + 4) < s (2416 + 513 * k + 1) + 1)
def lay9 (s : Nat → Nat) (a v pa ju pl pr : Nat) : Nat → Nat := up (up (up (up (up (up (up (up (up s (16 + (s 3 + 1)) v) (116 + (s 3 + 1)) (pa + 1)) (216 + (s 3 + 1)) ju) (316 + (s 3 + 1)) pl) (416 + (s 3 + 1)) (a + 1)) (516 + (s 3 + 1)) (s (516 + pa) + 1)) (616 + (s 3 + 1)) pr) (716 + (s 3 + 1)) 0) 3 (s 3 + 1)
def sLay (s : Nat → Nat) (a v pa ju pl pr : Nat) : Nat → Nat := sSA (lay9 s a v pa ju pl pr) a 1 (s 3 + 1) 0 (s 0 + 4)
def sPro (s : Nat → Nat) (k p : Nat) : Nat → Nat := sLay (up s (2416 + 513 * k + 3) (s (2416 + 513 * k + 1) + 1)) k (s (2416 + 513 * k + 1) + 1) (s (2416 + 513 * k + 5)) (s (2416 + 513 * k + 5)) p (if s (2416 + 513 * k + 7) < s (2416 + 513 * k + 1) then 0 else 1)
def sTO2 (s t : Nat → Nat) (k : Nat) : Nat → Nat := up (up t (2416 + 513 * k + 4) (s (2416 + 513 * k + 1) + 1)) (2416 + 513 * k + 2) (if s (2416 + 513 * k + 2) ≤ s (2416 + 513 * k + 1) + 1 then s (2416 + 513 * k + 1) + 1 else s (2416 + 513 * k + 2))
def sTO (s : Nat → Nat) (k : Nat) : Nat → Nat := sTO2 s (sSA s k 3 (s (2416 + 513 * k + 1) + 1) (s (2416 + 513 * k + 5) + 1) (s 0 + 4)) k
theorem lay9_o {s : Nat → Nat} {a v pa ju pl pr j : Nat} (h : j ≠ 3 ∧ j ≠ 16 + (s 3 + 1) ∧ j ≠ 116 + (s 3 + 1) ∧ j ≠ 216 + (s 3 + 1) ∧ j ≠ 316 + (s 3 + 1) ∧ j ≠ 416 + (s 3 + 1) ∧ j ≠ 516 + (s 3 + 1) ∧ j ≠ 616 + (s 3 + 1) ∧ j ≠ 716 + (s 3 + 1)) : lay9 s a v pa ju pl pr j = s j := by
  unfold lay9
  rw [up_o (by omega), up_o (by omega), up_o (by omega), up_o (by omega), up_o (by omega), up_o (by omega), up_o (by omega), up_o (by omega), up_o (by omega)]
theorem lay9_g {s : Nat → Nat} {a v pa ju pl pr : Nat} (h3 : s 3 < 99) : lay9 s a v pa ju pl pr 3 = s 3 + 1 ∧ lay9 s a v pa ju pl pr (16 + (s 3 + 1)) = v ∧ lay9 s a v pa ju pl pr (116 + (s 3 + 1)) = pa + 1 ∧ lay9 s a v pa ju pl pr (216 + (s 3 + 1)) = ju ∧ lay9 s a v pa ju pl pr (316 + (s 3 + 1)) = pl ∧ lay9 s a v pa ju pl pr (416 + (s 3 + 1)) = a + 1 ∧ lay9 s a v pa ju pl pr (516 + (s 3 + 1)) = s (516 + pa) + 1 ∧ lay9 s a v pa ju pl pr (616 + (s 3 + 1)) = pr ∧ lay9 s a v pa ju pl pr (716 + (s 3 + 1)) = 0 := by
  unfold lay9
  refine ⟨up_s, ?_, ?_, ?_, ?_, ?_, ?_, ?_, ?_⟩
  · rw [up_o (by omega), up_o (by omega), up_o (by omega), up_o (by omega), up_o (by omega), up_o (by omega), up_o (by omega), up_o (by omega), up_s]
  · rw [up_o (by omega), up_o (by omega), up_o (by omega), up_o (by omega), up_o (by omega), up_o (by omega), up_o (by omega), up_s]
  · rw [up_o (by omega), up_o (by omega), up_o (by omega), up_o (by omega), up_o (by omega), up_o (by omega), up_s]
  · rw [up_o (by omega), up_o (by omega), up_o (by omega), up_o (by omega), up_o (by omega), up_s]
  · rw [up_o (by omega), up_o (by omega), up_o (by omega), up_o (by omega), up_s]
  · rw [up_o (by omega), up_o (by omega), up_o (by omega), up_s]
  · rw [up_o (by omega), up_o (by omega), up_s]
  · rw [up_o (by omega), up_s]
theorem lay9_up {s : Nat → Nat} {a v pa ju pl pr K V : Nat} (h3 : s 3 < 99) (hpa : pa ≤ s 3) (hK : 2416 ≤ K) : lay9 (up s K V) a v pa ju pl pr = up (lay9 s a v pa ju pl pr) K V := by
  unfold lay9
  rw [show up s K V 3 = s 3 from up_o (by omega), show up s K V (516 + pa) = s (516 + pa) from up_o (by omega)]
  rw [up_cm (k := K) (by omega), up_cm (k := K) (by omega), up_cm (k := K) (by omega), up_cm (k := K) (by omega), up_cm (k := K) (by omega), up_cm (k := K) (by omega), up_cm (k := K) (by omega), up_cm (k := K) (by omega), up_cm (k := K) (by omega)]
theorem ok_lay9 {s : Nat → Nat} (h : okS s) {a v pa ju pl pr : Nat} (h3 : s 3 < 99) (ha : a < 7) (hv : 1 ≤ v ∧ v ≤ 200) (hpa : pa ≤ s 3) (hju : ju ≤ s 3) (hpl : pl ≤ 999) (hpr : pr ≤ 1) : okS (lay9 s a v pa ju pl pr) := by
  obtain ⟨hB, hC, hZ, hN, hM, hE⟩ := h
  obtain ⟨g3, g16, g116, g216, g316, g416, g516, g616, g716⟩ := lay9_g (s := s) (a := a) (v := v) (pa := pa) (ju := ju) (pl := pl) (pr := pr) h3
  have e0 := fun j hj => lay9_o (s := s) (a := a) (v := v) (pa := pa) (ju := ju) (pl := pl) (pr := pr) (j := j) hj
  generalize lay9 s a v pa ju pl pr = t at *
  refine ⟨⟨by omega, by rw [e0 _ (by omega)]; exact hB.2.1, by rw [e0 _ (by omega)]; exact hB.2.2.1, fun b h1 hb => ?_⟩, ?_, ⟨by rw [e0 0 (by omega)]; exact hZ.1, by rw [e0 1 (by omega)]; exact hZ.2.1, by rw [e0 4 (by omega)]; exact hZ.2.2.1, by rw [e0 8 (by omega)]; exact hZ.2.2.2⟩, ?_, ?_, okE_c hE (e0 7 (by omega)) (fun j _ _ => e0 j (by omega))⟩
  · rw [g3] at hb
    by_cases c : b = s 3 + 1
    · subst c
      rw [g116, g516]
      refine ⟨by omega, by omega, ?_⟩
      rw [show pa + 1 - 1 = pa by omega, e0 (516 + pa) (by omega)]
    · obtain ⟨b1, b2, b3⟩ := hB.2.2.2 b h1 (by omega)
      rw [e0 (116 + b) (by omega), e0 (516 + b) (by omega), e0 (516 + (s (116 + b) - 1)) (by omega)]
      exact ⟨b1, b2, b3⟩
  · obtain ⟨a1, a2, a3, a4, a5, a6, a7⟩ := hC
    refine ⟨by rw [e0 _ (by omega)]; exact a1, by rw [e0 _ (by omega)]; exact a2, by rw [e0 _ (by omega)]; exact a3, by rw [e0 _ (by omega)]; exact a4, by rw [e0 _ (by omega)]; exact a5, fun b hb => ?_, fun b h1 hb => ?_⟩
    · rw [g3] at hb
      by_cases c : b = s 3 + 1
      · subst c
        rw [g16, g216, g316, g416, g616, g716]
        omega
      · rw [e0 (16 + b) (by omega), e0 (216 + b) (by omega), e0 (316 + b) (by omega), e0 (416 + b) (by omega), e0 (616 + b) (by omega), e0 (716 + b) (by omega)]
        exact a6 b (by omega)
    · rw [g3] at hb
      by_cases c : b = s 3 + 1
      · subst c
        rw [g16, g216, g416]
        omega
      · rw [e0 (16 + b) (by omega), e0 (216 + b) (by omega), e0 (416 + b) (by omega)]
        exact a7 b h1 (by omega)
  · intro k hk
    obtain ⟨⟨f1, f2, f3, f4, f5, f6, f7, f8, f9, f10, f11⟩, ⟨l1, l2, l3⟩, ⟨q1, q2, q3⟩⟩ := hN k hk
    refine ⟨⟨?_, ?_, ?_, ?_, ?_, ?_, ?_, ?_, ?_, fun b hb => ?_, fun v hv => ?_⟩, ⟨?_, fun i hi => ?_, fun i hi => ?_⟩, ⟨?_, fun j hj => ?_, fun i j hij hj => ?_⟩⟩
    · rw [e0 _ (by omega)]; exact f1
    · rw [e0 _ (by omega)]; exact f2
    · rw [e0 _ (by omega)]; exact f3
    · rw [e0 _ (by omega)]; exact f4
    · rw [e0 _ (by omega)]; exact f5
    · rw [e0 _ (by omega), g3]; omega
    · rw [e0 _ (by omega), g3]; omega
    · rw [e0 _ (by omega)]; exact f8
    · rw [e0 _ (by omega)]; exact f9
    · rw [e0 _ (by omega)]; exact f10 _ hb
    · rw [e0 _ (by omega)]; exact f11 v hv
    · rw [e0 _ (by omega), g3]; omega
    · rw [e0 (2416 + 513 * k + 8) (by omega)] at hi
      obtain ⟨c1, c2⟩ := l2 i hi
      rw [e0 (2416 + 513 * k + 12 + i) (by omega), g3, e0 (516 + _) (by omega)]
      exact ⟨by omega, c2⟩
    · rw [e0 (2416 + 513 * k + 8) (by omega)] at hi
      have c1 := (l2 (i + 1) (by omega)).1
      rw [e0 (2416 + 513 * k + 12 + (i + 1)) (by omega), e0 (2416 + 513 * k + 12 + i) (by omega), e0 (116 + _) (by omega)]
      exact l3 i hi
    · rw [e0 _ (by omega), g3]; omega
    · rw [e0 (2416 + 513 * k + 10) (by omega)] at hj
      rw [e0 (2416 + 513 * k + 112 + j) (by omega), g3]
      have := q2 j hj
      omega
    · rw [e0 (2416 + 513 * k + 10) (by omega)] at hj
      rw [e0 (2416 + 513 * k + 112 + j) (by omega), e0 (2416 + 513 * k + 112 + i) (by omega)]
      exact q3 i j hij hj
  · intro i hi
    have h4 := hZ.2.2.1
    rw [e0 4 (by omega)] at hi
    rw [e0 (816 + 5 * i) (by omega), e0 (816 + 5 * i + 1) (by omega), e0 (816 + 5 * i + 2) (by omega), e0 (816 + 5 * i + 3) (by omega), e0 (816 + 5 * i + 4) (by omega), g3]
    have := hM i hi
    omega
theorem ok_lay {s : Nat → Nat} (h : okS s) {a v pa ju pl pr : Nat} (h3 : s 3 < 99) (ha : a < 7) (hv : 1 ≤ v ∧ v ≤ 200) (hpa : pa ≤ s 3) (hju : ju ≤ s 3) (hpl : pl ≤ 999) (hpr : pr ≤ 1) : okS (sLay s a v pa ju pl pr) := by
  have h0 := h.2.2.1.1
  have l9 := ok_lay9 h h3 ha hv hpa hju hpl hpr
  have g3 := (lay9_g (s := s) (a := a) (v := v) (pa := pa) (ju := ju) (pl := pl) (pr := pr) h3).1
  exact ok_SA l9 (fun t ht => ⟨ha, ht, Or.inl ⟨Or.inl rfl, by omega, by omega, rfl⟩⟩) _ (by omega)
theorem cP_e {s : Nat → Nat} {k : Nat} (h : cP s k = true) : s (2416 + 513 * k) ≠ 1 ∧ s 3 ≠ 99 ∧ s (2416 + 513 * k + 1) + 1 ≤ 200 ∧ ldr s (s (2416 + 513 * k + 1) + 1) = k ∧ s (2416 + 513 * k + 3) < s (2416 + 513 * k + 1) + 1 ∧ (s (2416 + 513 * k + 1) + 1 = 1 ∨ s (16 + s (2416 + 513 * k + 5)) = s (2416 + 513 * k + 1) ∨ s (2416 + 513 * k + 1) ≤ s (2416 + 513 * k + 7)) := of_decide_eq_true h
theorem cT_e {s : Nat → Nat} {k : Nat} (h : cT s k = true) : s (2416 + 513 * k) ≠ 1 ∧ s (2416 + 513 * k + 1) + 1 ≤ 200 ∧ s (2416 + 513 * k + 4) < s (2416 + 513 * k + 1) + 1 := of_decide_eq_true h
theorem pro_ok {s : Nat → Nat} (h : okS s) {k : Nat} (hk : k < 7) (hc : cP s k = true) : okS (up s (2416 + 513 * k + 3) (s (2416 + 513 * k + 1) + 1)) ∧ up s (2416 + 513 * k + 3) (s (2416 + 513 * k + 1) + 1) 3 = s 3 ∧ s 3 < 99 ∧ s (2416 + 513 * k + 5) ≤ s 3 := by
  have c := cP_e hc
  have h3 := h.b3
  exact ⟨ok_nd h (d := 3) hk (by omega), up_o (by omega), by omega, (h.2.2.2.1 k hk).1.2.2.2.2.2.1⟩
theorem ok_pro {s : Nat → Nat} (h : okS s) {k p : Nat} (hk : k < 7) (hc : cP s k = true) (hp : p ≤ 999) : okS (sPro s k p) := by
  obtain ⟨u1, u3, s3, f5⟩ := pro_ok h hk hc
  have c := cP_e hc
  exact ok_lay u1 (by omega) hk (by omega) (by omega) (by omega) hp (by split <;> omega)
theorem ok_TO {s : Nat → Nat} (h : okS s) {k : Nat} (hk : k < 7) (hc : cT s k = true) : okS (sTO s k) := by
  have c := cT_e hc
  have h4 := h.2.2.1.2.2.1
  have h0 := h.2.2.1.1
  have f5 := (h.2.2.2.1 k hk).1.2.2.2.2.2.1
  have f2 := (h.2.2.2.1 k hk).1.2.2.1
  have hS : okS (sSA s k 3 (s (2416 + 513 * k + 1) + 1) (s (2416 + 513 * k + 5) + 1) (s 0 + 4)) := ok_SA h (fun t ht => ⟨hk, ht, Or.inr ⟨rfl, by omega, by omega, by omega, by omega⟩⟩) _ (by omega)
  unfold sTO sTO2
  refine ok_nd (ok_nd hS (d := 4) hk (by omega)) (d := 2) hk ?_
  split <;> omega
theorem Mo_lay {s : Nat → Nat} (h : okS s) {a v pa ju pl pr : Nat} (h3 : s 3 < 99) (ha : a < 7) (hv : 1 ≤ v ∧ v ≤ 200) (hpa : pa ≤ s 3) (hju : ju ≤ s 3) (hpl : pl ≤ 999) (hpr : pr ≤ 1) : Mo s (sLay s a v pa ju pl pr) :=
  Mo_t (Mo_c (lay9_o (by omega)) (fun k hk => ⟨lay9_o (by omega), lay9_o (by omega)⟩) (fun j hj => lay9_o (by omega))) (Mo_SA (ok_lay9 h h3 ha hv hpa hju hpl hpr))
theorem Mo_pro {s : Nat → Nat} (h : okS s) {k p : Nat} (hk : k < 7) (hc : cP s k = true) (hp : p ≤ 999) : Mo s (sPro s k p) := by
  obtain ⟨u1, u3, s3, f5⟩ := pro_ok h hk hc
  have c := cP_e hc
  exact Mo_t (Mo_up (by omega) (fun _ _ => by omega)) (Mo_lay u1 (by omega) hk (by omega) (by omega) (by omega) hp (by split <;> omega))
theorem Mo_TO {s : Nat → Nat} (h : okS s) {k : Nat} (hk : k < 7) : Mo s (sTO s k) :=
  Mo_t (Mo_SA h) (Mo_t (Mo_up (by omega) (fun _ _ => by omega)) (Mo_up (by omega) (fun _ _ => by omega)))
section Pr
variable {n q w : Nat} {I : ev_I} {s : Nat → Nat} {h : Nat} {r : Nat → Int32}
theorem r_canP (hs : okS s) {k : Nat} (hk : k < 7) : pX10_canPropose n q (nI k) (M q I s) = some (nI (if cP s k = true then 1 else 0)) := by
  have h3 := hs.b3
  have z0 := hs.2.2.1.1
  have z1 := hs.2.2.1.2.1
  obtain ⟨f0, f1, f2, f3, f4, f5, f6, f7, -⟩ := (hs.2.2.2.1 k hk).1
  have v1 := hs.view f5
  have hl := ldr_l (s := s) (v := s (2416 + 513 * k + 1) + 1) z0
  unfold pX10_canPropose
  rw [r_nodeAt, bn_s, r_viewOf hk, bn_s, r_isSilent hk (by omega), bn_s, r_blockMany, bn_s, r_ldr (by omega) z0 z1, bn_s]
  simp (disch := omega) only [li, nI_add, ck_in, nI_clamp, M_get, pk_sub, Nat.add_sub_cancel, nI_eq, nI_ltI]
  unfold cP
  simp only [decide_eq_true_eq]
  by_cases c0 : s (2416 + 513 * k) = 1
  · rw [if_pos c0, if_neg (show ¬ nI 1 = nI 0 by decide), if_neg (by omega)]
  · rw [if_neg c0, if_pos rfl]
    by_cases c1 : s 3 + 1 = 100
    · rw [if_pos c1, if_neg (by omega)]
    · rw [if_neg c1]
      by_cases c2 : 200 < s (2416 + 513 * k + 1) + 1
      · rw [if_pos c2, if_neg (by omega)]
      · rw [if_neg c2]
        by_cases c3 : ldr s (s (2416 + 513 * k + 1) + 1) = k
        · rw [if_pos c3]
          by_cases c4 : s (2416 + 513 * k + 3) < s (2416 + 513 * k + 1) + 1
          · rw [if_pos c4]
            by_cases c5 : s (2416 + 513 * k + 1) + 1 = 1
            · rw [if_pos c5, if_pos (by omega)]
            · rw [if_neg c5]
              by_cases c6 : s (16 + s (2416 + 513 * k + 5)) = s (2416 + 513 * k + 1)
              · rw [if_pos c6, if_pos (by omega)]
              · rw [if_neg c6]
                by_cases c7 : s (2416 + 513 * k + 7) < s (2416 + 513 * k + 1)
                · rw [if_pos c7, if_neg (by omega)]
                · rw [if_neg c7, if_pos (by omega)]
          · rw [if_neg c4, if_neg (by omega)]
        · rw [if_neg c3, if_neg (by omega)]
theorem c_canP (hs : okS s) {k : Nat} (hk : k < s 0 + 4) : pX8_canPropose n w (nI k) (C w I s h r) = some (nI (if cP s k = true then 1 else 0)) := by
  have h3 := hs.b3
  have z0 := hs.2.2.1.1
  have z1 := hs.2.2.1.2.1
  obtain ⟨f0, f1, f2, f3, f4, f5, f6, f7, -⟩ := (hs.2.2.2.1 k (by omega)).1
  have v1 := hs.view f5
  have hl := ldr_l (s := s) (v := s (2416 + 513 * k + 1) + 1) z0
  have ia := c_isAwake (n := n) (w := w) (I := I) (h := h) (r := r) (s := s) (k := k) hk z0 f0
  unfold pX8_canPropose
  rw [ia, bn_s]
  unfold cP
  simp only [decide_eq_true_eq]
  by_cases c0 : s (2416 + 513 * k) = 1
  · rw [if_pos c0, if_pos (by decide), if_neg (by omega)]; rfl
  · rw [if_neg c0, if_neg (by decide)]
    simp (disch := omega) only [cX8_canPropose_66, cX8_canPropose_67, cX8_canPropose_110, cX8_canPropose_115, cg_count, li, ck_in, nI_clamp, cg_mview, cg_prop, cg_high, cg_proof, cg_view, pk_sub, Nat.add_sub_cancel, nI_ltI, nI_leI, nI_eq]
    by_cases c1 : s 3 + 1 < 100
    · rw [if_pos c1]
      by_cases c2 : 200 < s (2416 + 513 * k + 1) + 1
      · rw [if_pos c2, if_neg (show ¬ (s (2416 + 513 * k) ≠ 1 ∧ _) by omega)]
        simp only [if_true, ite_self]
      · rw [if_neg c2]
        simp (disch := omega) only [c_leaderOf, bn_s, nI_eq]
        by_cases c3 : ldr s (s (2416 + 513 * k + 1) + 1) = k
        · rw [if_pos c3]
          by_cases c4 : s (2416 + 513 * k + 1) + 1 ≤ s (2416 + 513 * k + 3)
          · rw [if_pos c4, if_neg (show ¬ (s (2416 + 513 * k) ≠ 1 ∧ _) by omega)]
            simp only [if_true, ite_self]
          · rw [if_neg c4]
            by_cases c5 : s (2416 + 513 * k + 1) + 1 = 1
            · rw [if_pos c5, if_pos (show (s (2416 + 513 * k) ≠ 1 ∧ _) by omega)]
              rfl
            · rw [if_neg c5]
              by_cases c6 : s (16 + s (2416 + 513 * k + 5)) = s (2416 + 513 * k + 1)
              · rw [if_pos c6, if_pos (show (s (2416 + 513 * k) ≠ 1 ∧ _) by omega)]
                rfl
              · rw [if_neg c6]
                by_cases c7 : s (2416 + 513 * k + 7) < s (2416 + 513 * k + 1)
                · rw [if_pos c7, if_neg (show ¬ (s (2416 + 513 * k) ≠ 1 ∧ _) by omega)]
                  rfl
                · rw [if_neg c7, if_pos (show (s (2416 + 513 * k) ≠ 1 ∧ _) by omega)]
                  rfl
        · rw [if_neg c3, if_neg (show ¬ (s (2416 + 513 * k) ≠ 1 ∧ _) by omega)]
          simp only [if_true, ite_self]
    · rw [if_neg c1, if_neg (by omega)]
theorem r_lay (hs : okS s) {a v pa ju pl pr : Nat} (h3 : s 3 < 99) (ha : a < 7) (hv : 1 ≤ v ∧ v ≤ 200) (hpa : pa ≤ s 3) (hju : ju ≤ s 3) (hpl : pl ≤ 999) (hpr : pr ≤ 1) (hn : 8 ≤ n) : pX10_laysBlock n q (nI a) (nI v) (nI pa) (nI ju) (nI pl) (nI pr) (M q I s) = some (nI (s 3 + 1), M q I (sLay s a v pa ju pl pr)) := by
  have l9 := ok_lay9 hs h3 ha hv hpa hju hpl hpr
  have e0 : lay9 s a v pa ju pl pr 0 = s 0 := lay9_o (by omega)
  have hsa := r_sendsAll (n := n) (q := q) (I := I) (s := lay9 s a v pa ju pl pr) (f := a) (kd := 1) (w := s 3 + 1) (hu := 0) (x := -nI 1) ha (l9.2.2.2.1 a ha).1.2.2.2.2.2.2.2.2.1 l9.2.2.1.1 l9.2.2.1.2.2.1 (by decide) hn
  rw [e0] at hsa
  have q1 : pr = 0 ∨ pr = 1 := by omega
  have e516 : up (up (up (up (up s (16 + (s 3 + 1)) v) (116 + (s 3 + 1)) (pa + 1)) (216 + (s 3 + 1)) ju) (316 + (s 3 + 1)) pl) (416 + (s 3 + 1)) (a + 1) (516 + pa) = s (516 + pa) := by
    rw [up_o (by omega), up_o (by omega), up_o (by omega), up_o (by omega), up_o (by omega)]
  simp (disch := omega) only [pX10_laysBlock, cX10_laysBlock_113, r_blockMany, bn_s, li, nI_add, ck_in, nI_clamp, lt_b, M_put, M_get, e516, nI_eq]
  have eL : up (up (up (up (up (up (up (up (up s (16 + (s 3 + 1)) v) (116 + (s 3 + 1)) (pa + 1)) (216 + (s 3 + 1)) ju) (316 + (s 3 + 1)) pl) (416 + (s 3 + 1)) (a + 1)) (516 + (s 3 + 1)) (s (516 + pa) + 1)) (616 + (s 3 + 1)) pr) (716 + (s 3 + 1)) 0) 3 (s 3 + 1) = lay9 s a v pa ju pl pr := rfl
  rcases q1 with rfl | rfl
  · rw [if_pos rfl, eL, hsa]; rfl
  · rw [if_neg (by omega), eL, hsa]; rfl
theorem c_add9 (hs : okS s) {a v pa ju pl pr : Nat} (h3 : s 3 < 99) (hpa : pa ≤ s 3) : pX1_add n (w + 1) (nI v) (nI pa) (nI ju) (nI pl) (nI a) (nI pr) (C w I s h r) = some (nI (s 3 + 1), C w I (lay9 s a v pa ju pl pr) h r) := by
  have e516 : up (up (up (up (up s (16 + (s 3 + 1)) v) (116 + (s 3 + 1)) (pa + 1)) (216 + (s 3 + 1)) ju) (316 + (s 3 + 1)) pl) (416 + (s 3 + 1)) (a + 1) (516 + pa) = s (516 + pa) := by
    rw [up_o (by omega), up_o (by omega), up_o (by omega), up_o (by omega), up_o (by omega)]
  unfold pX1_add
  simp (disch := omega) only [cg_count, lt_b, ck_in, nI_clamp, cp_view, cp_parent, cp_justify, cp_payload, cp_by, cg_height, e516, li, nI_add, cp_height, cp_proved, cp_cert, cp_count, Nat.add_sub_cancel]
  rfl
theorem c_lay (hs : okS s) (hr : okR s h r) {a v pa ju pl pr : Nat} (h3 : s 3 < 99) (ha : a < 7) (hv : 1 ≤ v ∧ v ≤ 200) (hpa : pa ≤ s 3) (hju : ju ≤ s 3) (hpl : pl ≤ 999) (hpr : pr ≤ 1) (hn : 8 ≤ n) : ∃ r', pX8_sendToAll n w (nI a) (1 : Int32) (nI (s 3 + 1)) (-1 : Int32) (C w I (lay9 s a v pa ju pl pr) h r) = some (C w I (sLay s a v pa ju pl pr) h r') ∧ okR (sLay s a v pa ju pl pr) h r' := by
  have l9 := ok_lay9 hs h3 ha hv hpa hju hpl hpr
  have e0 : lay9 s a v pa ju pl pr 0 = s 0 := lay9_o (by omega)
  have hr9 : okR (lay9 s a v pa ju pl pr) h r := okR_c hr hs.2.2.1.2.2.1 e0 (lay9_o (by omega)) (fun j _ _ => lay9_o (by omega))
  have := c_SA (n := n) (w := w) (I := I) (s := lay9 s a v pa ju pl pr) (f := a) (kd := 1) (wh := s 3 + 1) (hu := 0) (x := -1) hr9 ha (by omega) (by omega) (by omega) (by decide) (l9.2.2.2.1 a ha).1.2.2.2.2.2.2.2.2.1 l9.2.2.1.1 l9.2.2.1.2.2.1 hn
  rw [e0] at this
  exact this
theorem r_proposes (hs : okS s) {k p : Nat} (hk : k < 7) (hc : cP s k = true) (hp : p ≤ 999) (hn : 8 ≤ n) : pX10_proposes n q (nI k) (nI p) (M q I s) = some (nI (s 3 + 1), M q I (sPro s k p)) := by
  obtain ⟨u1, u3, s3, f5⟩ := pro_ok hs hk hc
  have c := cP_e hc
  obtain ⟨-, -, -, -, -, -, -, f7, -⟩ := (hs.2.2.2.1 k hk).1
  have hl := fun pr (hpr : pr ≤ 1) => r_lay (n := n) (q := q) (I := I) (s := up s (2416 + 513 * k + 3) (s (2416 + 513 * k + 1) + 1)) (a := k) (v := s (2416 + 513 * k + 1) + 1) (pa := s (2416 + 513 * k + 5)) (ju := s (2416 + 513 * k + 5)) (pl := p) (pr := pr) u1 (by omega) hk (by omega) (by omega) (by omega) hp hpr hn
  rw [u3] at hl
  have l0 := hl 0 (by omega)
  have l1 := hl 1 (by omega)
  simp (disch := omega) only [pX10_proposes, cX10_proposes_65, r_nodeAt, r_viewOf, bn_s, li, nI_add, ck_in, nI_clamp, lt_b, M_put, M_get, up_o, pk_sub, Nat.add_sub_cancel, nI_ltI, l0, l1]
  unfold sPro
  split <;> rfl
theorem c_proposeBy (hs : okS s) (hr : okR s h r) {k p : Nat} (hk : k < s 0 + 4) (hp : p ≤ 999) (hn : 8 ≤ n) : ∃ r', pX8_proposeBy n w (nI k) (nI p) (C w I s h r) = some (if cP s k = true then nI (s 3 + 1) else -1, C w I (if cP s k = true then sPro s k p else s) h r') ∧ okR (if cP s k = true then sPro s k p else s) h r' := by
  have h0 := hs.2.2.1.1
  have k7 : k < 7 := by omega
  have pre : pX8_proposeBy n w (nI k) (nI p) (C w I s h r) = (pX8_canPropose n w (nI k) (C w I s h r)).bind fun z6 => if z6 = 0 then some ((-1 : Int32), C w I s h r) else ev_ck (ev_in (nI k) 7) <| if (C w I s h r (w + (23 + 5 * (nI k).toNatClampNeg)) 7) < ((C w I s h r (w + (23 + 5 * (nI k).toNatClampNeg)) 1) - (1 : Int32)) then cX8_proposeBy_46 w n (nI k) (nI p) (w + (23 + 5 * (nI k).toNatClampNeg)) (0 : Int32) (C w I s h r) else cX8_proposeBy_46 w n (nI k) (nI p) (w + (23 + 5 * (nI k).toNatClampNeg)) (1 : Int32) (C w I s h r) := by
    unfold pX8_proposeBy
    rw [if_neg (nI_pos (by omega)), if_neg (show ¬ (999 : Int32) < nI p from nI_nlt (a := 999) (by omega) (by omega))]
  rw [pre, c_canP hs hk, bn_s]
  by_cases hc : cP s k = true
  · obtain ⟨u1, u3, s3, f5⟩ := pro_ok hs k7 hc
    have c := cP_e hc
    obtain ⟨-, -, -, -, -, -, -, f7, -⟩ := (hs.2.2.2.1 k k7).1
    simp only [if_pos hc]
    rw [if_neg (show ¬ nI 1 = 0 by decide)]
    have key : ∀ pr, pr ≤ 1 → ∃ r', cX8_proposeBy_46 w n (nI k) (nI p) (w + (23 + 5 * k)) (nI pr) (C w I s h r) = some (nI (s 3 + 1), C w I (sLay (up s (2416 + 513 * k + 3) (s (2416 + 513 * k + 1) + 1)) k (s (2416 + 513 * k + 1) + 1) (s (2416 + 513 * k + 5)) (s (2416 + 513 * k + 5)) p pr) h r') ∧ okR (sLay (up s (2416 + 513 * k + 3) (s (2416 + 513 * k + 1) + 1)) k (s (2416 + 513 * k + 1) + 1) (s (2416 + 513 * k + 5)) (s (2416 + 513 * k + 5)) p pr) h r' := by
      intro pr hpr
      have hr1 : okR (up s (2416 + 513 * k + 3) (s (2416 + 513 * k + 1) + 1)) h r := okR_up hr hs.2.2.1.2.2.1 (by omega) (by omega)
      obtain ⟨r', e, hr'⟩ := c_lay (n := n) (w := w) (I := I) (a := k) (v := s (2416 + 513 * k + 1) + 1) (pa := s (2416 + 513 * k + 5)) (ju := s (2416 + 513 * k + 5)) (pl := p) (pr := pr) u1 hr1 (by omega) k7 (by omega) (by omega) (by omega) hp hpr hn
      refine ⟨r', ?_, hr'⟩
      unfold cX8_proposeBy_46
      rw [u3, lay9_up s3 f5 (by omega)] at e
      rw [cg_mview k7, cg_high k7, c_add9 hs s3 f5, bn_s]
      have em : lay9 s k (s (2416 + 513 * k + 1) + 1) (s (2416 + 513 * k + 5)) (s (2416 + 513 * k + 5)) p pr (2416 + 513 * k + 1) = s (2416 + 513 * k + 1) := lay9_o (by omega)
      simp (disch := omega) only [cg_mview, em, cp_prop, lt_b]
      rw [e]; rfl
    simp (disch := omega) only [ck_in, nI_clamp, cg_proof, cg_mview, li, pk_sub, Nat.add_sub_cancel, nI_ltI]
    unfold sPro
    by_cases c7 : s (2416 + 513 * k + 7) < s (2416 + 513 * k + 1)
    · simp only [if_pos c7]; exact key 0 (by omega)
    · simp only [if_neg c7]; exact key 1 (by omega)
  · simp only [if_neg hc]
    rw [if_pos (show nI 0 = 0 by decide)]
    exact ⟨r, rfl, hr⟩
theorem r_canT (hs : okS s) {k : Nat} (hk : k < 7) : pX10_canTimeOut n q (nI k) (M q I s) = some (nI (if cT s k = true then 1 else 0)) := by
  obtain ⟨f0, f1, f2, f3, f4, f5, f6, f7, -⟩ := (hs.2.2.2.1 k hk).1
  simp (disch := omega) only [pX10_canTimeOut, r_nodeAt, r_viewOf, r_isSilent, bn_s, li, nI_add, ck_in, nI_clamp, M_get, nI_ltI, nI_leI]
  unfold cT
  simp only [decide_eq_true_eq]
  by_cases c0 : s (2416 + 513 * k) = 1
  · rw [if_pos c0, if_neg (show ¬ nI 1 = nI 0 by decide), if_neg (by omega)]
  · rw [if_neg c0, if_pos rfl]
    by_cases c2 : 200 < s (2416 + 513 * k + 1) + 1
    · rw [if_pos c2, if_neg (by omega)]
    · rw [if_neg c2]
      by_cases c4 : s (2416 + 513 * k + 1) + 1 ≤ s (2416 + 513 * k + 4)
      · rw [if_pos c4, if_neg (by omega)]
      · rw [if_neg c4, if_pos (by omega)]
theorem c_canT (hs : okS s) {k : Nat} (hk : k < s 0 + 4) : pX8_canTimeOut n w (nI k) (C w I s h r) = some (nI (if cT s k = true then 1 else 0)) := by
  have z0 := hs.2.2.1.1
  obtain ⟨f0, f1, f2, f3, f4, f5, f6, f7, -⟩ := (hs.2.2.2.1 k (by omega)).1
  have ia := c_isAwake (n := n) (w := w) (I := I) (h := h) (r := r) (s := s) (k := k) hk z0 f0
  unfold pX8_canTimeOut
  rw [ia, bn_s]
  simp (disch := omega) only [li, ck_in, nI_clamp, cg_mview, cg_timed, nI_ltI, nI_leI]
  unfold cT
  simp only [decide_eq_true_eq]
  by_cases c0 : s (2416 + 513 * k) = 1
  · rw [if_pos c0, if_pos rfl, if_neg (by omega)]
  · rw [if_neg c0, if_neg (show ¬ nI 1 = nI 0 by decide)]
    by_cases c2 : 200 < s (2416 + 513 * k + 1) + 1
    · rw [if_pos c2, if_neg (by omega)]
    · rw [if_neg c2]
      by_cases c4 : s (2416 + 513 * k + 1) + 1 ≤ s (2416 + 513 * k + 4)
      · rw [if_pos c4, if_neg (by omega)]
      · rw [if_neg c4, if_pos (by omega)]
theorem r_TO (hs : okS s) {k : Nat} (hk : k < 7) (hn : 8 ≤ n) : pX10_timesOut n q (nI k) (M q I s) = some (M q I (sTO s k)) := by
  obtain ⟨f0, f1, f2, f3, f4, f5, f6, f7, f8, -⟩ := (hs.2.2.2.1 k hk).1
  have h4 := hs.2.2.1.2.2.1
  have hsa := r_sendsAll (n := n) (q := q) (I := I) (s := s) (f := k) (kd := 3) (w := s (2416 + 513 * k + 1) + 1) (hu := s (2416 + 513 * k + 5) + 1) (x := nI (s (2416 + 513 * k + 5))) hk f8 hs.2.2.1.1 h4 (nI_add _ _) hn
  have e2 : sSA s k 3 (s (2416 + 513 * k + 1) + 1) (s (2416 + 513 * k + 5) + 1) (s 0 + 4) (2416 + 513 * k + 2) = s (2416 + 513 * k + 2) := sSA_o (by omega) h4 _
  simp (disch := omega) only [pX10_timesOut, r_nodeAt, r_viewOf, bn_s, li, nI_add, ck_in, nI_clamp, M_get, hsa, lt_b, M_put, up_o, e2, pX10_greater, nI_leI]
  unfold sTO sTO2
  split <;> simp (disch := omega) only [bn_s, M_put]
theorem c_timeOutBy (hs : okS s) (hr : okR s h r) {k : Nat} (hk : k < s 0 + 4) (hn : 8 ≤ n) : ∃ r', pX8_timeOutBy n w (nI k) (C w I s h r) = some (nI (if cT s k = true then 1 else 0), C w I (if cT s k = true then sTO s k else s) h r') ∧ okR (if cT s k = true then sTO s k else s) h r' := by
  have h0 := hs.2.2.1.1
  have k7 : k < 7 := by omega
  unfold pX8_timeOutBy
  rw [c_canT hs hk, bn_s]
  by_cases hc : cT s k = true
  · obtain ⟨f0, f1, f2, f3, f4, f5, f6, f7, f8, -⟩ := (hs.2.2.2.1 k k7).1
    have h3 := hs.b3
    have h4 := hs.2.2.1.2.2.1
    have c := cT_e hc
    simp only [if_pos hc]
    rw [if_neg (show ¬ nI 1 = 0 by decide)]
    obtain ⟨r', e, hr'⟩ := c_SA (n := n) (w := w) (I := I) (s := s) (f := k) (kd := 3) (wh := s (2416 + 513 * k + 1) + 1) (hu := s (2416 + 513 * k + 5) + 1) (x := nI (s (2416 + 513 * k + 5))) hr k7 (by omega) (by omega) (by omega) (nI_add _ _) f8 h0 h4 hn
    have e2 : sSA s k 3 (s (2416 + 513 * k + 1) + 1) (s (2416 + 513 * k + 5) + 1) (s 0 + 4) (2416 + 513 * k + 2) = s (2416 + 513 * k + 2) := sSA_o (by omega) h4 _
    have e1 : sSA s k 3 (s (2416 + 513 * k + 1) + 1) (s (2416 + 513 * k + 5) + 1) (s 0 + 4) (2416 + 513 * k + 1) = s (2416 + 513 * k + 1) := sSA_o (by omega) h4 _
    have h4' := sSA_4 (s := s) (f := k) (kd := 3) (w := s (2416 + 513 * k + 1) + 1) (hu := s (2416 + 513 * k + 5) + 1) h4 (s 0 + 4)
    refine ⟨r', ?_, ?_⟩
    · simp (disch := omega) only [ck_in, nI_clamp, cg_mview, cg_high, li, e, bn_s, cp_timed, lt_b, cg_voted, up_o, e1, e2, nI_ltI]
      unfold sTO sTO2
      by_cases d : s (2416 + 513 * k + 2) < s (2416 + 513 * k + 1) + 1
      · rw [if_pos d, if_pos (by omega), cp_voted k7]
      · rw [if_neg d, cp_voted k7]
        by_cases d2 : s (2416 + 513 * k + 2) = s (2416 + 513 * k + 1) + 1
        · rw [if_pos (by omega), d2]
        · rw [if_neg (by omega)]
    · exact okR_up (okR_up hr' h4' (by omega) (by omega)) (by rw [up_o (by omega)]; exact h4') (by omega) (by omega)
  · simp only [if_neg hc]
    rw [if_pos (show nI 0 = 0 by decide)]
    exact ⟨r, rfl, hr⟩
end Pr
