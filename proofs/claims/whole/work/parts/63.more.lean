/-! PAIRS OF CALLS: storm, lie, nodes -/
def drN (x : Nat) : Nat := 1664525 * x + 1013904223
def dV (x : Nat) : Nat := (nI x).toBitVec.toNat / 256
theorem dV_l (x : Nat) : dV x < 2 ^ 24 := by
  unfold dV
  have := (nI x).toBitVec.isLt
  omega
theorem ush_n (x : Nat) : ((nI x).toUInt32 >>> ((8 : Int32).toUInt32 &&& Int32.toUInt32 31)).toInt32 = nI (dV x) := by
  rw [← nI_bv (((nI x).toUInt32 >>> ((8 : Int32).toUInt32 &&& Int32.toUInt32 31)).toInt32), pk_ushr (nI x) 8 8 (by decide)]
  rfl
theorem dr_n (x : Nat) : (1664525 : Int32) * nI x + (1013904223 : Int32) = nI (drN x) := by
  rw [show (1664525 : Int32) = nI 1664525 from rfl, show (1013904223 : Int32) = nI 1013904223 from rfl, pk_mul, nI_add]
  rfl
theorem if_b' {α : Type} {a : Bool} {x y : α} : (if nI (b01 a) = nI 0 then x else y) = if a = true then y else x := by cases a <;> rfl
def stK (s : Nat → Nat) : Nat := dV (drN (s 2)) % s 4
def stU (s : Nat → Nat) : Nat → Nat := up s 2 (drN (drN (s 2)))
def stD (s : Nat → Nat) : Nat := dV (drN (drN (s 2))) % 10
def st1 (d : Nat) (s : Nat → Nat) : Nat → Nat := if d ≤ stD s then sDel (stU s) (stK s) else sTake (stU s) (stK s)
def stS (d : Nat) : Nat → (Nat → Nat) → (Nat → Nat)
  | 0, s => s
  | m + 1, s => if s 4 = 0 then s else stS d m (st1 d s)
def stC (d : Nat) : Nat → (Nat → Nat) → Nat
  | 0, _ => 0
  | m + 1, s => if s 4 = 0 then 0 else (if d ≤ stD s then 1 else 0) + stC d m (st1 d s)
theorem take_d {s : Nat → Nat} {k j : Nat} : sTake s k j = if 816 + 5 * k ≤ j ∧ j < 816 + 5 * (s 4 - 1) then s (j + 5) else if j = 4 then s 4 - 1 else s j := rfl
theorem take_up2 {s : Nat → Nat} {k a : Nat} : sTake (up s 2 a) k = up (sTake s k) 2 a := by
  funext j
  rw [take_d, up_o (show (4 : Nat) ≠ 2 by omega)]
  by_cases c : 816 + 5 * k ≤ j ∧ j < 816 + 5 * (s 4 - 1)
  · rw [if_pos c, up_o (by omega), up_o (by omega), take_d, if_pos c]
  · rw [if_neg c]
    by_cases c4 : j = 4
    · rw [if_pos c4, up_o (by omega), take_d, if_neg c, if_pos c4]
    · rw [if_neg c4]
      by_cases c2 : j = 2
      · rw [c2, up_s, up_s]
      · rw [up_o c2, up_o c2, take_d, if_neg c, if_neg c4]
section F5
variable {n q w z : Nat} {I : ev_I} {s : Nat → Nat} {h : Nat} {r : Nat → Int32}
theorem stU_o {j : Nat} (h : j ≠ 2) : stU s j = s j := up_o h
theorem stK_l (h : 0 < s 4) : stK s < stU s 4 := by
  rw [stU_o (by omega)]
  exact Nat.mod_lt _ h
theorem ok_st1 (hs : okS s) (h : 0 < s 4) {d : Nat} : okS (st1 d s) ∧ (okX s → okX (st1 d s)) ∧ st1 d s 9 = s 9 := by
  have u : okS (stU s) := ok_2 hs
  have x : okX s → okX (stU s) := fun x => okX_up hs x (by omega) (fun _ _ _ _ _ => by omega)
  have hk := stK_l h
  have e9 : stU s 9 = s 9 := stU_o (by omega)
  unfold st1
  split
  · exact ⟨ok_del u hk, fun a => okX_del u (x a) hk, (s9_del u hk).trans e9⟩
  · exact ⟨ok_take u hk, fun a => okX_take u (x a), (sTake_o u.2.2.1.2.2.1 (by omega)).trans e9⟩
theorem ok_stS {d : Nat} : ∀ (m : Nat) (s : Nat → Nat), okS s → okS (stS d m s) ∧ (okX s → okX (stS d m s)) ∧ stS d m s 9 = s 9
  | 0, s, hs => ⟨hs, id, rfl⟩
  | m + 1, s, hs => by
    by_cases c : s 4 = 0
    · have E : stS d (m + 1) s = s := if_pos c
      rw [E]
      exact ⟨hs, id, rfl⟩
    · have E : stS d (m + 1) s = stS d m (st1 d s) := if_neg c
      rw [E]
      obtain ⟨a1, a2, a3⟩ := ok_st1 hs (d := d) (by omega)
      obtain ⟨b1, b2, b3⟩ := ok_stS (d := d) m _ a1
      exact ⟨b1, fun x => b2 (a2 x), b3.trans a3⟩
theorem c_draw {m : Nat} (h0 : 0 < m) (hm : m < 2 ^ 31) : pX8_draw n w (nI m) (C w I s h r) = some (nI (dV (drN (s 2)) % m), C w I (up s 2 (drN (s 2))) h r) := by
  have hl := dV_l (drN (s 2))
  unfold pX8_draw
  rw [cg_draws, dr_n, cp_draws, lt_b, if_neg (nI_nle h0 hm), ck_nz h0 hm, cg_draws, up_s, ush_n, pk_rem (by omega) h0 hm]
theorem r_draw {m : Nat} (h0 : 0 < m) (hm : m < 2 ^ 31) : pX10_draw n q (nI m) (M q I s) = some (nI (dV (drN (s 2)) % m), M q I (up s 2 (drN (s 2)))) := by
  have hl := dV_l (drN (s 2))
  unfold pX10_draw
  rw [show (2 : Int32).toNatClampNeg = 2 from rfl, M_get, dr_n, M_put, lt_b, ck_nz h0 hm, M_get, up_s, ush_n, pk_rem (by omega) h0 hm]
theorem r_stL {d N : Nat} (hd : d ≤ 9) (hN : N ≤ 40) : ∀ (m i c n : Nat) (I : ev_I) (s : Nat → Nat), okS s → i + m = N → m + 1100 < n → ∃ J, lX10_storm_34 q n (nI N) (nI d) (nI c) (nI i) (M q I s) = some (nI (c + stC d m s), M q J (stS d m s)) ∧ Sk q I J := by
  intro m
  induction m with
  | zero =>
    intro i c n I s hs hi hn
    obtain ⟨n, rfl⟩ : ∃ k, n = k + 1 := ⟨n - 1, by omega⟩
    refine ⟨I, ?_, Sk_r⟩
    show cX10_storm_34 q _ n _ _ _ _ _ = _
    unfold cX10_storm_34
    rw [if_pos (nI_le (by omega) (by omega))]
    rfl
  | succ m ih =>
    intro i c n I s hs hi hn
    obtain ⟨n, rfl⟩ : ∃ k, n = k + 1 := ⟨n - 1, by omega⟩
    have h4 := hs.2.2.1.2.2.1
    by_cases c0 : s 4 = 0
    · refine ⟨I, ?_, Sk_r⟩
      show cX10_storm_34 q _ n _ _ _ _ _ = _
      unfold cX10_storm_34
      rw [if_neg (nI_ge (by omega) (by omega)), show (4 : Int32).toNatClampNeg = 4 from rfl, M_get, c0, if_pos (by decide)]
      rw [show stC d (m + 1) s = 0 from if_pos c0, show stS d (m + 1) s = s from if_pos c0, Nat.add_zero]
    · have u : okS (stU s) := ok_2 hs
      have hk := stK_l (s := s) (by omega)
      have hk4 : stK s < s 4 := by rw [stU_o (by omega)] at hk; exact hk
      have o1 := ok_st1 hs (d := d) (by omega)
      have hD : stD s < 10 := Nat.mod_lt _ (by omega)
      have e8 : ∀ j, 816 ≤ j → stU s j = s j := fun j hj => stU_o (by omega)
      have hm := okm_take u hk
      rw [e8 _ (by omega), e8 _ (by omega), e8 _ (by omega), e8 _ (by omega), e8 _ (by omega)] at hm
      have eT : up (sTake (up s 2 (drN (s 2))) (stK s)) 2 (drN (drN (s 2))) = sTake (stU s) (stK s) := by
        unfold stU
        rw [take_up2, take_up2, up_up]
      have eS : sTake (up s 2 (drN (s 2))) (stK s) 2 = drN (s 2) := by rw [take_up2, up_s]
      have eD : sDel (stU s) (stK s) = sDv (sTake (stU s) (stK s)) (s (816 + 5 * stK s)) (s (816 + 5 * stK s + 1)) (s (816 + 5 * stK s + 2)) (s (816 + 5 * stK s + 3)) (s (816 + 5 * stK s + 4)) := by
        unfold sDel
        rw [e8 _ (by omega), e8 _ (by omega), e8 _ (by omega), e8 _ (by omega), e8 _ (by omega)]
      have e0 : cX10_storm_34 q (lX10_storm_34 q n) n (nI N) (nI d) (nI c) (nI i) (M q I s) = if d ≤ stD s then lX10_storm_34 q n (nI N) (nI d) (nI (c + 1)) (nI (i + 1)) (M q (Tk q I (s (816 + 5 * stK s)) (s (816 + 5 * stK s + 1)) (s (816 + 5 * stK s + 2)) (s (816 + 5 * stK s + 3)) (s (816 + 5 * stK s + 4))) (sDel (stU s) (stK s))) else lX10_storm_34 q n (nI N) (nI d) (nI c) (nI (i + 1)) (M q (Tk q I (s (816 + 5 * stK s)) (s (816 + 5 * stK s + 1)) (s (816 + 5 * stK s + 2)) (s (816 + 5 * stK s + 3)) (s (816 + 5 * stK s + 4))) (sTake (stU s) (stK s))) := by
        unfold cX10_storm_34 cX10_storm_84
        rw [if_neg (nI_ge (by omega) (by omega)), show (4 : Int32).toNatClampNeg = 4 from rfl, M_get, if_neg (nI_nle (by omega) (by omega)), r_draw (by omega) (by omega), bn_s]
        show ((pX10_takesOut n q (nI (stK s)) (M q I (up s 2 (drN (s 2))))).bind _) = _
        have t1 := r_takesOut (n := n) (q := q) (I := I) (s := up s 2 (drN (s 2))) (k := stK s) (by rw [up_o (by omega)]; exact h4) (by rw [up_o (by omega)]; exact hk4) (by omega)
        rw [up_o (by omega), up_o (by omega), up_o (by omega), up_o (by omega), up_o (by omega)] at t1
        rw [t1, bn_s, show (10 : Int32) = nI 10 from rfl, r_draw (by omega) (by omega), bn_s, eS, eT]
        show (if nI d ≤ nI (stD s) then _ else _) = _
        simp (disch := omega) only [nI_leI]
        by_cases cd : d ≤ stD s
        · rw [if_pos cd, if_pos cd, r_Dv (ok_take u hk) hm Tk_g (by omega), bn_s, lt_b, lt_b, nI_1, nI_1, ← eD]
        · rw [if_neg cd, if_neg cd, lt_b, nI_1]
      by_cases cd : d ≤ stD s
      · have E1 : st1 d s = sDel (stU s) (stK s) := if_pos cd
        obtain ⟨J, e, hJ⟩ := ih (i + 1) (c + 1) n (Tk q I (s (816 + 5 * stK s)) (s (816 + 5 * stK s + 1)) (s (816 + 5 * stK s + 2)) (s (816 + 5 * stK s + 3)) (s (816 + 5 * stK s + 4))) (st1 d s) o1.1 (by omega) (by omega)
        refine ⟨J, ?_, Sk_t Sk_k hJ⟩
        show cX10_storm_34 q _ n _ _ _ _ _ = _
        rw [e0, if_pos cd, ← E1, e, show stS d (m + 1) s = stS d m (st1 d s) from if_neg c0, show stC d (m + 1) s = (if d ≤ stD s then 1 else 0) + stC d m (st1 d s) from if_neg c0, if_pos cd, Nat.add_assoc]
      · have E1 : st1 d s = sTake (stU s) (stK s) := if_neg cd
        obtain ⟨J, e, hJ⟩ := ih (i + 1) c n (Tk q I (s (816 + 5 * stK s)) (s (816 + 5 * stK s + 1)) (s (816 + 5 * stK s + 2)) (s (816 + 5 * stK s + 3)) (s (816 + 5 * stK s + 4))) (st1 d s) o1.1 (by omega) (by omega)
        refine ⟨J, ?_, Sk_t Sk_k hJ⟩
        show cX10_storm_34 q _ n _ _ _ _ _ = _
        rw [e0, if_neg cd, ← E1, e, show stS d (m + 1) s = stS d m (st1 d s) from if_neg c0, show stC d (m + 1) s = (if d ≤ stD s then 1 else 0) + stC d m (st1 d s) from if_neg c0, if_neg cd, Nat.zero_add]
theorem c_stL {d N : Nat} (hd : d ≤ 9) (hN : N ≤ 40) : ∀ (m i c n h : Nat) (r : Nat → Int32) (s : Nat → Nat), okS s → okR s h r → i + m = N → m + 1200 < n → ∃ h' r', lX8_stormOf_5 w n (nI N) (nI d) (nI c) (nI i) (C w I s h r) = some (nI (c + stC d m s), C w I (stS d m s) h' r') ∧ okR (stS d m s) h' r' := by
  intro m
  induction m with
  | zero =>
    intro i c n h r s hs hr hi hn
    obtain ⟨n, rfl⟩ : ∃ k, n = k + 1 := ⟨n - 1, by omega⟩
    refine ⟨h, r, ?_, hr⟩
    show cX8_stormOf_5 w _ n _ _ _ _ _ = _
    unfold cX8_stormOf_5
    rw [if_pos (nI_le (by omega) (by omega))]
    rfl
  | succ m ih =>
    intro i c n h r s hs hr hi hn
    obtain ⟨n, rfl⟩ : ∃ k, n = k + 1 := ⟨n - 1, by omega⟩
    have h4 := hs.2.2.1.2.2.1
    by_cases c0 : s 4 = 0
    · have ES : stS d (m + 1) s = s := if_pos c0
      refine ⟨h, r, ?_, by rw [ES]; exact hr⟩
      show cX8_stormOf_5 w _ n _ _ _ _ _ = _
      unfold cX8_stormOf_5
      rw [if_neg (nI_ge (by omega) (by omega)), cg_nc, c0, if_pos (by decide)]
      rw [show stC d (m + 1) s = 0 from if_pos c0, ES, Nat.add_zero]
    · have u : okS (stU s) := ok_2 hs
      have hk := stK_l (s := s) (by omega)
      have o1 := ok_st1 hs (d := d) (by omega)
      have hD : stD s < 10 := Nat.mod_lt _ (by omega)
      have hru : okR (stU s) h r := okR_up hr h4 (by omega) (by omega)
      have e0 : ∀ {X}, (if d ≤ stD s then (pX8_deliverSome n w (nI (stK s)) (1 : Int32) (C w I (stU s) h r)).bind fun z7 => lX8_stormOf_5 w n (nI N) (nI d) (nI c + z7.1) (nI (i + 1)) z7.2 else (pX4_take n (w + 11) (nI (stK s)) (C w I (stU s) h r)).bind fun z9 => lX8_stormOf_5 w n (nI N) (nI d) (nI c) (nI (i + 1)) z9.2) = X → lX8_stormOf_5 w (n + 1) (nI N) (nI d) (nI c) (nI i) (C w I s h r) = X := by
        intro X hX
        rw [← hX]
        show cX8_stormOf_5 w _ n _ _ _ _ _ = _
        unfold cX8_stormOf_5 cX8_stormOf_67
        rw [if_neg (nI_ge (by omega) (by omega)), cg_nc, if_neg (nI_nle (by omega) (by omega)), c_draw (by omega) (by omega), bn_s, show (10 : Int32) = nI 10 from rfl, c_draw (by omega) (by omega), bn_s, up_s, up_up]
        show (if nI d ≤ nI (stD s) then _ else _) = _
        simp (disch := omega) only [nI_leI, lt_b, nI_1]
        rfl
      by_cases cd : d ≤ stD s
      · have E1 : st1 d s = sDel (stU s) (stK s) := if_pos cd
        obtain ⟨h1, r1, e1, hr1⟩ := c_del1 (n := n) (w := w) (I := I) (d := 0) u hru hk (by omega)
        rw [← E1] at e1 hr1
        obtain ⟨h', r', e, hr'⟩ := ih (i + 1) (c + 1) n h1 r1 (st1 d s) o1.1 hr1 (by omega) (by omega)
        have ES : stS d (m + 1) s = stS d m (st1 d s) := if_neg c0
        refine ⟨h', r', e0 ?_, by rw [ES]; exact hr'⟩
        rw [if_pos cd, e1, bn_s, nI_add, e, ES, show stC d (m + 1) s = (if d ≤ stD s then 1 else 0) + stC d m (st1 d s) from if_neg c0, if_pos cd, Nat.add_assoc]
      · have E1 : st1 d s = sTake (stU s) (stK s) := if_neg cd
        obtain ⟨h1, r1, e1, hr1⟩ := c_take (n := n) (w := w) (I := I) hru u.2.2.1.2.2.1 hk (by omega)
        rw [← E1] at e1 hr1
        obtain ⟨h', r', e, hr'⟩ := ih (i + 1) c n h1 r1 (st1 d s) o1.1 hr1 (by omega) (by omega)
        have ES : stS d (m + 1) s = stS d m (st1 d s) := if_neg c0
        refine ⟨h', r', e0 ?_, by rw [ES]; exact hr'⟩
        rw [if_neg cd, e1, bn_s, e, ES, show stC d (m + 1) s = (if d ≤ stD s then 1 else 0) + stC d m (st1 d s) from if_neg c0, if_neg cd, Nat.zero_add]
theorem pa_storm (hs : okS s) (hr : okR s h r) {x y : Int32} (hn : 1500 ≤ n) : PAt (fun z => pX9_storm n z x y) (fun q => pX10_storm n q x y) s h r := by
  by_cases c : inb x (nI 1) (nI 40) = true
  · obtain ⟨N, h1, hN, rfl⟩ := inb_e c (by omega) (by omega)
    by_cases c2 : inb y (nI 0) (nI 9) = true
    · obtain ⟨d, -, hd, rfl⟩ := inb_e c2 (by omega) (by omega)
      obtain ⟨a1, a2, a3⟩ := ok_stS (d := d) N s hs
      refine ⟨nI (0 + stC d N s), stS d N s, ⟨a1, a2⟩, a3, fun I z => ?_, fun I q hI => ?_⟩
      · obtain ⟨h', r', e, hr'⟩ := c_stL (w := z + 1) (I := I) hd hN N 0 0 n h r s hs hr (by omega) (by omega)
        refine ⟨h', r', ?_, hr'⟩
        show pX9_storm n z _ _ _ = _
        unfold pX9_storm pX8_stormOf
        rw [if_neg (show ¬ nI N < (1 : Int32) from nI_nlt (b := 1) h1 (by omega)), if_neg (show ¬ (40 : Int32) < nI N from nI_nlt (a := 40) hN (by omega)), if_neg (nI_pos (by omega)), if_pos (show nI d ≤ (9 : Int32) from nI_le (b := 9) hd (by omega)), show (0 : Int32) = nI 0 from rfl, e, bn_s]
      · obtain ⟨J, e, hJ⟩ := r_stL (q := q) hd hN N 0 0 n I s hs (by omega) (by omega)
        refine ⟨J, ?_, Sk_c hJ⟩
        show pX10_storm n q _ _ _ = _
        unfold pX10_storm
        rw [Mt hI, lt_b, r_inb, bn_s, if_b, if_pos (show inb (nI N) (1 : Int32) (40 : Int32) = true from c), r_inb, bn_s, if_b, if_pos (show inb (nI d) (0 : Int32) (9 : Int32) = true from c2)]
        exact e
    · refine PA_0 (ans := -1) hs hr (fun I z => ?_) (fun I q hI => ⟨I, ?_, Sc_r⟩)
      · show pX9_storm n z _ _ _ = _
        unfold pX9_storm
        rw [if_neg (show ¬ nI N < (1 : Int32) from nI_nlt (b := 1) h1 (by omega)), if_neg (show ¬ (40 : Int32) < nI N from nI_nlt (a := 40) hN (by omega))]
        rcases inb_f c2 (by omega) (by omega) with e | ⟨j, hj, hj2, rfl⟩
        · rw [if_pos e]
        · rw [if_neg (nI_pos (by omega)), if_neg (show ¬ nI j ≤ (9 : Int32) from nI_ge (a := 9) (by omega) hj)]
      · show pX10_storm n q _ _ _ = _
        unfold pX10_storm
        rw [Mt hI, lt_b, r_inb, bn_s, if_b, if_pos (show inb (nI N) (1 : Int32) (40 : Int32) = true from c), r_inb, bn_s, if_b, if_neg (show ¬ inb y (0 : Int32) (9 : Int32) = true from c2)]
  · refine PA_0 (ans := -1) hs hr (fun I z => ?_) (fun I q hI => ⟨I, ?_, Sc_r⟩)
    · show pX9_storm n z _ _ _ = _
      unfold pX9_storm
      rcases inb_f c (by omega) (by omega) with e | ⟨j, hj, hj2, rfl⟩
      · rw [if_pos (lt_1 e)]
      · by_cases e : j < 1
        · rw [if_pos (show nI j < (1 : Int32) from nI_lt (b := 1) e (by omega))]
        · rw [if_neg (show ¬ nI j < (1 : Int32) from nI_nlt (b := 1) (by omega) (by omega)), if_pos (show (40 : Int32) < nI j from nI_lt (a := 40) (by omega) hj)]
    · show pX10_storm n q _ _ _ = _
      unfold pX10_storm
      rw [Mt hI, lt_b, r_inb, bn_s, if_b, if_neg (show ¬ inb x (1 : Int32) (40 : Int32) = true from c)]
/-- lie -/
theorem c_isCert (hs : okS s) {a : Nat} (ha : a ≤ s 3) : pX1_isCertified n (w + 1) (nI a) (C w I s h r) = some (nI (if a = 0 ∨ s (716 + a) = 1 then 1 else 0)) := by
  have h3 := hs.b3
  have f1 := hs.2.1.2.2.2.2.2.1 a ha
  unfold pX1_isCertified
  rw [c_has h3 (by omega), bn_s, if_pos ha, if_neg (by decide), ck_in (by omega) (by omega), nI_clamp (by omega)]
  by_cases e0 : a = 0
  · subst e0
    rw [cg_cert0, if_pos (by rfl), if_pos (Or.inl rfl)]
    rfl
  · rw [cg_cert (by omega) e0]
    by_cases e1 : s (716 + a) = 1
    · rw [e1, if_pos (by rfl), if_pos (Or.inr rfl)]
      rfl
    · rw [show s (716 + a) = 0 by omega, if_neg (by decide), if_neg (by omega)]
      rfl
theorem ng_le {x : Int32} {m : Nat} (hm : m < 2 ^ 31) (e : x < 0) : x ≤ nI m := by
  rw [Int32.lt_iff_toInt_lt] at e
  rw [Int32.le_iff_toInt_le, nI_toInt hm]
  have : (0 : Int32).toInt = 0 := by decide
  omega
theorem lie_blk (hs : okS s) (hr : okR s h r) {k a ju : Nat} (hk : k < s 0 + 4) (ha : a ≤ s 3) {y x4 x5 : Int32} (hn : 100 ≤ n) (hy : (y = nI 1 ∧ ju = a ∧ (a = 0 ∨ s (716 + a) = 1)) ∨ (y = nI 3 ∧ ju = 0)) :
    ∃ ans s', (okS s' ∧ (okX s → okX s')) ∧ s' 9 = s 9 ∧ (∀ w (I : ev_I), ∃ r', pX8_lieBlock n w (nI k) (nI a) (nI ju) x4 x5 (C w I s h r) = some (ans, C w I s' h r') ∧ okR s' h r') ∧ ∀ q (I : ev_I), pX10_liesBlock n q (nI k) y (nI a) x4 x5 (M q I s) = some (ans, M q I s') := by
  have h0 := hs.2.2.1.1
  have h1 := hs.2.2.1.2.1
  have h3 := hs.b3
  have hv := hs.view ha
  have f1 := hs.2.1.2.2.2.2.2.1 a ha
  have eM : ∀ q (I : ev_I) o, (if inb x4 (nI (s (16 + a) + 1)) (200 : Int32) = true then (pX10_leaderOf n q x4 (M q I s)).bind fun z6 => if z6 = nI k then (if inb x5 (0 : Int32) (999 : Int32) = true then (if nI (s 3 + 1) = (100 : Int32) then some ((-1 : Int32), M q I s) else (pX10_laysBlock n q (nI k) x4 (nI a) (nI ju) x5 (0 : Int32) (M q I s)).bind fun z1 => some (z1.1, z1.2)) else some (-1, M q I s)) else some (-1, M q I s) else some (-1, M q I s)) = some o → pX10_liesBlock n q (nI k) y (nI a) x4 x5 (M q I s) = some o := by
    intro q I o ho
    unfold pX10_liesBlock cX10_liesBlock_70 cX10_liesBlock_85
    rw [show (16 : Int32) = nI 16 from rfl, nI_add, ck_in (by omega) (by omega), nI_clamp (by omega), M_get, nI_1, r_inb, bn_s, if_b]
    simp only [r_inb, bn_s, if_b, r_blockMany]
    rw [← ho]
    rcases hy with ⟨rfl, rfl, hc⟩ | ⟨rfl, rfl⟩
    · rw [r_isCertified (by omega) (by omega)]
      simp only [bn_s, if_pos hc, if_pos (show nI 1 = (1 : Int32) from rfl), if_neg (show ¬ nI 1 = (0 : Int32) by decide)]
    · simp only [if_neg (show ¬ nI 3 = (1 : Int32) by decide)] <;> rfl
  by_cases cv : inb x4 (nI (s (16 + a) + 1)) (nI 200) = true
  · obtain ⟨v, v1, v2, rfl⟩ := inb_e cv (by omega) (by omega)
    have eC : ∀ w (I : ev_I), pX8_lieBlock n w (nI k) (nI a) (nI ju) (nI v) x5 (C w I s h r) = if ldr s v = k then (if x5 < 0 then some ((-1 : Int32), C w I s h r) else if (999 : Int32) < x5 then some ((-1 : Int32), C w I s h r) else if (C w I s h r (w + 1) 0) < (100 : Int32) then (pX1_add n (w + 1) (nI v) (nI a) (nI ju) x5 (nI k) (0 : Int32) (C w I s h r)).bind fun z9 => (pX8_sendToAll n w (nI k) (1 : Int32) z9.1 (-1 : Int32) z9.2).bind fun z10 => some (z9.1, z10) else some ((-1 : Int32), C w I s h r)) else some (-1, C w I s h r) := by
      intro w I
      have hl := ldr_l (s := s) (v := v) h0
      unfold pX8_lieBlock
      rw [ck_in (by omega) (by omega), nI_clamp (by omega), cg_view (by omega), if_neg (nI_ge (by omega) (by omega)), if_neg (show ¬ (200 : Int32) < nI v from nI_nlt (a := 200) v2 (by omega)), c_leaderOf (by omega) h0 h1, bn_s]
      by_cases e : ldr s v = k
      · rw [if_pos (congrArg nI e), if_pos e]
      · rw [if_neg (fun q => e ((nI_eq (by omega) (by omega)).mp q)), if_neg e]
    have eM2 : ∀ q (I : ev_I) o, (if ldr s v = k then (if inb x5 (nI 0) (nI 999) = true then (if s 3 = 99 then some ((-1 : Int32), M q I s) else (pX10_laysBlock n q (nI k) (nI v) (nI a) (nI ju) x5 (0 : Int32) (M q I s)).bind fun z1 => some (z1.1, z1.2)) else some (-1, M q I s)) else some (-1, M q I s)) = some o → pX10_liesBlock n q (nI k) y (nI a) (nI v) x5 (M q I s) = some o := by
      intro q I o ho
      have hl := ldr_l (s := s) (v := v) h0
      refine eM q I o ?_
      rw [if_pos (show inb (nI v) (nI (s (16 + a) + 1)) (200 : Int32) = true from cv), r_ldr (by omega) h0 h1, bn_s, ← ho]
      by_cases e : ldr s v = k
      · rw [if_pos (congrArg nI e), if_pos e]
        by_cases e2 : inb x5 (nI 0) (nI 999) = true
        · rw [if_pos (show inb x5 (0 : Int32) (999 : Int32) = true from e2), if_pos e2]
          by_cases e3 : s 3 = 99
          · rw [if_pos (show nI (s 3 + 1) = (100 : Int32) by rw [e3]; rfl), if_pos e3]
          · rw [if_neg (show ¬ nI (s 3 + 1) = (100 : Int32) from fun q => e3 (by have := (nI_eq (b := 100) (by omega) (by omega)).mp q; omega)), if_neg e3]
        · rw [if_neg (show ¬ inb x5 (0 : Int32) (999 : Int32) = true from e2), if_neg e2]
      · rw [if_neg (fun q => e ((nI_eq (by omega) (by omega)).mp q)), if_neg e]
    by_cases cl : ldr s v = k
    · by_cases cp : inb x5 (nI 0) (nI 999) = true
      · obtain ⟨p, -, hp, rfl⟩ := inb_e cp (by omega) (by omega)
        by_cases c9 : s 3 = 99
        · refine ⟨-1, s, ⟨hs, id⟩, rfl, fun w I => ⟨r, ?_, hr⟩, fun q I => eM2 q I _ ?_⟩
          · rw [eC, if_pos cl, if_neg (nI_pos (by omega)), if_neg (show ¬ (999 : Int32) < nI p from nI_nlt (a := 999) hp (by omega)), cg_count, if_neg (show ¬ nI (s 3 + 1) < (100 : Int32) from nI_nlt (b := 100) (by omega) (by omega))]
          · rw [if_pos cl, if_pos cp, if_pos c9]
        · have hju : ju ≤ s 3 := by omega
          refine ⟨nI (s 3 + 1), sLay s k v a ju p 0, ⟨ok_lay hs (by omega) (by omega) (by omega) ha hju hp (by omega), fun x => okX_lay hs x (by omega) (by omega) (by omega) ha hju hp (by omega)⟩, (Mo_lay hs (by omega) (by omega) (by omega) ha hju hp (by omega)).2.2 9 (by omega), fun w I => ?_, fun q I => eM2 q I _ ?_⟩
          · obtain ⟨r', e, hr'⟩ := c_lay (n := n) (w := w) (I := I) hs hr (a := k) (v := v) (pa := a) (ju := ju) (pl := p) (pr := 0) (by omega) (by omega) (by omega) ha hju hp (by omega) (by omega)
            refine ⟨r', ?_, hr'⟩
            rw [eC, if_pos cl, if_neg (nI_pos (by omega)), if_neg (show ¬ (999 : Int32) < nI p from nI_nlt (a := 999) hp (by omega)), cg_count, if_pos (show nI (s 3 + 1) < (100 : Int32) from nI_lt (b := 100) (by omega) (by omega)), show (0 : Int32) = nI 0 from rfl, c_add9 hs (by omega) ha, bn_s, e, bn_s]
          · rw [if_pos cl, if_pos cp, if_neg c9, show (0 : Int32) = nI 0 from rfl, r_lay hs (by omega) (by omega) (by omega) ha hju hp (by omega) (by omega), bn_s]
      · refine ⟨-1, s, ⟨hs, id⟩, rfl, fun w I => ⟨r, ?_, hr⟩, fun q I => eM2 q I _ ?_⟩
        · rw [eC, if_pos cl]
          rcases inb_f cp (by omega) (by omega) with e | ⟨j, hj, hj2, rfl⟩
          · rw [if_pos e]
          · rw [if_neg (nI_pos (by omega)), if_pos (show (999 : Int32) < nI j from nI_lt (a := 999) (by omega) hj)]
        · rw [if_pos cl, if_neg cp]
    · refine ⟨-1, s, ⟨hs, id⟩, rfl, fun w I => ⟨r, ?_, hr⟩, fun q I => eM2 q I _ ?_⟩
      · rw [eC, if_neg cl]
      · rw [if_neg cl]
  · refine ⟨-1, s, ⟨hs, id⟩, rfl, fun w I => ⟨r, ?_, hr⟩, fun q I => eM q I _ (if_neg (show ¬ inb x4 (nI (s (16 + a) + 1)) (200 : Int32) = true from cv))⟩
    unfold pX8_lieBlock
    rw [ck_in (by omega) (by omega), nI_clamp (by omega), cg_view (by omega)]
    rcases inb_f cv (by omega) (by omega) with e | ⟨j, hj, hj2, rfl⟩
    · rw [if_pos (ng_le (by omega) e)]
    · by_cases e : j ≤ s (16 + a)
      · rw [if_pos (nI_le e (by omega))]
      · rw [if_neg (nI_ge (by omega) (by omega)), if_pos (show (200 : Int32) < nI j from nI_lt (a := 200) (by omega) hj)]
theorem pa_lie (hs : okS s) (hr : okR s h r) {x y a v p : Int32} (hn : 100 ≤ n) : PAt (fun z => pX9_lie n z x y a v p) (fun q => pX10_lie n q x y a v p) s h r := by
  have h0 := hs.2.2.1.1
  have h1 := hs.2.2.1.2.1
  have h3 := hs.b3
  have h4 := hs.2.2.1.2.2.1
  by_cases c : gd x (s 0 + 4) = true
  · obtain ⟨k, hk, rfl⟩ := gd_e c (by omega)
    have f0 := (hs.2.2.2.1 k (by omega)).1.1
    have f11 := (hs.2.2.2.1 k (by omega)).1.2.2.2.2.2.2.2.2.1
    by_cases cm : s (2416 + 513 * k) = 2
    · by_cases ca : gd a (s 3 + 1) = true
      · obtain ⟨b, hb, rfl⟩ := gd_e ca (by omega)
        have hb3 : b ≤ s 3 := by omega
        have f1 := hs.2.1.2.2.2.2.2.1 b hb3
        have hvb := hs.view hb3
        have eC : ∀ (I : ev_I) z o, (if y = (0 : Int32) then pX8_lieMark n (z + 1) (nI k) (nI b) (C (z + 1) I s h r) else if y = (1 : Int32) then ((pX1_isCertified n (z + 1 + 1) (nI b) (C (z + 1) I s h r)).bind fun z10 => if z10 = 0 then some ((-1 : Int32), C (z + 1) I s h r) else pX8_lieBlock n (z + 1) (nI k) (nI b) (nI b) v p (C (z + 1) I s h r)) else if y = (2 : Int32) then pX8_lieTimeout n (z + 1) (nI k) (nI b) v (C (z + 1) I s h r) else if y = (3 : Int32) then pX8_lieBlock n (z + 1) (nI k) (nI b) (0 : Int32) v p (C (z + 1) I s h r) else some ((-1 : Int32), C (z + 1) I s h r)) = some o → pX9_lie n z (nI k) y (nI b) v p (C (z + 1) I s h r) = some o := by
          intro I z o ho
          unfold pX9_lie pX8_lieBy
          rw [c_node, bn_s, if_b, if_pos c, ck_in (by omega) (by omega), nI_clamp (by omega), cg_mode (by omega), cm, if_pos (show nI 2 = (2 : Int32) from rfl), c_blk, bn_s, if_b, if_pos ca]
          by_cases y0 : y = (0 : Int32)
          · rw [if_pos y0] at ho ⊢
            rw [ho]; rfl
          · rw [if_neg y0] at ho ⊢
            by_cases y1 : y = (1 : Int32)
            · rw [if_pos y1] at ho ⊢
              rw [c_isCert hs hb3, bn_s] at ho ⊢
              by_cases e : nI (if b = 0 ∨ s (716 + b) = 1 then 1 else 0) = 0
              · rw [if_pos e] at ho ⊢
                rw [ho]; rfl
              · rw [if_neg e] at ho ⊢
                rw [ho]; rfl
            · rw [if_neg y1] at ho ⊢
              by_cases y2 : y = (2 : Int32)
              · rw [if_pos y2] at ho ⊢
                rw [ho]; rfl
              · rw [if_neg y2] at ho ⊢
                by_cases y3 : y = (3 : Int32)
                · rw [if_pos y3] at ho ⊢
                  rw [ho]; rfl
                · rw [if_neg y3] at ho ⊢
                  rw [ho]; rfl
        have eM : ∀ (I : ev_I) q, I q 0 = 0 → inb y (nI 0) (nI 3) = true → ∀ o, (if y = (1 : Int32) then pX10_liesBlock n q (nI k) y (nI b) v p (M q I s) else if y = (3 : Int32) then pX10_liesBlock n q (nI k) y (nI b) v p (M q I s) else if y = 0 then (if nI b = 0 then some ((-1 : Int32), M q I s) else some ((0 : Int32), M q I (sMark s k b))) else if inb v (nI 1) (nI 200) = true then (if b = 0 ∨ s (716 + b) = 1 then (pX10_sendsAll n q (nI k) (3 : Int32) v (nI b) (M q I s)).bind fun z19 => some ((0 : Int32), z19) else some (-1, M q I s)) else some (-1, M q I s)) = some o → pX10_lie n q (nI k) y (nI b) v p (M q I s) = some o := by
          intro I q hI d o ho
          have hsnd := r_sends (n := n) (q := q) (I := I) (s := s) (f := k) (t := ldr s (s (16 + b) + 1)) (kd := 2) (w := b) (hu := 0) (x := -1) (by omega) (ldr_l h0) f11 h4 (by decide)
          unfold pX10_lie cX10_lie_59
          rw [Mt hI, lt_b, r_node, bn_s, if_b, if_pos c, r_nodeAt, bn_s]
          have z0 : (nI (2416 + 513 * k) + (0 : Int32)) = nI (2416 + 513 * k) := by rw [show (0 : Int32) = nI 0 from rfl, nI_add, Nat.add_zero]
          rw [z0, ck_in (by omega) (by omega), nI_clamp (by omega), M_get, cm, if_pos (show nI 2 = (2 : Int32) from rfl), r_inb, bn_s, if_b, if_pos (show inb y (0 : Int32) (3 : Int32) = true from d), r_blk, bn_s, if_b, if_pos ca]
          by_cases y1 : y = (1 : Int32)
          · rw [if_pos y1] at ho ⊢
            rw [ho]; rfl
          · rw [if_neg y1] at ho ⊢
            by_cases y3 : y = (3 : Int32)
            · rw [if_pos y3] at ho ⊢
              rw [ho]; rfl
            · rw [if_neg y3] at ho ⊢
              by_cases y0 : y = 0
              · rw [if_pos y0] at ho ⊢
                by_cases b0 : nI b = 0
                · rw [if_pos b0] at ho ⊢
                  exact ho
                · rw [if_neg b0] at ho ⊢
                  rw [show (16 : Int32) = nI 16 from rfl, nI_add, ck_in (by omega) (by omega), nI_clamp (by omega), M_get, nI_1, r_ldr (by omega) h0 h1, bn_s, show (2 : Int32) = nI 2 from rfl, hsnd, bn_s]
                  exact ho
              · rw [if_neg y0] at ho ⊢
                rw [r_inb, bn_s, if_b]
                by_cases cv : inb v (nI 1) (nI 200) = true
                · rw [if_pos cv] at ho
                  rw [if_pos (show inb v (1 : Int32) (200 : Int32) = true from cv), r_isCertified (by omega) (by omega), bn_s, if_n01]
                  by_cases e : b = 0 ∨ s (716 + b) = 1
                  · rw [if_pos e] at ho ⊢
                    exact ho
                  · rw [if_neg e] at ho ⊢
                    exact ho
                · rw [if_neg cv] at ho
                  rw [if_neg (show ¬ inb v (1 : Int32) (200 : Int32) = true from cv)]
                  exact ho
        by_cases d : inb y (nI 0) (nI 3) = true
        · obtain ⟨j, -, hj, rfl⟩ := inb_e d (by omega) (by omega)
          have hj' : j = 0 ∨ j = 1 ∨ j = 2 ∨ j = 3 := by omega
          rcases hj' with rfl | rfl | rfl | rfl
          · by_cases b0 : b = 0
            · refine PA_0 (ans := -1) hs hr (fun I z => eC I z _ ?_) (fun I q hI => ⟨I, eM I q hI d _ ?_, Sc_r⟩)
              · rw [if_pos (show nI 0 = (0 : Int32) from rfl)]
                unfold pX8_lieMark
                rw [b0, if_pos (show nI 0 = (0 : Int32) from rfl)]
              · rw [if_neg (show ¬ nI 0 = (1 : Int32) by decide), if_neg (show ¬ nI 0 = (3 : Int32) by decide), if_pos (show nI 0 = (0 : Int32) from rfl), b0, if_pos (show nI 0 = (0 : Int32) from rfl)]
            · refine ⟨0, sMark s k b, ⟨ok_mark hs (by omega) (by omega) hb3, fun x => okX_send hs x⟩, (Mo_send hs).2.2 9 (by omega), fun I z => ?_, fun I q hI => ⟨I, eM I q hI d _ ?_, Sc_r⟩⟩
              · obtain ⟨r', e, hr'⟩ := c_sendMark (n := n) (w := z + 1) (I := I) hr (f := k) (b := b) (by omega) (by omega) hvb f11 h0 h1 h4
                refine ⟨h, r', eC I z _ ?_, hr'⟩
                rw [if_pos (show nI 0 = (0 : Int32) from rfl)]
                unfold pX8_lieMark
                rw [if_neg (nI_ne0 (by omega) (by omega)), e, bn_s]
                rfl
              · rw [if_neg (show ¬ nI 0 = (1 : Int32) by decide), if_neg (show ¬ nI 0 = (3 : Int32) by decide), if_pos (show nI 0 = (0 : Int32) from rfl), if_neg (nI_ne0 (by omega) (by omega))]
          · by_cases cc : b = 0 ∨ s (716 + b) = 1
            · obtain ⟨ans, s', a1, a2, a3, a4⟩ := lie_blk (n := n) hs hr (k := k) (a := b) (ju := b) hk hb3 (y := nI 1) (x4 := v) (x5 := p) hn (Or.inl ⟨rfl, rfl, cc⟩)
              refine ⟨ans, s', a1, a2, fun I z => ?_, fun I q hI => ⟨I, eM I q hI d _ ?_, Sc_r⟩⟩
              · obtain ⟨r', e, hr'⟩ := a3 (z + 1) I
                refine ⟨h, r', eC I z _ ?_, hr'⟩
                rw [if_neg (show ¬ nI 1 = (0 : Int32) by decide), if_pos (show nI 1 = (1 : Int32) from rfl), c_isCert hs hb3, bn_s, if_n01, if_pos cc, e]
              · rw [if_pos (show nI 1 = (1 : Int32) from rfl)]
                exact a4 q I
            · refine PA_0 (ans := -1) hs hr (fun I z => eC I z _ ?_) (fun I q hI => ⟨I, eM I q hI d _ ?_, Sc_r⟩)
              · rw [if_neg (show ¬ nI 1 = (0 : Int32) by decide), if_pos (show nI 1 = (1 : Int32) from rfl), c_isCert hs hb3, bn_s, if_n01, if_neg cc]
              · rw [if_pos (show nI 1 = (1 : Int32) from rfl)]
                unfold pX10_liesBlock
                rw [show (16 : Int32) = nI 16 from rfl, nI_add, ck_in (by omega) (by omega), nI_clamp (by omega), M_get, nI_1, r_inb, bn_s, if_b]
                by_cases cv : inb v (nI (s (16 + b) + 1)) (200 : Int32) = true
                · obtain ⟨t, t1, t2, rfl⟩ := inb_e (b := 200) cv (by omega) (by omega)
                  have hl := ldr_l (s := s) (v := t) h0
                  rw [if_pos cv, r_ldr (by omega) h0 h1, bn_s]
                  by_cases cl : nI (ldr s t) = nI k
                  · rw [if_pos cl, r_inb, bn_s, if_b]
                    by_cases cp : inb p (0 : Int32) (999 : Int32) = true
                    · rw [if_pos cp, r_blockMany, bn_s]
                      by_cases c9 : nI (s 3 + 1) = (100 : Int32)
                      · rw [if_pos c9]
                      · rw [if_neg c9, if_pos (show nI 1 = (1 : Int32) from rfl), r_isCertified (by omega) (by omega), bn_s, if_n01, if_neg cc]
                    · rw [if_neg cp]
                  · rw [if_neg cl]
                · rw [if_neg cv]
          · by_cases cv : inb v (nI 1) (nI 200) = true
            · obtain ⟨t, t1, t2, rfl⟩ := inb_e cv (by omega) (by omega)
              have eC2 : ∀ (I : ev_I) z, pX8_lieTimeout n (z + 1) (nI k) (nI b) (nI t) (C (z + 1) I s h r) = if b = 0 ∨ s (716 + b) = 1 then (pX8_sendToAll n (z + 1) (nI k) (3 : Int32) (nI t) (nI b) (C (z + 1) I s h r)).bind fun z5 => some ((0 : Int32), z5) else some (-1, C (z + 1) I s h r) := by
                intro I z
                unfold pX8_lieTimeout
                rw [if_neg (show ¬ nI t < (1 : Int32) from nI_nlt (b := 1) t1 (by omega)), if_neg (show ¬ (200 : Int32) < nI t from nI_nlt (a := 200) t2 (by omega)), c_isCert hs hb3, bn_s, if_n01]
              by_cases cc : b = 0 ∨ s (716 + b) = 1
              · refine ⟨0, sSA s k 3 t (b + 1) (s 0 + 4), ⟨ok_SA hs (fun u hu => ⟨by omega, hu, Or.inr ⟨rfl, by omega, by omega, by omega, by omega⟩⟩) _ (by omega), fun x => okX_SA hs x⟩, (Mo_SA hs).2.2 9 (by omega), fun I z => ?_, fun I q hI => ⟨I, eM I q hI d _ ?_, Sc_r⟩⟩
                · obtain ⟨r', e, hr'⟩ := c_SA (n := n) (w := z + 1) (I := I) (f := k) (kd := 3) (wh := t) (hu := b + 1) (x := nI b) hr (by omega) (by omega) (by omega) (by omega) (nI_add b 1) f11 h0 h4 (by omega)
                  refine ⟨h, r', eC I z _ ?_, hr'⟩
                  rw [if_neg (show ¬ nI 2 = (0 : Int32) by decide), if_neg (show ¬ nI 2 = (1 : Int32) by decide), if_pos (show nI 2 = (2 : Int32) from rfl), eC2, if_pos cc, show (3 : Int32) = nI 3 from rfl, e, bn_s]
                · rw [if_neg (show ¬ nI 2 = (1 : Int32) by decide), if_neg (show ¬ nI 2 = (3 : Int32) by decide), if_neg (show ¬ nI 2 = (0 : Int32) by decide), if_pos cv, if_pos cc, show (3 : Int32) = nI 3 from rfl, r_sendsAll (by omega) f11 h0 h4 (nI_add b 1) (by omega), bn_s]
              · refine PA_0 (ans := -1) hs hr (fun I z => eC I z _ ?_) (fun I q hI => ⟨I, eM I q hI d _ ?_, Sc_r⟩)
                · rw [if_neg (show ¬ nI 2 = (0 : Int32) by decide), if_neg (show ¬ nI 2 = (1 : Int32) by decide), if_pos (show nI 2 = (2 : Int32) from rfl), eC2, if_neg cc]
                · rw [if_neg (show ¬ nI 2 = (1 : Int32) by decide), if_neg (show ¬ nI 2 = (3 : Int32) by decide), if_neg (show ¬ nI 2 = (0 : Int32) by decide), if_pos cv, if_neg cc]
            · refine PA_0 (ans := -1) hs hr (fun I z => eC I z _ ?_) (fun I q hI => ⟨I, eM I q hI d _ ?_, Sc_r⟩)
              · rw [if_neg (show ¬ nI 2 = (0 : Int32) by decide), if_neg (show ¬ nI 2 = (1 : Int32) by decide), if_pos (show nI 2 = (2 : Int32) from rfl)]
                unfold pX8_lieTimeout
                rcases inb_f cv (by omega) (by omega) with e | ⟨j, hj, hj2, rfl⟩
                · rw [if_pos (lt_1 e)]
                · by_cases e : j < 1
                  · rw [if_pos (show nI j < (1 : Int32) from nI_lt (b := 1) e (by omega))]
                  · rw [if_neg (show ¬ nI j < (1 : Int32) from nI_nlt (b := 1) (by omega) (by omega)), if_pos (show (200 : Int32) < nI j from nI_lt (a := 200) (by omega) hj)]
              · rw [if_neg (show ¬ nI 2 = (1 : Int32) by decide), if_neg (show ¬ nI 2 = (3 : Int32) by decide), if_neg (show ¬ nI 2 = (0 : Int32) by decide), if_neg cv]
          · obtain ⟨ans, s', a1, a2, a3, a4⟩ := lie_blk (n := n) hs hr (k := k) (a := b) (ju := 0) hk hb3 (y := nI 3) (x4 := v) (x5 := p) hn (Or.inr ⟨rfl, rfl⟩)
            refine ⟨ans, s', a1, a2, fun I z => ?_, fun I q hI => ⟨I, eM I q hI d _ ?_, Sc_r⟩⟩
            · obtain ⟨r', e, hr'⟩ := a3 (z + 1) I
              refine ⟨h, r', eC I z _ ?_, hr'⟩
              rw [if_neg (show ¬ nI 3 = (0 : Int32) by decide), if_neg (show ¬ nI 3 = (1 : Int32) by decide), if_neg (show ¬ nI 3 = (2 : Int32) by decide), if_pos (show nI 3 = (3 : Int32) from rfl)]
              exact e
            · rw [if_neg (show ¬ nI 3 = (1 : Int32) by decide), if_pos (show nI 3 = (3 : Int32) from rfl)]
              exact a4 q I
        · refine PA_0 (ans := -1) hs hr (fun I z => eC I z _ ?_) (fun I q hI => ⟨I, ?_, Sc_r⟩)
          · rw [if_neg (show ¬ y = (0 : Int32) from inb_ne d (j := 0) (by omega) (by omega)), if_neg (show ¬ y = (1 : Int32) from inb_ne d (j := 1) (by omega) (by omega)), if_neg (show ¬ y = (2 : Int32) from inb_ne d (j := 2) (by omega) (by omega)), if_neg (show ¬ y = (3 : Int32) from inb_ne d (j := 3) (by omega) (by omega))]
          · show pX10_lie n q _ _ _ _ _ _ = _
            unfold pX10_lie
            rw [Mt hI, lt_b, r_node, bn_s, if_b, if_pos c, r_nodeAt, bn_s]
            have z0 : (nI (2416 + 513 * k) + (0 : Int32)) = nI (2416 + 513 * k) := by rw [show (0 : Int32) = nI 0 from rfl, nI_add, Nat.add_zero]
            rw [z0, ck_in (by omega) (by omega), nI_clamp (by omega), M_get, cm, if_pos (show nI 2 = (2 : Int32) from rfl), r_inb, bn_s, if_b, if_neg (show ¬ inb y (0 : Int32) (3 : Int32) = true from d)]
      · refine PA_0 (ans := -1) hs hr (fun I z => ?_) (fun I q hI => ⟨I, ?_, Sc_r⟩)
        · show pX9_lie n z _ _ _ _ _ _ = _
          unfold pX9_lie pX8_lieBy
          rw [c_node, bn_s, if_b, if_pos c, ck_in (by omega) (by omega), nI_clamp (by omega), cg_mode (by omega), cm, if_pos (show nI 2 = (2 : Int32) from rfl), c_blk, bn_s, if_b, if_neg ca]
          rfl
        · show pX10_lie n q _ _ _ _ _ _ = _
          unfold pX10_lie
          rw [Mt hI, lt_b, r_node, bn_s, if_b, if_pos c, r_nodeAt, bn_s]
          have z0 : (nI (2416 + 513 * k) + (0 : Int32)) = nI (2416 + 513 * k) := by rw [show (0 : Int32) = nI 0 from rfl, nI_add, Nat.add_zero]
          rw [z0, ck_in (by omega) (by omega), nI_clamp (by omega), M_get, cm, if_pos (show nI 2 = (2 : Int32) from rfl), r_inb, bn_s, if_b, r_blk, bn_s, if_b, if_neg ca]
          split <;> rfl
    · refine PA_0 (ans := -1) hs hr (fun I z => ?_) (fun I q hI => ⟨I, ?_, Sc_r⟩)
      · show pX9_lie n z _ _ _ _ _ _ = _
        unfold pX9_lie pX8_lieBy
        rw [c_node, bn_s, if_b, if_pos c, ck_in (by omega) (by omega), nI_clamp (by omega), cg_mode (by omega), if_neg (show ¬ nI (s (2416 + 513 * k)) = (2 : Int32) from fun e => cm ((nI_eq (b := 2) (by omega) (by omega)).mp e))]
        rfl
      · show pX10_lie n q _ _ _ _ _ _ = _
        unfold pX10_lie
        rw [Mt hI, lt_b, r_node, bn_s, if_b, if_pos c, r_nodeAt, bn_s]
        have z0 : (nI (2416 + 513 * k) + (0 : Int32)) = nI (2416 + 513 * k) := by rw [show (0 : Int32) = nI 0 from rfl, nI_add, Nat.add_zero]
        rw [z0, ck_in (by omega) (by omega), nI_clamp (by omega), M_get, if_neg (show ¬ nI (s (2416 + 513 * k)) = (2 : Int32) from fun e => cm ((nI_eq (b := 2) (by omega) (by omega)).mp e))]
  · refine PA_0 (ans := -1) hs hr (fun I z => ?_) (fun I q hI => ⟨I, ?_, Sc_r⟩)
    · show pX9_lie n z _ _ _ _ _ _ = _
      unfold pX9_lie pX8_lieBy
      rw [c_node, bn_s, if_b, if_neg c]
      rfl
    · show pX10_lie n q _ _ _ _ _ _ = _
      unfold pX10_lie
      rw [Mt hI, lt_b, r_node, bn_s, if_b, if_neg c]
/-- nodes -/
def zr (s : Nat → Nat) (a l : Nat) : Nat → Nat := fun j => if a ≤ j ∧ j < a + l then 0 else s j
theorem it0 {c : Prop} {i : Decidable c} {a x b : Nat} (h1 : c → b = x) (h2 : ¬ c → a = x) : (if c then b else a) = x := by
  by_cases h : c
  · rw [if_pos h]; exact h1 h
  · rw [if_neg h]; exact h2 h
theorem fill_e {a Z : Nat} {v : Int32} (hZ : Z < 2 ^ 31) : ∀ (m i n : Nat) (I : ev_I), i + m = Z → m < n → lJ7_fill_53178_5 a Z n v (nI i) (nI Z) I = some (fun b j => if b = a ∧ i ≤ j ∧ j < Z then v else I b j) := by
  intro m
  induction m with
  | zero =>
    intro i n I hi hn
    obtain ⟨n, rfl⟩ : ∃ k, n = k + 1 := ⟨n - 1, by omega⟩
    show cJ7_fill_53178_5 a Z _ n _ _ _ _ = _
    unfold cJ7_fill_53178_5
    rw [if_pos (nI_le (by omega) (by omega))]
    congr 1
    funext b j
    rw [if_neg (by omega)]
  | succ m ih =>
    intro i n I hi hn
    obtain ⟨n, rfl⟩ : ∃ k, n = k + 1 := ⟨n - 1, by omega⟩
    show cJ7_fill_53178_5 a Z _ n _ _ _ _ = _
    unfold cJ7_fill_53178_5
    rw [if_neg (nI_ge (by omega) (by omega)), ck_in (by omega) (by omega), nI_clamp (by omega), lt_b, lt_b, nI_1, ih (i + 1) n _ (by omega) (by omega)]
    congr 1
    funext b j
    unfold ev_u2
    by_cases c : b = a ∧ i ≤ j ∧ j < Z
    · rw [if_pos c]
      by_cases c2 : b = a ∧ i + 1 ≤ j ∧ j < Z
      · rw [if_pos c2]
      · rw [if_neg c2, if_pos (by omega)]
    · rw [if_neg c, if_neg (by omega), if_neg (by omega)]
theorem C_fill {o Z base : Nat} (ho : o < 58) (hb : 16 ≤ base) (hs : ∀ j, j < Z → src o j = some (base + j)) (hv : ∀ j, j < Z → vl o j 0 = 0) (hn : Z < n) (hZ : Z < 2 ^ 31) : pJ7_fill_53178 n (w + o) Z (0 : Int32) (C w I s h r) = some (C w I (zr s base Z) h r) := by
  unfold pJ7_fill_53178
  rw [lt_b]
  refine (fill_e (a := w + o) (v := 0) hZ Z 0 n _ (by omega) hn).trans ?_
  congr 1
  funext b j
  by_cases c : b = w + o ∧ 0 ≤ j ∧ j < Z
  · rw [if_pos c, c.1, C_get ho (hs j c.2.2)]
    unfold zr
    rw [if_pos (by omega), hv j c.2.2]
  · rw [if_neg c]
    unfold C
    by_cases cw : w ≤ b ∧ b < w + 58
    · rw [if_pos cw, if_pos cw]
      cases e : src (b - w) j with
      | none => rfl
      | some k =>
        show vl (b - w) j (s k) = vl (b - w) j (zr s base Z k)
        congr 1
        unfold zr
        rw [if_neg]
        intro hk
        have h1 := srd_e (by omega) e (by omega)
        have h2 := srd_e ho (hs (k - base) (by omega)) (by omega)
        rw [show base + (k - base) = k by omega, h1] at h2
        have h3 := congrArg Prod.fst h2
        have h4 := congrArg Prod.snd h2
        simp only at h3 h4
        omega
    · rw [if_neg cw, if_neg cw]
theorem c_reset {k : Nat} (hk : k < 7) (hn : 300 ≤ n) {β : Type} (f : ev_I → Option β) : ((pX3_reset n (w + (23 + 5 * k)) (C w I s h r)).bind fun z3 => f (ev_u2 z3 (w + 11 + 2) k (0 : Int32))) = f (C w I (zr s (2416 + 513 * k) 513) h r) := by
  unfold pX3_reset
  simp only [lt_b]
  have e0 : (0 : Int32) = nI 0 := rfl
  have e1 : (1 : Int32) = nI 1 := rfl
  rw [e0, e1, cp_mode hk, cp_mview hk (by omega), cp_voted hk, cp_prop hk, cp_timed hk, cp_high hk, cp_lock hk, cp_proof hk, cp_forks hk, cp_logn hk (by omega), cp_seenn hk, ← e0]
  rw [Nat.add_assoc w (23 + 5 * k) 1, C_fill (o := 23 + 5 * k + 1) (base := 2416 + 513 * k + 12) (by omega) (by omega) (fun j hj => src_m1 hj) (fun j hj => vl_m (by omega) (by omega)) (by omega) (by omega), bn_s]
  rw [Nat.add_assoc w (23 + 5 * k) 2, C_fill (o := 23 + 5 * k + 2) (base := 2416 + 513 * k + 112) (by omega) (by omega) (fun j hj => src_m2 hj) (fun j hj => vl_m (by omega) (by omega)) (by omega) (by omega), bn_s]
  rw [Nat.add_assoc w (23 + 5 * k) 3, C_fill (o := 23 + 5 * k + 3) (base := 2416 + 513 * k + 212) (by omega) (by omega) (fun j hj => src_m3 hj) (fun j hj => vl_m (by omega) (by omega)) (by omega) (by omega), bn_s]
  rw [Nat.add_assoc w (23 + 5 * k) 4, C_fill (o := 23 + 5 * k + 4) (base := 2416 + 513 * k + 312) (by omega) (by omega) (fun j hj => src_m4 hj) (fun j hj => vl_m (by omega) (by omega)) (by omega) (by omega), bn_s, bn_s, e0, cp_cuts hk]
  congr 2
  funext j
  simp only [zr, up]
  by_cases c : 2416 + 513 * k ≤ j ∧ j < 2416 + 513 * k + 513
  · rw [if_pos c]
    repeat (refine it0 (fun _ => rfl) (fun _ => ?_))
    omega
  · rw [if_neg c]
    repeat (refine it0 (fun _ => by omega) (fun _ => ?_))
    rfl
theorem zr_zr {a l m : Nat} : zr (zr s a l) (a + l) m = zr s a (l + m) := by
  funext j
  simp only [zr]
  by_cases c : a + l ≤ j ∧ j < a + l + m
  · rw [if_pos c, if_pos (by omega)]
  · rw [if_neg c]
    by_cases c2 : a ≤ j ∧ j < a + l
    · rw [if_pos c2, if_pos (by omega)]
    · rw [if_neg c2, if_neg (by omega)]
theorem c_begL : ∀ (m i n : Nat), i + m = 7 → m + 400 < n → lX8_beginWith_7 w n (nI i) (C w I (zr s 2416 (513 * i)) h r) = some (C w I (zr s 2416 3591) h r) := by
  intro m
  induction m with
  | zero =>
    intro i n hi hn
    obtain ⟨n, rfl⟩ : ∃ k, n = k + 1 := ⟨n - 1, by omega⟩
    have e : i = 7 := by omega
    subst e
    show cX8_beginWith_7 w _ n _ _ = _
    unfold cX8_beginWith_7
    rw [if_pos (show (7 : Int32) ≤ nI 7 by decide)]
  | succ m ih =>
    intro i n hi hn
    obtain ⟨n, rfl⟩ : ∃ k, n = k + 1 := ⟨n - 1, by omega⟩
    show cX8_beginWith_7 w _ n _ _ = _
    unfold cX8_beginWith_7
    rw [if_neg (show ¬ (7 : Int32) ≤ nI i from nI_ge (b := 7) (by omega) (by omega)), ck_in (by omega) (by omega), nI_clamp (by omega)]
    simp only [ck_in (show i < 7 by omega) (show 7 < 2 ^ 31 by omega), lt_b]
    refine (c_reset (w := w) (I := I) (s := zr s 2416 (513 * i)) (h := h) (r := r) (n := n) (k := i) (by omega) (by omega) (fun z => lX8_beginWith_7 w n (nI i + 1) z)).trans ?_
    rw [zr_zr, nI_1, show 513 * i + 513 = 513 * (i + 1) by omega]
    exact ih (i + 1) n (by omega) (by omega)
set_option maxRecDepth 100000 in
theorem r_ndL : ∀ (m d n : Nat), d + m = 3594 → m < n → lX10_nodes_38 q n (nI (2416 + d)) (M q I (zr s 2416 d)) = some (1, M q I (zr s 2416 3594)) := by
  intro m
  induction m with
  | zero =>
    intro d n hi hn
    obtain ⟨n, rfl⟩ : ∃ k, n = k + 1 := ⟨n - 1, by omega⟩
    have e : d = 3594 := by omega
    subst e
    show cX10_nodes_38 q _ n _ _ = _
    unfold cX10_nodes_38
    rw [if_pos (show (6010 : Int32) ≤ nI (2416 + 3594) by decide)]
  | succ m ih =>
    intro d n hi hn
    obtain ⟨n, rfl⟩ : ∃ k, n = k + 1 := ⟨n - 1, by omega⟩
    show cX10_nodes_38 q _ n _ _ = _
    unfold cX10_nodes_38
    rw [if_neg (show ¬ (6010 : Int32) ≤ nI (2416 + d) from nI_ge (b := 6010) (by omega) (by omega)), ck_in (by omega) (by omega), nI_clamp (by omega), lt_b, lt_b, show (0 : Int32) = nI 0 from rfl, M_put, nI_1]
    have := ih (d + 1) n (by omega) (by omega)
    refine Eq.trans ?_ this
    rw [Nat.add_assoc]
    congr 2
    funext j
    show (if j = 2416 + d then 0 else if 2416 ≤ j ∧ j < 2416 + d then 0 else s j) = (if 2416 ≤ j ∧ j < 2416 + (d + 1) then 0 else s j)
    refine it0 (fun h => ?_) (fun h => it0 (fun h2 => ?_) (fun h2 => ?_))
    · exact (if_pos (by omega)).symm
    · exact (if_pos (by omega)).symm
    · exact (if_neg (by omega)).symm
theorem its {α : Type} {c P : Prop} {i : Decidable c} {a b x : α} (h1 : c → a = x → P) (h2 : ¬ c → b = x → P) (h : (if c then a else b) = x) : P := by
  by_cases e : c
  · rw [if_pos e] at h; exact h1 e h
  · rw [if_neg e] at h; exact h2 e h
theorem src_lt {o j k : Nat} (ho : o < 58) (hs : src o j = some k) : k < 6007 := by
  unfold src at hs
  revert hs
  repeat' refine its (fun _ => ?_) (fun _ => ?_)
  all_goals (intro hs; cases hs; try omega)
theorem C_c2 {t : Nat → Nat} (e : ∀ k, k < 6007 → t k = s k) : C w I t h r = C w I s h r := by
  funext a j
  unfold C
  by_cases ha : w ≤ a ∧ a < w + 58
  · rw [if_pos ha, if_pos ha]
    cases hs : src (a - w) j with
    | none => rfl
    | some k =>
      show vl _ _ (t k) = vl _ _ (s k)
      rw [e k (src_lt (by omega) hs)]
  · rw [if_neg ha, if_neg ha]
theorem pa_nodes (hs : okS s) (hr : okR s h r) {x : Int32} (hn : 4000 ≤ n) : PAt (fun z => pX9_nodes n z x) (fun q => pX10_nodes n q x) s h r := by
  by_cases c : inb x (nI 4) (nI 7) = true
  · obtain ⟨v, v1, v2, rfl⟩ := inb_e c (by omega) (by omega)
    by_cases cf : s 4 = 0 ∧ s 3 = 0
    · have E : ∀ (I : ev_I) z, C (z + 1) I (zr (up s 0 (v - 4)) 2416 3591) h r = C (z + 1) I (zr (up s 0 (v - 4)) 2416 3594) h r := fun I z => C_c2 (fun j hj => by
        unfold zr
        by_cases c1 : 2416 ≤ j ∧ j < 2416 + 3591
        · rw [if_pos c1, if_pos (by omega)]
        · rw [if_neg c1, if_neg (by omega)])
      have eo : ∀ j, j ≠ 0 → j < 2416 → zr (up s 0 (v - 4)) 2416 3594 j = s j := fun j h0 h1 => by
        unfold zr; rw [if_neg (by omega), up_o h0]
      have ez : ∀ j, 2416 ≤ j → j < 6010 → zr (up s 0 (v - 4)) 2416 3594 j = 0 := fun j h0 h1 => by
        unfold zr; rw [if_pos (by omega)]
      have e00 : zr (up s 0 (v - 4)) 2416 3594 0 = v - 4 := by unfold zr; rw [if_neg (by omega), up_s]
      have e3 := eo 3 (by omega) (by omega)
      have e4 := eo 4 (by omega) (by omega)
      refine ⟨1, zr (up s 0 (v - 4)) 2416 3594, ⟨⟨?_, ?_, ⟨by rw [e00]; omega, by rw [eo 1 (by omega) (by omega)]; exact hs.2.2.1.2.1, by rw [e4]; omega, by rw [eo 8 (by omega) (by omega)]; exact hs.2.2.1.2.2.2⟩, fun k hk => ⟨⟨?_, ?_, ?_, ?_, ?_, ?_, ?_, ?_, ?_, fun b hb => ?_, fun b hb => ?_⟩, ⟨?_, fun i hi => ?_, fun i hi => ?_⟩, ⟨?_, fun i hi => ?_, fun i j _ hj => ?_⟩⟩, fun i hi => ?_, okE_c hs.2.2.2.2.2 (eo 7 (by omega) (by omega)) (fun j h1 h2 => eo j (by omega) (by omega))⟩, fun x => ⟨fun k hk b h1 h2 => ez _ (by omega) (by omega), fun i hi => ?_⟩⟩, eo 9 (by omega) (by omega), fun I z => ⟨h, r, ?_, hr.1, fun k hk => by omega, fun k hk => by omega⟩, fun I q hI => ⟨I, ?_, Sc_r⟩⟩
      · refine ⟨by rw [e3]; omega, by rw [eo 516 (by omega) (by omega)]; exact hs.1.2.1, by rw [eo 116 (by omega) (by omega)]; exact hs.1.2.2.1, fun b h1 h2 => by omega⟩
      · obtain ⟨a1, a2, a3, a4, a5, a6, a7⟩ := hs.2.1
        refine ⟨by rw [eo _ (by omega) (by omega)]; exact a1, by rw [eo _ (by omega) (by omega)]; exact a2, by rw [eo _ (by omega) (by omega)]; exact a3, by rw [eo _ (by omega) (by omega)]; exact a4, by rw [eo _ (by omega) (by omega)]; exact a5, fun b hb => ?_, fun b h1 hb => by omega⟩
        rw [e3] at hb
        rw [eo (16 + b) (by omega) (by omega), eo (216 + b) (by omega) (by omega), eo (316 + b) (by omega) (by omega), eo (416 + b) (by omega) (by omega), eo (616 + b) (by omega) (by omega), eo (716 + b) (by omega) (by omega)]
        exact a6 b hb
      · rw [ez _ (by omega) (by omega)]; omega
      · rw [ez _ (by omega) (by omega)]; omega
      · rw [ez _ (by omega) (by omega)]; omega
      · rw [ez _ (by omega) (by omega)]; omega
      · rw [ez _ (by omega) (by omega)]; omega
      · rw [ez _ (by omega) (by omega)]; omega
      · rw [ez _ (by omega) (by omega)]; omega
      · rw [ez _ (by omega) (by omega)]; omega
      · rw [ez _ (by omega) (by omega)]; omega
      · rw [ez _ (by omega) (by omega)]; omega
      · rw [ez _ (by omega) (by omega)]; omega
      · rw [ez _ (by omega) (by omega)]; omega
      · rw [ez (2416 + 513 * k + 8) (by omega) (by omega)] at hi
        rw [ez (2416 + 513 * k + 12 + i) (by omega) (by omega)]
        refine ⟨by omega, ?_⟩
        rw [show (516 + 0 : Nat) = 516 from rfl, eo 516 (by omega) (by omega), hs.1.2.1]
        omega
      · rw [ez (2416 + 513 * k + 8) (by omega) (by omega)] at hi
        omega
      · rw [ez _ (by omega) (by omega)]; omega
      · rw [ez (2416 + 513 * k + 10) (by omega) (by omega)] at hi
        omega
      · rw [ez (2416 + 513 * k + 10) (by omega) (by omega)] at hj
        omega
      · rw [e4] at hi
        omega
      · rw [eo 7 (by omega) (by omega)] at hi
        have := hs.2.2.2.2.2.1
        rw [eo _ (by omega) (by omega)]
        exact x.2 i hi
      · show pX9_nodes n z _ _ = _
        unfold pX9_nodes pX8_beginWith
        rw [if_neg (show ¬ nI v < (4 : Int32) from nI_nlt (b := 4) v1 (by omega)), if_neg (show ¬ (7 : Int32) < nI v from nI_nlt (a := 7) v2 (by omega)), c_fresh hs, bn_s, if_b, if_pos (decide_eq_true cf), cp_size v1, lt_b, show (0 : Int32) = nI 0 from rfl]
        have := c_begL (w := z + 1) (I := I) (s := up s 0 (v - 4)) (h := h) (r := r) 7 0 n (by omega) (by omega)
        rw [show zr (up s 0 (v - 4)) 2416 (513 * 0) = up s 0 (v - 4) from funext (fun j => if_neg (by omega))] at this
        rw [this, bn_s, E]
      · show pX10_nodes n q _ _ = _
        unfold pX10_nodes
        rw [Mt hI, lt_b, r_inb, bn_s, if_b, if_pos (show inb (nI v) (4 : Int32) (7 : Int32) = true from c), r_fresh hs, bn_s, if_b, if_pos (decide_eq_true cf), show (4 : Int32) = nI 4 from rfl, pk_sub v1, show (0 : Int32).toNatClampNeg = 0 from rfl, M_put, lt_b]
        have := r_ndL (q := q) (I := I) (s := up s 0 (v - 4)) 3594 0 n (by omega) (by omega)
        rw [show zr (up s 0 (v - 4)) 2416 0 = up s 0 (v - 4) from funext (fun j => if_neg (by omega))] at this
        exact this
    · refine PA_0 (ans := 0) hs hr (fun I z => ?_) (fun I q hI => ⟨I, ?_, Sc_r⟩)
      · show pX9_nodes n z _ _ = _
        unfold pX9_nodes
        rw [if_neg (show ¬ nI v < (4 : Int32) from nI_nlt (b := 4) v1 (by omega)), if_neg (show ¬ (7 : Int32) < nI v from nI_nlt (a := 7) v2 (by omega)), c_fresh hs, bn_s, if_b, if_neg (fun e => cf (of_decide_eq_true e))]
      · show pX10_nodes n q _ _ = _
        unfold pX10_nodes
        rw [Mt hI, lt_b, r_inb, bn_s, if_b, if_pos (show inb (nI v) (4 : Int32) (7 : Int32) = true from c), r_fresh hs, bn_s, if_b, if_neg (fun e => cf (of_decide_eq_true e))]
  · refine PA_0 (ans := 0) hs hr (fun I z => ?_) (fun I q hI => ⟨I, ?_, Sc_r⟩)
    · show pX9_nodes n z _ _ = _
      unfold pX9_nodes
      rcases inb_f c (by omega) (by omega) with e | ⟨j, hj, hj2, rfl⟩
      · rw [if_pos (show x < (4 : Int32) from by
          rw [Int32.lt_iff_toInt_lt] at e ⊢
          have : (4 : Int32).toInt = 4 := by decide
          have : (0 : Int32).toInt = 0 := by decide
          omega)]
      · by_cases e : j < 4
        · rw [if_pos (show nI j < (4 : Int32) from nI_lt (b := 4) e (by omega))]
        · rw [if_neg (show ¬ nI j < (4 : Int32) from nI_nlt (b := 4) (by omega) (by omega)), if_pos (show (7 : Int32) < nI j from nI_lt (a := 7) (by omega) hj)]
    · show pX10_nodes n q _ _ = _
      unfold pX10_nodes
      rw [Mt hI, lt_b, r_inb, bn_s, if_b, if_neg (show ¬ inb x (4 : Int32) (7 : Int32) = true from c)]
end F5
