/-! ONE MESSAGE IS DELIVERED, both sides -/
def sDv (s : Nat → Nat) (f t kd wh hu : Nat) : Nat → Nat := if s (2416 + 513 * t) = 1 then up s 6 (s 6 + 1) else if kd = 1 then sHB (up s 6 (s 6 + 1)) t wh else if kd = 2 then sHM (up s 6 (s 6 + 1)) t f wh else sHT (up s 6 (s 6 + 1)) t f wh (hu - 1)
def sDel (s : Nat → Nat) (k : Nat) : Nat → Nat := sDv (sTake s k) (s (816 + 5 * k)) (s (816 + 5 * k + 1)) (s (816 + 5 * k + 2)) (s (816 + 5 * k + 3)) (s (816 + 5 * k + 4))
theorem sTake_o {s : Nat → Nat} {k j : Nat} (h4 : s 4 ≤ 200) (h : j < 4 ∨ (4 < j ∧ j < 816) ∨ 1816 ≤ j) : sTake s k j = s j := by
  unfold sTake
  rw [if_neg (by omega), if_neg (by omega)]
theorem ok_take {s : Nat → Nat} (h : okS s) {k : Nat} (hk : k < s 4) : okS (sTake s k) := by
  obtain ⟨hB, hC, hZ, hN, hM, hE⟩ := h
  have h3 := hB.1
  have h4 := hZ.2.2.1
  have e0 : ∀ j, (j < 4 ∨ (4 < j ∧ j < 816) ∨ 1816 ≤ j) → sTake s k j = s j := fun j hj => sTake_o h4 hj
  have e1 : ∀ j, (j ≤ 3 ∨ 11 ≤ j) → j < 816 → sTake s k j = s j := fun j h1 h2 => e0 j (by omega)
  refine ⟨okB_d hB e1, okC_c hC h3 e1, ⟨by rw [e0 0 (by omega)]; exact hZ.1, by rw [e0 1 (by omega)]; exact hZ.2.1, by rw [sTake_4]; omega, by rw [e0 8 (by omega)]; exact hZ.2.2.2⟩, okN_c hN h3 e1 (fun j hj => e0 j (by omega)), ?_, okE_c hE (e0 7 (by omega)) (fun j _ _ => e0 j (by omega))⟩
  intro i hi
  rw [sTake_4] at hi
  rw [e0 3 (by omega)]
  have e : ∀ d, d < 5 → sTake s k (816 + 5 * i + d) = s (816 + 5 * (if i < k then i else i + 1) + d) := fun d hd => by
    unfold sTake
    by_cases c : i < k
    · rw [if_pos c, if_neg (by omega), if_neg (by omega)]
    · rw [if_neg c, if_pos (by omega)]
      congr 1
      omega
  have e00 := e 0 (by omega)
  rw [Nat.add_zero, Nat.add_zero] at e00
  rw [e00, e 1 (by omega), e 2 (by omega), e 3 (by omega), e 4 (by omega)]
  apply hM
  split <;> omega
theorem ok_Dv {s : Nat → Nat} (h : okS s) {f t kd wh hu : Nat} (hm : okm s f t kd wh hu) : okS (sDv s f t kd wh hu) := by
  obtain ⟨hf, ht, hm⟩ := hm
  have h6 : okS (up s 6 (s 6 + 1)) := ok_up h (by omega)
  have e3 : up s 6 (s 6 + 1) 3 = s 3 := up_o (by omega)
  unfold sDv
  split
  · exact h6
  · split
    · exact ok_HB h6 ht (by omega) (by omega)
    · split
      · exact ok_HM h6 ht hf (by omega) (by omega)
      · exact ok_HT h6 ht hf (by omega) (by omega)
theorem okm_take {s : Nat → Nat} (h : okS s) {k : Nat} (hk : k < s 4) : okm (sTake s k) (s (816 + 5 * k)) (s (816 + 5 * k + 1)) (s (816 + 5 * k + 2)) (s (816 + 5 * k + 3)) (s (816 + 5 * k + 4)) := by
  have := h.2.2.2.2.1 k hk
  unfold okm
  rw [sTake_o h.2.2.1.2.2.1 (by omega)]
  exact this
theorem ok_del {s : Nat → Nat} (h : okS s) {k : Nat} (hk : k < s 4) : okS (sDel s k) := ok_Dv (ok_take h hk) (okm_take h hk)
theorem u2_id {I : ev_I} {a j : Nat} {v : Int32} (h : I a j = v) : ev_u2 I a j v = I := by
  funext b i
  unfold ev_u2
  by_cases c : b = a ∧ i = j
  · rw [if_pos c, c.1, c.2, h]
  · rw [if_neg c]
/-- nothing but the reference's scratch rows has changed -/
def Sc (q : Nat) (I J : ev_I) : Prop := ∀ a j, ¬ (q + 2 ≤ a ∧ a ≤ q + 6) → J a j = I a j
theorem Sc_r {q : Nat} {I : ev_I} : Sc q I I := fun _ _ _ => rfl
theorem Sc_t {q : Nat} {I J K : ev_I} (h1 : Sc q I J) (h2 : Sc q J K) : Sc q I K := fun a j h => (h2 a j h).trans (h1 a j h)
theorem Sc_u {q a j : Nat} {I : ev_I} {v : Int32} (h : q + 2 ≤ a ∧ a ≤ q + 6) : Sc q I (ev_u2 I a j v) := fun b i hb => by
  unfold ev_u2
  rw [if_neg (by omega)]
theorem Sc_k {q : Nat} {I : ev_I} {f t kd wh hu : Nat} : Sc q I (Tk q I f t kd wh hu) := by
  unfold Tk
  exact Sc_t (Sc_t (Sc_t (Sc_t (Sc_u (by omega)) (Sc_u (by omega))) (Sc_u (by omega))) (Sc_u (by omega))) (Sc_u (by omega))
/-- only the row 'taken' has changed -/
def Sk (q : Nat) (I J : ev_I) : Prop := ∀ a j, a ≠ q + 3 → J a j = I a j
theorem Sk_r {q : Nat} {I : ev_I} : Sk q I I := fun _ _ _ => rfl
theorem Sk_t {q : Nat} {I J K : ev_I} (h1 : Sk q I J) (h2 : Sk q J K) : Sk q I K := fun a j h => (h2 a j h).trans (h1 a j h)
theorem Sk_u {q j : Nat} {I : ev_I} {v : Int32} : Sk q I (ev_u2 I (q + 3) j v) := fun b i hb => by
  unfold ev_u2
  rw [if_neg (by omega)]
theorem Sk_k {q : Nat} {I : ev_I} {f t kd wh hu : Nat} : Sk q I (Tk q I f t kd wh hu) := by
  unfold Tk
  exact Sk_t (Sk_t (Sk_t (Sk_t Sk_u Sk_u) Sk_u) Sk_u) Sk_u
theorem Sk_c {q : Nat} {I J : ev_I} (h : Sk q I J) : Sc q I J := fun a j ha => h a j (by omega)
theorem Tk_g {q : Nat} {I : ev_I} {f t kd wh hu : Nat} : Tk q I f t kd wh hu (q + 3) 0 = nI f ∧ Tk q I f t kd wh hu (q + 3) 1 = nI t ∧ Tk q I f t kd wh hu (q + 3) 2 = nI kd ∧ Tk q I f t kd wh hu (q + 3) 3 = nI wh ∧ Tk q I f t kd wh hu (q + 3) 4 = nI hu := by
  unfold Tk ev_u2
  simp
theorem hu_m {hu : Nat} (h : 1 ≤ hu) : nI hu - nI 1 = nI (hu - 1) := pk_sub h
theorem sCert_o {s : Nat → Nat} (hs : okS s) {k b j : Nat} (hk : k < 7) (hb : b ≤ s 3) (hj : j < 8 ∨ (8 < j ∧ j < 716) ∨ (816 ≤ j ∧ j < 2116)) : sCert s k b j = s j := by
  have h8 := hs.2.2.1.2.2.2
  have h3 := hs.b3
  have c2 := ok_tell (ok_cert hs hb) 2 k b
  have hc2 : b ≤ sTell (up s (716 + b) 1) 2 k b 3 := by rw [sTellUp_o h8 (by omega) (by omega), up_o (by omega)]; exact hb
  unfold sCert
  rw [sGo_o (by omega), sLearn_o c2 hk hc2 (by omega), sTellUp_o h8 (by omega) (by omega), up_o (by omega)]
theorem sM2_o {s : Nat → Nat} (hs : okS s) {k i b j : Nat} (hk : k < 7) (hi : i < 7) (hb : b ≤ s 3) (hj : j < 8 ∨ (8 < j ∧ j < 716) ∨ (816 ≤ j ∧ j < 2116)) : sM2 s k i b j = s j := by
  have h3 := hs.b3
  have f10 := (hs.2.2.2.1 k hk).1.2.2.2.2.2.2.2.2.2.1 b (by omega)
  have u1 : okS (up s (2416 + 513 * k + 212 + b) (s (2416 + 513 * k + 212 + b) ||| 2 ^ i)) := by
    have := ok_nd hs (k := k) (d := 212 + b) (v := s (2416 + 513 * k + 212 + b) ||| 2 ^ i) hk (by have := or_b _ f10 i hi; omega)
    rw [← Nat.add_assoc] at this
    exact this
  unfold sM2
  split
  · rw [sCert_o u1 hk (by rw [up_o (by omega)]; exact hb) hj, up_o (by omega)]
  · rw [up_o (by omega)]
theorem sHM_o {s : Nat → Nat} (hs : okS s) {k i b j : Nat} (hk : k < 7) (hi : i < 7) (hb : b ≤ s 3) (hj : j < 7 ∨ (8 < j ∧ j < 716) ∨ (816 ≤ j ∧ j < 1816)) : sHM s k i b j = s j := by
  have h7 := hs.2.2.2.2.2.1
  unfold sHM
  split
  · rw [sM2_o (ok_mr hs hk hi hb (fun x hx => mr_ok _ 0 x (by omega) hx)) hk hi (by rw [sMr_o h7 (by omega)]; exact hb) (by omega), sMr_o h7 (by omega)]
  · rfl
theorem sProve_o {s : Nat → Nat} (hs : okS s) {k v j : Nat} (hj : j < 8 ∨ (8 < j ∧ j < 2116)) : sProve s k v j = s j := by
  have h8 := hs.2.2.1.2.2.2
  unfold sProve
  rw [sGo_o (by omega)]
  split
  · rfl
  · rw [sTellUp_o h8 (by omega) (by omega), up_o (by omega)]
theorem sHT_o {s : Nat → Nat} (hs : okS s) {k i v c j : Nat} (hk : k < 7) (hi : i < 7) (hv : v ≤ 200) (hc : c ≤ s 3) (hj : j < 8 ∨ (8 < j ∧ j < 2116)) : sHT s k i v c j = s j := by
  have l1 := ok_learn hs hk hc
  have f11 := (l1.2.2.2.1 k hk).1.2.2.2.2.2.2.2.2.2.2 v hv
  have u1 : okS (up (sLearn s k c) (2416 + 513 * k + 312 + v) (sLearn s k c (2416 + 513 * k + 312 + v) ||| 2 ^ i)) := by
    have := ok_nd l1 (k := k) (d := 312 + v) (v := sLearn s k c (2416 + 513 * k + 312 + v) ||| 2 ^ i) hk (by have := or_b _ f11 i hi; omega)
    rw [← Nat.add_assoc] at this
    exact this
  unfold sHT sT3
  split
  · split
    · rw [sProve_o u1 (by omega), up_o (by omega), sLearn_o hs hk hc (by omega)]
    · rw [up_o (by omega), sLearn_o hs hk hc (by omega)]
  · rw [sLearn_o hs hk hc (by omega)]
section Dv
variable {n q w : Nat} {I : ev_I} {s : Nat → Nat} {h : Nat} {r : Nat → Int32}
theorem r_Dv (hs : okS s) {f t kd wh hu : Nat} (hm : okm s f t kd wh hu) (hI : I (q + 3) 0 = nI f ∧ I (q + 3) 1 = nI t ∧ I (q + 3) 2 = nI kd ∧ I (q + 3) 3 = nI wh ∧ I (q + 3) 4 = nI hu) (hn : 600 ≤ n) : pX10_isDelivered n q (M q I s) = some (M q I (sDv s f t kd wh hu)) := by
  obtain ⟨hf, ht, hm⟩ := hm
  obtain ⟨i0, i1, i2, i3, i4⟩ := hI
  have h3 := hs.b3
  have h6 : okS (up s 6 (s 6 + 1)) := ok_up hs (by omega)
  have e3 : up s 6 (s 6 + 1) 3 = s 3 := up_o (by omega)
  have em : up s 6 (s 6 + 1) (2416 + 513 * t) = s (2416 + 513 * t) := up_o (by omega)
  have m2 := (hs.2.2.2.1 t ht).1.1
  have mo : ∀ (x : Nat → Nat) (j : Nat), M q I x (q + 3) j = I (q + 3) j := fun x j => by rw [M_oth (by omega)]
  have hsil := r_isSilent (n := n) (q := q) (I := I) (s := up s 6 (s 6 + 1)) ht (by omega)
  rw [em] at hsil
  simp (disch := omega) only [pX10_isDelivered, cX10_isDelivered_53, cX10_isDelivered_80, li, nI_clamp, M_get, nI_add, M_put, lt_b, mo, i0, i1, i2, i3, i4, hsil, bn_s, nI_eq]
  unfold sDv
  by_cases c0 : s (2416 + 513 * t) = 1
  · rw [if_pos c0, if_neg (show ¬ nI 1 = nI 0 by decide), if_pos c0]
  · rw [if_neg c0, if_pos rfl, if_neg c0]
    by_cases c1 : kd = 1
    · rw [if_pos c1, if_pos c1, r_HB h6 ht (by omega) (by omega) (by omega)]
      simp (disch := omega) only [bn_s, mo, i2, nI_eq]
      rw [if_neg (by omega), if_neg (by omega)]
    · rw [if_neg c1, if_neg c1]
      by_cases c2 : kd = 2
      · rw [if_pos c2, if_pos c2, r_HM h6 ht hf (by omega) (by omega) (by omega)]
        simp (disch := omega) only [bn_s, mo, i2, nI_eq]
        rw [if_neg (by omega)]
      · rw [if_neg c2, if_neg c2, if_pos (by omega), hu_m (by omega), r_HT h6 ht hf (by omega) (by omega) (by omega)]
        rfl
theorem r_del (hs : okS s) {k : Nat} (hk : k < s 4) (hn : 1010 ≤ n) : ((pX10_takesOut n q (nI k) (M q I s)).bind fun z => pX10_isDelivered n q z) = some (M q (Tk q I (s (816 + 5 * k)) (s (816 + 5 * k + 1)) (s (816 + 5 * k + 2)) (s (816 + 5 * k + 3)) (s (816 + 5 * k + 4))) (sDel s k)) := by
  rw [r_takesOut hs.2.2.1.2.2.1 hk hn, bn_s]
  exact r_Dv (ok_take hs hk) (okm_take hs hk) Tk_g (by omega)
theorem c_fields {f t kd wh hu : Nat} (hf : f < 8) (ht : t < 8) (hk : kd < 4) (hw : wh < 256) (hh : hu < 128) : pX4_senderOf n (nI (f * 2 ^ 20 + t * 2 ^ 17 + kd * 2 ^ 15 + wh * 2 ^ 7 + hu)) I = some (nI f) ∧ pX4_targetOf n (nI (f * 2 ^ 20 + t * 2 ^ 17 + kd * 2 ^ 15 + wh * 2 ^ 7 + hu)) I = some (nI t) ∧ pX4_kindOf n (nI (f * 2 ^ 20 + t * 2 ^ 17 + kd * 2 ^ 15 + wh * 2 ^ 7 + hu)) I = some (nI kd) ∧ pX4_subjectOf n (nI (f * 2 ^ 20 + t * 2 ^ 17 + kd * 2 ^ 15 + wh * 2 ^ 7 + hu)) I = some (nI wh) ∧ pX4_highOf n (nI (f * 2 ^ 20 + t * 2 ^ 17 + kd * 2 ^ 15 + wh * 2 ^ 7 + hu)) I = some (nI hu - nI 1) := by
  unfold pX4_senderOf pX4_targetOf pX4_kindOf pX4_subjectOf pX4_highOf
  refine ⟨?_, ?_, ?_, ?_, ?_⟩
  · rw [pk_shrN (by omega) _ 20 (by decide), pk_andN (by omega) 3 (by decide)]
    exact congrArg (fun z => some (nI z)) (by omega)
  · rw [pk_shrN (by omega) _ 17 (by decide), pk_andN (by omega) 3 (by decide)]
    exact congrArg (fun z => some (nI z)) (by omega)
  · rw [pk_shrN (by omega) _ 15 (by decide), pk_andN (by omega) 2 (by decide)]
    exact congrArg (fun z => some (nI z)) (by omega)
  · rw [pk_shrN (by omega) _ 7 (by decide), pk_andN (by omega) 8 (by decide)]
    exact congrArg (fun z => some (nI z)) (by omega)
  · rw [pk_andN (by omega) 7 (by decide)]
    exact congrArg (fun z => some (nI z - nI 1)) (by omega)
theorem c_msg (hs : okS s) {k : Nat} (hk : k < s 4) : pX4_senderOf n (nI (pkm s k)) I = some (nI (s (816 + 5 * k))) ∧ pX4_targetOf n (nI (pkm s k)) I = some (nI (s (816 + 5 * k + 1))) ∧ pX4_kindOf n (nI (pkm s k)) I = some (nI (s (816 + 5 * k + 2))) ∧ pX4_subjectOf n (nI (pkm s k)) I = some (nI (s (816 + 5 * k + 3))) ∧ pX4_highOf n (nI (pkm s k)) I = some (nI (s (816 + 5 * k + 4)) - nI 1) := by
  have := hs.2.2.2.2.1 k hk
  have h3 := hs.b3
  exact c_fields (by omega) (by omega) (by omega) (by omega) (by omega)
theorem c_step (hs : okS s) (hr : okR s h r) {k T d i : Nat} (hk : k < s 4) (hi : i < T) (hT : T < 2 ^ 30) (hn : 1010 ≤ n) : ∃ h' r', okR (sDel s k) h' r' ∧ ∀ K, cX8_deliverSome_5 w K n (nI k) (nI T) (nI d) (nI i) (C w I s h r) = K (nI k) (nI T) (nI (d + 1)) (nI (i + 1)) (C w I (sDel s k) h' r') := by
  have h3 := hs.b3
  have h4 := hs.2.2.1.2.2.1
  have h0 := hs.2.2.1.1
  obtain ⟨h1, r1, et, hr1⟩ := c_take (n := n) (w := w) (I := I) hr h4 hk (by omega)
  have f := fun J => c_msg (n := n) (I := J) hs hk
  have hm := okm_take hs hk
  have ht := ok_take hs hk
  have htn := hr.2.2 k hk
  have e0 : sTake s k 0 = s 0 := sTake_o h4 (by omega)
  have e3 : sTake s k 3 = s 3 := sTake_o h4 (by omega)
  have hm4 : pX4_has n (w + 11) (nI k) (C w I s h r) = some (nI 1) := by
    unfold pX4_has
    rw [if_neg (nI_pos (by omega)), cg_nc]
    simp (disch := omega) only [nI_leI]
    rw [if_neg (by omega)]; rfl
  unfold sDel
  generalize hf0 : s (816 + 5 * k) = f0 at *
  generalize hf1 : s (816 + 5 * k + 1) = f1 at *
  generalize hf2 : s (816 + 5 * k + 2) = f2 at *
  generalize hf3 : s (816 + 5 * k + 3) = f3 at *
  generalize hf4 : s (816 + 5 * k + 4) = f4 at *
  generalize sTake s k = t at *
  have h6 : okS (up t 6 (t 6 + 1)) := ok_up ht (by omega)
  have u3 : up t 6 (t 6 + 1) 3 = t 3 := up_o (by omega)
  have u0 : up t 6 (t 6 + 1) 0 = t 0 := up_o (by omega)
  have um : up t 6 (t 6 + 1) (2416 + 513 * f1) = t (2416 + 513 * f1) := up_o (by omega)
  have hr6 : okR (up t 6 (t 6 + 1)) h1 r1 := okR_up hr1 ht.2.2.1.2.2.1 (by omega) (by omega)
  obtain ⟨mf, mt, mm⟩ := hm
  have hsil := c_isAwake (n := n) (w := w) (I := I) (h := h1) (r := r1) (s := up t 6 (t 6 + 1)) (k := f1) (by omega) (by omega) (h6.2.2.2.1 f1 mt).1.1
  rw [um] at hsil
  have pre : ∀ K, cX8_deliverSome_5 w K n (nI k) (nI T) (nI d) (nI i) (C w I s h r) = (if nI (if t (2416 + 513 * f1) = 1 then 0 else 1) = 0 then cX8_deliverSome_149 w K n (nI k) (nI T) (nI (d + 1)) (nI i) (C w I (up t 6 (t 6 + 1)) h1 r1) else if nI f2 = nI 1 then (pX8_takeBlock n w (nI f1) (nI f3) (C w I (up t 6 (t 6 + 1)) h1 r1)).bind fun z14 => cX8_deliverSome_149 w K n (nI k) (nI T) (nI (d + 1)) (nI i) z14 else if nI f2 = nI 2 then (pX8_takeMark n w (nI f1) (nI f0) (nI f3) (C w I (up t 6 (t 6 + 1)) h1 r1)).bind fun z17 => cX8_deliverSome_149 w K n (nI k) (nI T) (nI (d + 1)) (nI i) z17 else (pX8_takeTimeout n w (nI f1) (nI f0) (nI f3) (nI f4 - nI 1) (C w I (up t 6 (t 6 + 1)) h1 r1)).bind fun z20 => cX8_deliverSome_149 w K n (nI k) (nI T) (nI (d + 1)) (nI i) z20) := by
    intro K
    unfold cX8_deliverSome_5
    rw [if_neg (nI_ge hi (by omega)), hm4, bn_s, if_neg (show ¬ nI 1 = 0 by decide), et, bn_s]
    simp (disch := omega) only [(f _).1, (f _).2.1, (f _).2.2.1, (f _).2.2.2.1, (f _).2.2.2.2, bn_s, cg_deliv, li, nI_add, cp_deliv, lt_b, hsil]
    rfl
  have fin : ∀ (K : Int32 → Int32 → Int32 → Int32 → ev_I → Option (Int32 × ev_I)) (x : ev_I), cX8_deliverSome_149 w K n (nI k) (nI T) (nI (d + 1)) (nI i) x = K (nI k) (nI T) (nI (d + 1)) (nI (i + 1)) x := by
    intro K x
    unfold cX8_deliverSome_149
    rw [show (1 : Int32) = nI 1 from rfl, nI_add]
    rfl
  simp only [pre, fin]
  unfold sDv
  by_cases c0 : t (2416 + 513 * f1) = 1
  · refine ⟨h1, r1, ?_, fun K => ?_⟩
    · rw [if_pos c0]; exact hr6
    · rw [if_pos c0, if_pos c0, if_pos (by decide)]
  · simp only [if_neg c0, if_neg (show ¬ nI 1 = 0 by decide)]
    by_cases c1 : f2 = 1
    · obtain ⟨r2, eb, hr2⟩ := c_HB (n := n) (w := w) (I := I) (k := f1) (b := f3) h6 hr6 mt (by omega) (by omega) (by omega)
      refine ⟨h1, r2, ?_, fun K => ?_⟩
      · rw [if_pos c1]; exact hr2
      · rw [if_pos c1, if_pos (by rw [c1]), eb, bn_s]
    · have n1 : ¬ nI f2 = nI 1 := fun q => c1 ((nI_eq (by omega) (by omega)).mp q)
      by_cases c2 : f2 = 2
      · have eb := c_HM (n := n) (w := w) (I := I) (h := h1) (r := r1) (k := f1) (j := f0) (b := f3) h6 mt mf (by omega) (by omega) (by omega)
        refine ⟨h1, r1, ?_, fun K => ?_⟩
        · rw [if_neg c1, if_pos c2]
          exact okR_c hr6 h6.2.2.1.2.2.1 (sHM_o h6 mt mf (by omega) (by omega)) (sHM_o h6 mt mf (by omega) (by omega)) (fun j _ _ => sHM_o h6 mt mf (by omega) (by omega))
        · rw [if_neg c1, if_neg n1, if_pos c2, if_pos (by rw [c2]), eb, bn_s]
      · have n2 : ¬ nI f2 = nI 2 := fun q => c2 ((nI_eq (by omega) (by omega)).mp q)
        have eb := c_HT (n := n) (w := w) (I := I) (h := h1) (r := r1) (k := f1) (j := f0) (v := f3) (c := f4 - 1) h6 mt mf (by omega) (by omega) (by omega)
        refine ⟨h1, r1, ?_, fun K => ?_⟩
        · rw [if_neg c1, if_neg c2]
          exact okR_c hr6 h6.2.2.1.2.2.1 (sHT_o h6 mt mf (by omega) (by omega) (by omega)) (sHT_o h6 mt mf (by omega) (by omega) (by omega)) (fun j _ _ => sHT_o h6 mt mf (by omega) (by omega) (by omega))
        · rw [if_neg c1, if_neg n1, if_neg c2, if_neg n2, hu_m (by omega), eb, bn_s]
end Dv
