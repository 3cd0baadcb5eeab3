/-! THE TAPE: what is fed -/
theorem sb_i : ∀ v, v < 256 → (sb v).toInt = (v : Int).bmod 256 := by decide +kernel
def bv (x : Int32) (y : Int32) : Nat := (x >>> (y &&& 31)).toBitVec.toNat % 256
theorem bv_l {x y : Int32} : bv x y < 256 := Nat.mod_lt _ (by omega)
theorem by_r (z : Int32) : z &&& (255 : Int32) = nI (z.toBitVec.toNat % 256) := by
  apply Int32.toBitVec.inj
  rw [Int32.toBitVec_and]
  apply BitVec.eq_of_toNat_eq
  rw [BitVec.toNat_and]
  show z.toBitVec.toNat &&& 255 = (Int32.ofNat _).toBitVec.toNat
  rw [Int32.toBitVec_ofNat']
  simp
  rw [Nat.and_two_pow_sub_one_eq_mod (n := 8)]
  have : z.toBitVec.toNat % 2 ^ 8 < 2 ^ 8 := Nat.mod_lt _ (by decide)
  omega
theorem by_c (z : Int32) : vp_nar .byte z.toInt8.toInt32 = sb (z.toBitVec.toNat % 256) := by
  rw [pk_vb]
  apply Int32.toInt_inj.mp
  rw [sb_i _ (Nat.mod_lt _ (by omega)), Int8.toInt_toInt32, Int32.toInt_toInt8]
  rw [show z.toInt = (z.toBitVec.toNat : Int).bmod (2 ^ 32) from by rw [← Int32.toInt_toBitVec, BitVec.toInt_eq_toNat_bmod]]
  rw [Int.bmod_bmod_of_dvd (by decide)]
  rw [Int.natCast_emod]
  exact (Int.emod_bmod _ _).symm
section Fd
variable {n t q L : Nat} {T : Nat → Nat} {I : ev_I} {x : Int32}
theorem c_w1 {y : Int32} (hy : ¬ y < 0) (hI : TpC t L T I) (hL : L < 400) : ∃ J, lX7_write_3 t (n + 1) x y I = lX7_write_3 t n x (y + -8) J ∧ TpC t (L + 1) (up T L (bv x y)) J ∧ ∀ a j, ¬ (a = t ∧ j = 1) → ¬ a = t + 1 → J a j = I a j := by
  have e0 : lX7_write_3 t (n + 1) x y I = cX7_write_3 t (lX7_write_3 t n) n x y I := rfl
  rw [e0]
  unfold cX7_write_3
  rw [if_neg hy, hI.1, if_neg (show ¬ (400 : Int32) ≤ nI L from nI_ge (b := 400) hL (by omega)), ck_in (by omega) (by omega), lt_b, lt_b, lt_b, u2_o (by omega), hI.1, nI_1, nI_clamp (by omega), by_c]
  refine ⟨_, rfl, ⟨u2_s, fun j hj => ?_⟩, fun a j g1 g2 => (u2_o g1).trans (u2_o (fun g => g2 g.1))⟩
  rw [u2_o (by omega)]
  by_cases c : j = L
  · rw [c, u2_s, up_s]; rfl
  · rw [u2_o (by omega), up_o c]; exact hI.2 j (by omega)
theorem r_w1 {y : Int32} (hy : ¬ y < 0) (hI : TpR q L T I) (hL : L < 400) : ∃ J, lX10_types_3 q (n + 1) x y I = lX10_types_3 q n x (y + -8) J ∧ TpR q (L + 1) (up T L (bv x y)) J ∧ ∀ a j, ¬ (a = q ∧ j = 8) → ¬ a = q + 7 → J a j = I a j := by
  have e0 : lX10_types_3 q (n + 1) x y I = cX10_types_3 q (lX10_types_3 q n) n x y I := rfl
  rw [e0]
  unfold cX10_types_3
  rw [if_neg hy, hI.1, ck_in (by omega) (by omega), lt_b, lt_b, lt_b, u2_o (by omega), hI.1, nI_1, nI_clamp (by omega), by_r]
  refine ⟨_, rfl, ⟨u2_s, fun j hj => ?_, fun j hj => ?_⟩, fun a j g1 g2 => (u2_o g1).trans (u2_o (fun g => g2 g.1))⟩
  · rw [u2_o (by omega)]
    by_cases c : j = L
    · rw [c, u2_s, up_s]; rfl
    · rw [u2_o (by omega), up_o c]; exact hI.2.1 j (by omega)
  · rw [u2_o (by omega), u2_o (by omega)]; exact hI.2.2 j hj
def T4 (T : Nat → Nat) (L : Nat) (x : Int32) : Nat → Nat := up (up (up (up T L (bv x 24)) (L + 1) (bv x 16)) (L + 2) (bv x 8)) (L + 3) (bv x 0)
theorem okT_up {v : Nat} (h : okT L T) (hL : L < 400) (hv : v < 256) : okT (L + 1) (up T L v) := ⟨by omega, fun j hj => by
  by_cases c : j = L
  · rw [c, up_s]; exact hv
  · rw [up_o c]; exact h.2 j (by omega)⟩
theorem okT_4 (h : okT L T) (hL : L + 4 ≤ 400) : okT (L + 4) (T4 T L x) := okT_up (okT_up (okT_up (okT_up h (by omega) bv_l) (by omega) bv_l) (by omega) bv_l) (by omega) bv_l
theorem c_write (hI : TpC t L T I) (hL : L + 4 ≤ 400) (hn : 10 ≤ n) : ∃ J, pX7_write n t x I = some J ∧ TpC t (L + 4) (T4 T L x) J ∧ ∀ a j, ¬ (a = t ∧ j = 1) → ¬ a = t + 1 → J a j = I a j := by
  obtain ⟨n, rfl⟩ : ∃ k, n = k + 5 := ⟨n - 5, by omega⟩
  obtain ⟨J1, a1, b1, c1⟩ := c_w1 (n := n + 4) (x := x) (y := 24) (by decide) hI (by omega)
  obtain ⟨J2, a2, b2, c2⟩ := c_w1 (n := n + 3) (x := x) (y := 16) (by decide) b1 (by omega)
  obtain ⟨J3, a3, b3, c3⟩ := c_w1 (n := n + 2) (x := x) (y := 8) (by decide) b2 (by omega)
  obtain ⟨J4, a4, b4, c4⟩ := c_w1 (n := n + 1) (x := x) (y := 0) (by decide) b3 (by omega)
  refine ⟨J4, ?_, b4, fun a j g1 g2 => (c4 a j g1 g2).trans ((c3 a j g1 g2).trans ((c2 a j g1 g2).trans (c1 a j g1 g2)))⟩
  unfold pX7_write
  rw [a1, show (24 : Int32) + -8 = 16 by decide, a2, show (16 : Int32) + -8 = 8 by decide, a3, show (8 : Int32) + -8 = 0 by decide, a4]
  show cX7_write_3 t _ n _ _ _ = _
  unfold cX7_write_3
  rw [if_pos (by decide)]
theorem r_types (hI : TpR q L T I) (hL : L + 4 ≤ 400) (hn : 10 ≤ n) : ∃ J, pX10_types n q x I = some J ∧ TpR q (L + 4) (T4 T L x) J ∧ ∀ a j, ¬ (a = q ∧ j = 8) → ¬ a = q + 7 → J a j = I a j := by
  obtain ⟨n, rfl⟩ : ∃ k, n = k + 5 := ⟨n - 5, by omega⟩
  obtain ⟨J1, a1, b1, c1⟩ := r_w1 (n := n + 4) (x := x) (y := 24) (by decide) hI (by omega)
  obtain ⟨J2, a2, b2, c2⟩ := r_w1 (n := n + 3) (x := x) (y := 16) (by decide) b1 (by omega)
  obtain ⟨J3, a3, b3, c3⟩ := r_w1 (n := n + 2) (x := x) (y := 8) (by decide) b2 (by omega)
  obtain ⟨J4, a4, b4, c4⟩ := r_w1 (n := n + 1) (x := x) (y := 0) (by decide) b3 (by omega)
  refine ⟨J4, ?_, b4, fun a j g1 g2 => (c4 a j g1 g2).trans ((c3 a j g1 g2).trans ((c2 a j g1 g2).trans (c1 a j g1 g2)))⟩
  unfold pX10_types
  rw [a1, show (24 : Int32) + -8 = 16 by decide, a2, show (16 : Int32) + -8 = 8 by decide, a3, show (8 : Int32) + -8 = 0 by decide, a4]
  show cX10_types_3 q _ n _ _ _ = _
  unfold cX10_types_3
  rw [if_pos (by decide)]
def T20 (T : Nat → Nat) (L : Nat) (x1 x2 x3 x4 x5 : Int32) : Nat → Nat := T4 (T4 (T4 (T4 (T4 T L x1) (L + 4) x2) (L + 4 + 4) x3) (L + 4 + 4 + 4) x4) (L + 4 + 4 + 4 + 4) x5
theorem okT_20 {x1 x2 x3 x4 x5 : Int32} (h : okT L T) (hL : L ≤ 380) : okT (L + 20) (T20 T L x1 x2 x3 x4 x5) := okT_4 (okT_4 (okT_4 (okT_4 (okT_4 h (by omega)) (by omega)) (by omega)) (by omega)) (by omega)
theorem c_feed {z : Nat} {x1 x2 x3 x4 x5 : Int32} (hT : okT L T) (hI : TpC (z + 59) L T I) (hn : 100 ≤ n) : (L ≤ 380 → ∃ J, pX9_feed n z x1 x2 x3 x4 x5 I = some (nI (L + 20), J) ∧ TpC (z + 59) (L + 20) (T20 T L x1 x2 x3 x4 x5) J ∧ ∀ a j, ¬ (a = z + 59 ∧ j = 1) → ¬ a = z + 59 + 1 → J a j = I a j) ∧ (¬ L ≤ 380 → pX9_feed n z x1 x2 x3 x4 x5 I = some (-1, I)) := by
  have hL := hT.1
  unfold pX9_feed
  rw [hI.1, show nI L + (20 : Int32) = nI (L + 20) from nI_add L 20]
  refine ⟨fun h => ?_, fun h => ?_⟩
  · rw [if_pos (show nI (L + 20) ≤ (400 : Int32) from nI_le (b := 400) (by omega) (by omega))]
    obtain ⟨J1, a1, b1, c1⟩ := c_write (n := n) (x := x1) hI (by omega) (by omega)
    obtain ⟨J2, a2, b2, c2⟩ := c_write (n := n) (x := x2) b1 (by omega) (by omega)
    obtain ⟨J3, a3, b3, c3⟩ := c_write (n := n) (x := x3) b2 (by omega) (by omega)
    obtain ⟨J4, a4, b4, c4⟩ := c_write (n := n) (x := x4) b3 (by omega) (by omega)
    obtain ⟨J5, a5, b5, c5⟩ := c_write (n := n) (x := x5) b4 (by omega) (by omega)
    rw [a1, bn_s, a2, bn_s, a3, bn_s, a4, bn_s, a5, bn_s, b5.1]
    exact ⟨J5, rfl, b5, fun a j g1 g2 => (c5 a j g1 g2).trans ((c4 a j g1 g2).trans ((c3 a j g1 g2).trans ((c2 a j g1 g2).trans (c1 a j g1 g2))))⟩
  · rw [if_neg (show ¬ nI (L + 20) ≤ (400 : Int32) from nI_ge (a := 400) (by omega) (by omega))]
theorem r_feed {x1 x2 x3 x4 x5 : Int32} (hT : okT L T) (hI : TpR q L T I) (h0 : I q 0 = 0) (hn : 100 ≤ n) : (L ≤ 380 → ∃ J, pX10_feed n q x1 x2 x3 x4 x5 I = some (nI (L + 20), J) ∧ TpR q (L + 20) (T20 T L x1 x2 x3 x4 x5) J ∧ ∀ a j, ¬ (a = q ∧ j = 8) → ¬ a = q + 7 → J a j = I a j) ∧ (¬ L ≤ 380 → pX10_feed n q x1 x2 x3 x4 x5 I = some (-1, I)) := by
  have hL := hT.1
  have e0 : ev_u2 I q 0 0 = I := by
    funext a j
    by_cases c : a = q ∧ j = 0
    · rw [c.1, c.2, u2_s, h0]
    · rw [u2_o c]
  unfold pX10_feed
  rw [lt_b, e0, hI.1]
  refine ⟨fun h => ?_, fun h => ?_⟩
  · rw [if_pos (show nI L ≤ (380 : Int32) from nI_le (b := 380) (by omega) (by omega))]
    obtain ⟨J1, a1, b1, c1⟩ := r_types (n := n) (x := x1) hI (by omega) (by omega)
    obtain ⟨J2, a2, b2, c2⟩ := r_types (n := n) (x := x2) b1 (by omega) (by omega)
    obtain ⟨J3, a3, b3, c3⟩ := r_types (n := n) (x := x3) b2 (by omega) (by omega)
    obtain ⟨J4, a4, b4, c4⟩ := r_types (n := n) (x := x4) b3 (by omega) (by omega)
    obtain ⟨J5, a5, b5, c5⟩ := r_types (n := n) (x := x5) b4 (by omega) (by omega)
    rw [a1, bn_s, a2, bn_s, a3, bn_s, a4, bn_s, a5, bn_s, b5.1]
    exact ⟨J5, rfl, b5, fun a j g1 g2 => (c5 a j g1 g2).trans ((c4 a j g1 g2).trans ((c3 a j g1 g2).trans ((c2 a j g1 g2).trans (c1 a j g1 g2))))⟩
  · rw [if_neg (show ¬ nI L ≤ (380 : Int32) from nI_ge (a := 380) (by omega) (by omega))]
theorem x_nat {x : Int32} (h : ¬ x < 0) : ∃ k, x = nI k ∧ k < 2 ^ 31 := by
  refine ⟨x.toBitVec.toNat, (nI_bv x).symm, ?_⟩
  have h1 : ¬ x.toInt < 0 := fun g => h (Int32.lt_iff_toInt_lt.mpr g)
  rw [← Int32.toInt_toBitVec, BitVec.toInt_eq_toNat_cond] at h1
  have := x.toBitVec.isLt
  by_cases c : 2 * x.toBitVec.toNat < 2 ^ 32
  · omega
  · rw [if_neg c] at h1
    omega
theorem pr_end {z : Nat} {L : Nat} (hT : okT L T) : ∃ ans L', L' ≤ L ∧ (∀ n I, TpC (z + 59) L T I → ∃ J, pX9_end n z x I = some (ans, J) ∧ TpC (z + 59) L' T J ∧ ∀ a j, ¬ (a = z + 59 ∧ j = 1) → J a j = I a j) ∧ (∀ n q I, TpR q L T I → I q 0 = 0 → ∃ J, pX10_end n q x I = some (ans, J) ∧ TpR q L' T J ∧ ∀ a j, ¬ (a = q ∧ j = 8) → J a j = I a j) := by
  have hL := hT.1
  have e0 : ∀ (q : Nat) (I : ev_I), I q 0 = 0 → ev_u2 I q 0 0 = I := fun q I h0 => by
    funext a j
    by_cases c : a = q ∧ j = 0
    · rw [c.1, c.2, u2_s, h0]
    · rw [u2_o c]
  by_cases c : x < 0
  · refine ⟨0, L, Nat.le_refl _, fun n I hI => ⟨I, ?_, hI, fun _ _ _ => rfl⟩, fun n q I hI h0 => ⟨I, ?_, hI, fun _ _ _ => rfl⟩⟩
    · unfold pX9_end; rw [if_pos c]
    · unfold pX10_end pX10_isIn; rw [lt_b, e0 q I h0, if_pos c, bn_s, if_pos rfl]
  · obtain ⟨k, rfl, hk⟩ := x_nat c
    by_cases d : k ≤ L
    · refine ⟨1, k, d, fun n I hI => ⟨ev_u2 I (z + 59) 1 (nI k), ?_, ⟨u2_s, fun j hj => (u2_o (by omega)).trans (hI.2 j (by omega))⟩, fun a j g => u2_o g⟩, fun n q I hI h0 => ⟨ev_u2 I q 8 (nI k), ?_, ⟨u2_s, fun j hj => (u2_o (by omega)).trans (hI.2.1 j (by omega)), fun j hj => (u2_o (by omega)).trans (hI.2.2 j hj)⟩, fun a j g => u2_o g⟩⟩
      · unfold pX9_end; rw [if_neg c, hI.1, if_pos (nI_le d (by omega)), lt_b]
      · unfold pX10_end pX10_isIn
        rw [lt_b, e0 q I h0, if_neg c, hI.1, if_neg (nI_nlt d (by omega)), bn_s, if_neg (show ¬ (1 : Int32) = 0 by decide), lt_b]
    · refine ⟨0, L, Nat.le_refl _, fun n I hI => ⟨I, ?_, hI, fun _ _ _ => rfl⟩, fun n q I hI h0 => ⟨I, ?_, hI, fun _ _ _ => rfl⟩⟩
      · unfold pX9_end; rw [if_neg c, hI.1, if_neg (nI_ge (by omega) (by omega))]
      · unfold pX10_end pX10_isIn
        rw [lt_b, e0 q I h0, if_neg c, hI.1, if_pos (nI_lt (by omega) (by omega)), bn_s, if_pos rfl]
end Fd
