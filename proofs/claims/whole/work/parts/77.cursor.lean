/-! THE CURSOR OF THE SCRIPT is nobody else's (printed by wip/whole/g77.py) -/
def cu (a : Nat) (v : Int32) (I : ev_I) : ev_I := ev_u2 I a 1 v
def cu2 (a : Nat) (v : Int32) (p : Int32 × ev_I) : Int32 × ev_I := (p.1, cu a v p.2)
theorem cu_g {a b j : Nat} {v : Int32} {I : ev_I} (h : b ≠ a) : cu a v I b j = I b j := u2_o (fun g => h g.1)
theorem cu_p {a b j : Nat} {v x : Int32} {I : ev_I} (h : b ≠ a) : ev_u2 (cu a v I) b j x = cu a v (ev_u2 I b j x) := by
  funext c k
  unfold cu ev_u2
  by_cases e : c = b ∧ k = j
  · rw [if_pos e, if_neg (fun g => h (e.1.symm.trans g.1)), if_pos e]
  · rw [if_neg e, if_neg e]
theorem cu_l {α : Type} {a : Nat} {v : Int32} {I : ev_I} {f : ev_I → α} : ev_lt (cu a v I) f = ev_lt I (fun J => f (cu a v J)) := of_eq_true (eq_self _)
theorem m_l {α β γ : Type} {φ : β → γ} {e : α} {f : α → Option β} : Option.map φ (ev_lt e f) = ev_lt e (fun z => Option.map φ (f z)) := of_eq_true (eq_self _)
theorem m_c {β γ : Type} {φ : β → γ} {c : Bool} {x : Option β} : Option.map φ (ev_ck c x) = ev_ck c (Option.map φ x) := by cases c <;> rfl
theorem m_i {β γ : Type} {φ : β → γ} {c : Prop} [Decidable c] {x y : Option β} : Option.map φ (if c then x else y) = if c then Option.map φ x else Option.map φ y := by
  by_cases g : c
  · rw [if_pos g, if_pos g]
  · rw [if_neg g, if_neg g]
theorem m_b {α β γ : Type} {φ : β → γ} {x : Option α} {k : α → Option β} : Option.map φ (x.bind k) = x.bind (fun z => Option.map φ (k z)) := by cases x <;> rfl
theorem m_s {β γ : Type} {φ : β → γ} {x : β} : Option.map φ (some x) = some (φ x) := of_eq_true (eq_self _)
theorem b_m {α β γ : Type} {φ : α → β} {x : Option α} {k : β → Option γ} : (Option.map φ x).bind k = x.bind (fun z => k (φ z)) := by cases x <;> rfl
theorem k_bc {a n : Nat} {v x : Int32} {I : ev_I} : pJ6_bitCount_0f7a4 n x (cu a v I) = pJ6_bitCount_0f7a4 n x I := of_eq_true (eq_self _)
theorem cu2_1 {a : Nat} {v : Int32} {p : Int32 × ev_I} : (cu2 a v p).1 = p.1 := of_eq_true (eq_self _)
theorem cu2_2 {a : Nat} {v : Int32} {p : Int32 × ev_I} : (cu2 a v p).2 = cu a v p.2 := of_eq_true (eq_self _)
theorem cu2_m {a : Nat} {v : Int32} {x : Int32} {J : ev_I} : cu2 a v (x, J) = (x, cu a v J) := of_eq_true (eq_self _)
theorem kpX1_has {a : Nat} {v : Int32} {n : Nat} {q0 : Nat} {x1 : Int32} {I : ev_I} (h0 : a < q0 ∨ q0 + 8 < a) : pX1_has n q0 x1 (cu a v I) = pX1_has n q0 x1 I := by
  unfold pX1_has
  try simp (disch := first | assumption | omega) only [cu_g, cu_p, cu_l, m_l, m_c, m_i, m_b, m_s, b_m, cu2_1, cu2_2, cu2_m, k_bc]
  done
theorem kpX1_isCertified {a : Nat} {v : Int32} {n : Nat} {q0 : Nat} {x1 : Int32} {I : ev_I} (h0 : a < q0 ∨ q0 + 8 < a) : pX1_isCertified n q0 x1 (cu a v I) = pX1_isCertified n q0 x1 I := by
  unfold pX1_isCertified
  try simp (disch := first | assumption | omega) only [cu_g, cu_p, cu_l, m_l, m_c, m_i, m_b, m_s, b_m, cu2_1, cu2_2, cu2_m, k_bc, kpX1_has]
  done
theorem kpX1_add {a : Nat} {v : Int32} {n : Nat} {q0 : Nat} {x1 : Int32} {x2 : Int32} {x3 : Int32} {x4 : Int32} {x5 : Int32} {x6 : Int32} {I : ev_I} (h0 : a < q0 ∨ q0 + 8 < a) : pX1_add n q0 x1 x2 x3 x4 x5 x6 (cu a v I) = Option.map (cu2 a v) (pX1_add n q0 x1 x2 x3 x4 x5 x6 I) := by
  unfold pX1_add
  try simp (disch := first | assumption | omega) only [cu_g, cu_p, cu_l, m_l, m_c, m_i, m_b, m_s, b_m, cu2_1, cu2_2, cu2_m, k_bc]
  done
theorem kcX1_reaches_30 {a : Nat} {v : Int32} {q0 : Nat} {n : Nat} {y2 : Int32} {y3 : Int32} {I : ev_I} (h0 : a < q0 ∨ q0 + 8 < a) : cX1_reaches_30 q0 n y2 y3 (cu a v I) = cX1_reaches_30 q0 n y2 y3 I := by
  unfold cX1_reaches_30
  try simp (disch := first | assumption | omega) only [cu_g, cu_p, cu_l, m_l, m_c, m_i, m_b, m_s, b_m, cu2_1, cu2_2, cu2_m, k_bc]
  done
theorem kcX1_reaches_5 {a : Nat} {v : Int32} {q0 : Nat} {K5 : Int32 → Int32 → Int32 → ev_I → Option (Int32)} {n : Nat} {y2 : Int32} {y3 : Int32} {y4 : Int32} {I : ev_I} (h0 : a < q0 ∨ q0 + 8 < a) (hK5 : ∀ (u0 : Int32) (u1 : Int32) (u2 : Int32) (J : ev_I), K5 u0 u1 u2 (cu a v J) = K5 u0 u1 u2 J) : cX1_reaches_5 q0 K5 n y2 y3 y4 (cu a v I) = cX1_reaches_5 q0 K5 n y2 y3 y4 I := by
  unfold cX1_reaches_5
  try simp (disch := first | assumption | omega) only [cu_g, cu_p, cu_l, m_l, m_c, m_i, m_b, m_s, b_m, cu2_1, cu2_2, cu2_m, k_bc, kcX1_reaches_30, hK5]
  done
theorem klX1_reaches_5 {a : Nat} {v : Int32} {q0 : Nat} (h0 : a < q0 ∨ q0 + 8 < a) : ∀ (n : Nat) (y0 : Int32) (y1 : Int32) (y2 : Int32) (I : ev_I), lX1_reaches_5 q0 n y0 y1 y2 (cu a v I) = lX1_reaches_5 q0 n y0 y1 y2 I
  | 0, _, _, _, _ => rfl
  | n + 1, y0, y1, y2, I => kcX1_reaches_5 h0 (klX1_reaches_5 h0 n)
theorem kpX1_reaches {a : Nat} {v : Int32} {n : Nat} {q0 : Nat} {x1 : Int32} {x2 : Int32} {I : ev_I} (h0 : a < q0 ∨ q0 + 8 < a) : pX1_reaches n q0 x1 x2 (cu a v I) = pX1_reaches n q0 x1 x2 I := by
  unfold pX1_reaches
  try simp (disch := first | assumption | omega) only [cu_g, cu_p, cu_l, m_l, m_c, m_i, m_b, m_s, b_m, cu2_1, cu2_2, cu2_m, k_bc, klX1_reaches_5]
  done
theorem kcX1_committedBy_80 {a : Nat} {v : Int32} {q0 : Nat} {n : Nat} {y3 : Int32} {y4 : Int32} {s0 : Int32} {I : ev_I} (h0 : a < q0 ∨ q0 + 8 < a) : cX1_committedBy_80 q0 n y3 y4 s0 (cu a v I) = cX1_committedBy_80 q0 n y3 y4 s0 I := by
  unfold cX1_committedBy_80
  try simp (disch := first | assumption | omega) only [cu_g, cu_p, cu_l, m_l, m_c, m_i, m_b, m_s, b_m, cu2_1, cu2_2, cu2_m, k_bc]
  done
theorem kcX1_committedBy_79 {a : Nat} {v : Int32} {q0 : Nat} {n : Nat} {y3 : Int32} {y4 : Int32} {I : ev_I} (h0 : a < q0 ∨ q0 + 8 < a) : cX1_committedBy_79 q0 n y3 y4 (cu a v I) = cX1_committedBy_79 q0 n y3 y4 I := by
  unfold cX1_committedBy_79
  try simp (disch := first | assumption | omega) only [cu_g, cu_p, cu_l, m_l, m_c, m_i, m_b, m_s, b_m, cu2_1, cu2_2, cu2_m, k_bc, kcX1_committedBy_80]
  done
theorem kcX1_committedBy_39 {a : Nat} {v : Int32} {q0 : Nat} {n : Nat} {y1 : Int32} {y2 : Int32} {y3 : Int32} {s0 : Int32} {I : ev_I} (h0 : a < q0 ∨ q0 + 8 < a) : cX1_committedBy_39 q0 n y1 y2 y3 s0 (cu a v I) = cX1_committedBy_39 q0 n y1 y2 y3 s0 I := by
  unfold cX1_committedBy_39
  try simp (disch := first | assumption | omega) only [cu_g, cu_p, cu_l, m_l, m_c, m_i, m_b, m_s, b_m, cu2_1, cu2_2, cu2_m, k_bc, kcX1_committedBy_80, kcX1_committedBy_79]
  done
theorem kcX1_committedBy_38 {a : Nat} {v : Int32} {q0 : Nat} {n : Nat} {y1 : Int32} {y2 : Int32} {y3 : Int32} {I : ev_I} (h0 : a < q0 ∨ q0 + 8 < a) : cX1_committedBy_38 q0 n y1 y2 y3 (cu a v I) = cX1_committedBy_38 q0 n y1 y2 y3 I := by
  unfold cX1_committedBy_38
  try simp (disch := first | assumption | omega) only [cu_g, cu_p, cu_l, m_l, m_c, m_i, m_b, m_s, b_m, cu2_1, cu2_2, cu2_m, k_bc, kcX1_committedBy_39]
  done
theorem kpX1_committedBy {a : Nat} {v : Int32} {n : Nat} {q0 : Nat} {x1 : Int32} {I : ev_I} (h0 : a < q0 ∨ q0 + 8 < a) : pX1_committedBy n q0 x1 (cu a v I) = pX1_committedBy n q0 x1 I := by
  unfold pX1_committedBy
  try simp (disch := first | assumption | omega) only [cu_g, cu_p, cu_l, m_l, m_c, m_i, m_b, m_s, b_m, cu2_1, cu2_2, cu2_m, k_bc, kcX1_committedBy_39, kcX1_committedBy_38]
  done
theorem kpX2_add {a : Nat} {v : Int32} {n : Nat} {q0 : Nat} {z0 : Nat} {x1 : Int32} {x2 : Int32} {x3 : Int32} {x4 : Int32} {x5 : Int32} {I : ev_I} (h0 : a < q0 ∨ q0 + 1 < a) : pX2_add n q0 z0 x1 x2 x3 x4 x5 (cu a v I) = Option.map (cu a v) (pX2_add n q0 z0 x1 x2 x3 x4 x5 I) := by
  unfold pX2_add
  try simp (disch := first | assumption | omega) only [cu_g, cu_p, cu_l, m_l, m_c, m_i, m_b, m_s, b_m, cu2_1, cu2_2, cu2_m, k_bc]
  done
theorem kcX2_has_93 {a : Nat} {v : Int32} {q0 : Nat} {z0 : Nat} {K3 : Int32 → Int32 → Int32 → Int32 → Int32 → Int32 → ev_I → Option (Int32)} {n : Nat} {y1 : Int32} {y2 : Int32} {y3 : Int32} {y4 : Int32} {y5 : Int32} {y6 : Int32} {I : ev_I} (h0 : a < q0 ∨ q0 + 1 < a) (hK3 : ∀ (u0 : Int32) (u1 : Int32) (u2 : Int32) (u3 : Int32) (u4 : Int32) (u5 : Int32) (J : ev_I), K3 u0 u1 u2 u3 u4 u5 (cu a v J) = K3 u0 u1 u2 u3 u4 u5 J) : cX2_has_93 q0 z0 K3 n y1 y2 y3 y4 y5 y6 (cu a v I) = cX2_has_93 q0 z0 K3 n y1 y2 y3 y4 y5 y6 I := by
  unfold cX2_has_93
  try simp (disch := first | assumption | omega) only [cu_g, cu_p, cu_l, m_l, m_c, m_i, m_b, m_s, b_m, cu2_1, cu2_2, cu2_m, k_bc, hK3]
  done
theorem kcX2_has_56 {a : Nat} {v : Int32} {q0 : Nat} {z0 : Nat} {K3 : Int32 → Int32 → Int32 → Int32 → Int32 → Int32 → ev_I → Option (Int32)} {n : Nat} {y1 : Int32} {y2 : Int32} {y3 : Int32} {y4 : Int32} {y5 : Int32} {y6 : Int32} {s0 : Int32} {I : ev_I} (h0 : a < q0 ∨ q0 + 1 < a) (hK3 : ∀ (u0 : Int32) (u1 : Int32) (u2 : Int32) (u3 : Int32) (u4 : Int32) (u5 : Int32) (J : ev_I), K3 u0 u1 u2 u3 u4 u5 (cu a v J) = K3 u0 u1 u2 u3 u4 u5 J) : cX2_has_56 q0 z0 K3 n y1 y2 y3 y4 y5 y6 s0 (cu a v I) = cX2_has_56 q0 z0 K3 n y1 y2 y3 y4 y5 y6 s0 I := by
  unfold cX2_has_56
  try simp (disch := first | assumption | omega) only [cu_g, cu_p, cu_l, m_l, m_c, m_i, m_b, m_s, b_m, cu2_1, cu2_2, cu2_m, k_bc, kcX2_has_93, hK3]
  done
theorem kcX2_has_55 {a : Nat} {v : Int32} {q0 : Nat} {z0 : Nat} {K3 : Int32 → Int32 → Int32 → Int32 → Int32 → Int32 → ev_I → Option (Int32)} {n : Nat} {y1 : Int32} {y2 : Int32} {y3 : Int32} {y4 : Int32} {y5 : Int32} {y6 : Int32} {I : ev_I} (h0 : a < q0 ∨ q0 + 1 < a) (hK3 : ∀ (u0 : Int32) (u1 : Int32) (u2 : Int32) (u3 : Int32) (u4 : Int32) (u5 : Int32) (J : ev_I), K3 u0 u1 u2 u3 u4 u5 (cu a v J) = K3 u0 u1 u2 u3 u4 u5 J) : cX2_has_55 q0 z0 K3 n y1 y2 y3 y4 y5 y6 (cu a v I) = cX2_has_55 q0 z0 K3 n y1 y2 y3 y4 y5 y6 I := by
  unfold cX2_has_55
  try simp (disch := first | assumption | omega) only [cu_g, cu_p, cu_l, m_l, m_c, m_i, m_b, m_s, b_m, cu2_1, cu2_2, cu2_m, k_bc, kcX2_has_56, hK3]
  done
theorem kcX2_has_3 {a : Nat} {v : Int32} {q0 : Nat} {z0 : Nat} {K3 : Int32 → Int32 → Int32 → Int32 → Int32 → Int32 → ev_I → Option (Int32)} {n : Nat} {y1 : Int32} {y2 : Int32} {y3 : Int32} {y4 : Int32} {y5 : Int32} {y6 : Int32} {I : ev_I} (h0 : a < q0 ∨ q0 + 1 < a) (hK3 : ∀ (u0 : Int32) (u1 : Int32) (u2 : Int32) (u3 : Int32) (u4 : Int32) (u5 : Int32) (J : ev_I), K3 u0 u1 u2 u3 u4 u5 (cu a v J) = K3 u0 u1 u2 u3 u4 u5 J) : cX2_has_3 q0 z0 K3 n y1 y2 y3 y4 y5 y6 (cu a v I) = cX2_has_3 q0 z0 K3 n y1 y2 y3 y4 y5 y6 I := by
  unfold cX2_has_3
  try simp (disch := first | assumption | omega) only [cu_g, cu_p, cu_l, m_l, m_c, m_i, m_b, m_s, b_m, cu2_1, cu2_2, cu2_m, k_bc, kcX2_has_56, kcX2_has_55, hK3]
  done
theorem klX2_has_3 {a : Nat} {v : Int32} {q0 : Nat} {z0 : Nat} (h0 : a < q0 ∨ q0 + 1 < a) : ∀ (n : Nat) (y0 : Int32) (y1 : Int32) (y2 : Int32) (y3 : Int32) (y4 : Int32) (y5 : Int32) (I : ev_I), lX2_has_3 q0 z0 n y0 y1 y2 y3 y4 y5 (cu a v I) = lX2_has_3 q0 z0 n y0 y1 y2 y3 y4 y5 I
  | 0, _, _, _, _, _, _, _ => rfl
  | n + 1, y0, y1, y2, y3, y4, y5, I => kcX2_has_3 h0 (klX2_has_3 h0 n)
theorem kpX2_has {a : Nat} {v : Int32} {n : Nat} {q0 : Nat} {z0 : Nat} {x1 : Int32} {x2 : Int32} {x3 : Int32} {x4 : Int32} {x5 : Int32} {I : ev_I} (h0 : a < q0 ∨ q0 + 1 < a) : pX2_has n q0 z0 x1 x2 x3 x4 x5 (cu a v I) = pX2_has n q0 z0 x1 x2 x3 x4 x5 I := by
  unfold pX2_has
  try simp (disch := first | assumption | omega) only [cu_g, cu_p, cu_l, m_l, m_c, m_i, m_b, m_s, b_m, cu2_1, cu2_2, cu2_m, k_bc, klX2_has_3]
  done
theorem kpX3_lastLogged {a : Nat} {v : Int32} {n : Nat} {q0 : Nat} {I : ev_I} (h0 : a < q0 ∨ q0 + 4 < a) : pX3_lastLogged n q0 (cu a v I) = pX3_lastLogged n q0 I := by
  unfold pX3_lastLogged
  try simp (disch := first | assumption | omega) only [cu_g, cu_p, cu_l, m_l, m_c, m_i, m_b, m_s, b_m, cu2_1, cu2_2, cu2_m, k_bc]
  done
theorem kcX3_seenRival_47 {a : Nat} {v : Int32} {q0 : Nat} {q1 : Nat} {K2 : Int32 → Int32 → ev_I → Option (Int32)} {n : Nat} {y2 : Int32} {y3 : Int32} {I : ev_I} (h0 : a < q0 ∨ q0 + 4 < a) (hq1 : a < q1 ∨ q1 + 8 < a) (hK2 : ∀ (u0 : Int32) (u1 : Int32) (J : ev_I), K2 u0 u1 (cu a v J) = K2 u0 u1 J) : cX3_seenRival_47 q0 q1 K2 n y2 y3 (cu a v I) = cX3_seenRival_47 q0 q1 K2 n y2 y3 I := by
  unfold cX3_seenRival_47
  try simp (disch := first | assumption | omega) only [cu_g, cu_p, cu_l, m_l, m_c, m_i, m_b, m_s, b_m, cu2_1, cu2_2, cu2_m, k_bc, hK2]
  done
theorem kcX3_seenRival_2 {a : Nat} {v : Int32} {q0 : Nat} {q1 : Nat} {K2 : Int32 → Int32 → ev_I → Option (Int32)} {n : Nat} {y2 : Int32} {y3 : Int32} {I : ev_I} (h0 : a < q0 ∨ q0 + 4 < a) (hq1 : a < q1 ∨ q1 + 8 < a) (hK2 : ∀ (u0 : Int32) (u1 : Int32) (J : ev_I), K2 u0 u1 (cu a v J) = K2 u0 u1 J) : cX3_seenRival_2 q0 q1 K2 n y2 y3 (cu a v I) = cX3_seenRival_2 q0 q1 K2 n y2 y3 I := by
  unfold cX3_seenRival_2
  try simp (disch := first | assumption | omega) only [cu_g, cu_p, cu_l, m_l, m_c, m_i, m_b, m_s, b_m, cu2_1, cu2_2, cu2_m, k_bc, kcX3_seenRival_47, hK2]
  done
theorem klX3_seenRival_2 {a : Nat} {v : Int32} {q0 : Nat} {q1 : Nat} (h0 : a < q0 ∨ q0 + 4 < a) (hq1 : a < q1 ∨ q1 + 8 < a) : ∀ (n : Nat) (y0 : Int32) (y1 : Int32) (I : ev_I), lX3_seenRival_2 q0 q1 n y0 y1 (cu a v I) = lX3_seenRival_2 q0 q1 n y0 y1 I
  | 0, _, _, _ => rfl
  | n + 1, y0, y1, I => kcX3_seenRival_2 h0 (by first | assumption | omega) (klX3_seenRival_2 h0 hq1 n)
theorem kpX3_seenRival {a : Nat} {v : Int32} {n : Nat} {q0 : Nat} {q1 : Nat} {x2 : Int32} {I : ev_I} (h0 : a < q0 ∨ q0 + 4 < a) (hq1 : a < q1 ∨ q1 + 8 < a) : pX3_seenRival n q0 q1 x2 (cu a v I) = pX3_seenRival n q0 q1 x2 I := by
  unfold pX3_seenRival
  try simp (disch := first | assumption | omega) only [cu_g, cu_p, cu_l, m_l, m_c, m_i, m_b, m_s, b_m, cu2_1, cu2_2, cu2_m, k_bc, klX3_seenRival_2]
  done
theorem kcX3_see_2 {a : Nat} {v : Int32} {q0 : Nat} {K2 : Int32 → Int32 → ev_I → Option (ev_I)} {n : Nat} {y1 : Int32} {y2 : Int32} {I : ev_I} (h0 : a < q0 ∨ q0 + 4 < a) (hK2 : ∀ (u0 : Int32) (u1 : Int32) (J : ev_I), K2 u0 u1 (cu a v J) = Option.map (cu a v) (K2 u0 u1 J)) : cX3_see_2 q0 K2 n y1 y2 (cu a v I) = Option.map (cu a v) (cX3_see_2 q0 K2 n y1 y2 I) := by
  unfold cX3_see_2
  try simp (disch := first | assumption | omega) only [cu_g, cu_p, cu_l, m_l, m_c, m_i, m_b, m_s, b_m, cu2_1, cu2_2, cu2_m, k_bc, hK2]
  done
theorem klX3_see_2 {a : Nat} {v : Int32} {q0 : Nat} (h0 : a < q0 ∨ q0 + 4 < a) : ∀ (n : Nat) (y0 : Int32) (y1 : Int32) (I : ev_I), lX3_see_2 q0 n y0 y1 (cu a v I) = Option.map (cu a v) (lX3_see_2 q0 n y0 y1 I)
  | 0, _, _, _ => rfl
  | n + 1, y0, y1, I => kcX3_see_2 h0 (klX3_see_2 h0 n)
theorem kpX3_see {a : Nat} {v : Int32} {n : Nat} {q0 : Nat} {x1 : Int32} {I : ev_I} (h0 : a < q0 ∨ q0 + 4 < a) : pX3_see n q0 x1 (cu a v I) = Option.map (cu a v) (pX3_see n q0 x1 I) := by
  unfold pX3_see
  try simp (disch := first | assumption | omega) only [cu_g, cu_p, cu_l, m_l, m_c, m_i, m_b, m_s, b_m, cu2_1, cu2_2, cu2_m, k_bc, klX3_see_2]
  done
theorem kcX3_markedRival_52 {a : Nat} {v : Int32} {q0 : Nat} {q1 : Nat} {K3 : Int32 → Int32 → Int32 → ev_I → Option (Int32)} {n : Nat} {y2 : Int32} {y3 : Int32} {y4 : Int32} {I : ev_I} (h0 : a < q0 ∨ q0 + 4 < a) (hq1 : a < q1 ∨ q1 + 8 < a) (hK3 : ∀ (u0 : Int32) (u1 : Int32) (u2 : Int32) (J : ev_I), K3 u0 u1 u2 (cu a v J) = K3 u0 u1 u2 J) : cX3_markedRival_52 q0 q1 K3 n y2 y3 y4 (cu a v I) = cX3_markedRival_52 q0 q1 K3 n y2 y3 y4 I := by
  unfold cX3_markedRival_52
  try simp (disch := first | assumption | omega) only [cu_g, cu_p, cu_l, m_l, m_c, m_i, m_b, m_s, b_m, cu2_1, cu2_2, cu2_m, k_bc, hK3]
  done
theorem kcX3_markedRival_3 {a : Nat} {v : Int32} {q0 : Nat} {q1 : Nat} {K3 : Int32 → Int32 → Int32 → ev_I → Option (Int32)} {n : Nat} {y2 : Int32} {y3 : Int32} {y4 : Int32} {I : ev_I} (h0 : a < q0 ∨ q0 + 4 < a) (hq1 : a < q1 ∨ q1 + 8 < a) (hK3 : ∀ (u0 : Int32) (u1 : Int32) (u2 : Int32) (J : ev_I), K3 u0 u1 u2 (cu a v J) = K3 u0 u1 u2 J) : cX3_markedRival_3 q0 q1 K3 n y2 y3 y4 (cu a v I) = cX3_markedRival_3 q0 q1 K3 n y2 y3 y4 I := by
  unfold cX3_markedRival_3
  try simp (disch := first | assumption | omega) only [cu_g, cu_p, cu_l, m_l, m_c, m_i, m_b, m_s, b_m, cu2_1, cu2_2, cu2_m, k_bc, kcX3_markedRival_52, hK3]
  done
theorem klX3_markedRival_3 {a : Nat} {v : Int32} {q0 : Nat} {q1 : Nat} (h0 : a < q0 ∨ q0 + 4 < a) (hq1 : a < q1 ∨ q1 + 8 < a) : ∀ (n : Nat) (y0 : Int32) (y1 : Int32) (y2 : Int32) (I : ev_I), lX3_markedRival_3 q0 q1 n y0 y1 y2 (cu a v I) = lX3_markedRival_3 q0 q1 n y0 y1 y2 I
  | 0, _, _, _, _ => rfl
  | n + 1, y0, y1, y2, I => kcX3_markedRival_3 h0 (by first | assumption | omega) (klX3_markedRival_3 h0 hq1 n)
theorem kpX3_markedRival {a : Nat} {v : Int32} {n : Nat} {q0 : Nat} {q1 : Nat} {x2 : Int32} {x3 : Int32} {I : ev_I} (h0 : a < q0 ∨ q0 + 4 < a) (hq1 : a < q1 ∨ q1 + 8 < a) : pX3_markedRival n q0 q1 x2 x3 (cu a v I) = pX3_markedRival n q0 q1 x2 x3 I := by
  unfold pX3_markedRival
  try simp (disch := first | assumption | omega) only [cu_g, cu_p, cu_l, m_l, m_c, m_i, m_b, m_s, b_m, cu2_1, cu2_2, cu2_m, k_bc, klX3_markedRival_3]
  done
theorem kpX4_senderOf {a : Nat} {v : Int32} {n : Nat} {x0 : Int32} {I : ev_I}  : pX4_senderOf n x0 (cu a v I) = pX4_senderOf n x0 I := by
  unfold pX4_senderOf
  try simp (disch := first | assumption | omega) only [cu_g, cu_p, cu_l, m_l, m_c, m_i, m_b, m_s, b_m, cu2_1, cu2_2, cu2_m, k_bc]
  done
theorem kpX4_targetOf {a : Nat} {v : Int32} {n : Nat} {x0 : Int32} {I : ev_I}  : pX4_targetOf n x0 (cu a v I) = pX4_targetOf n x0 I := by
  unfold pX4_targetOf
  try simp (disch := first | assumption | omega) only [cu_g, cu_p, cu_l, m_l, m_c, m_i, m_b, m_s, b_m, cu2_1, cu2_2, cu2_m, k_bc]
  done
theorem kpX4_kindOf {a : Nat} {v : Int32} {n : Nat} {x0 : Int32} {I : ev_I}  : pX4_kindOf n x0 (cu a v I) = pX4_kindOf n x0 I := by
  unfold pX4_kindOf
  try simp (disch := first | assumption | omega) only [cu_g, cu_p, cu_l, m_l, m_c, m_i, m_b, m_s, b_m, cu2_1, cu2_2, cu2_m, k_bc]
  done
theorem kpX4_subjectOf {a : Nat} {v : Int32} {n : Nat} {x0 : Int32} {I : ev_I}  : pX4_subjectOf n x0 (cu a v I) = pX4_subjectOf n x0 I := by
  unfold pX4_subjectOf
  try simp (disch := first | assumption | omega) only [cu_g, cu_p, cu_l, m_l, m_c, m_i, m_b, m_s, b_m, cu2_1, cu2_2, cu2_m, k_bc]
  done
theorem kpX4_highOf {a : Nat} {v : Int32} {n : Nat} {x0 : Int32} {I : ev_I}  : pX4_highOf n x0 (cu a v I) = pX4_highOf n x0 I := by
  unfold pX4_highOf
  try simp (disch := first | assumption | omega) only [cu_g, cu_p, cu_l, m_l, m_c, m_i, m_b, m_s, b_m, cu2_1, cu2_2, cu2_m, k_bc]
  done
theorem kpX4_has {a : Nat} {v : Int32} {n : Nat} {q0 : Nat} {x1 : Int32} {I : ev_I} (h0 : a < q0 ∨ q0 + 2 < a) : pX4_has n q0 x1 (cu a v I) = pX4_has n q0 x1 I := by
  unfold pX4_has
  try simp (disch := first | assumption | omega) only [cu_g, cu_p, cu_l, m_l, m_c, m_i, m_b, m_s, b_m, cu2_1, cu2_2, cu2_m, k_bc]
  done
theorem kpX4_at {a : Nat} {v : Int32} {n : Nat} {q0 : Nat} {x1 : Int32} {I : ev_I} (h0 : a < q0 ∨ q0 + 2 < a) : pX4_at n q0 x1 (cu a v I) = pX4_at n q0 x1 I := by
  unfold pX4_at
  try simp (disch := first | assumption | omega) only [cu_g, cu_p, cu_l, m_l, m_c, m_i, m_b, m_s, b_m, cu2_1, cu2_2, cu2_m, k_bc]
  done
theorem kpX4_put {a : Nat} {v : Int32} {n : Nat} {q0 : Nat} {x1 : Int32} {x2 : Int32} {I : ev_I} (h0 : a < q0 ∨ q0 + 2 < a) : pX4_put n q0 x1 x2 (cu a v I) = Option.map (cu a v) (pX4_put n q0 x1 x2 I) := by
  unfold pX4_put
  try simp (disch := first | assumption | omega) only [cu_g, cu_p, cu_l, m_l, m_c, m_i, m_b, m_s, b_m, cu2_1, cu2_2, cu2_m, k_bc]
  done
theorem kpX4_isCut {a : Nat} {v : Int32} {n : Nat} {q0 : Nat} {x1 : Int32} {x2 : Int32} {I : ev_I} (h0 : a < q0 ∨ q0 + 2 < a) : pX4_isCut n q0 x1 x2 (cu a v I) = pX4_isCut n q0 x1 x2 I := by
  unfold pX4_isCut
  try simp (disch := first | assumption | omega) only [cu_g, cu_p, cu_l, m_l, m_c, m_i, m_b, m_s, b_m, cu2_1, cu2_2, cu2_m, k_bc]
  done
theorem kpX4_send {a : Nat} {v : Int32} {n : Nat} {q0 : Nat} {x1 : Int32} {x2 : Int32} {x3 : Int32} {x4 : Int32} {x5 : Int32} {I : ev_I} (h0 : a < q0 ∨ q0 + 2 < a) : pX4_send n q0 x1 x2 x3 x4 x5 (cu a v I) = Option.map (cu a v) (pX4_send n q0 x1 x2 x3 x4 x5 I) := by
  unfold pX4_send
  try simp (disch := first | assumption | omega) only [cu_g, cu_p, cu_l, m_l, m_c, m_i, m_b, m_s, b_m, cu2_1, cu2_2, cu2_m, k_bc, kpX4_isCut, kpX4_put]
  done
theorem kcX4_take_57 {a : Nat} {v : Int32} {q0 : Nat} {n : Nat} {y2 : Int32} {I : ev_I} (h0 : a < q0 ∨ q0 + 2 < a) : cX4_take_57 q0 n y2 (cu a v I) = Option.map (cu2 a v) (cX4_take_57 q0 n y2 I) := by
  unfold cX4_take_57
  try simp (disch := first | assumption | omega) only [cu_g, cu_p, cu_l, m_l, m_c, m_i, m_b, m_s, b_m, cu2_1, cu2_2, cu2_m, k_bc]
  done
theorem kcX4_take_29 {a : Nat} {v : Int32} {q0 : Nat} {K29 : Int32 → Int32 → ev_I → Option (Int32 × ev_I)} {n : Nat} {y2 : Int32} {y3 : Int32} {I : ev_I} (h0 : a < q0 ∨ q0 + 2 < a) (hK29 : ∀ (u0 : Int32) (u1 : Int32) (J : ev_I), K29 u0 u1 (cu a v J) = Option.map (cu2 a v) (K29 u0 u1 J)) : cX4_take_29 q0 K29 n y2 y3 (cu a v I) = Option.map (cu2 a v) (cX4_take_29 q0 K29 n y2 y3 I) := by
  unfold cX4_take_29
  try simp (disch := first | assumption | omega) only [cu_g, cu_p, cu_l, m_l, m_c, m_i, m_b, m_s, b_m, cu2_1, cu2_2, cu2_m, k_bc, kcX4_take_57, kpX4_at, kpX4_put, hK29]
  done
theorem klX4_take_29 {a : Nat} {v : Int32} {q0 : Nat} (h0 : a < q0 ∨ q0 + 2 < a) : ∀ (n : Nat) (y0 : Int32) (y1 : Int32) (I : ev_I), lX4_take_29 q0 n y0 y1 (cu a v I) = Option.map (cu2 a v) (lX4_take_29 q0 n y0 y1 I)
  | 0, _, _, _ => rfl
  | n + 1, y0, y1, I => kcX4_take_29 h0 (klX4_take_29 h0 n)
theorem kpX4_take {a : Nat} {v : Int32} {n : Nat} {q0 : Nat} {x1 : Int32} {I : ev_I} (h0 : a < q0 ∨ q0 + 2 < a) : pX4_take n q0 x1 (cu a v I) = Option.map (cu2 a v) (pX4_take n q0 x1 I) := by
  unfold pX4_take
  try simp (disch := first | assumption | omega) only [cu_g, cu_p, cu_l, m_l, m_c, m_i, m_b, m_s, b_m, cu2_1, cu2_2, cu2_m, k_bc, kpX4_at, kcX4_take_57, klX4_take_29]
  done
theorem kpX4_takeFirst {a : Nat} {v : Int32} {n : Nat} {q0 : Nat} {x1 : Int32} {I : ev_I} (h0 : a < q0 ∨ q0 + 2 < a) : pX4_takeFirst n q0 x1 (cu a v I) = Option.map (cu2 a v) (pX4_takeFirst n q0 x1 I) := by
  unfold pX4_takeFirst
  try simp (disch := first | assumption | omega) only [cu_g, cu_p, cu_l, m_l, m_c, m_i, m_b, m_s, b_m, cu2_1, cu2_2, cu2_m, k_bc]
  done
theorem kcX4_takeAllTo_38 {a : Nat} {v : Int32} {q0 : Nat} {K4 : Int32 → Int32 → Int32 → ev_I → Option (Int32 × ev_I)} {n : Nat} {y1 : Int32} {y2 : Int32} {y3 : Int32} {I : ev_I} (h0 : a < q0 ∨ q0 + 2 < a) (hK4 : ∀ (u0 : Int32) (u1 : Int32) (u2 : Int32) (J : ev_I), K4 u0 u1 u2 (cu a v J) = Option.map (cu2 a v) (K4 u0 u1 u2 J)) : cX4_takeAllTo_38 q0 K4 n y1 y2 y3 (cu a v I) = Option.map (cu2 a v) (cX4_takeAllTo_38 q0 K4 n y1 y2 y3 I) := by
  unfold cX4_takeAllTo_38
  try simp (disch := first | assumption | omega) only [cu_g, cu_p, cu_l, m_l, m_c, m_i, m_b, m_s, b_m, cu2_1, cu2_2, cu2_m, k_bc, hK4]
  done
theorem kcX4_takeAllTo_4 {a : Nat} {v : Int32} {q0 : Nat} {K4 : Int32 → Int32 → Int32 → ev_I → Option (Int32 × ev_I)} {n : Nat} {y1 : Int32} {y2 : Int32} {y3 : Int32} {I : ev_I} (h0 : a < q0 ∨ q0 + 2 < a) (hK4 : ∀ (u0 : Int32) (u1 : Int32) (u2 : Int32) (J : ev_I), K4 u0 u1 u2 (cu a v J) = Option.map (cu2 a v) (K4 u0 u1 u2 J)) : cX4_takeAllTo_4 q0 K4 n y1 y2 y3 (cu a v I) = Option.map (cu2 a v) (cX4_takeAllTo_4 q0 K4 n y1 y2 y3 I) := by
  unfold cX4_takeAllTo_4
  try simp (disch := first | assumption | omega) only [cu_g, cu_p, cu_l, m_l, m_c, m_i, m_b, m_s, b_m, cu2_1, cu2_2, cu2_m, k_bc, kpX4_at, kpX4_targetOf, kcX4_takeAllTo_38, kpX4_put, hK4]
  done
theorem klX4_takeAllTo_4 {a : Nat} {v : Int32} {q0 : Nat} (h0 : a < q0 ∨ q0 + 2 < a) : ∀ (n : Nat) (y0 : Int32) (y1 : Int32) (y2 : Int32) (I : ev_I), lX4_takeAllTo_4 q0 n y0 y1 y2 (cu a v I) = Option.map (cu2 a v) (lX4_takeAllTo_4 q0 n y0 y1 y2 I)
  | 0, _, _, _, _ => rfl
  | n + 1, y0, y1, y2, I => kcX4_takeAllTo_4 h0 (klX4_takeAllTo_4 h0 n)
theorem kpX4_takeAllTo {a : Nat} {v : Int32} {n : Nat} {q0 : Nat} {x1 : Int32} {I : ev_I} (h0 : a < q0 ∨ q0 + 2 < a) : pX4_takeAllTo n q0 x1 (cu a v I) = Option.map (cu2 a v) (pX4_takeAllTo n q0 x1 I) := by
  unfold pX4_takeAllTo
  try simp (disch := first | assumption | omega) only [cu_g, cu_p, cu_l, m_l, m_c, m_i, m_b, m_s, b_m, cu2_1, cu2_2, cu2_m, k_bc, klX4_takeAllTo_4]
  done
theorem kcX4_reverseFirst_2 {a : Nat} {v : Int32} {q0 : Nat} {K2 : Int32 → Int32 → ev_I → Option (ev_I)} {n : Nat} {y1 : Int32} {y2 : Int32} {I : ev_I} (h0 : a < q0 ∨ q0 + 2 < a) (hK2 : ∀ (u0 : Int32) (u1 : Int32) (J : ev_I), K2 u0 u1 (cu a v J) = Option.map (cu a v) (K2 u0 u1 J)) : cX4_reverseFirst_2 q0 K2 n y1 y2 (cu a v I) = Option.map (cu a v) (cX4_reverseFirst_2 q0 K2 n y1 y2 I) := by
  unfold cX4_reverseFirst_2
  try simp (disch := first | assumption | omega) only [cu_g, cu_p, cu_l, m_l, m_c, m_i, m_b, m_s, b_m, cu2_1, cu2_2, cu2_m, k_bc, kpX4_at, kpX4_put, hK2]
  done
theorem klX4_reverseFirst_2 {a : Nat} {v : Int32} {q0 : Nat} (h0 : a < q0 ∨ q0 + 2 < a) : ∀ (n : Nat) (y0 : Int32) (y1 : Int32) (I : ev_I), lX4_reverseFirst_2 q0 n y0 y1 (cu a v I) = Option.map (cu a v) (lX4_reverseFirst_2 q0 n y0 y1 I)
  | 0, _, _, _ => rfl
  | n + 1, y0, y1, I => kcX4_reverseFirst_2 h0 (klX4_reverseFirst_2 h0 n)
theorem kpX4_reverseFirst {a : Nat} {v : Int32} {n : Nat} {q0 : Nat} {x1 : Int32} {I : ev_I} (h0 : a < q0 ∨ q0 + 2 < a) : pX4_reverseFirst n q0 x1 (cu a v I) = Option.map (cu a v) (pX4_reverseFirst n q0 x1 I) := by
  unfold pX4_reverseFirst
  try simp (disch := first | assumption | omega) only [cu_g, cu_p, cu_l, m_l, m_c, m_i, m_b, m_s, b_m, cu2_1, cu2_2, cu2_m, k_bc, klX4_reverseFirst_2]
  done
theorem kpX4_turnFirst {a : Nat} {v : Int32} {n : Nat} {q0 : Nat} {x1 : Int32} {I : ev_I} (h0 : a < q0 ∨ q0 + 2 < a) : pX4_turnFirst n q0 x1 (cu a v I) = Option.map (cu2 a v) (pX4_turnFirst n q0 x1 I) := by
  unfold pX4_turnFirst
  try simp (disch := first | assumption | omega) only [cu_g, cu_p, cu_l, m_l, m_c, m_i, m_b, m_s, b_m, cu2_1, cu2_2, cu2_m, k_bc, kpX4_reverseFirst]
  done
theorem kpX8_hasNode {v : Int32} {n : Nat} {q0 : Nat} {x1 : Int32} {I : ev_I}  : pX8_hasNode n q0 x1 (cu (q0 + 18) v I) = pX8_hasNode n q0 x1 I := by
  unfold pX8_hasNode
  try simp (disch := first | assumption | omega) only [cu_g, cu_p, cu_l, m_l, m_c, m_i, m_b, m_s, b_m, cu2_1, cu2_2, cu2_m, k_bc]
  done
theorem kpX8_isAwake {v : Int32} {n : Nat} {q0 : Nat} {x1 : Int32} {I : ev_I}  : pX8_isAwake n q0 x1 (cu (q0 + 18) v I) = pX8_isAwake n q0 x1 I := by
  unfold pX8_isAwake
  try simp (disch := first | assumption | omega) only [cu_g, cu_p, cu_l, m_l, m_c, m_i, m_b, m_s, b_m, cu2_1, cu2_2, cu2_m, k_bc, kpX8_hasNode]
  done
theorem kpX8_faults {v : Int32} {n : Nat} {q0 : Nat} {I : ev_I}  : pX8_faults n q0 (cu (q0 + 18) v I) = pX8_faults n q0 I := by
  unfold pX8_faults
  try simp (disch := first | assumption | omega) only [cu_g, cu_p, cu_l, m_l, m_c, m_i, m_b, m_s, b_m, cu2_1, cu2_2, cu2_m, k_bc]
  done
theorem kpX8_quorum {v : Int32} {n : Nat} {q0 : Nat} {I : ev_I}  : pX8_quorum n q0 (cu (q0 + 18) v I) = pX8_quorum n q0 I := by
  unfold pX8_quorum
  try simp (disch := first | assumption | omega) only [cu_g, cu_p, cu_l, m_l, m_c, m_i, m_b, m_s, b_m, cu2_1, cu2_2, cu2_m, k_bc, kpX8_faults]
  done
theorem kpX8_leaderOf {v : Int32} {n : Nat} {q0 : Nat} {x1 : Int32} {I : ev_I}  : pX8_leaderOf n q0 x1 (cu (q0 + 18) v I) = pX8_leaderOf n q0 x1 I := by
  unfold pX8_leaderOf
  try simp (disch := first | assumption | omega) only [cu_g, cu_p, cu_l, m_l, m_c, m_i, m_b, m_s, b_m, cu2_1, cu2_2, cu2_m, k_bc]
  done
theorem kcX8_sendToAll_3 {v : Int32} {q0 : Nat} {K3 : Int32 → Int32 → Int32 → Int32 → Int32 → ev_I → Option (ev_I)} {n : Nat} {y1 : Int32} {y2 : Int32} {y3 : Int32} {y4 : Int32} {y5 : Int32} {I : ev_I} (hK3 : ∀ (u0 : Int32) (u1 : Int32) (u2 : Int32) (u3 : Int32) (u4 : Int32) (J : ev_I), K3 u0 u1 u2 u3 u4 (cu (q0 + 18) v J) = Option.map (cu (q0 + 18) v) (K3 u0 u1 u2 u3 u4 J)) : cX8_sendToAll_3 q0 K3 n y1 y2 y3 y4 y5 (cu (q0 + 18) v I) = Option.map (cu (q0 + 18) v) (cX8_sendToAll_3 q0 K3 n y1 y2 y3 y4 y5 I) := by
  unfold cX8_sendToAll_3
  try simp (disch := first | assumption | omega) only [cu_g, cu_p, cu_l, m_l, m_c, m_i, m_b, m_s, b_m, cu2_1, cu2_2, cu2_m, k_bc, kpX4_send, hK3]
  done
theorem klX8_sendToAll_3 {v : Int32} {q0 : Nat}  : ∀ (n : Nat) (y0 : Int32) (y1 : Int32) (y2 : Int32) (y3 : Int32) (y4 : Int32) (I : ev_I), lX8_sendToAll_3 q0 n y0 y1 y2 y3 y4 (cu (q0 + 18) v I) = Option.map (cu (q0 + 18) v) (lX8_sendToAll_3 q0 n y0 y1 y2 y3 y4 I)
  | 0, _, _, _, _, _, _ => rfl
  | n + 1, y0, y1, y2, y3, y4, I => kcX8_sendToAll_3 (klX8_sendToAll_3 n)
theorem kpX8_sendToAll {v : Int32} {n : Nat} {q0 : Nat} {x1 : Int32} {x2 : Int32} {x3 : Int32} {x4 : Int32} {I : ev_I}  : pX8_sendToAll n q0 x1 x2 x3 x4 (cu (q0 + 18) v I) = Option.map (cu (q0 + 18) v) (pX8_sendToAll n q0 x1 x2 x3 x4 I) := by
  unfold pX8_sendToAll
  try simp (disch := first | assumption | omega) only [cu_g, cu_p, cu_l, m_l, m_c, m_i, m_b, m_s, b_m, cu2_1, cu2_2, cu2_m, k_bc, klX8_sendToAll_3]
  done
theorem kpX8_sendMark {v : Int32} {n : Nat} {q0 : Nat} {x1 : Int32} {x2 : Int32} {I : ev_I}  : pX8_sendMark n q0 x1 x2 (cu (q0 + 18) v I) = Option.map (cu (q0 + 18) v) (pX8_sendMark n q0 x1 x2 I) := by
  unfold pX8_sendMark
  try simp (disch := first | assumption | omega) only [cu_g, cu_p, cu_l, m_l, m_c, m_i, m_b, m_s, b_m, cu2_1, cu2_2, cu2_m, k_bc, kpX8_leaderOf, kpX4_send]
  done
theorem kcX8_canPropose_115 {v : Int32} {q0 : Nat} {n : Nat} {y3 : Int32} {s0 : Int32} {I : ev_I}  : cX8_canPropose_115 q0 n y3 s0 (cu (q0 + 18) v I) = cX8_canPropose_115 q0 n y3 s0 I := by
  unfold cX8_canPropose_115
  try simp (disch := first | assumption | omega) only [cu_g, cu_p, cu_l, m_l, m_c, m_i, m_b, m_s, b_m, cu2_1, cu2_2, cu2_m, k_bc]
  done
theorem kcX8_canPropose_110 {v : Int32} {q0 : Nat} {n : Nat} {y3 : Int32} {I : ev_I}  : cX8_canPropose_110 q0 n y3 (cu (q0 + 18) v I) = cX8_canPropose_110 q0 n y3 I := by
  unfold cX8_canPropose_110
  try simp (disch := first | assumption | omega) only [cu_g, cu_p, cu_l, m_l, m_c, m_i, m_b, m_s, b_m, cu2_1, cu2_2, cu2_m, k_bc, kcX8_canPropose_115]
  done
theorem kcX8_canPropose_67 {v : Int32} {q0 : Nat} {n : Nat} {p2 : Nat} {s0 : Int32} {I : ev_I} (hp2 : (q0 + 18) < p2 ∨ p2 + 8 < (q0 + 18)) : cX8_canPropose_67 q0 n p2 s0 (cu (q0 + 18) v I) = cX8_canPropose_67 q0 n p2 s0 I := by
  unfold cX8_canPropose_67
  try simp (disch := first | assumption | omega) only [cu_g, cu_p, cu_l, m_l, m_c, m_i, m_b, m_s, b_m, cu2_1, cu2_2, cu2_m, k_bc, kcX8_canPropose_110, kcX8_canPropose_115]
  done
theorem kcX8_canPropose_66 {v : Int32} {q0 : Nat} {n : Nat} {p2 : Nat} {I : ev_I} (hp2 : (q0 + 18) < p2 ∨ p2 + 8 < (q0 + 18)) : cX8_canPropose_66 q0 n p2 (cu (q0 + 18) v I) = cX8_canPropose_66 q0 n p2 I := by
  unfold cX8_canPropose_66
  try simp (disch := first | assumption | omega) only [cu_g, cu_p, cu_l, m_l, m_c, m_i, m_b, m_s, b_m, cu2_1, cu2_2, cu2_m, k_bc, kcX8_canPropose_67]
  done
theorem kpX8_canPropose {v : Int32} {n : Nat} {q0 : Nat} {x1 : Int32} {I : ev_I}  : pX8_canPropose n q0 x1 (cu (q0 + 18) v I) = pX8_canPropose n q0 x1 I := by
  unfold pX8_canPropose
  try simp (disch := first | assumption | omega) only [cu_g, cu_p, cu_l, m_l, m_c, m_i, m_b, m_s, b_m, cu2_1, cu2_2, cu2_m, k_bc, kpX8_isAwake, kcX8_canPropose_66, kpX8_leaderOf, kcX8_canPropose_67]
  done
theorem kcX8_proposeBy_46 {v : Int32} {q0 : Nat} {n : Nat} {y1 : Int32} {y2 : Int32} {p3 : Nat} {s0 : Int32} {I : ev_I} (hp3 : (q0 + 18) < p3 ∨ p3 + 8 < (q0 + 18)) : cX8_proposeBy_46 q0 n y1 y2 p3 s0 (cu (q0 + 18) v I) = Option.map (cu2 (q0 + 18) v) (cX8_proposeBy_46 q0 n y1 y2 p3 s0 I) := by
  unfold cX8_proposeBy_46
  try simp (disch := first | assumption | omega) only [cu_g, cu_p, cu_l, m_l, m_c, m_i, m_b, m_s, b_m, cu2_1, cu2_2, cu2_m, k_bc, kpX1_add, kpX8_sendToAll]
  done
theorem kpX8_proposeBy {v : Int32} {n : Nat} {q0 : Nat} {x1 : Int32} {x2 : Int32} {I : ev_I}  : pX8_proposeBy n q0 x1 x2 (cu (q0 + 18) v I) = Option.map (cu2 (q0 + 18) v) (pX8_proposeBy n q0 x1 x2 I) := by
  unfold pX8_proposeBy
  try simp (disch := first | assumption | omega) only [cu_g, cu_p, cu_l, m_l, m_c, m_i, m_b, m_s, b_m, cu2_1, cu2_2, cu2_m, k_bc, kpX8_canPropose, kcX8_proposeBy_46]
  done
theorem kpX8_canTimeOut {v : Int32} {n : Nat} {q0 : Nat} {x1 : Int32} {I : ev_I}  : pX8_canTimeOut n q0 x1 (cu (q0 + 18) v I) = pX8_canTimeOut n q0 x1 I := by
  unfold pX8_canTimeOut
  try simp (disch := first | assumption | omega) only [cu_g, cu_p, cu_l, m_l, m_c, m_i, m_b, m_s, b_m, cu2_1, cu2_2, cu2_m, k_bc, kpX8_isAwake]
  done
theorem kpX8_timeOutBy {v : Int32} {n : Nat} {q0 : Nat} {x1 : Int32} {I : ev_I}  : pX8_timeOutBy n q0 x1 (cu (q0 + 18) v I) = Option.map (cu2 (q0 + 18) v) (pX8_timeOutBy n q0 x1 I) := by
  unfold pX8_timeOutBy
  try simp (disch := first | assumption | omega) only [cu_g, cu_p, cu_l, m_l, m_c, m_i, m_b, m_s, b_m, cu2_1, cu2_2, cu2_m, k_bc, kpX8_canTimeOut, kpX8_sendToAll]
  done
theorem kpX8_lieMark {v : Int32} {n : Nat} {q0 : Nat} {x1 : Int32} {x2 : Int32} {I : ev_I}  : pX8_lieMark n q0 x1 x2 (cu (q0 + 18) v I) = Option.map (cu2 (q0 + 18) v) (pX8_lieMark n q0 x1 x2 I) := by
  unfold pX8_lieMark
  try simp (disch := first | assumption | omega) only [cu_g, cu_p, cu_l, m_l, m_c, m_i, m_b, m_s, b_m, cu2_1, cu2_2, cu2_m, k_bc, kpX8_sendMark]
  done
theorem kpX8_lieBlock {v : Int32} {n : Nat} {q0 : Nat} {x1 : Int32} {x2 : Int32} {x3 : Int32} {x4 : Int32} {x5 : Int32} {I : ev_I}  : pX8_lieBlock n q0 x1 x2 x3 x4 x5 (cu (q0 + 18) v I) = Option.map (cu2 (q0 + 18) v) (pX8_lieBlock n q0 x1 x2 x3 x4 x5 I) := by
  unfold pX8_lieBlock
  try simp (disch := first | assumption | omega) only [cu_g, cu_p, cu_l, m_l, m_c, m_i, m_b, m_s, b_m, cu2_1, cu2_2, cu2_m, k_bc, kpX8_leaderOf, kpX1_add, kpX8_sendToAll]
  done
theorem kpX8_lieTimeout {v : Int32} {n : Nat} {q0 : Nat} {x1 : Int32} {x2 : Int32} {x3 : Int32} {I : ev_I}  : pX8_lieTimeout n q0 x1 x2 x3 (cu (q0 + 18) v I) = Option.map (cu2 (q0 + 18) v) (pX8_lieTimeout n q0 x1 x2 x3 I) := by
  unfold pX8_lieTimeout
  try simp (disch := first | assumption | omega) only [cu_g, cu_p, cu_l, m_l, m_c, m_i, m_b, m_s, b_m, cu2_1, cu2_2, cu2_m, k_bc, kpX1_isCertified, kpX8_sendToAll]
  done
theorem kcX8_commit_142 {v : Int32} {q0 : Nat} {K142 : Int32 → Nat → Int32 → ev_I → Option (ev_I)} {n : Nat} {y1 : Int32} {p3 : Nat} {y7 : Int32} {I : ev_I} (hp3 : (q0 + 18) < p3 ∨ p3 + 8 < (q0 + 18)) (hK142 : ∀ (u0 : Int32) (u1 : Nat) (u2 : Int32) (J : ev_I), ((q0 + 18) < u1 ∨ u1 + 8 < (q0 + 18)) → K142 u0 u1 u2 (cu (q0 + 18) v J) = Option.map (cu (q0 + 18) v) (K142 u0 u1 u2 J)) : cX8_commit_142 q0 K142 n y1 p3 y7 (cu (q0 + 18) v I) = Option.map (cu (q0 + 18) v) (cX8_commit_142 q0 K142 n y1 p3 y7 I) := by
  unfold cX8_commit_142
  try simp (disch := first | assumption | omega) only [cu_g, cu_p, cu_l, m_l, m_c, m_i, m_b, m_s, b_m, cu2_1, cu2_2, cu2_m, k_bc, kpX2_add, hK142]
  done
theorem klX8_commit_142 {v : Int32} {q0 : Nat}  : ∀ (n : Nat) (y0 : Int32) (y1 : Nat) (y2 : Int32) (I : ev_I), ((q0 + 18) < y1 ∨ y1 + 8 < (q0 + 18)) → lX8_commit_142 q0 n y0 y1 y2 (cu (q0 + 18) v I) = Option.map (cu (q0 + 18) v) (lX8_commit_142 q0 n y0 y1 y2 I)
  | 0, _, _, _, _, _ => rfl
  | n + 1, y0, y1, y2, I, gy1 => kcX8_commit_142 (by first | assumption | omega) (klX8_commit_142 n)
theorem kcX8_commit_123 {v : Int32} {q0 : Nat} {n : Nat} {y1 : Int32} {y2 : Int32} {p3 : Nat} {y5 : Int32} {I : ev_I} (hp3 : (q0 + 18) < p3 ∨ p3 + 8 < (q0 + 18)) : cX8_commit_123 q0 n y1 y2 p3 y5 (cu (q0 + 18) v I) = Option.map (cu (q0 + 18) v) (cX8_commit_123 q0 n y1 y2 p3 y5 I) := by
  unfold cX8_commit_123
  try simp (disch := first | assumption | omega) only [cu_g, cu_p, cu_l, m_l, m_c, m_i, m_b, m_s, b_m, cu2_1, cu2_2, cu2_m, k_bc, klX8_commit_142]
  done
theorem kcX8_commit_74 {v : Int32} {q0 : Nat} {K74 : Int32 → Int32 → Nat → Int32 → Int32 → Int32 → Int32 → ev_I → Option (ev_I)} {n : Nat} {y1 : Int32} {y2 : Int32} {p3 : Nat} {y4 : Int32} {y5 : Int32} {y6 : Int32} {y7 : Int32} {I : ev_I} (hp3 : (q0 + 18) < p3 ∨ p3 + 8 < (q0 + 18)) (hK74 : ∀ (u0 : Int32) (u1 : Int32) (u2 : Nat) (u3 : Int32) (u4 : Int32) (u5 : Int32) (u6 : Int32) (J : ev_I), ((q0 + 18) < u2 ∨ u2 + 8 < (q0 + 18)) → K74 u0 u1 u2 u3 u4 u5 u6 (cu (q0 + 18) v J) = Option.map (cu (q0 + 18) v) (K74 u0 u1 u2 u3 u4 u5 u6 J)) : cX8_commit_74 q0 K74 n y1 y2 p3 y4 y5 y6 y7 (cu (q0 + 18) v I) = Option.map (cu (q0 + 18) v) (cX8_commit_74 q0 K74 n y1 y2 p3 y4 y5 y6 y7 I) := by
  unfold cX8_commit_74
  try simp (disch := first | assumption | omega) only [cu_g, cu_p, cu_l, m_l, m_c, m_i, m_b, m_s, b_m, cu2_1, cu2_2, cu2_m, k_bc, kcX8_commit_123, hK74]
  done
theorem klX8_commit_74 {v : Int32} {q0 : Nat}  : ∀ (n : Nat) (y0 : Int32) (y1 : Int32) (y2 : Nat) (y3 : Int32) (y4 : Int32) (y5 : Int32) (y6 : Int32) (I : ev_I), ((q0 + 18) < y2 ∨ y2 + 8 < (q0 + 18)) → lX8_commit_74 q0 n y0 y1 y2 y3 y4 y5 y6 (cu (q0 + 18) v I) = Option.map (cu (q0 + 18) v) (lX8_commit_74 q0 n y0 y1 y2 y3 y4 y5 y6 I)
  | 0, _, _, _, _, _, _, _, _, _ => rfl
  | n + 1, y0, y1, y2, y3, y4, y5, y6, I, gy2 => kcX8_commit_74 (by first | assumption | omega) (klX8_commit_74 n)
theorem kpX8_commit {v : Int32} {n : Nat} {q0 : Nat} {x1 : Int32} {x2 : Int32} {I : ev_I}  : pX8_commit n q0 x1 x2 (cu (q0 + 18) v I) = Option.map (cu (q0 + 18) v) (pX8_commit n q0 x1 x2 I) := by
  unfold pX8_commit
  try simp (disch := first | assumption | omega) only [cu_g, cu_p, cu_l, m_l, m_c, m_i, m_b, m_s, b_m, cu2_1, cu2_2, cu2_m, k_bc, kpX3_lastLogged, kpX1_reaches, kpX2_add, klX8_commit_74]
  done
theorem kpX8_accuse {v : Int32} {n : Nat} {q0 : Nat} {x1 : Int32} {x2 : Int32} {x3 : Int32} {x4 : Int32} {x5 : Int32} {I : ev_I}  : pX8_accuse n q0 x1 x2 x3 x4 x5 (cu (q0 + 18) v I) = Option.map (cu (q0 + 18) v) (pX8_accuse n q0 x1 x2 x3 x4 x5 I) := by
  unfold pX8_accuse
  try simp (disch := first | assumption | omega) only [cu_g, cu_p, cu_l, m_l, m_c, m_i, m_b, m_s, b_m, cu2_1, cu2_2, cu2_m, k_bc, kpX2_has, kpX2_add]
  done
theorem kpX8_lockAfter {v : Int32} {n : Nat} {q0 : Nat} {q1 : Nat} {x2 : Int32} {I : ev_I} (hq1 : (q0 + 18) < q1 ∨ q1 + 8 < (q0 + 18)) : pX8_lockAfter n q0 q1 x2 (cu (q0 + 18) v I) = pX8_lockAfter n q0 q1 x2 I := by
  unfold pX8_lockAfter
  try simp (disch := first | assumption | omega) only [cu_g, cu_p, cu_l, m_l, m_c, m_i, m_b, m_s, b_m, cu2_1, cu2_2, cu2_m, k_bc]
  done
theorem kcX8_viewAfter_61 {v : Int32} {q0 : Nat} {q1 : Nat} {n : Nat} {y3 : Int32} {s0 : Int32} {I : ev_I} (hq1 : (q0 + 18) < q1 ∨ q1 + 8 < (q0 + 18)) : cX8_viewAfter_61 q0 q1 n y3 s0 (cu (q0 + 18) v I) = cX8_viewAfter_61 q0 q1 n y3 s0 I := by
  unfold cX8_viewAfter_61
  try simp (disch := first | assumption | omega) only [cu_g, cu_p, cu_l, m_l, m_c, m_i, m_b, m_s, b_m, cu2_1, cu2_2, cu2_m, k_bc]
  done
theorem kcX8_viewAfter_56 {v : Int32} {q0 : Nat} {q1 : Nat} {n : Nat} {y3 : Int32} {I : ev_I} (hq1 : (q0 + 18) < q1 ∨ q1 + 8 < (q0 + 18)) : cX8_viewAfter_56 q0 q1 n y3 (cu (q0 + 18) v I) = cX8_viewAfter_56 q0 q1 n y3 I := by
  unfold cX8_viewAfter_56
  try simp (disch := first | assumption | omega) only [cu_g, cu_p, cu_l, m_l, m_c, m_i, m_b, m_s, b_m, cu2_1, cu2_2, cu2_m, k_bc, kcX8_viewAfter_61]
  done
theorem kpX8_viewAfter {v : Int32} {n : Nat} {q0 : Nat} {q1 : Nat} {x2 : Int32} {I : ev_I} (hq1 : (q0 + 18) < q1 ∨ q1 + 8 < (q0 + 18)) : pX8_viewAfter n q0 q1 x2 (cu (q0 + 18) v I) = pX8_viewAfter n q0 q1 x2 I := by
  unfold pX8_viewAfter
  try simp (disch := first | assumption | omega) only [cu_g, cu_p, cu_l, m_l, m_c, m_i, m_b, m_s, b_m, cu2_1, cu2_2, cu2_m, k_bc, kcX8_viewAfter_56, kcX8_viewAfter_61]
  done
theorem kpX8_isDue {v : Int32} {n : Nat} {q0 : Nat} {q1 : Nat} {x2 : Int32} {x3 : Int32} {I : ev_I} (hq1 : (q0 + 18) < q1 ∨ q1 + 8 < (q0 + 18)) : pX8_isDue n q0 q1 x2 x3 (cu (q0 + 18) v I) = pX8_isDue n q0 q1 x2 x3 I := by
  unfold pX8_isDue
  try simp (disch := first | assumption | omega) only [cu_g, cu_p, cu_l, m_l, m_c, m_i, m_b, m_s, b_m, cu2_1, cu2_2, cu2_m, k_bc]
  done
theorem kpX8_isSafe {v : Int32} {n : Nat} {q0 : Nat} {x1 : Int32} {x2 : Int32} {I : ev_I}  : pX8_isSafe n q0 x1 x2 (cu (q0 + 18) v I) = pX8_isSafe n q0 x1 x2 I := by
  unfold pX8_isSafe
  try simp (disch := first | assumption | omega) only [cu_g, cu_p, cu_l, m_l, m_c, m_i, m_b, m_s, b_m, cu2_1, cu2_2, cu2_m, k_bc, kpX1_reaches]
  done
theorem kcX8_goOn_28 {v : Int32} {q0 : Nat} {K4 : Int32 → Int32 → Int32 → ev_I → Option (ev_I)} {n : Nat} {y1 : Int32} {y3 : Int32} {s0 : Int32} {s1 : Int32} {I : ev_I} (hK4 : ∀ (u0 : Int32) (u1 : Int32) (u2 : Int32) (J : ev_I), K4 u0 u1 u2 (cu (q0 + 18) v J) = Option.map (cu (q0 + 18) v) (K4 u0 u1 u2 J)) : cX8_goOn_28 q0 K4 n y1 y3 s0 s1 (cu (q0 + 18) v I) = Option.map (cu (q0 + 18) v) (cX8_goOn_28 q0 K4 n y1 y3 s0 s1 I) := by
  unfold cX8_goOn_28
  try simp (disch := first | assumption | omega) only [cu_g, cu_p, cu_l, m_l, m_c, m_i, m_b, m_s, b_m, cu2_1, cu2_2, cu2_m, k_bc, hK4]
  done
theorem kcX8_goOn_38 {v : Int32} {q0 : Nat} {K38 : Int32 → Int32 → ev_I → Option (ev_I)} {n : Nat} {y2 : Int32} {y3 : Int32} {I : ev_I} (hK38 : ∀ (u0 : Int32) (u1 : Int32) (J : ev_I), K38 u0 u1 (cu (q0 + 18) v J) = Option.map (cu (q0 + 18) v) (K38 u0 u1 J)) : cX8_goOn_38 q0 K38 n y2 y3 (cu (q0 + 18) v I) = Option.map (cu (q0 + 18) v) (cX8_goOn_38 q0 K38 n y2 y3 I) := by
  unfold cX8_goOn_38
  try simp (disch := first | assumption | omega) only [cu_g, cu_p, cu_l, m_l, m_c, m_i, m_b, m_s, b_m, cu2_1, cu2_2, cu2_m, k_bc, kpX8_timeOutBy, hK38]
  done
theorem klX8_goOn_38 {v : Int32} {q0 : Nat}  : ∀ (n : Nat) (y0 : Int32) (y1 : Int32) (I : ev_I), lX8_goOn_38 q0 n y0 y1 (cu (q0 + 18) v I) = Option.map (cu (q0 + 18) v) (lX8_goOn_38 q0 n y0 y1 I)
  | 0, _, _, _ => rfl
  | n + 1, y0, y1, I => kcX8_goOn_38 (klX8_goOn_38 n)
theorem kcX8_goOn_4 {v : Int32} {q0 : Nat} {K4 : Int32 → Int32 → Int32 → ev_I → Option (ev_I)} {n : Nat} {y1 : Int32} {y2 : Int32} {y3 : Int32} {I : ev_I} (hK4 : ∀ (u0 : Int32) (u1 : Int32) (u2 : Int32) (J : ev_I), K4 u0 u1 u2 (cu (q0 + 18) v J) = Option.map (cu (q0 + 18) v) (K4 u0 u1 u2 J)) : cX8_goOn_4 q0 K4 n y1 y2 y3 (cu (q0 + 18) v I) = Option.map (cu (q0 + 18) v) (cX8_goOn_4 q0 K4 n y1 y2 y3 I) := by
  unfold cX8_goOn_4
  try simp (disch := first | assumption | omega) only [cu_g, cu_p, cu_l, m_l, m_c, m_i, m_b, m_s, b_m, cu2_1, cu2_2, cu2_m, k_bc, klX8_goOn_38, kpX8_proposeBy, kcX8_goOn_28, hK4]
  done
theorem klX8_goOn_4 {v : Int32} {q0 : Nat}  : ∀ (n : Nat) (y0 : Int32) (y1 : Int32) (y2 : Int32) (I : ev_I), lX8_goOn_4 q0 n y0 y1 y2 (cu (q0 + 18) v I) = Option.map (cu (q0 + 18) v) (lX8_goOn_4 q0 n y0 y1 y2 I)
  | 0, _, _, _, _ => rfl
  | n + 1, y0, y1, y2, I => kcX8_goOn_4 (klX8_goOn_4 n)
theorem kpX8_goOn {v : Int32} {n : Nat} {q0 : Nat} {x1 : Int32} {I : ev_I}  : pX8_goOn n q0 x1 (cu (q0 + 18) v I) = Option.map (cu (q0 + 18) v) (pX8_goOn n q0 x1 I) := by
  unfold pX8_goOn
  try simp (disch := first | assumption | omega) only [cu_g, cu_p, cu_l, m_l, m_c, m_i, m_b, m_s, b_m, cu2_1, cu2_2, cu2_m, k_bc, klX8_goOn_4]
  done
theorem kcX8_loggedByAll_4 {v : Int32} {q0 : Nat} {K4 : Int32 → Int32 → ev_I → Option (Int32)} {n : Nat} {y1 : Int32} {y2 : Int32} {I : ev_I} (hK4 : ∀ (u0 : Int32) (u1 : Int32) (J : ev_I), K4 u0 u1 (cu (q0 + 18) v J) = K4 u0 u1 J) : cX8_loggedByAll_4 q0 K4 n y1 y2 (cu (q0 + 18) v I) = cX8_loggedByAll_4 q0 K4 n y1 y2 I := by
  unfold cX8_loggedByAll_4
  try simp (disch := first | assumption | omega) only [cu_g, cu_p, cu_l, m_l, m_c, m_i, m_b, m_s, b_m, cu2_1, cu2_2, cu2_m, k_bc, hK4]
  done
theorem klX8_loggedByAll_4 {v : Int32} {q0 : Nat}  : ∀ (n : Nat) (y0 : Int32) (y1 : Int32) (I : ev_I), lX8_loggedByAll_4 q0 n y0 y1 (cu (q0 + 18) v I) = lX8_loggedByAll_4 q0 n y0 y1 I
  | 0, _, _, _ => rfl
  | n + 1, y0, y1, I => kcX8_loggedByAll_4 (klX8_loggedByAll_4 n)
theorem kpX8_loggedByAll {v : Int32} {n : Nat} {q0 : Nat} {I : ev_I}  : pX8_loggedByAll n q0 (cu (q0 + 18) v I) = pX8_loggedByAll n q0 I := by
  unfold pX8_loggedByAll
  try simp (disch := first | assumption | omega) only [cu_g, cu_p, cu_l, m_l, m_c, m_i, m_b, m_s, b_m, cu2_1, cu2_2, cu2_m, k_bc, klX8_loggedByAll_4]
  done
theorem kpX8_lieBy {v : Int32} {n : Nat} {q0 : Nat} {x1 : Int32} {x2 : Int32} {x3 : Int32} {x4 : Int32} {x5 : Int32} {I : ev_I}  : pX8_lieBy n q0 x1 x2 x3 x4 x5 (cu (q0 + 18) v I) = Option.map (cu2 (q0 + 18) v) (pX8_lieBy n q0 x1 x2 x3 x4 x5 I) := by
  unfold pX8_lieBy
  try simp (disch := first | assumption | omega) only [cu_g, cu_p, cu_l, m_l, m_c, m_i, m_b, m_s, b_m, cu2_1, cu2_2, cu2_m, k_bc, kpX8_hasNode, kpX1_has, kpX8_lieMark, kpX1_isCertified, kpX8_lieBlock, kpX8_lieTimeout]
  done
theorem kcX8_learn_36 {v : Int32} {q0 : Nat} {n : Nat} {y1 : Int32} {y2 : Int32} {p3 : Nat} {I : ev_I} (hp3 : (q0 + 18) < p3 ∨ p3 + 8 < (q0 + 18)) : cX8_learn_36 q0 n y1 y2 p3 (cu (q0 + 18) v I) = Option.map (cu (q0 + 18) v) (cX8_learn_36 q0 n y1 y2 p3 I) := by
  unfold cX8_learn_36
  try simp (disch := first | assumption | omega) only [cu_g, cu_p, cu_l, m_l, m_c, m_i, m_b, m_s, b_m, cu2_1, cu2_2, cu2_m, k_bc, kpX8_lockAfter, kpX1_committedBy, kpX8_commit]
  done
theorem kpX8_learn {v : Int32} {n : Nat} {q0 : Nat} {x1 : Int32} {x2 : Int32} {I : ev_I}  : pX8_learn n q0 x1 x2 (cu (q0 + 18) v I) = Option.map (cu (q0 + 18) v) (pX8_learn n q0 x1 x2 I) := by
  unfold pX8_learn
  try simp (disch := first | assumption | omega) only [cu_g, cu_p, cu_l, m_l, m_c, m_i, m_b, m_s, b_m, cu2_1, cu2_2, cu2_m, k_bc, kcX8_learn_36]
  done
theorem kpX8_takeBlock {v : Int32} {n : Nat} {q0 : Nat} {x1 : Int32} {x2 : Int32} {I : ev_I}  : pX8_takeBlock n q0 x1 x2 (cu (q0 + 18) v I) = Option.map (cu (q0 + 18) v) (pX8_takeBlock n q0 x1 x2 I) := by
  unfold pX8_takeBlock
  try simp (disch := first | assumption | omega) only [cu_g, cu_p, cu_l, m_l, m_c, m_i, m_b, m_s, b_m, cu2_1, cu2_2, cu2_m, k_bc, kpX3_seenRival, kpX8_accuse, kpX3_see, kpX8_learn, kpX8_viewAfter, kpX8_isDue, kpX8_isSafe, kpX2_add, kpX8_sendMark]
  done
theorem kcX8_takeMark_39 {v : Int32} {q0 : Nat} {n : Nat} {y1 : Int32} {y2 : Int32} {y3 : Int32} {p4 : Nat} {y5 : Int32} {s0 : Int32} {I : ev_I} (hp4 : (q0 + 18) < p4 ∨ p4 + 8 < (q0 + 18)) : cX8_takeMark_39 q0 n y1 y2 y3 p4 y5 s0 (cu (q0 + 18) v I) = Option.map (cu (q0 + 18) v) (cX8_takeMark_39 q0 n y1 y2 y3 p4 y5 s0 I) := by
  unfold cX8_takeMark_39
  try simp (disch := first | assumption | omega) only [cu_g, cu_p, cu_l, m_l, m_c, m_i, m_b, m_s, b_m, cu2_1, cu2_2, cu2_m, k_bc, kpX8_leaderOf, kpX3_markedRival, kpX8_accuse, kpX8_quorum, kpX2_add, kpX8_learn]
  done
theorem kpX8_takeMark {v : Int32} {n : Nat} {q0 : Nat} {x1 : Int32} {x2 : Int32} {x3 : Int32} {I : ev_I}  : pX8_takeMark n q0 x1 x2 x3 (cu (q0 + 18) v I) = Option.map (cu (q0 + 18) v) (pX8_takeMark n q0 x1 x2 x3 I) := by
  unfold pX8_takeMark
  try simp (disch := first | assumption | omega) only [cu_g, cu_p, cu_l, m_l, m_c, m_i, m_b, m_s, b_m, cu2_1, cu2_2, cu2_m, k_bc, kcX8_takeMark_39]
  done
theorem kcX8_takeTimeout_89 {v : Int32} {q0 : Nat} {n : Nat} {y3 : Int32} {p5 : Nat} {I : ev_I} (hp5 : (q0 + 18) < p5 ∨ p5 + 8 < (q0 + 18)) : cX8_takeTimeout_89 q0 n y3 p5 (cu (q0 + 18) v I) = Option.map (cu (q0 + 18) v) (cX8_takeTimeout_89 q0 n y3 p5 I) := by
  unfold cX8_takeTimeout_89
  try simp (disch := first | assumption | omega) only [cu_g, cu_p, cu_l, m_l, m_c, m_i, m_b, m_s, b_m, cu2_1, cu2_2, cu2_m, k_bc]
  done
theorem kpX8_takeTimeout {v : Int32} {n : Nat} {q0 : Nat} {x1 : Int32} {x2 : Int32} {x3 : Int32} {x4 : Int32} {I : ev_I}  : pX8_takeTimeout n q0 x1 x2 x3 x4 (cu (q0 + 18) v I) = Option.map (cu (q0 + 18) v) (pX8_takeTimeout n q0 x1 x2 x3 x4 I) := by
  unfold pX8_takeTimeout
  try simp (disch := first | assumption | omega) only [cu_g, cu_p, cu_l, m_l, m_c, m_i, m_b, m_s, b_m, cu2_1, cu2_2, cu2_m, k_bc, kpX8_learn, kpX8_quorum, kcX8_takeTimeout_89, kpX2_add]
  done
theorem kcX8_deliverSome_149 {v : Int32} {q0 : Nat} {K5 : Int32 → Int32 → Int32 → Int32 → ev_I → Option (Int32 × ev_I)} {n : Nat} {y1 : Int32} {y2 : Int32} {y3 : Int32} {y4 : Int32} {I : ev_I} (hK5 : ∀ (u0 : Int32) (u1 : Int32) (u2 : Int32) (u3 : Int32) (J : ev_I), K5 u0 u1 u2 u3 (cu (q0 + 18) v J) = Option.map (cu2 (q0 + 18) v) (K5 u0 u1 u2 u3 J)) : cX8_deliverSome_149 q0 K5 n y1 y2 y3 y4 (cu (q0 + 18) v I) = Option.map (cu2 (q0 + 18) v) (cX8_deliverSome_149 q0 K5 n y1 y2 y3 y4 I) := by
  unfold cX8_deliverSome_149
  try simp (disch := first | assumption | omega) only [cu_g, cu_p, cu_l, m_l, m_c, m_i, m_b, m_s, b_m, cu2_1, cu2_2, cu2_m, k_bc, hK5]
  done
theorem kcX8_deliverSome_5 {v : Int32} {q0 : Nat} {K5 : Int32 → Int32 → Int32 → Int32 → ev_I → Option (Int32 × ev_I)} {n : Nat} {y1 : Int32} {y2 : Int32} {y3 : Int32} {y4 : Int32} {I : ev_I} (hK5 : ∀ (u0 : Int32) (u1 : Int32) (u2 : Int32) (u3 : Int32) (J : ev_I), K5 u0 u1 u2 u3 (cu (q0 + 18) v J) = Option.map (cu2 (q0 + 18) v) (K5 u0 u1 u2 u3 J)) : cX8_deliverSome_5 q0 K5 n y1 y2 y3 y4 (cu (q0 + 18) v I) = Option.map (cu2 (q0 + 18) v) (cX8_deliverSome_5 q0 K5 n y1 y2 y3 y4 I) := by
  unfold cX8_deliverSome_5
  try simp (disch := first | assumption | omega) only [cu_g, cu_p, cu_l, m_l, m_c, m_i, m_b, m_s, b_m, cu2_1, cu2_2, cu2_m, k_bc, kpX4_has, kpX4_take, kpX4_targetOf, kpX4_subjectOf, kpX8_isAwake, kcX8_deliverSome_149, kpX4_kindOf, kpX8_takeBlock, kpX4_senderOf, kpX8_takeMark, kpX4_highOf, kpX8_takeTimeout, hK5]
  done
theorem klX8_deliverSome_5 {v : Int32} {q0 : Nat}  : ∀ (n : Nat) (y0 : Int32) (y1 : Int32) (y2 : Int32) (y3 : Int32) (I : ev_I), lX8_deliverSome_5 q0 n y0 y1 y2 y3 (cu (q0 + 18) v I) = Option.map (cu2 (q0 + 18) v) (lX8_deliverSome_5 q0 n y0 y1 y2 y3 I)
  | 0, _, _, _, _, _ => rfl
  | n + 1, y0, y1, y2, y3, I => kcX8_deliverSome_5 (klX8_deliverSome_5 n)
theorem kpX8_deliverSome {v : Int32} {n : Nat} {q0 : Nat} {x1 : Int32} {x2 : Int32} {I : ev_I}  : pX8_deliverSome n q0 x1 x2 (cu (q0 + 18) v I) = Option.map (cu2 (q0 + 18) v) (pX8_deliverSome n q0 x1 x2 I) := by
  unfold pX8_deliverSome
  try simp (disch := first | assumption | omega) only [cu_g, cu_p, cu_l, m_l, m_c, m_i, m_b, m_s, b_m, cu2_1, cu2_2, cu2_m, k_bc, klX8_deliverSome_5]
  done
theorem kcX8_calmRounds_7 {v : Int32} {q0 : Nat} {K7 : Int32 → Int32 → Int32 → ev_I → Option (Int32 × ev_I)} {n : Nat} {y1 : Int32} {y2 : Int32} {y3 : Int32} {I : ev_I} (hK7 : ∀ (u0 : Int32) (u1 : Int32) (u2 : Int32) (J : ev_I), K7 u0 u1 u2 (cu (q0 + 18) v J) = Option.map (cu2 (q0 + 18) v) (K7 u0 u1 u2 J)) : cX8_calmRounds_7 q0 K7 n y1 y2 y3 (cu (q0 + 18) v I) = Option.map (cu2 (q0 + 18) v) (cX8_calmRounds_7 q0 K7 n y1 y2 y3 I) := by
  unfold cX8_calmRounds_7
  try simp (disch := first | assumption | omega) only [cu_g, cu_p, cu_l, m_l, m_c, m_i, m_b, m_s, b_m, cu2_1, cu2_2, cu2_m, k_bc, kpX8_deliverSome, kpX8_loggedByAll, kpX8_goOn, hK7]
  done
theorem klX8_calmRounds_7 {v : Int32} {q0 : Nat}  : ∀ (n : Nat) (y0 : Int32) (y1 : Int32) (y2 : Int32) (I : ev_I), lX8_calmRounds_7 q0 n y0 y1 y2 (cu (q0 + 18) v I) = Option.map (cu2 (q0 + 18) v) (lX8_calmRounds_7 q0 n y0 y1 y2 I)
  | 0, _, _, _, _ => rfl
  | n + 1, y0, y1, y2, I => kcX8_calmRounds_7 (klX8_calmRounds_7 n)
theorem kpX8_calmRounds {v : Int32} {n : Nat} {q0 : Nat} {x1 : Int32} {I : ev_I}  : pX8_calmRounds n q0 x1 (cu (q0 + 18) v I) = Option.map (cu2 (q0 + 18) v) (pX8_calmRounds n q0 x1 I) := by
  unfold pX8_calmRounds
  try simp (disch := first | assumption | omega) only [cu_g, cu_p, cu_l, m_l, m_c, m_i, m_b, m_s, b_m, cu2_1, cu2_2, cu2_m, k_bc, kpX8_loggedByAll, klX8_calmRounds_7]
  done
