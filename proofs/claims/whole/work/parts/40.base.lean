/-! NUMBERS AND THE REFERENCE'S ROW: plain naturals behind the ints -/
def up (s : Nat → Nat) (k v : Nat) : Nat → Nat := fun j => if j = k then v else s j
theorem up_s {s : Nat → Nat} {k v : Nat} : up s k v k = v := if_pos rfl
theorem up_o {s : Nat → Nat} {j k v : Nat} (h : j ≠ k) : up s k v j = s j := if_neg h
theorem li (n : Nat) : (OfNat.ofNat n : Int32) = nI n := rfl
theorem ck_in {α : Type} {k n : Nat} {a : Option α} (h : k < n) (hn : n < 2 ^ 31) : ev_ck (ev_in (nI k) n) a = a := ev_ckT (ev_inN h hn)
theorem ck_nz {α : Type} {k : Nat} {a : Option α} (h : 0 < k) (hn : k < 2 ^ 31) : ev_ck (ev_nz (nI k)) a = a := ev_ckT (by unfold ev_nz; simp only [decide_eq_true_eq]; exact nI_ne0 h hn)
theorem ck_01a {α : Type} {a : Option α} : ev_ck (ev_01 (nI 0)) a = a := rfl
theorem ck_01b {α : Type} {a : Option α} : ev_ck (ev_01 (nI 1)) a = a := rfl
theorem bn_s {α β : Type} {a : α} {f : α → Option β} : (some a).bind f = f a := rfl
theorem lt_b {α β : Type} {a : α} {f : α → β} : ev_lt a f = f a := rfl
/-- the reference's row 'now' -/
def M (q : Nat) (I : ev_I) (s : Nat → Nat) : ev_I := ev_u1 I (q + 1) (fun k => nI (s k))
theorem M_get {q k : Nat} {I : ev_I} {s : Nat → Nat} : M q I s (q + 1) k = nI (s k) := by unfold M ev_u1; rw [if_pos rfl]
theorem M_oth {q a : Nat} {I : ev_I} {s : Nat → Nat} (h : a ≠ q + 1) : M q I s a = I a := by unfold M ev_u1; rw [if_neg h]
theorem M_0 {q : Nat} {I : ev_I} {s : Nat → Nat} : M q I s q = I q := M_oth (by omega)
theorem M_put {q k v : Nat} {I : ev_I} {s : Nat → Nat} : ev_u2 (M q I s) (q + 1) k (nI v) = M q I (up s k v) := by
  funext a j
  unfold ev_u2 M ev_u1 up
  by_cases ha : a = q + 1
  · subst ha
    by_cases hj : j = k
    · simp [hj]
    · simp [hj]
  · simp [ha]
theorem M_pt {q k : Nat} {v : Int32} {I : ev_I} {s : Nat → Nat} : ev_u2 (M q I s) q k v = M q (ev_u2 I q k v) s := by
  funext a j
  unfold ev_u2 M ev_u1
  by_cases ha : a = q + 1
  · subst ha
    simp
  · simp [ha]
theorem M_pd {q d k : Nat} {v : Int32} {I : ev_I} {s : Nat → Nat} (hd : d ≠ 1) : ev_u2 (M q I s) (q + d) k v = M q (ev_u2 I (q + d) k v) s := by
  funext a j
  unfold ev_u2 M ev_u1
  by_cases ha : a = q + 1
  · subst ha
    simp
    intro h; omega
  · simp [ha]
theorem M_eq {q : Nat} (I : ev_I) : ∃ s, I = M q I s := by
  refine ⟨fun k => (I (q + 1) k).toBitVec.toNat, ?_⟩
  funext a j
  unfold M ev_u1
  by_cases ha : a = q + 1
  · subst ha
    simp only [if_true]
    show _ = Int32.ofNat _
    apply Int32.toBitVec.inj
    simp [Int32.toBitVec_ofNat']
  · simp [ha]
theorem rem_n {a d : Nat} : nI a - nI (a / d * d) = nI (a % d) := by
  rw [pk_sub (Nat.div_mul_le_self a d)]
  congr 1
  have := Nat.div_add_mod a d
  rw [Nat.mul_comm] at this
  omega
section T
variable {n q : Nat} {I : ev_I} {s : Nat → Nat}
theorem r_nodeMany : pX10_nodeMany n q (M q I s) = some (nI (s 0 + 4)) := by
  simp (disch := omega) only [pX10_nodeMany, li, nI_clamp, M_get, nI_add]
theorem r_blockMany : pX10_blockMany n q (M q I s) = some (nI (s 3 + 1)) := by
  simp (disch := omega) only [pX10_blockMany, li, nI_clamp, M_get, nI_add]
theorem r_nodeAt {k : Nat} : pX10_nodeAt n q (nI k) (M q I s) = some (nI (2416 + 513 * k)) := by
  simp (disch := omega) only [pX10_nodeAt, li, pk_mul, nI_add]
theorem r_viewOf {k : Nat} (hk : k < 7) : pX10_viewOf n q (nI k) (M q I s) = some (nI (s (2416 + 513 * k + 1) + 1)) := by
  simp (disch := omega) only [pX10_viewOf, r_nodeAt, bn_s, li, nI_add, ck_in, nI_clamp, M_get]
theorem r_logMany {k : Nat} (hk : k < 7) : pX10_logMany n q (nI k) (M q I s) = some (nI (s (2416 + 513 * k + 8) + 1)) := by
  simp (disch := omega) only [pX10_logMany, r_nodeAt, bn_s, li, nI_add, ck_in, nI_clamp, M_get]
theorem r_logLast {k : Nat} (hk : k < 7) (h : s (2416 + 513 * k + 8) < 100) : pX10_logLast n q (nI k) (M q I s) = some (nI (s (2416 + 513 * k + 12 + s (2416 + 513 * k + 8)))) := by
  simp (disch := omega) only [pX10_logLast, r_nodeAt, bn_s, li, nI_add, ck_in, nI_clamp, M_get]
theorem r_isSilent {k : Nat} (hk : k < 7) (h : s (2416 + 513 * k) < 3) : pX10_isSilent n q (nI k) (M q I s) = some (nI (if s (2416 + 513 * k) = 1 then 1 else 0)) := by
  simp (disch := omega) only [pX10_isSilent, r_nodeAt, bn_s, li, nI_add, ck_in, nI_clamp, M_get, nI_eq, Nat.add_zero]
  split <;> rfl
theorem r_leaderOf {v : Nat} (hv : v < 300) (h0 : s 0 ≤ 3) (h1 : s 1 ≤ 2) : pX10_leaderOf n q (nI v) (M q I s) = some (nI ((if s 1 = 0 then v else if s 1 = 1 then v / 2 else v * v) % (s 0 + 4))) := by
  have hvv : v * v < 90000 := Nat.mul_lt_mul'' hv hv
  simp (disch := omega) only [pX10_leaderOf, cX10_leaderOf_32, r_nodeMany, bn_s, li, ck_nz, pk_mul, pk_div, nI_clamp, M_get, nI_eq, rem_n]
  split
  · rfl
  · split <;> rfl
end T
