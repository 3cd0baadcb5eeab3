/-! THE REFERENCE, method by method, in plain naturals -/
theorem bit_n : ∀ a, a < 128 → ∀ j, j < 7 → (nI a >>> (nI j &&& nI 31)) &&& nI 1 = nI (a / 2 ^ j % 2) := by decide +kernel
theorem or_n : ∀ a, a < 128 → ∀ j, j < 7 → nI a ||| (nI 1 <<< (nI j &&& nI 31)) = nI (a ||| 2 ^ j) := by decide +kernel
theorem or_b : ∀ a, a < 128 → ∀ j, j < 7 → a ||| 2 ^ j < 128 := by decide +kernel
theorem an_n : ∀ a, a < 128 → ∀ j, j < 7 → nI a &&& ((nI 1 <<< (nI j &&& nI 31)) ^^^ (-nI 1)) = nI (a - a / 2 ^ j % 2 * 2 ^ j) := by decide +kernel
def pcn (a : Nat) : Nat := a % 2 + a / 2 % 2 + a / 4 % 2 + a / 8 % 2 + a / 16 % 2 + a / 32 % 2 + a / 64 % 2
theorem pc_1 : ∀ a, a < 128 → a ≠ 0 → nI a &&& (nI a - nI 1) = nI (a &&& (a - 1)) ∧ pcn (a &&& (a - 1)) + 1 = pcn a ∧ (a &&& (a - 1)) < 128 := by decide +kernel
theorem pc_0 : ∀ a, a < 128 → (pcn a = 0 ↔ a = 0) := by decide +kernel
theorem pc_b : ∀ a, a < 128 → pcn a ≤ 7 := by decide +kernel
section R1
variable {n q : Nat} {I : ev_I} {s : Nat → Nat}
theorem r_onesL : ∀ (k a c n : Nat), a < 128 → pcn a = k → k < n → lX10_onesOf_4 q n (nI c) (nI a) I = some (nI (c + pcn a)) := by
  intro k
  induction k with
  | zero =>
    intro a c n ha hk hn
    obtain ⟨n, rfl⟩ : ∃ m, n = m + 1 := ⟨n - 1, by omega⟩
    have e := (pc_0 a ha).mp hk
    subst e
    show cX10_onesOf_4 q _ n _ _ I = _
    unfold cX10_onesOf_4
    rw [if_pos (show nI 0 = 0 from rfl), hk]
    rfl
  | succ k ih =>
    intro a c n ha hk hn
    obtain ⟨n, rfl⟩ : ∃ m, n = m + 1 := ⟨n - 1, by omega⟩
    have h0 : a ≠ 0 := fun e => by rw [(pc_0 a ha).mpr e] at hk; omega
    obtain ⟨e1, e2, e3⟩ := pc_1 a ha h0
    show cX10_onesOf_4 q _ n _ _ I = _
    unfold cX10_onesOf_4
    rw [if_neg (nI_ne0 (by omega) (by omega))]
    simp only [lt_b, li, nI_add, e1]
    rw [ih _ _ n e3 (by omega) (by omega)]
    congr 2
    omega
theorem r_onesOf {a : Nat} (ha : a < 128) (hn : 8 ≤ n) : pX10_onesOf n q (nI a) I = some (nI (pcn a)) := by
  have := r_onesL (q := q) (I := I) (pcn a) a 0 n ha rfl (by have := pc_b a ha; omega)
  rw [Nat.zero_add] at this
  exact this
theorem r_quorum (h0 : s 0 ≤ 3) : pX10_quorum n q (M q I s) = some (nI (s 0 + 4 - (s 0 + 3) / 3)) := by
  simp (disch := omega) only [pX10_quorum, r_nodeMany, bn_s, li, pk_sub, pk_div]
  rfl
theorem r_has {a j : Nat} (ha : a < 128) (hj : j < 7) : pX10_has n q (nI a) (nI j) I = some (nI (a / 2 ^ j % 2)) := by
  simp only [pX10_has, li, bit_n a ha j hj]
  have : a / 2 ^ j % 2 = 0 ∨ a / 2 ^ j % 2 = 1 := by omega
  rcases this with h | h <;> rw [h] <;> rfl
theorem r_parentOf {b : Nat} (hb : b < 100) (h : 1 ≤ s (116 + b)) : pX10_parentOf n q (nI b) (M q I s) = some (nI (s (116 + b) - 1)) := by
  simp (disch := omega) only [pX10_parentOf, li, nI_add, ck_in, nI_clamp, M_get, pk_sub]
theorem r_parentN {b : Nat} (hb : b < 100) : pX10_parentOf n q (nI b) (M q I s) = some (nI (s (116 + b)) - nI 1) := by
  simp (disch := omega) only [pX10_parentOf, li, nI_add, ck_in, nI_clamp, M_get]
theorem r_isCertified {b : Nat} (hb : b < 100) (h : s (716 + b) < 2) : pX10_isCertified n q (nI b) (M q I s) = some (nI (if b = 0 ∨ s (716 + b) = 1 then 1 else 0)) := by
  simp (disch := omega) only [pX10_isCertified, li, nI_add, ck_in, nI_clamp, M_get, nI_eq]
  by_cases h0 : b = 0
  · rw [if_pos h0, if_pos (Or.inl h0)]
  · rw [if_neg h0]
    by_cases h1 : s (716 + b) = 1
    · rw [if_pos h1, if_pos (Or.inr h1)]
    · rw [if_neg h1, if_neg (by omega)]
theorem r_goesTo {k v : Nat} (hk : k < 7) (hv : 1 ≤ v) : pX10_goesTo n q (nI k) (nI v) (M q I s) = some (M q I (up s (2416 + 513 * k + 1) (v - 1))) := by
  simp (disch := omega) only [pX10_goesTo, r_nodeAt, bn_s, lt_b, li, nI_add, ck_in, nI_clamp, pk_sub, M_put]
/-- up the chain from x until the height is no more than h -/
def anc (s : Nat → Nat) : Nat → Nat → Nat → Nat
  | 0, x, _ => x
  | m + 1, x, h => if s (516 + x) ≤ h then x else anc s m (s (116 + x) - 1) h
/-- blocks: each but the first has an earlier parent of one less height -/
def okB (s : Nat → Nat) : Prop := s 3 ≤ 99 ∧ s 516 = 0 ∧ s 116 = 0 ∧ ∀ b, 1 ≤ b → b ≤ s 3 → 1 ≤ s (116 + b) ∧ s (116 + b) ≤ b ∧ s (516 + b) = s (516 + (s (116 + b) - 1)) + 1
theorem okB.ht {s : Nat → Nat} (h : okB s) : ∀ b, b ≤ s 3 → s (516 + b) ≤ b := by
  intro b
  induction b using Nat.strongRecOn with
  | _ b ih =>
    intro hb
    by_cases h0 : b = 0
    · subst h0; rw [h.2.1]; exact Nat.le_refl _
    · obtain ⟨h1, h2, h3⟩ := h.2.2.2 b (by omega) hb
      have := ih (s (116 + b) - 1) (by omega) (by omega)
      omega
theorem okB.pos {s : Nat → Nat} (h : okB s) {b : Nat} (hb : b ≤ s 3) (hp : 0 < s (516 + b)) : 1 ≤ b := by
  rcases Nat.eq_zero_or_pos b with e | e
  · subst e; rw [h.2.1] at hp; omega
  · exact e
theorem anc_le {s : Nat → Nat} (h : okB s) : ∀ (m x t : Nat), x ≤ s 3 → anc s m x t ≤ s 3
  | 0, x, t, hx => hx
  | m + 1, x, t, hx => by
    unfold anc
    split
    · exact hx
    · rename_i hc
      have h1 := h.pos hx (by omega)
      obtain ⟨-, h2, -⟩ := h.2.2.2 x h1 hx
      exact anc_le h m _ t (by omega)
/-- whether a EXTENDS b -/
def ext (s : Nat → Nat) (a b : Nat) : Bool := anc s 100 a (s (516 + b)) == b
theorem anc_st {s : Nat → Nat} (h : okB s) : ∀ (m x t : Nat), x ≤ s 3 → s (516 + x) ≤ m → anc s (m + 1) x t = anc s m x t
  | 0, x, t, hx, hm => by
    show (if s (516 + x) ≤ t then x else anc s 0 _ t) = x
    rw [if_pos (by omega)]
  | m + 1, x, t, hx, hm => by
    show (if s (516 + x) ≤ t then x else anc s (m + 1) (s (116 + x) - 1) t) = (if s (516 + x) ≤ t then x else anc s m (s (116 + x) - 1) t)
    by_cases hc : s (516 + x) ≤ t
    · rw [if_pos hc, if_pos hc]
    · rw [if_neg hc, if_neg hc]
      have h1 := h.pos hx (by omega)
      obtain ⟨h2, h3, h4⟩ := h.2.2.2 x h1 hx
      exact anc_st h m _ t (by omega) (by omega)
theorem r_extL (hB : okB s) {b : Nat} (hb : b ≤ s 3) : ∀ (m x n : Nat), x ≤ s 3 → s (516 + x) ≤ m → m < n → lX10_doesExtend_2 q n (nI b) (nI x) (M q I s) = some (nI (if anc s m x (s (516 + b)) = b then 1 else 0)) := by
  have h3 := hB.1
  intro m
  induction m with
  | zero =>
    intro x n hx hm hn
    obtain ⟨n, rfl⟩ : ∃ k, n = k + 1 := ⟨n - 1, by omega⟩
    have e2 := hB.ht b hb
    have e3 := hB.ht x hx
    show cX10_doesExtend_2 q _ n _ _ _ = _
    simp (disch := omega) only [cX10_doesExtend_2, li, nI_add, ck_in, nI_clamp, M_get, nI_leI, nI_eq]
    rw [if_pos (by omega)]
    show (if x = b then some (nI 1) else some (nI 0)) = some (nI (if x = b then 1 else 0))
    split <;> rfl
  | succ m ih =>
    intro x n hx hm hn
    obtain ⟨n, rfl⟩ : ∃ k, n = k + 1 := ⟨n - 1, by omega⟩
    have e2 := hB.ht b hb
    have e3 := hB.ht x hx
    show cX10_doesExtend_2 q _ n _ _ _ = _
    simp (disch := omega) only [cX10_doesExtend_2, li, nI_add, ck_in, nI_clamp, M_get, nI_leI, nI_eq]
    show _ = some (nI (if (if s (516 + x) ≤ s (516 + b) then x else anc s m (s (116 + x) - 1) (s (516 + b))) = b then 1 else 0))
    by_cases hc : s (516 + x) ≤ s (516 + b)
    · rw [if_pos hc, if_pos hc]
      split <;> rfl
    · rw [if_neg hc, if_neg hc]
      have h1 := hB.pos hx (by omega)
      obtain ⟨h2, h4, h5⟩ := hB.2.2.2 x h1 hx
      rw [r_parentOf (by omega) h2, bn_s]
      exact ih _ n (by omega) (by omega) (by omega)
theorem r_ext (hB : okB s) {a b : Nat} (ha : a ≤ s 3) (hb : b ≤ s 3) (hn : 101 ≤ n) : pX10_doesExtend n q (nI a) (nI b) (M q I s) = some (nI (if ext s a b = true then 1 else 0)) := by
  have := r_extL (q := q) (I := I) hB hb 100 a n ha (by have := hB.ht a ha; have := hB.1; omega) (by omega)
  unfold pX10_doesExtend ext
  rw [this]
  simp only [beq_iff_eq]
theorem r_isFresh (h4 : s 4 ≤ 200) (h3 : s 3 ≤ 99) : pX10_isFresh n q (M q I s) = some (nI (if s 4 = 0 ∧ s 3 = 0 then 1 else 0)) := by
  simp (disch := omega) only [pX10_isFresh, li, nI_clamp, M_get, nI_eq]
  by_cases h : s 4 = 0
  · rw [if_pos h]
    by_cases h2 : s 3 = 0
    · rw [if_pos h2, if_pos ⟨h, h2⟩]
    · rw [if_neg h2, if_neg (by omega)]
  · rw [if_neg h, if_neg (by omega)]
/-- an event -/
def sTell (s : Nat → Nat) (a b c : Nat) : Nat → Nat := if s 8 = 100 then s else up (up (up (up s (2116 + 3 * s 8) a) (2116 + 3 * s 8 + 1) b) (2116 + 3 * s 8 + 2) c) 8 (s 8 + 1)
theorem r_tells {a b c : Nat} (h8 : s 8 ≤ 100) : pX10_tells n q (nI a) (nI b) (nI c) (M q I s) = some (M q I (sTell s a b c)) := by
  simp (disch := omega) only [pX10_tells, lt_b, li, nI_add, pk_mul, nI_clamp, ck_in, M_get, M_put, nI_eq, up_o]
  unfold sTell
  split <;> rfl
theorem r_areCut {a b : Nat} (ha : a < 7) (hb : b < 7) (h : s (2416 + 513 * a + 11) < 128) : pX10_areCut n q (nI a) (nI b) (M q I s) = some (nI (s (2416 + 513 * a + 11) / 2 ^ b % 2)) := by
  simp (disch := omega) only [pX10_areCut, r_nodeAt, bn_s, li, nI_add, ck_in, nI_clamp, M_get, r_has]
  have : s (2416 + 513 * a + 11) / 2 ^ b % 2 = 0 ∨ s (2416 + 513 * a + 11) / 2 ^ b % 2 = 1 := by omega
  rcases this with e | e <;> rw [e] <;> rfl
/-- a message -/
def sMsg (s : Nat → Nat) (k f t kd w hu : Nat) : Nat → Nat := up (up (up (up (up s (816 + 5 * k) f) (816 + 5 * k + 1) t) (816 + 5 * k + 2) kd) (816 + 5 * k + 3) w) (816 + 5 * k + 4) hu
def sSend (s : Nat → Nat) (f t kd w hu : Nat) : Nat → Nat := if s (2416 + 513 * f + 11) / 2 ^ t % 2 = 0 then (if s 4 = 200 then up s 5 (s 5 + 1) else up (sMsg s (s 4) f t kd w hu) 4 (s 4 + 1)) else up s 10 (s 10 + 1)
theorem r_sends {f t kd w hu : Nat} {x : Int32} (hf : f < 7) (ht : t < 7) (h : s (2416 + 513 * f + 11) < 128) (h4 : s 4 ≤ 200) (hx : x + nI 1 = nI hu) : pX10_sends n q (nI f) (nI t) (nI kd) (nI w) x (M q I s) = some (M q I (sSend s f t kd w hu)) := by
  simp (disch := omega) only [pX10_sends, r_areCut, bn_s, lt_b, li, hx, nI_add, pk_mul, nI_clamp, ck_in, M_get, M_put, nI_eq, up_o, Nat.add_zero]
  unfold sSend sMsg
  split
  · split <;> rfl
  · rfl
end R1
