/-! THE REFERENCE: evidence, messages to all, taking out -/
def evM (s : Nat → Nat) (i c d e f g : Nat) : Bool := s (1816 + 5 * i) == c && s (1816 + 5 * i + 1) == d && s (1816 + 5 * i + 2) == e && s (1816 + 5 * i + 3) == f && s (1816 + 5 * i + 4) == g
def evF (s : Nat → Nat) (c d e f g : Nat) : Nat → Nat → Bool
  | _, 0 => false
  | i, m + 1 => evM s i c d e f g || evF s c d e f g (i + 1) m
/-- a piece of evidence, if it isn't there yet and there is room -/
def sAcc (s : Nat → Nat) (c d e f g : Nat) : Nat → Nat := if evF s c d e f g 0 (s 7) = true then s else if s 7 = 60 then s else up (up (up (up (up (up s (1816 + 5 * s 7) c) (1816 + 5 * s 7 + 1) d) (1816 + 5 * s 7 + 2) e) (1816 + 5 * s 7 + 3) f) (1816 + 5 * s 7 + 4) g) 7 (s 7 + 1)
def okE (s : Nat → Nat) : Prop := s 7 ≤ 60 ∧ ∀ i, i < s 7 → ∀ j, j < 5 → s (1816 + 5 * i + j) < 1000
section R2
variable {n q : Nat} {I : ev_I} {s : Nat → Nat}
theorem r_accL (hE : okE s) {c d e f g : Nat} (hc : c < 1000) (hd : d < 1000) (he : e < 1000) (hf : f < 1000) (hg : g < 1000) : ∀ (m i n : Nat), i + m = s 7 → m < n → lX10_accuses_3 q n (nI c) (nI d) (nI e) (nI f) (nI g) (nI i) (M q I s) = some (M q I (if evF s c d e f g i m = true then s else if s 7 = 60 then s else up (up (up (up (up (up s (1816 + 5 * s 7) c) (1816 + 5 * s 7 + 1) d) (1816 + 5 * s 7 + 2) e) (1816 + 5 * s 7 + 3) f) (1816 + 5 * s 7 + 4) g) 7 (s 7 + 1))) := by
  obtain ⟨h7, hE⟩ := hE
  intro m
  induction m with
  | zero =>
    intro i n hi hn
    obtain ⟨n, rfl⟩ : ∃ k, n = k + 1 := ⟨n - 1, by omega⟩
    show cX10_accuses_3 q _ n _ _ _ _ _ _ _ = _
    simp (disch := omega) only [cX10_accuses_3, lt_b, li, nI_add, pk_mul, nI_clamp, ck_in, M_get, M_put, nI_eq, nI_leI, up_o]
    rw [if_pos (by omega)]
    show _ = some (M q I (if s 7 = 60 then s else _))
    split <;> rfl
  | succ m ih =>
    intro i n hi hn
    obtain ⟨n, rfl⟩ : ∃ k, n = k + 1 := ⟨n - 1, by omega⟩
    have e0 := hE i (by omega) 0 (by omega)
    have e1 := hE i (by omega) 1 (by omega)
    have e2 := hE i (by omega) 2 (by omega)
    have e3 := hE i (by omega) 3 (by omega)
    have e4 := hE i (by omega) 4 (by omega)
    rw [Nat.add_zero] at e0
    have hr := ih (i + 1) n (by omega) (by omega)
    show cX10_accuses_3 q _ n _ _ _ _ _ _ _ = _
    simp (disch := omega) only [cX10_accuses_3, cX10_accuses_91, lt_b, li, nI_add, pk_mul, nI_clamp, ck_in, M_get, M_put, nI_eq, nI_leI, up_o, hr]
    rw [if_neg (by omega)]
    show _ = some (M q I (if (evM s i c d e f g || evF s c d e f g (i + 1) m) = true then s else _))
    by_cases hm : evM s i c d e f g = true
    · have hm' := hm
      unfold evM at hm'
      simp only [Bool.and_eq_true, beq_iff_eq] at hm'
      obtain ⟨⟨⟨⟨a0, a1⟩, a2⟩, a3⟩, a4⟩ := hm'
      rw [if_pos a0, if_pos a1, if_pos a2, if_pos a3, if_pos a4, hm]
      rfl
    · have hm2 : evM s i c d e f g = false := by simpa using hm
      have hm' := hm
      unfold evM at hm'
      simp only [Bool.and_eq_true, beq_iff_eq] at hm'
      rw [hm2, Bool.false_or]
      by_cases a0 : s (1816 + 5 * i) = c
      · rw [if_pos a0]
        by_cases a1 : s (1816 + 5 * i + 1) = d
        · rw [if_pos a1]
          by_cases a2 : s (1816 + 5 * i + 2) = e
          · rw [if_pos a2]
            by_cases a3 : s (1816 + 5 * i + 3) = f
            · rw [if_pos a3]
              by_cases a4 : s (1816 + 5 * i + 4) = g
              · exact absurd ⟨⟨⟨⟨a0, a1⟩, a2⟩, a3⟩, a4⟩ hm'
              · rw [if_neg a4]
            · rw [if_neg a3]
          · rw [if_neg a2]
        · rw [if_neg a1]
      · rw [if_neg a0]
theorem r_accuses (hE : okE s) {c d e f g : Nat} (hc : c < 1000) (hd : d < 1000) (he : e < 1000) (hf : f < 1000) (hg : g < 1000) (hn : 61 ≤ n) : pX10_accuses n q (nI c) (nI d) (nI e) (nI f) (nI g) (M q I s) = some (M q I (sAcc s c d e f g)) :=
  r_accL hE hc hd he hf hg (s 7) 0 n (by omega) (by have := hE.1; omega)
/-- to all nodes below k -/
def sSA (s : Nat → Nat) (f kd w hu : Nat) : Nat → Nat → Nat
  | 0 => s
  | k + 1 => sSend (sSA s f kd w hu k) f k kd w hu
theorem sSend_o {f t kd w hu j : Nat} (h : j < 4 ∨ (6 ≤ j ∧ j ≤ 9) ∨ (11 ≤ j ∧ j < 816) ∨ 1816 ≤ j) (h4 : s 4 ≤ 200) : sSend s f t kd w hu j = s j := by
  unfold sSend sMsg
  split
  · split
    · rw [up_o (by omega)]
    · rename_i h1 h2
      rw [up_o (by omega), up_o (by omega), up_o (by omega), up_o (by omega), up_o (by omega), up_o (by omega)]
  · rw [up_o (by omega)]
theorem sSend_4 {f t kd w hu : Nat} (h4 : s 4 ≤ 200) : sSend s f t kd w hu 4 ≤ 200 := by
  unfold sSend
  split
  · split
    · rw [up_o (by omega)]; exact h4
    · rw [up_s]; omega
  · rw [up_o (by omega)]; exact h4
theorem sSA_4 {f kd w hu : Nat} (h4 : s 4 ≤ 200) : ∀ k, sSA s f kd w hu k 4 ≤ 200
  | 0 => h4
  | k + 1 => sSend_4 (sSA_4 h4 k)
theorem sSA_o {f kd w hu j : Nat} (h : j < 4 ∨ (6 ≤ j ∧ j ≤ 9) ∨ (11 ≤ j ∧ j < 816) ∨ 1816 ≤ j) (h4 : s 4 ≤ 200) : ∀ k, sSA s f kd w hu k j = s j
  | 0 => rfl
  | k + 1 => by
    show sSend _ _ _ _ _ _ j = _
    rw [sSend_o h (sSA_4 h4 k), sSA_o h h4 k]
theorem r_SAL {f kd w hu : Nat} {x : Int32} (hf : f < 7) (h : s (2416 + 513 * f + 11) < 128) (h0 : s 0 ≤ 3) (h4 : s 4 ≤ 200) (hx : x + nI 1 = nI hu) : ∀ (m i n : Nat), i + m = s 0 + 4 → m < n → lX10_sendsAll_3 q n (nI f) (nI kd) (nI w) x (nI i) (M q I (sSA s f kd w hu i)) = some (M q I (sSA s f kd w hu (s 0 + 4))) := by
  intro m
  induction m with
  | zero =>
    intro i n hi hn
    obtain ⟨n, rfl⟩ : ∃ k, n = k + 1 := ⟨n - 1, by omega⟩
    have e0 := sSA_o (s := s) (f := f) (kd := kd) (w := w) (hu := hu) (j := 0) (by omega) h4 i
    show cX10_sendsAll_3 q _ n _ _ _ _ _ _ = _
    simp (disch := omega) only [cX10_sendsAll_3, r_nodeMany, bn_s, e0, nI_leI]
    rw [if_pos (by omega), show i = s 0 + 4 by omega]
  | succ m ih =>
    intro i n hi hn
    obtain ⟨n, rfl⟩ : ∃ k, n = k + 1 := ⟨n - 1, by omega⟩
    have e0 := sSA_o (s := s) (f := f) (kd := kd) (w := w) (hu := hu) (j := 0) (by omega) h4 i
    have e1 := sSA_o (s := s) (f := f) (kd := kd) (w := w) (hu := hu) (j := 2416 + 513 * f + 11) (by omega) h4 i
    have hr := ih (i + 1) n (by omega) (by omega)
    show cX10_sendsAll_3 q _ n _ _ _ _ _ _ = _
    have hs := r_sends (n := n) (q := q) (I := I) (s := sSA s f kd w hu i) (kd := kd) (w := w) (t := i) hf (by omega) (by rw [e1]; exact h) (sSA_4 h4 i) hx
    simp (disch := omega) only [cX10_sendsAll_3, r_nodeMany, bn_s, lt_b, e0, nI_leI, hs, li, nI_add]
    rw [if_neg (by omega)]
    exact hr
theorem r_sendsAll {f kd w hu : Nat} {x : Int32} (hf : f < 7) (h : s (2416 + 513 * f + 11) < 128) (h0 : s 0 ≤ 3) (h4 : s 4 ≤ 200) (hx : x + nI 1 = nI hu) (hn : 8 ≤ n) : pX10_sendsAll n q (nI f) (nI kd) (nI w) x (M q I s) = some (M q I (sSA s f kd w hu (s 0 + 4))) :=
  r_SAL (s := s) hf h h0 h4 hx (s 0 + 4) 0 n (by omega) (by omega)
/-- the k-th message goes out of the row -/
def sTake (s : Nat → Nat) (k : Nat) : Nat → Nat := fun j => if 816 + 5 * k ≤ j ∧ j < 816 + 5 * (s 4 - 1) then s (j + 5) else if j = 4 then s 4 - 1 else s j
def sSh (s : Nat → Nat) (k i : Nat) : Nat → Nat := fun j => if 816 + 5 * k ≤ j ∧ j < 816 + i then s (j + 5) else if j = 4 then s 4 - 1 else s j
theorem r_takeL {k : Nat} (h4 : s 4 ≤ 200) (hk : k < s 4) : ∀ (m i n : Nat), 5 * k ≤ i → i + m = 5 * (s 4 - 1) → m < n → lX10_takesOut_51 q n (nI i) (M q I (sSh s k i)) = some (M q I (sTake s k)) := by
  have a4 : ∀ i, i ≤ 5 * (s 4 - 1) → sSh s k i 4 = s 4 - 1 := fun i hi => by
    show (if _ then _ else _) = _
    rw [if_neg (by omega), if_pos rfl]
  intro m
  induction m with
  | zero =>
    intro i n hik hi hn
    obtain ⟨n, rfl⟩ : ∃ k, n = k + 1 := ⟨n - 1, by omega⟩
    have e4 := a4 i (by omega)
    show cX10_takesOut_51 q _ n _ _ = _
    simp (disch := omega) only [cX10_takesOut_51, li, nI_clamp, M_get, e4, pk_mul, nI_leI]
    rw [if_pos (by omega)]
    have : i = 5 * (s 4 - 1) := by omega
    subst this
    rfl
  | succ m ih =>
    intro i n hik hi hn
    obtain ⟨n, rfl⟩ : ∃ k, n = k + 1 := ⟨n - 1, by omega⟩
    have e4 := a4 i (by omega)
    have hr := ih (i + 1) n (by omega) (by omega) (by omega)
    show cX10_takesOut_51 q _ n _ _ = _
    simp (disch := omega) only [cX10_takesOut_51, li, nI_clamp, M_get, e4, pk_mul, nI_leI, nI_add, ck_in, lt_b, M_put]
    rw [if_neg (by omega)]
    have e5 : up (sSh s k i) (816 + i) (sSh s k i (816 + i + 5)) = sSh s k (i + 1) := by
      funext j
      unfold up sSh
      by_cases hj : j = 816 + i
      · subst hj
        rw [if_pos rfl, if_neg (by omega), if_neg (by omega), if_pos (by omega)]
      · rw [if_neg hj]
        by_cases hc : 816 + 5 * k ≤ j ∧ j < 816 + i
        · rw [if_pos hc, if_pos (by omega)]
        · rw [if_neg hc, if_neg (show ¬ (816 + 5 * k ≤ j ∧ j < 816 + (i + 1)) by omega)]
    rw [e5]
    exact hr
/-- the row 'taken' -/
def Tk (q : Nat) (I : ev_I) (f t kd w hu : Nat) : ev_I := ev_u2 (ev_u2 (ev_u2 (ev_u2 (ev_u2 I (q + 3) 0 (nI f)) (q + 3) 1 (nI t)) (q + 3) 2 (nI kd)) (q + 3) 3 (nI w)) (q + 3) 4 (nI hu)
theorem r_takesOut {k : Nat} (h4 : s 4 ≤ 200) (hk : k < s 4) (hn : 1010 ≤ n) : pX10_takesOut n q (nI k) (M q I s) = some (M q (Tk q I (s (816 + 5 * k)) (s (816 + 5 * k + 1)) (s (816 + 5 * k + 2)) (s (816 + 5 * k + 3)) (s (816 + 5 * k + 4))) (sTake s k)) := by
  obtain ⟨m, rfl⟩ : ∃ m, n = m + 6 := ⟨n - 6, by omega⟩
  have e0 : up s 4 (s 4 - 1) = sSh s k (5 * k) := by
    funext j
    unfold up sSh
    by_cases hj : j = 4
    · rw [if_pos hj, if_neg (show ¬ (816 + 5 * k ≤ j ∧ j < 816 + 5 * k) by omega)]
    · rw [if_neg hj, if_neg (show ¬ (816 + 5 * k ≤ j ∧ j < 816 + 5 * k) by omega)]
  have hr := fun J => r_takeL (q := q) (I := J) (s := s) h4 hk (5 * (s 4 - 1) - 5 * k) (5 * k) m (Nat.le_refl _) (by omega) (by omega)
  have hle : ∀ a b : Nat, a < 100 → b < 100 → (nI a ≤ nI b ↔ a ≤ b) := fun a b ha hb => nI_leI (by omega) (by omega)
  show lX10_takesOut_2 q (m + 6) (nI k) (nI 0) _ = _
  simp (disch := omega) only [lX10_takesOut_2, cX10_takesOut_2, li, pk_mul, nI_add, ck_in, nI_clamp, M_get, M_pd, lt_b, nI_leI, Nat.add_zero]
  simp only [show ¬ (5 ≤ 0) by omega, show ¬ (5 ≤ 0 + 1) by omega, show ¬ (5 ≤ 0 + 1 + 1) by omega, show ¬ (5 ≤ 0 + 1 + 1 + 1) by omega, show ¬ (5 ≤ 0 + 1 + 1 + 1 + 1) by omega, show (5 ≤ 0 + 1 + 1 + 1 + 1 + 1) by omega, if_false, if_true]
  simp (disch := omega) only [pk_sub, M_put, e0, hr]
  rfl
end R2
