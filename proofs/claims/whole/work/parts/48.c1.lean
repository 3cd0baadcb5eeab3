/-! THE CLASS, method by method, over the same row: blocks, books, the net's sending, committing -/
theorem up_cm {s : Nat → Nat} {k v k' v' : Nat} (h : k ≠ k') : up (up s k v) k' v' = up (up s k' v') k v := by
  funext j
  unfold up
  by_cases a : j = k
  · subst a; rw [if_neg h, if_pos rfl, if_pos rfl]
  · rw [if_neg a, if_neg a]
theorem up_up {s : Nat → Nat} {k v v' : Nat} : up (up s k v) k v' = up s k v' := by
  funext j
  unfold up
  by_cases a : j = k
  · rw [if_pos a, if_pos a]
  · rw [if_neg a, if_neg a, if_neg a]
theorem up_id {s : Nat → Nat} {k v : Nat} (h : s k = v) : up s k v = s := by
  funext j
  unfold up
  by_cases a : j = k
  · rw [if_pos a, a, h]
  · rw [if_neg a]
theorem sTell_up {s : Nat → Nat} {a b c k v : Nat} (hk : k < 8 ∨ (8 < k ∧ k < 2116) ∨ 2416 ≤ k) (h8 : s 8 ≤ 100) : sTell (up s k v) a b c = up (sTell s a b c) k v := by
  unfold sTell
  rw [show up s k v 8 = s 8 from up_o (by omega)]
  by_cases hc : s 8 = 100
  · rw [if_pos hc, if_pos hc]
  · rw [if_neg hc, if_neg hc, up_cm (k := k) (by omega), up_cm (k := k) (by omega), up_cm (k := k) (by omega), up_cm (k := k) (by omega)]
theorem sT2_up {k b K v : Nat} (hK : 2416 ≤ K) (hb : K ≤ b) : ∀ (m i : Nat) (u : Nat → Nat), 1 ≤ i → u 8 ≤ 100 → sT2 (up u K v) k b i m = up (sT2 u k b i m) K v
  | 0, i, u, hi, hu => rfl
  | m + 1, i, u, hi, hu => by
    show sT2 (sTell (up u K v) 3 k (up u K v (b + i))) k b (i + 1) m = up (sT2 (sTell u 3 k (u (b + i))) k b (i + 1) m) K v
    rw [up_o (by omega), sTell_up (by omega) hu, sT2_up hK hb m (i + 1) _ (by omega) (sTell_8 hu)]
/-- up the chain by the numbers -/
def ix (s : Nat → Nat) : Nat → Nat → Nat → Nat
  | 0, x, _ => x
  | m + 1, x, b => if x ≤ b then x else ix s m (s (116 + x) - 1) b
theorem anc_lx {s : Nat → Nat} (h : okB s) : ∀ (m x t : Nat), x ≤ s 3 → anc s m x t ≤ x
  | 0, x, t, hx => Nat.le_refl _
  | m + 1, x, t, hx => by
    unfold anc
    split
    · exact Nat.le_refl _
    · rename_i hc
      have h1 := h.pos hx (by omega)
      obtain ⟨-, h2, -⟩ := h.2.2.2 x h1 hx
      have := anc_lx h m (s (116 + x) - 1) t (by omega)
      omega
theorem ix_anc {s : Nat → Nat} (hB : okB s) {b : Nat} (hb : b ≤ s 3) : ∀ (m x : Nat), x ≤ s 3 → x ≤ m → (ix s m x b = b ↔ anc s 100 x (s (516 + b)) = b) := by
  have h3 := hB.1
  intro m
  induction m with
  | zero =>
    intro x hx hm
    have : x = 0 := by omega
    subst this
    show 0 = b ↔ (if s (516 + 0) ≤ s (516 + b) then 0 else _) = b
    rw [if_pos (by rw [hB.2.1]; omega)]
  | succ m ih =>
    intro x hx hm
    show (if x ≤ b then x else ix s m (s (116 + x) - 1) b) = b ↔ (if s (516 + x) ≤ s (516 + b) then x else anc s 99 (s (116 + x) - 1) (s (516 + b))) = b
    by_cases hh : s (516 + x) ≤ s (516 + b)
    · rw [if_pos hh]
      by_cases hxb : x ≤ b
      · rw [if_pos hxb]
      · rw [if_neg hxb]
        obtain ⟨a1, a2, a3⟩ := hB.2.2.2 x (by omega) hx
        have := ih (s (116 + x) - 1) (by omega) (by omega)
        rw [this]
        have e : anc s 100 (s (116 + x) - 1) (s (516 + b)) = s (116 + x) - 1 := by
          show (if _ then _ else _) = _
          rw [if_pos (by omega)]
        rw [e]
        constructor
        · intro q; exfalso; rw [q] at a3; omega
        · intro q; omega
    · rw [if_neg hh]
      have hx1 := hB.pos hx (by omega)
      obtain ⟨a1, a2, a3⟩ := hB.2.2.2 x hx1 hx
      have q1 := hB.ht x hx
      by_cases hxb : x ≤ b
      · rw [if_pos hxb]
        have := anc_lx hB 99 (s (116 + x) - 1) (s (516 + b)) (by omega)
        constructor
        · intro q; exfalso; rw [q] at hh; omega
        · intro q; omega
      · rw [if_neg hxb]
        have := ih (s (116 + x) - 1) (by omega) (by omega)
        rw [this, anc_st hB 99 _ _ (by omega) (by omega)]
theorem vl_17 {j x : Nat} (hj : 3 ≤ j % 5) : vl 17 j x = if j / 5 < x then (-1 : Int32) else (0 : Int32) := by
  unfold vl
  rw [if_neg (by omega), if_neg (by omega), if_neg (by omega), if_neg (by omega), if_neg (by omega), if_pos (by omega)]
section C1
variable {n w : Nat} {I : ev_I} {s : Nat → Nat} {h : Nat} {r : Nat → Int32}
theorem c_has {b : Nat} (h3 : s 3 ≤ 99) (hb : b < 2 ^ 31) : pX1_has n (w + 1) (nI b) (C w I s h r) = some (nI (if b ≤ s 3 then 1 else 0)) := by
  unfold pX1_has
  rw [if_neg (nI_pos hb), cg_count]
  simp (disch := omega) only [nI_leI]
  by_cases c : b ≤ s 3
  · rw [if_neg (by omega), if_pos c]; rfl
  · rw [if_pos (by omega), if_neg c]; rfl
theorem c_rchL (hB : okB s) {b : Nat} (hb : b ≤ s 3) : ∀ (m x st n : Nat), x ≤ s 3 → x ≤ m → st + m ≤ 100 → m < n → lX1_reaches_5 (w + 1) n (nI b) (nI x) (nI st) (C w I s h r) = some (nI (if ix s m x b = b then 1 else 0)) := by
  have h3 := hB.1
  intro m
  induction m with
  | zero =>
    intro x st n hx hm hst hn
    obtain ⟨n, rfl⟩ : ∃ k, n = k + 1 := ⟨n - 1, by omega⟩
    show cX1_reaches_5 (w + 1) _ n _ _ _ _ = _
    simp (disch := omega) only [cX1_reaches_5, cX1_reaches_30, li, nI_leI, nI_eq]
    have : x ≤ b := by omega
    show _ = some (nI (if x = b then 1 else 0))
    simp only [this, if_true, ite_self]
    split <;> rfl
  | succ m ih =>
    intro x st n hx hm hst hn
    obtain ⟨n, rfl⟩ : ∃ k, n = k + 1 := ⟨n - 1, by omega⟩
    show cX1_reaches_5 (w + 1) _ n _ _ _ _ = _
    simp (disch := omega) only [cX1_reaches_5, cX1_reaches_30, li, nI_leI, nI_eq, nI_add, ck_in, nI_clamp, lt_b]
    show _ = some (nI (if (if x ≤ b then x else ix s m (s (116 + x) - 1) b) = b then 1 else 0))
    rw [if_neg (by omega)]
    by_cases hxb : x ≤ b
    · rw [if_pos hxb, if_pos hxb]
      split <;> rfl
    · rw [if_neg hxb, if_neg hxb]
      obtain ⟨a1, a2, a3⟩ := hB.2.2.2 x (by omega) hx
      rw [cg_parent (by omega) a1]
      exact ih _ _ n (by omega) (by omega) (by omega) (by omega)
theorem c_reaches (hB : okB s) {a b : Nat} (ha : a ≤ s 3) (hb : b ≤ s 3) (hn : 101 ≤ n) : pX1_reaches n (w + 1) (nI a) (nI b) (C w I s h r) = some (nI (if ext s a b = true then 1 else 0)) := by
  have := c_rchL (w := w) (I := I) (h := h) (r := r) hB hb 100 a 0 n ha (by have := hB.1; omega) (by omega) (by omega)
  unfold pX1_reaches ext
  rw [show (0 : Int32) = nI 0 from rfl, this]
  simp only [beq_iff_eq, ix_anc hB hb 100 a ha (by have := hB.1; omega)]
/-- an event in the class's book -/
theorem c_tell {a b c : Nat} (h8 : s 8 ≤ 100) : pX2_add n (w + 16) 500 (nI a) (nI b) (nI c) (-1) (-1) (C w I s h r) = some (C w I (sTell s a b c) h r) := by
  unfold pX2_add sTell
  rw [cg_vnc, cg_lim2]
  simp (disch := omega) only [nI_ltI]
  by_cases c8 : s 8 = 100
  · rw [if_neg (by omega), if_pos c8]
  · rw [if_pos (by omega), if_neg c8]
    simp (disch := omega) only [li, pk_mul, lt_b, nI_add, ck_in, nI_clamp]
    have e1 : ∀ (J : ev_I) (x : Int32) (j : Nat), ev_u2 J (w + 16 + 1) j x (w + 16) 1 = J (w + 16) 1 := fun J x j => by unfold ev_u2; rw [if_neg (by omega)]
    rw [e1, e1, e1, e1, e1, cg_vnc, nI_add]
    congr 1
    funext A j
    by_cases hb : w ≤ A ∧ A < w + 58
    · obtain ⟨o, rfl⟩ : ∃ o, A = w + o := ⟨A - w, by omega⟩
      have ho : o < 58 := by omega
      by_cases h17 : o = 17
      · subst h17
        unfold ev_u2
        rw [if_neg (by omega)]
        by_cases hj : j < 500
        · obtain ⟨i, d, hd, rfl⟩ : ∃ i d, d < 5 ∧ j = 5 * i + d := ⟨j / 5, j % 5, by omega, by omega⟩
          by_cases hi : i = s 8
          · subst hi
            match d, hd with
            | 0, _ =>
              rw [if_neg (by omega), if_neg (by omega), if_neg (by omega), if_neg (by omega), if_pos (by omega), C_get (by omega) (src_v (by omega) (by omega)), vl_n (by omega) (by omega), up_o (by omega), up_o (by omega), up_o (by omega)]
              exact congrArg nI up_s.symm
            | 1, _ => rw [if_neg (by omega), if_neg (by omega), if_neg (by omega), if_pos (by omega), C_get (by omega) (src_v (by omega) (by omega)), vl_n (by omega) (by omega), up_o (by omega), up_o (by omega), up_s]
            | 2, _ => rw [if_neg (by omega), if_neg (by omega), if_pos (by omega), C_get (by omega) (src_v (by omega) (by omega)), vl_n (by omega) (by omega), up_o (by omega), up_s]
            | 3, _ =>
              rw [if_neg (by omega), if_pos (by omega), C_get (o := 17) (k := 8) (by omega) (by unfold src; rw [if_neg (by omega), if_neg (by omega), if_neg (by omega), if_neg (by omega), if_neg (by omega), if_neg (by omega), if_neg (by omega), if_neg (by omega), if_pos (by omega), if_pos hj, if_neg (by omega)])]
              unfold vl
              rw [if_neg (by omega), if_neg (by omega), if_neg (by omega), if_neg (by omega), if_neg (by omega), if_pos (by omega), up_s, if_pos (by omega)]
              rfl
            | 4, _ =>
              rw [if_pos (by omega), C_get (o := 17) (k := 8) (by omega) (by unfold src; rw [if_neg (by omega), if_neg (by omega), if_neg (by omega), if_neg (by omega), if_neg (by omega), if_neg (by omega), if_neg (by omega), if_neg (by omega), if_pos (by omega), if_pos hj, if_neg (by omega)])]
              unfold vl
              rw [if_neg (by omega), if_neg (by omega), if_neg (by omega), if_neg (by omega), if_neg (by omega), if_pos (by omega), up_s, if_pos (by omega)]
              rfl
          · rw [if_neg (by omega), if_neg (by omega), if_neg (by omega), if_neg (by omega), if_neg (by omega)]
            by_cases hd3 : d < 3
            · rw [C_get (by omega) (src_v (by omega) hd3), C_get (by omega) (src_v (by omega) hd3), up_o (by omega), up_o (by omega), up_o (by omega), up_o (by omega)]
            · have es : src 17 (5 * i + d) = some 8 := by unfold src; rw [if_neg (by omega), if_neg (by omega), if_neg (by omega), if_neg (by omega), if_neg (by omega), if_neg (by omega), if_neg (by omega), if_neg (by omega), if_pos (by omega), if_pos hj, if_neg (by omega)]
              rw [C_get (by omega) es, C_get (by omega) es, up_s]
              rw [vl_17 (by omega), vl_17 (by omega)]
              by_cases hc : i < s 8
              · rw [if_pos (by omega), if_pos (by omega)]
              · rw [if_neg (by omega), if_neg (by omega)]
        · rw [if_neg (by omega), if_neg (by omega), if_neg (by omega), if_neg (by omega), if_neg (by omega)]
          have es : src 17 j = none := by unfold src; rw [if_neg (by omega), if_neg (by omega), if_neg (by omega), if_neg (by omega), if_neg (by omega), if_neg (by omega), if_neg (by omega), if_neg (by omega), if_pos (by omega), if_neg hj]
          unfold C
          rw [if_pos hb, if_pos hb, Nat.add_sub_cancel_left, es]
      · by_cases h16 : o = 16 ∧ j = 1
        · obtain ⟨rfl, rfl⟩ := h16
          rw [cg_vnc, up_s]
          unfold ev_u2
          rw [if_pos (by omega)]
        · unfold ev_u2
          rw [if_neg (by omega), if_neg (by omega), if_neg (by omega), if_neg (by omega), if_neg (by omega), if_neg (by omega)]
          unfold C
          rw [if_pos hb, if_pos hb, Nat.add_sub_cancel_left]
          cases hs : src o j with
          | none => rfl
          | some k =>
            have hk : k ≠ 8 := fun e => by
              subst e
              unfold src at hs
              by_cases c0 : o = 0
              · rw [if_pos c0] at hs; split at hs
                · injection hs with hs; omega
                · cases hs
              rw [if_neg c0] at hs
              by_cases c0 : o = 1
              · rw [if_pos c0] at hs; split at hs
                · injection hs with hs; omega
                · cases hs
              rw [if_neg c0] at hs
              by_cases c0 : o ≤ 9
              · rw [if_pos c0] at hs; split at hs
                · injection hs with hs; omega
                · cases hs
              rw [if_neg c0] at hs
              by_cases c0 : o = 11
              · rw [if_pos c0] at hs
                repeat (first | (injection hs with hs; omega) | (cases hs; done) | split at hs)
              rw [if_neg c0] at hs
              by_cases c0 : o = 13
              · rw [if_pos c0] at hs; split at hs
                · injection hs with hs; omega
                · cases hs
              rw [if_neg c0] at hs
              by_cases c0 : o = 14
              · rw [if_pos c0] at hs; split at hs
                · injection hs with hs; omega
                · cases hs
              rw [if_neg c0] at hs
              by_cases c0 : o = 15
              · rw [if_pos c0] at hs; split at hs
                · injection hs with hs; omega
                · cases hs
              rw [if_neg c0] at hs
              by_cases c0 : o = 16
              · rw [if_pos c0, if_neg (by omega)] at hs; cases hs
              rw [if_neg c0, if_neg h17] at hs
              by_cases c0 : o = 18
              · rw [if_pos c0] at hs; split at hs
                · injection hs with hs; omega
                · cases hs
              rw [if_neg c0] at hs
              by_cases c0 : o < 23
              · rw [if_pos c0] at hs; cases hs
              rw [if_neg c0] at hs
              split at hs
              · repeat (first | (injection hs with hs; omega) | (cases hs; done) | split at hs)
              · split at hs
                · split at hs
                  · injection hs with hs; omega
                  · cases hs
                · split at hs
                  · split at hs
                    · injection hs with hs; omega
                    · cases hs
                  · split at hs
                    · split at hs
                      · injection hs with hs; omega
                      · cases hs
                    · split at hs
                      · injection hs with hs; omega
                      · cases hs
            have hsr := srd_e ho hs hk
            have hk2 : k < 2116 ∨ 2416 ≤ k := by
              rcases Nat.lt_or_ge k 2116 with q | q
              · exact Or.inl q
              · rcases Nat.lt_or_ge k 2416 with q2 | q2
                · exfalso
                  unfold srd at hsr
                  rw [if_neg (by omega), if_neg (by omega), if_neg (by omega), if_neg (by omega), if_neg (by omega), if_neg (by omega), if_neg (by omega), if_neg (by omega), if_neg (by omega), if_neg (by omega), if_pos (by omega)] at hsr
                  injection hsr with q3 q4
                  exact h17 q3.symm
                · exact Or.inr q2
            show vl o j (s k) = vl o j _
            rw [up_o (by omega), up_o (by omega), up_o (by omega), up_o (by omega)]
    · unfold ev_u2
      rw [if_neg (by omega), if_neg (by omega), if_neg (by omega), if_neg (by omega), if_neg (by omega), if_neg (by omega)]
      unfold C
      rw [if_neg hb, if_neg hb]
end C1
