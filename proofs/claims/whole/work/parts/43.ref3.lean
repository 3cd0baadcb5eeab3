/-! THE REFERENCE: committing, learning, hearing -/
theorem m1_n (j : Nat) : nI (j + 1) + -nI 1 = nI j := pk_m1 j
theorem okB_c {s t : Nat → Nat} (h : okB s) (e : ∀ j, j < 816 → t j = s j) : okB t := by
  have h3 := e 3 (by omega)
  refine ⟨by rw [h3]; exact h.1, by rw [e 516 (by omega)]; exact h.2.1, by rw [e 116 (by omega)]; exact h.2.2.1, fun b h1 h2 => ?_⟩
  rw [h3] at h2
  have hb := h.1
  obtain ⟨a, c, d⟩ := h.2.2.2 b h1 h2
  rw [e (116 + b) (by omega), e (516 + b) (by omega), e (516 + (s (116 + b) - 1)) (by omega)]
  exact ⟨a, c, d⟩
theorem anc_c {s t : Nat → Nat} (hB : okB s) (e : ∀ j, j < 816 → t j = s j) : ∀ (m x h : Nat), x ≤ s 3 → anc t m x h = anc s m x h
  | 0, x, h, hx => rfl
  | m + 1, x, h, hx => by
    have hb := hB.1
    show (if t (516 + x) ≤ h then x else anc t m (t (116 + x) - 1) h) = (if s (516 + x) ≤ h then x else anc s m (s (116 + x) - 1) h)
    rw [e (516 + x) (by omega), e (116 + x) (by omega)]
    by_cases hc : s (516 + x) ≤ h
    · rw [if_pos hc, if_pos hc]
    · rw [if_neg hc, if_neg hc]
      have h1 := hB.pos hx (by omega)
      obtain ⟨-, h2, -⟩ := hB.2.2.2 x h1 hx
      exact anc_c hB e m _ h (by omega)
theorem ext_c {s t : Nat → Nat} (hB : okB s) (e : ∀ j, j < 816 → t j = s j) {a b : Nat} (ha : a ≤ s 3) (hb : b ≤ s 3) : ext t a b = ext s a b := by
  have h3 := hB.1
  unfold ext
  rw [e (516 + b) (by omega), anc_c hB e _ _ _ ha]
theorem ext_h {s : Nat → Nat} (hB : okB s) {a b : Nat} (ha : a ≤ s 3) (h : ext s a b = true) : s (516 + b) ≤ s (516 + a) := by
  unfold ext at h
  simp only [beq_iff_eq] at h
  rcases Nat.lt_or_ge (s (516 + a)) (s (516 + b)) with q | q
  · have : anc s 100 a (s (516 + b)) = a := by
      show (if s (516 + a) ≤ s (516 + b) then a else _) = a
      rw [if_pos (by omega)]
    rw [this] at h
    subst h
    omega
  · exact q
/-- the blocks of a log, from above -/
def sW (s : Nat → Nat) (b : Nat) : Nat → Nat → Nat → Nat
  | 0, _ => s
  | j + 1, x => sW (up s (b + (j + 1)) x) b j (s (116 + x) - 1)
/-- their events, from below -/
def sT2 (s : Nat → Nat) (k b : Nat) : Nat → Nat → Nat → Nat
  | _, 0 => s
  | i, m + 1 => sT2 (sTell s 3 k (s (b + i))) k b (i + 1) m
def sCommit (s : Nat → Nat) (k e : Nat) : Nat → Nat :=
  if ext s e (s (2416 + 513 * k + 12 + s (2416 + 513 * k + 8))) = true then
    up (sT2 (sW s (2416 + 513 * k + 12 + s (2416 + 513 * k + 8)) (s (516 + e) - s (516 + s (2416 + 513 * k + 12 + s (2416 + 513 * k + 8)))) e) k (2416 + 513 * k + 12 + s (2416 + 513 * k + 8)) 1 (s (516 + e) - s (516 + s (2416 + 513 * k + 12 + s (2416 + 513 * k + 8))))) (2416 + 513 * k + 8) (s (2416 + 513 * k + 8) + (s (516 + e) - s (516 + s (2416 + 513 * k + 12 + s (2416 + 513 * k + 8)))))
  else if ext s (s (2416 + 513 * k + 12 + s (2416 + 513 * k + 8))) e = true then s
  else sTell (up s (2416 + 513 * k + 9) (s (2416 + 513 * k + 9) + 1)) 4 k e
theorem sTell_o {s : Nat → Nat} {a b c j : Nat} (h : j < 8 ∨ (8 < j ∧ j < 2116) ∨ 2416 ≤ j) (h8 : s 8 ≤ 100) : sTell s a b c j = s j := by
  unfold sTell
  split
  · rfl
  · rw [up_o (by omega), up_o (by omega), up_o (by omega), up_o (by omega)]
theorem sTell_8 {s : Nat → Nat} {a b c : Nat} (h8 : s 8 ≤ 100) : sTell s a b c 8 ≤ 100 := by
  unfold sTell
  split
  · omega
  · rw [up_s]; omega
section R3
variable {n q : Nat} {I : ev_I}
theorem r_cm2 {k lb m0 : Nat} (hk : k < 7) (hlb : lb + m0 ≤ 99) : ∀ (m i n : Nat) (s : Nat → Nat), s (2416 + 513 * k + 8) = lb → s 8 ≤ 100 → i + m = m0 + 1 → m < n → lX10_commits_139 q n (nI k) (nI (2416 + 513 * k)) (nI m0) (nI i) (M q I s) = some (M q I (up (sT2 s k (2416 + 513 * k + 12 + lb) i m) (2416 + 513 * k + 8) (lb + m0))) := by
  intro m
  induction m with
  | zero =>
    intro i n s h1 h8 hi hn
    obtain ⟨n, rfl⟩ : ∃ k, n = k + 1 := ⟨n - 1, by omega⟩
    show cX10_commits_139 q _ n _ _ _ _ _ = _
    simp (disch := omega) only [cX10_commits_139, lt_b, li, nI_add, nI_clamp, ck_in, M_get, M_put, nI_ltI, h1]
    rw [if_pos (by omega)]
    rfl
  | succ m ih =>
    intro i n s h1 h8 hi hn
    obtain ⟨n, rfl⟩ : ∃ k, n = k + 1 := ⟨n - 1, by omega⟩
    have hr := ih (i + 1) n (sTell s 3 k (s (2416 + 513 * k + 12 + lb + i))) (by rw [sTell_o (by omega) h8]; exact h1) (sTell_8 h8) (by omega) (by omega)
    show cX10_commits_139 q _ n _ _ _ _ _ = _
    simp (disch := omega) only [cX10_commits_139, lt_b, li, nI_add, nI_clamp, ck_in, M_get, M_put, nI_ltI, h1, r_tells, bn_s]
    rw [if_neg (by omega)]
    exact hr
theorem r_cm1 {k lb m0 : Nat} (hk : k < 7) (hlb : lb + m0 ≤ 99) : ∀ (j x n : Nat) (s : Nat → Nat), okB s → s (2416 + 513 * k + 8) = lb → s 8 ≤ 100 → x ≤ s 3 → j ≤ s (516 + x) → j ≤ m0 → j + m0 + 2 < n → lX10_commits_93 q n (nI k) (nI (2416 + 513 * k)) (nI m0) (nI x) (nI j) (M q I s) = some (M q I (up (sT2 (sW s (2416 + 513 * k + 12 + lb) j x) k (2416 + 513 * k + 12 + lb) 1 m0) (2416 + 513 * k + 8) (lb + m0))) := by
  intro j
  induction j with
  | zero =>
    intro x n s hB h1 h8 hx hj hm hn
    obtain ⟨n, rfl⟩ : ∃ k, n = k + 1 := ⟨n - 1, by omega⟩
    show cX10_commits_93 q _ n _ _ _ _ _ _ = _
    unfold cX10_commits_93
    rw [if_pos (show nI 0 ≤ 0 by decide)]
    exact r_cm2 hk hlb m0 1 n s h1 h8 (by omega) (by omega)
  | succ j ih =>
    intro x n s hB h1 h8 hx hj hm hn
    obtain ⟨n, rfl⟩ : ∃ k, n = k + 1 := ⟨n - 1, by omega⟩
    have h3 := hB.1
    have hx1 := hB.pos hx (by omega)
    obtain ⟨a1, a2, a3⟩ := hB.2.2.2 x hx1 hx
    have hr := ih (s (116 + x) - 1) n (up s (2416 + 513 * k + 12 + lb + (j + 1)) x) (okB_c hB (fun i hi => up_o (by omega))) (by rw [up_o (by omega)]; exact h1) (by rw [up_o (by omega)]; exact h8) (by rw [up_o (by omega)]; omega) (by rw [up_o (by omega)]; omega) (by omega) (by omega)
    have hp : pX10_parentOf n q (nI x) (M q I (up s (2416 + 513 * k + 12 + lb + (j + 1)) x)) = some (nI (s (116 + x) - 1)) := by
      rw [r_parentOf (by omega) (by rw [up_o (by omega)]; exact a1), up_o (by omega)]
    show cX10_commits_93 q _ n _ _ _ _ _ _ = _
    unfold cX10_commits_93
    rw [if_neg (nI_nle (by omega) (by omega))]
    simp (disch := omega) only [lt_b, li, nI_add, nI_clamp, ck_in, M_get, M_put, h1, hp, bn_s, m1_n]
    exact hr
theorem r_commits {s : Nat → Nat} {k e : Nat} (hk : k < 7) (hB : okB s) (h8 : s 8 ≤ 100) (he : e ≤ s 3) (hl : s (2416 + 513 * k + 8) ≤ 99) (hlb : s (2416 + 513 * k + 12 + s (2416 + 513 * k + 8)) ≤ s 3) (hlh : s (516 + s (2416 + 513 * k + 12 + s (2416 + 513 * k + 8))) = s (2416 + 513 * k + 8)) (hn : 300 ≤ n) : pX10_commits n q (nI k) (nI e) (M q I s) = some (M q I (sCommit s k e)) := by
  have h3 := hB.1
  have q1 := hB.ht e he
  have q2 := hB.ht _ hlb
  unfold sCommit
  generalize hl0 : s (2416 + 513 * k + 12 + s (2416 + 513 * k + 8)) = l at *
  have hx1 := r_ext (n := n) (q := q) (I := I) hB he hlb (by omega)
  have hx2 := r_ext (n := n) (q := q) (I := I) hB hlb he (by omega)
  simp (disch := omega) only [pX10_commits, r_nodeAt, r_logLast, bn_s, hl0, hx1, hx2]
  by_cases c1 : ext s e l = true
  · have hh := ext_h hB he c1
    rw [if_pos c1, if_pos c1, if_neg (show ¬ nI 1 = 0 by decide)]
    have hr := r_cm1 (q := q) (I := I) (k := k) (lb := s (2416 + 513 * k + 8)) (m0 := s (516 + e) - s (516 + l)) hk (by omega) (s (516 + e) - s (516 + l)) e n s hB rfl h8 he (by omega) (Nat.le_refl _) (by omega)
    simp (disch := omega) only [lt_b, li, nI_add, nI_clamp, ck_in, M_get, pk_sub]
    exact hr
  · rw [if_neg c1, if_neg c1, if_pos (show nI 0 = 0 by decide)]
    by_cases c2 : ext s l e = true
    · rw [if_pos c2, if_pos c2, if_neg (show ¬ nI 1 = 0 by decide)]
    · rw [if_neg c2, if_neg c2, if_pos (show nI 0 = 0 by decide)]
      have ht := r_tells (n := n) (q := q) (I := I) (s := up s (2416 + 513 * k + 9) (s (2416 + 513 * k + 9) + 1)) (a := 4) (b := k) (c := e) (by rw [up_o (by omega)]; exact h8)
      simp (disch := omega) only [lt_b, li, nI_add, nI_clamp, ck_in, M_get, M_put, ht, bn_s]
end R3
