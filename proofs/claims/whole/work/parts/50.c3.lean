/-! THE CLASS: taking out, committing -/
theorem sTake_p {s : Nat → Nat} {k j : Nat} (hj : j < s 4 - 1) : pkm (sTake s k) j = pkm s (if j < k then j else j + 1) := by
  have e : ∀ d, d < 5 → sTake s k (816 + 5 * j + d) = s (816 + 5 * (if j < k then j else j + 1) + d) := fun d hd => by
    unfold sTake
    by_cases c : j < k
    · rw [if_pos c, if_neg (by omega), if_neg (by omega)]
    · rw [if_neg c, if_pos (by omega)]
      congr 1
      omega
  have e0 := e 0 (by omega)
  rw [Nat.add_zero, Nat.add_zero] at e0
  unfold pkm
  rw [e0, e 1 (by omega), e 2 (by omega), e 3 (by omega), e 4 (by omega)]
theorem sTake_C {w h : Nat} {I : ev_I} {s : Nat → Nat} {r : Nat → Int32} {k : Nat} (h4 : s 4 ≤ 200) : C w I (sTake s k) h r = C w I (up s 4 (s 4 - 1)) h r := by
  refine C_c (fun j hj => ?_)
  unfold sTake up
  rw [if_neg (by omega)]
theorem sTake_t {s : Nat → Nat} {k : Nat} (h4 : s 4 ≤ 200) (hT : ∀ k, k < s 4 → s (816 + 5 * k + 1) < s 0 + 4) : ∀ j, j < sTake s k 4 → sTake s k (816 + 5 * j + 1) < sTake s k 0 + 4 := by
  have e4 : sTake s k 4 = s 4 - 1 := by unfold sTake; rw [if_neg (by omega), if_pos rfl]
  have e0 : sTake s k 0 = s 0 := by unfold sTake; rw [if_neg (by omega), if_neg (by omega)]
  intro j hj
  rw [e4] at hj
  rw [e0]
  unfold sTake
  by_cases c : 816 + 5 * k ≤ 816 + 5 * j + 1 ∧ 816 + 5 * j + 1 < 816 + 5 * (s 4 - 1)
  · rw [if_pos c]
    have := hT (j + 1) (by omega)
    rw [show 816 + 5 * j + 1 + 5 = 816 + 5 * (j + 1) + 1 by omega]
    exact this
  · rw [if_neg c, if_neg (by omega)]
    exact hT j (by omega)
theorem sTake_4 {s : Nat → Nat} {k : Nat} : sTake s k 4 = s 4 - 1 := by
  unfold sTake
  rw [if_neg (by omega), if_pos rfl]
section C3
variable {n w : Nat} {I : ev_I} {s : Nat → Nat} {h : Nat}
theorem c_takeL {k : Nat} {msg : Int32} (hT : ∀ k, k < s 4 → s (816 + 5 * k + 1) < s 0 + 4) (hh : h < 200) (h4 : s 4 ≤ 200) (hk : k < s 4) : ∀ (m i n : Nat) (r : Nat → Int32), i + m = s 4 - 1 → (∀ j, j < i → r ((h + j) % 200) = nI (pkm s (if j < k then j else j + 1))) → (∀ j, i ≤ j → j < s 4 → r ((h + j) % 200) = nI (pkm s j)) → m < n → k ≤ i → ∃ r', lX4_take_29 (w + 11) n msg (nI i) (C w I s h r) = some (msg, C w I (sTake s k) h r') ∧ okR (sTake s k) h r' := by
  intro m
  induction m with
  | zero =>
    intro i n r hi h1 h2 hn hki
    obtain ⟨n, rfl⟩ : ∃ k, n = k + 1 := ⟨n - 1, by omega⟩
    refine ⟨r, ?_, hh, fun j hj => ?_, sTake_t h4 hT⟩
    · show cX4_take_29 (w + 11) _ n _ _ _ = _
      simp (disch := omega) only [cX4_take_29, cX4_take_57, cg_nc, li, pk_sub, nI_leI, lt_b, cp_nc, sTake_C h4]
      rw [if_pos (by omega)]
    · rw [sTake_4] at hj
      rw [sTake_p hj]
      exact h1 j (by omega)
  | succ m ih =>
    intro i n r hi h1 h2 hn hki
    obtain ⟨n, rfl⟩ : ∃ k, n = k + 1 := ⟨n - 1, by omega⟩
    obtain ⟨r', hl, hr'⟩ := ih (i + 1) n (upr r ((h + i) % 200) (r ((h + (i + 1)) % 200))) (by omega) (fun j hj => by
        by_cases hji : j = i
        · subst hji
          rw [upr_s, if_neg (by omega)]
          exact h2 (j + 1) (by omega) (by omega)
        · rw [upr_o (by omega)]
          exact h1 j (by omega)) (fun j hj hj4 => by
        rw [upr_o (by omega)]
        exact h2 j (by omega) hj4) (by omega) (by omega)
    refine ⟨r', ?_, hr'⟩
    show cX4_take_29 (w + 11) _ n _ _ _ = _
    simp (disch := omega) only [cX4_take_29, cg_nc, li, pk_sub, nI_leI, nI_add, lt_b, c_at, bn_s, c_put]
    rw [if_neg (by omega)]
    exact hl
theorem c_take {k : Nat} {r : Nat → Int32} (hr : okR s h r) (h4 : s 4 ≤ 200) (hk : k < s 4) (hn : 201 ≤ n) : ∃ h' r', pX4_take n (w + 11) (nI k) (C w I s h r) = some (nI (pkm s k), C w I (sTake s k) h' r') ∧ okR (sTake s k) h' r' := by
  obtain ⟨hh, hR, hT⟩ := hr
  unfold pX4_take
  rw [c_at hh (by omega), bn_s, hR k hk]
  by_cases k0 : k = 0
  · subst k0
    refine ⟨(h + 1) % 200, r, ?_, by omega, fun j hj => ?_, sTake_t h4 hT⟩
    · rw [if_pos (show nI 0 = 0 from rfl)]
      simp (disch := omega) only [cX4_take_57, cg_head, li, nI_add, pk_rem, lt_b, cp_head, cg_nc, pk_sub, cp_nc, sTake_C h4]
    · rw [sTake_4] at hj
      rw [sTake_p hj, if_neg (by omega), ← hR (j + 1) (by omega)]
      congr 1
      omega
  · rw [if_neg (nI_ne0 (by omega) (by omega))]
    obtain ⟨r', hl, hr'⟩ := c_takeL (w := w) (I := I) (k := k) (msg := nI (pkm s k)) hT hh h4 hk (s 4 - 1 - k) k n r (by omega) (fun j hj => by rw [if_pos hj]; exact hR j (by omega)) (fun j _ hj => hR j hj) (by omega) (Nat.le_refl _)
    exact ⟨h, r', hl, hr'⟩
variable {r : Nat → Int32}
theorem c_last {k : Nat} (hk : k < 7) (hl : s (2416 + 513 * k + 8) ≤ 99) : pX3_lastLogged n (w + (23 + 5 * k)) (C w I s h r) = some (nI (s (2416 + 513 * k + 12 + s (2416 + 513 * k + 8)))) := by
  simp (disch := omega) only [pX3_lastLogged, cg_logn, li, pk_sub, Nat.add_sub_cancel, ck_in, nI_clamp, cg_logged]
theorem c_cm2 {k lb m0 : Nat} (hk : k < 7) (hlb : lb + m0 ≤ 99) : ∀ (m i n : Nat) (s : Nat → Nat), s (2416 + 513 * k + 8) = lb + m0 → s 8 ≤ 100 → i + m = m0 + 1 → 1 ≤ i → m < n → lX8_commit_142 w n (nI k) (w + (23 + 5 * k)) (nI (lb + i)) (C w I s h r) = some (C w I (sT2 s k (2416 + 513 * k + 12 + lb) i m) h r) := by
  intro m
  induction m with
  | zero =>
    intro i n s h1 h8 hi hi1 hn
    obtain ⟨n, rfl⟩ : ∃ k, n = k + 1 := ⟨n - 1, by omega⟩
    show cX8_commit_142 w _ n _ _ _ _ = _
    simp (disch := omega) only [cX8_commit_142, cg_logn, h1, nI_leI]
    rw [if_pos (by omega)]
    rfl
  | succ m ih =>
    intro i n s h1 h8 hi hi1 hn
    obtain ⟨n, rfl⟩ : ∃ k, n = k + 1 := ⟨n - 1, by omega⟩
    have hr := ih (i + 1) n (sTell s 3 k (s (2416 + 513 * k + 12 + lb + i))) (by rw [sTell_o (by omega) h8]; exact h1) (sTell_8 h8) (by omega) (by omega) (by omega)
    have ht := c_tell (n := n) (w := w) (I := I) (h := h) (r := r) (a := 3) (b := k) (c := s (2416 + 513 * k + 12 + lb + i)) h8
    show cX8_commit_142 w _ n _ _ _ _ = _
    simp (disch := omega) only [cX8_commit_142, cg_logn, h1, nI_leI, ck_in, nI_clamp, cg_logged, li, lt_b, nI_add]
    rw [if_neg (by omega), show 2416 + 513 * k + 12 + (lb + i) = 2416 + 513 * k + 12 + lb + i by omega, show (-nI 1 : Int32) = -1 from rfl, ht, bn_s]
    exact hr
theorem c_cm1 {k e lb m0 l : Nat} (hk : k < 7) (hlb : lb + m0 ≤ 99) : ∀ (j x st n : Nat) (s : Nat → Nat), okB s → s (2416 + 513 * k + 8) = lb → s 8 ≤ 100 → x ≤ s 3 → s (516 + x) = lb + j → pw s j x = l → s (516 + l) = lb → e ≤ s 3 → s (516 + e) = lb + m0 → j ≤ m0 → st + j ≤ 100 → j + m0 + 2 < n → lX8_commit_74 w n (nI k) (nI e) (w + (23 + 5 * k)) (nI l) (nI (lb + 1)) (nI x) (nI st) (C w I s h r) = some (C w I (up (sT2 (sW s (2416 + 513 * k + 12 + lb) j x) k (2416 + 513 * k + 12 + lb) 1 m0) (2416 + 513 * k + 8) (lb + m0)) h r) := by
  intro j
  induction j with
  | zero =>
    intro x st n s hB h1 h8 hx hj hp hl he hem hm hst hn
    obtain ⟨n, rfl⟩ : ∃ k, n = k + 1 := ⟨n - 1, by omega⟩
    have h3 := hB.1
    have hxl : x = l := hp
    subst hxl
    have hr := c_cm2 (w := w) (I := I) (h := h) (r := r) (k := k) (lb := lb) hk hlb m0 1 n (up s (2416 + 513 * k + 8) (lb + m0)) up_s (by rw [up_o (by omega)]; exact h8) (by omega) (by omega) (by omega)
    show cX8_commit_74 w _ n _ _ _ _ _ _ _ _ = _
    simp (disch := omega) only [cX8_commit_74, cX8_commit_123, ck_in, nI_clamp, cg_height, hem, li, nI_add, lt_b, cp_logn, nI_leI, nI_eq, Nat.add_sub_cancel, if_true, ite_self]
    rw [hr]
    exact congrArg (fun z => some (C w I z h r)) (sT2_up (by omega) (by omega) m0 1 s (by omega) h8)
  | succ j ih =>
    intro x st n s hB h1 h8 hx hj hp hl he hem hm hst hn
    obtain ⟨n, rfl⟩ : ∃ k, n = k + 1 := ⟨n - 1, by omega⟩
    have h3 := hB.1
    have hx1 := hB.pos hx (by omega)
    obtain ⟨a1, a2, a3⟩ := hB.2.2.2 x hx1 hx
    have hxl : x ≠ l := fun q => by rw [q] at hj; omega
    have hl3 : l ≤ s 3 := by
      have := (pw_ok hB (j + 1) x hx (by omega)).1
      rw [hp] at this
      exact this
    have eU : ∀ i, i < 816 → up s (2416 + 513 * k + 12 + lb + (j + 1)) x i = s i := fun i hi => up_o (by omega)
    have hpc : ∀ (i y : Nat), y ≤ s 3 → i ≤ s (516 + y) → pw (up s (2416 + 513 * k + 12 + lb + (j + 1)) x) i y = pw s i y := by
      intro i
      induction i with
      | zero => intro y _ _; rfl
      | succ i ih2 =>
        intro y hy hi
        have hy1 := hB.pos hy (by omega)
        obtain ⟨c1, c2, c3⟩ := hB.2.2.2 y hy1 hy
        show pw (up s (2416 + 513 * k + 12 + lb + (j + 1)) x) i (up s (2416 + 513 * k + 12 + lb + (j + 1)) x (116 + y) - 1) = pw s i (s (116 + y) - 1)
        rw [eU (116 + y) (by omega)]
        exact ih2 _ (by omega) (by omega)
    have hr := ih (s (116 + x) - 1) (st + 1) n (up s (2416 + 513 * k + 12 + lb + (j + 1)) x) (okB_c hB eU) (by rw [up_o (by omega)]; exact h1) (by rw [up_o (by omega)]; exact h8) (by rw [eU 3 (by omega)]; omega) (by rw [eU _ (by omega)]; omega) (by rw [hpc _ _ (by omega) (by omega)]; exact hp) (by rw [eU _ (by omega)]; exact hl) (by rw [eU 3 (by omega)]; exact he) (by rw [eU _ (by omega)]; exact hem) (by omega) (by omega) (by omega)
    show cX8_commit_74 w _ n _ _ _ _ _ _ _ _ = _
    simp (disch := omega) only [cX8_commit_74, ck_in, nI_clamp, cg_height, hj, li, nI_add, lt_b, cp_logged, nI_leI, nI_eq]
    rw [if_neg (by omega), if_neg hxl, show 2416 + 513 * k + 12 + (lb + (j + 1)) = 2416 + 513 * k + 12 + lb + (j + 1) by omega, cg_parent (by omega) (by rw [eU _ (by omega)]; exact a1), eU (116 + x) (by omega)]
    exact hr
theorem c_commit {k e : Nat} (hk : k < 7) (hB : okB s) (h8 : s 8 ≤ 100) (he : e ≤ s 3) (hl : s (2416 + 513 * k + 8) ≤ 99) (hlb : s (2416 + 513 * k + 12 + s (2416 + 513 * k + 8)) ≤ s 3) (hlh : s (516 + s (2416 + 513 * k + 12 + s (2416 + 513 * k + 8))) = s (2416 + 513 * k + 8)) (hn : 300 ≤ n) : pX8_commit n w (nI k) (nI e) (C w I s h r) = some (C w I (sCommit s k e) h r) := by
  have h3 := hB.1
  have q1 := hB.ht e he
  have q2 := hB.ht _ hlb
  unfold sCommit
  generalize hl0 : s (2416 + 513 * k + 12 + s (2416 + 513 * k + 8)) = l at *
  have hx1 := c_reaches (n := n) (w := w) (I := I) (h := h) (r := r) hB he hlb (by omega)
  have hx2 := c_reaches (n := n) (w := w) (I := I) (h := h) (r := r) hB hlb he (by omega)
  simp (disch := omega) only [pX8_commit, ck_in, nI_clamp, c_last, bn_s, hl0, hx1, hx2]
  by_cases c1 : ext s e l = true
  · have hh := ext_h hB he c1
    rw [if_pos c1, if_pos c1, if_neg (show ¬ nI 1 = 0 by decide)]
    have hr := c_cm1 (w := w) (I := I) (h := h) (r := r) (k := k) (e := e) (l := l) (lb := s (2416 + 513 * k + 8)) (m0 := s (516 + e) - s (516 + l)) hk (by omega) (s (516 + e) - s (516 + l)) e 0 n s hB rfl h8 he (by omega) (ext_pw hB he c1) hlh he (by omega) (Nat.le_refl _) (by omega) (by omega)
    simp (disch := omega) only [lt_b, cg_logn]
    exact hr
  · rw [if_neg c1, if_neg c1, if_pos (show nI 0 = 0 by decide)]
    by_cases c2 : ext s l e = true
    · rw [if_pos c2, if_pos c2, if_neg (show ¬ nI 1 = 0 by decide)]
    · rw [if_neg c2, if_neg c2, if_pos (show nI 0 = 0 by decide)]
      have ht := c_tell (n := n) (w := w) (I := I) (h := h) (r := r) (s := up s (2416 + 513 * k + 9) (s (2416 + 513 * k + 9) + 1)) (a := 4) (b := k) (c := e) (by rw [up_o (by omega)]; exact h8)
      simp (disch := omega) only [lt_b, li, nI_add, cg_forks, cp_forks]
      rw [show (-nI 1 : Int32) = -1 from rfl, ht]
      rfl
end C3
