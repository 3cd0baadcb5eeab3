/-! PAIRS OF CALLS: lose, turn -/
/-- messages to k among the first m -/
def nt (s : Nat → Nat) (k : Nat) : Nat → Nat
  | 0 => 0
  | m + 1 => nt s k m + (if s (816 + 5 * m + 1) = k then 1 else 0)
theorem nt_le {s : Nat → Nat} {k : Nat} : ∀ m, nt s k m ≤ m
  | 0 => Nat.le_refl _
  | m + 1 => by
    have := nt_le (s := s) (k := k) m
    show nt s k m + _ ≤ _
    split <;> omega
theorem nt_c {s t : Nat → Nat} {k : Nat} : ∀ m, (∀ i, i < m → t (816 + 5 * i + 1) = s (816 + 5 * i + 1)) → nt t k m = nt s k m
  | 0, _ => rfl
  | m + 1, h => by
    show nt t k m + _ = nt s k m + _
    rw [nt_c m (fun i hi => h i (by omega)), h m (by omega)]
def sLs (k : Nat) : Nat → (Nat → Nat) → (Nat → Nat)
  | 0, s => s
  | j + 1, s => if s (816 + 5 * j + 1) = k then sLs k j (sTake s j) else sLs k j s
theorem take_lo {s : Nat → Nat} {k j : Nat} (h : j < 816 + 5 * k) (hj : j ≠ 4) : sTake s k j = s j := by
  unfold sTake
  rw [if_neg (by omega), if_neg hj]
theorem take_hi {s : Nat → Nat} {k i d : Nat} (h : k < i) (hi : i < s 4) (hd : d < 5) : sTake s k (816 + 5 * (i - 1) + d) = s (816 + 5 * i + d) := by
  unfold sTake
  rw [if_pos (by omega)]
  congr 1
  omega
theorem ls_ok {k : Nat} : ∀ (j : Nat) (s : Nat → Nat), okS s → j ≤ s 4 → okS (sLs k j s) ∧ (okX s → okX (sLs k j s)) ∧ Mo s (sLs k j s) ∧ (∀ x, (x < 4 ∨ (4 < x ∧ x < 816) ∨ 1816 ≤ x) → sLs k j s x = s x) ∧ ((∀ i, i < s 4 → s (816 + 5 * i + 1) < s 0 + 4) → ∀ i, i < sLs k j s 4 → sLs k j s (816 + 5 * i + 1) < sLs k j s 0 + 4)
  | 0, s, hs, _ => ⟨hs, id, Mo_r, fun _ _ => rfl, fun h => h⟩
  | j + 1, s, hs, hj => by
    have h4 := hs.2.2.1.2.2.1
    by_cases c : s (816 + 5 * j + 1) = k
    · have E : sLs k (j + 1) s = sLs k j (sTake s j) := if_pos c
      obtain ⟨a1, a2, a3, a4, a5⟩ := ls_ok (k := k) j (sTake s j) (ok_take hs (by omega)) (by rw [sTake_4]; omega)
      rw [E]
      exact ⟨a1, fun x => a2 (okX_take hs x), Mo_t (Mo_take hs) a3, fun x hx => (a4 x hx).trans (sTake_o h4 hx), fun h => a5 (sTake_t h4 h)⟩
    · have E : sLs k (j + 1) s = sLs k j s := if_neg c
      rw [E]
      exact ls_ok (k := k) j s hs (by omega)
theorem ls_msg {k : Nat} : ∀ (j : Nat) (t : Nat → Nat), j ≤ t 4 → t 4 ≤ 200 → sLs k j t 4 + nt t k j = t 4 ∧ ∀ i, i < t 4 → (i < j → t (816 + 5 * i + 1) ≠ k) → ∀ d, d < 5 → sLs k j t (816 + 5 * (i - nt t k (min i j)) + d) = t (816 + 5 * i + d)
  | 0, t, _, _ => ⟨rfl, fun i hi _ d hd => by rw [Nat.min_zero]; rfl⟩
  | j + 1, t, hj, h4 => by
    by_cases c : t (816 + 5 * j + 1) = k
    · have E : sLs k (j + 1) t = sLs k j (sTake t j) := if_pos c
      obtain ⟨a1, a2⟩ := ls_msg (k := k) j (sTake t j) (by rw [sTake_4]; omega) (by rw [sTake_4]; omega)
      have en : ∀ m, m ≤ j → nt (sTake t j) k m = nt t k m := fun m hm => nt_c m (fun i hi => take_lo (by omega) (by omega))
      have e1 : nt t k (j + 1) = nt t k j + 1 := by show nt t k j + _ = _; rw [if_pos c]
      rw [E]
      refine ⟨?_, fun i hi hne d hd => ?_⟩
      · rw [en j (Nat.le_refl _), sTake_4] at a1
        rw [e1]
        omega
      · by_cases cj : i < j
        · have := a2 i (by rw [sTake_4]; omega) (fun _ => by rw [take_lo (by omega) (by omega)]; exact hne (by omega)) d hd
          rw [en _ (Nat.min_le_right _ _), take_lo (by omega) (by omega)] at this
          rw [show min i (j + 1) = min i j by omega]
          exact this
        · have hij : i ≠ j := fun e => hne (by omega) (by rw [e]; exact c)
          have := a2 (i - 1) (by rw [sTake_4]; omega) (fun h => by omega) d hd
          rw [en _ (Nat.min_le_right _ _), take_hi (by omega) hi hd, show min (i - 1) j = j by omega] at this
          rw [show min i (j + 1) = j + 1 by omega, e1, show i - (nt t k j + 1) = i - 1 - nt t k j by omega]
          exact this
    · have E : sLs k (j + 1) t = sLs k j t := if_neg c
      obtain ⟨a1, a2⟩ := ls_msg (k := k) j t (by omega) h4
      have e1 : nt t k (j + 1) = nt t k j := by show nt t k j + _ = _; rw [if_neg c]; rfl
      rw [E]
      refine ⟨by rw [e1]; exact a1, fun i hi hne d hd => ?_⟩
      have := a2 i hi (fun h => hne (by omega)) d hd
      by_cases cj : i ≤ j
      · rw [show min i (j + 1) = min i j by omega]
        exact this
      · rw [show min i (j + 1) = j + 1 by omega, e1]
        rw [show min i j = j by omega] at this
        exact this
theorem sub1_add (x : Int32) : x + (-1) = x - 1 := (Int32.sub_eq_add_neg x 1).symm
section F4
variable {n q w z : Nat} {I : ev_I} {s : Nat → Nat} {h : Nat} {r : Nat → Int32}
theorem r_lsL {k : Nat} (hk : k < 7) : ∀ (j c n : Nat) (I : ev_I) (t : Nat → Nat), okS t → j ≤ t 4 → j + 1100 < n → ∃ J, lX10_lose_26 q n (nI k) (nI c) (nI j - 1) (M q I t) = some (nI (c + nt t k j), M q J (sLs k j t)) ∧ Sk q I J := by
  intro j
  induction j with
  | zero =>
    intro c n I t ht hj hn
    obtain ⟨n, rfl⟩ : ∃ k, n = k + 1 := ⟨n - 1, by omega⟩
    refine ⟨I, ?_, Sk_r⟩
    show cX10_lose_26 q _ n _ _ _ _ = _
    unfold cX10_lose_26
    rw [if_pos (by decide)]
    rfl
  | succ j ih =>
    intro c n I t ht hj hn
    obtain ⟨n, rfl⟩ : ∃ k, n = k + 1 := ⟨n - 1, by omega⟩
    have h4 := ht.2.2.1.2.2.1
    have hb := okm_b ht (i := j) (by omega)
    have e0 : ∀ {X}, cX10_lose_26 q (lX10_lose_26 q n) n (nI k) (nI c) (nI j) (M q I t) = X → lX10_lose_26 q (n + 1) (nI k) (nI c) (nI (j + 1) - 1) (M q I t) = X := fun e => by
      rw [nI_pred]; exact e
    by_cases a : t (816 + 5 * j + 1) = k
    · obtain ⟨J, e, hJ⟩ := ih (c + 1) n (Tk q I (t (816 + 5 * j)) (t (816 + 5 * j + 1)) (t (816 + 5 * j + 2)) (t (816 + 5 * j + 3)) (t (816 + 5 * j + 4))) (sTake t j) (ok_take ht (by omega)) (by rw [sTake_4]; omega) (by omega)
      refine ⟨J, e0 ?_, Sk_t Sk_k hJ⟩
      unfold cX10_lose_26 cX10_lose_60
      rw [if_neg (nI_pos (by omega))]
      simp (disch := omega) only [li, pk_mul, nI_add, ck_in, nI_clamp, M_get, nI_eq]
      rw [if_pos a, r_takesOut h4 (by omega) (by omega), bn_s]
      show lX10_lose_26 q n (nI k) (nI (c + 1)) (nI j + -1) _ = _
      rw [sub1_add, e, show sLs k (j + 1) t = sLs k j (sTake t j) from if_pos a, show nt t k (j + 1) = nt t k j + 1 by show nt t k j + _ = _; rw [if_pos a]]
      rw [nt_c j (fun i hi => take_lo (by omega) (by omega)), show c + 1 + nt t k j = c + (nt t k j + 1) by omega]
    · obtain ⟨J, e, hJ⟩ := ih c n I t ht (by omega) (by omega)
      refine ⟨J, e0 ?_, hJ⟩
      unfold cX10_lose_26 cX10_lose_60
      rw [if_neg (nI_pos (by omega))]
      simp (disch := omega) only [li, pk_mul, nI_add, ck_in, nI_clamp, M_get, nI_eq]
      rw [if_neg a]
      show lX10_lose_26 q n (nI k) (nI c) (nI j + -1) _ = _
      rw [sub1_add, e, show sLs k (j + 1) t = sLs k j t from if_neg a, show nt t k (j + 1) = nt t k j by show nt t k j + _ = _; rw [if_neg a]; rfl]
theorem c_lsL (hs : okS s) (hh : h < 200) {k : Nat} (hk : k < 7) {u : Nat → Nat} (hu : ∀ i, i < s 4 → s (816 + 5 * i + 1) ≠ k → pkm u (i - nt s k i) = pkm s i) : ∀ (m i n : Nat) (r : Nat → Int32), i + m = s 4 → (∀ j, j < i - nt s k i → r ((h + j) % 200) = nI (pkm u j)) → (∀ j, i ≤ j → j < s 4 → r ((h + j) % 200) = nI (pkm s j)) → m < n → ∃ r', lX4_takeAllTo_4 (w + 11) n (nI k) (nI (i - nt s k i)) (nI i) (C w I s h r) = some (nI (nt s k (s 4)), C w I (up s 4 (s 4 - nt s k (s 4))) h r') ∧ ∀ j, j < s 4 - nt s k (s 4) → r' ((h + j) % 200) = nI (pkm u j) := by
  have h4 := hs.2.2.1.2.2.1
  intro m
  induction m with
  | zero =>
    intro i n r hi hr1 hr2 hn
    obtain ⟨n, rfl⟩ : ∃ k, n = k + 1 := ⟨n - 1, by omega⟩
    have e : i = s 4 := by omega
    subst e
    have hle := nt_le (s := s) (k := k) (s 4)
    refine ⟨r, ?_, hr1⟩
    show cX4_takeAllTo_4 (w + 11) _ n _ _ _ _ = _
    unfold cX4_takeAllTo_4
    rw [cg_nc, if_pos (nI_le (by omega) (by omega)), lt_b, lt_b, cp_nc, pk_sub (by omega), show s 4 - (s 4 - nt s k (s 4)) = nt s k (s 4) by omega]
  | succ m ih =>
    intro i n r hi hr1 hr2 hn
    obtain ⟨n, rfl⟩ : ∃ k, n = k + 1 := ⟨n - 1, by omega⟩
    have hb := okm_b hs (i := i) (by omega)
    have hle := nt_le (s := s) (k := k) i
    have hm := fun (n : Nat) (I : ev_I) => c_msg (n := n) (I := I) hs (k := i) (by omega)
    by_cases a : s (816 + 5 * i + 1) = k
    · have e1 : nt s k (i + 1) = nt s k i + 1 := by show nt s k i + _ = _; rw [if_pos a]
      obtain ⟨r', e, hr'⟩ := ih (i + 1) n r (by omega) (fun j hj => hr1 j (by omega)) (fun j h1 h2 => hr2 j (by omega) h2) (by omega)
      refine ⟨r', ?_, hr'⟩
      show cX4_takeAllTo_4 (w + 11) _ n _ _ _ _ = _
      unfold cX4_takeAllTo_4 cX4_takeAllTo_38
      rw [cg_nc, if_neg (nI_ge (by omega) (by omega)), c_at hh (by omega), bn_s, hr2 i (by omega) (by omega), (hm n _).2.1, bn_s, if_pos (congrArg nI a), lt_b, nI_1]
      rw [show i + 1 - nt s k (i + 1) = i - nt s k i by omega] at e
      exact e
    · have e1 : nt s k (i + 1) = nt s k i := by show nt s k i + _ = _; rw [if_neg a]; rfl
      obtain ⟨r', e, hr'⟩ := ih (i + 1) n (upr r ((h + (i - nt s k i)) % 200) (nI (pkm s i))) (by omega) (fun j hj => by
        by_cases c : j = i - nt s k i
        · rw [c, upr_s, hu i (by omega) a]
        · rw [upr_o (by omega)]
          exact hr1 j (by omega)) (fun j h1 h2 => by
        rw [upr_o (by omega)]
        exact hr2 j (by omega) h2) (by omega)
      refine ⟨r', ?_, hr'⟩
      show cX4_takeAllTo_4 (w + 11) _ n _ _ _ _ = _
      unfold cX4_takeAllTo_4 cX4_takeAllTo_38
      rw [cg_nc, if_neg (nI_ge (by omega) (by omega)), c_at hh (by omega), bn_s, hr2 i (by omega) (by omega), (hm n _).2.1, bn_s, if_neg (fun e => a ((nI_eq (by omega) (by omega)).mp e)), c_put hh (by omega), bn_s, lt_b, lt_b, nI_1, nI_1]
      rw [show i + 1 - nt s k (i + 1) = i - nt s k i + 1 by omega] at e
      exact e
theorem c_lose (hs : okS s) (hr : okR s h r) {k : Nat} (hk : k < 7) (hn : 300 ≤ n) : ∃ r', pX4_takeAllTo n (w + 11) (nI k) (C w I s h r) = some (nI (nt s k (s 4)), C w I (sLs k (s 4) s) h r') ∧ okR (sLs k (s 4) s) h r' := by
  have h4 := hs.2.2.1.2.2.1
  obtain ⟨a1, a2⟩ := ls_msg (k := k) (s 4) s (Nat.le_refl _) h4
  obtain ⟨b1, b2, b3, b4, b5⟩ := ls_ok (k := k) (s 4) s hs (Nat.le_refl _)
  obtain ⟨r', e, hr'⟩ := c_lsL (w := w) (I := I) hs hr.1 hk (u := sLs k (s 4) s) (fun i hi hne => by
    have hd := fun d hd => a2 i hi (fun _ => hne) d hd
    rw [show min i (s 4) = i by omega] at hd
    unfold pkm
    have h0 := hd 0 (by omega)
    rw [Nat.add_zero, Nat.add_zero] at h0
    rw [h0, hd 1 (by omega), hd 2 (by omega), hd 3 (by omega), hd 4 (by omega)]) (s 4) 0 n r (by omega) (fun j hj => by rw [show nt s k 0 = 0 from rfl] at hj; omega) (fun j _ h2 => hr.2.1 j h2) (by omega)
  have e4 : sLs k (s 4) s 4 = s 4 - nt s k (s 4) := by omega
  refine ⟨r', ?_, hr.1, fun j hj => hr' j (by omega), b5 hr.2.2⟩
  unfold pX4_takeAllTo
  refine e.trans ?_
  congr 2
  exact C_c (fun x hx => by
    by_cases c : x = 4
    · rw [c, up_s, e4]
    · rw [up_o c]; exact (b4 x (by omega)).symm)
theorem pa_lose (hs : okS s) (hr : okR s h r) {x : Int32} (hn : 1500 ≤ n) : PAt (fun z => pX9_lose n z x) (fun q => pX10_lose n q x) s h r := by
  have h0 := hs.2.2.1.1
  have h4 := hs.2.2.1.2.2.1
  by_cases c : gd x (s 0 + 4) = true
  · obtain ⟨k, hk, rfl⟩ := gd_e c (by omega)
    obtain ⟨b1, b2, b3, b4, b5⟩ := ls_ok (k := k) (s 4) s hs (Nat.le_refl _)
    refine ⟨nI (nt s k (s 4)), sLs k (s 4) s, ⟨b1, b2⟩, b4 9 (by omega), fun I z => ?_, fun I q hI => ?_⟩
    · obtain ⟨r', e, hr'⟩ := c_lose (n := n) (w := z + 1) (I := I) hs hr (k := k) (by omega) (by omega)
      refine ⟨h, r', ?_, hr'⟩
      show pX9_lose n z _ _ = _
      unfold pX9_lose
      rw [c_node, bn_s, if_b, if_pos c, e, bn_s]
    · obtain ⟨J, e, hJ⟩ := r_lsL (q := q) (k := k) (by omega) (s 4) 0 n I s hs (Nat.le_refl _) (by omega)
      refine ⟨J, ?_, Sk_c hJ⟩
      show pX10_lose n q _ _ = _
      unfold pX10_lose
      rw [Mt hI, lt_b, r_node, bn_s, if_b, if_pos c, lt_b, show (4 : Int32).toNatClampNeg = 4 from rfl, M_get]
      rw [Nat.zero_add] at e
      exact e
  · refine PA_0 (ans := -1) hs hr (fun I z => ?_) (fun I q hI => ⟨I, ?_, Sc_r⟩)
    · show pX9_lose n z _ _ = _
      unfold pX9_lose
      rw [c_node, bn_s, if_b, if_neg c]
    · show pX10_lose n q _ _ = _
      unfold pX10_lose
      rw [Mt hI, lt_b, r_node, bn_s, if_b, if_neg c]
/-- turn: where the i-th message comes from; where the k-th goes -/
def sro (N m i : Nat) : Nat := if i + m < N then i + m else N - 1 - i
def srt (N m k : Nat) : Nat := if k < m then N - 1 - k else k - m
def sTn (s : Nat → Nat) (m : Nat) : Nat → Nat := fun x => if 816 ≤ x ∧ x < 816 + 5 * s 4 then s (816 + 5 * sro (s 4) m ((x - 816) / 5) + (x - 816) % 5) else s x
theorem sTn_o {m j : Nat} (h4 : s 4 ≤ 200) (h : j < 816 ∨ 1816 ≤ j) : sTn s m j = s j := by
  unfold sTn
  rw [if_neg (by omega)]
theorem sTn_m {m i d : Nat} (hi : i < s 4) (hd : d < 5) : sTn s m (816 + 5 * i + d) = s (816 + 5 * sro (s 4) m i + d) := by
  unfold sTn
  rw [if_pos (by omega), show (816 + 5 * i + d - 816) / 5 = i by omega, show (816 + 5 * i + d - 816) % 5 = d by omega]
theorem sro_l {N m i : Nat} (hi : i < N) : sro N m i < N := by
  unfold sro
  split <;> omega
theorem ok_tn (hs : okS s) {m : Nat} : okS (sTn s m) ∧ (okX s → okX (sTn s m)) := by
  have h4 := hs.2.2.1.2.2.1
  have hx := hs
  obtain ⟨hB, hC, hZ, hN, hM, hE⟩ := hs
  have h3 := hB.1
  have e : ∀ j, (j < 816 ∨ 1816 ≤ j) → sTn s m j = s j := fun j hj => sTn_o h4 hj
  refine ⟨⟨okB_c hB (fun j hj => e j (by omega)), okC_c hC h3 (fun j _ hj => e j (by omega)), ⟨by rw [e 0 (by omega)]; exact hZ.1, by rw [e 1 (by omega)]; exact hZ.2.1, by rw [e 4 (by omega)]; exact hZ.2.2.1, by rw [e 8 (by omega)]; exact hZ.2.2.2⟩, okN_c hN h3 (fun j _ hj => e j (by omega)) (fun j hj => e j (by omega)), fun i hi => ?_, okE_c hE (e 7 (by omega)) (fun j h1 h2 => e j (by omega))⟩, fun x => okX_c x hE.1 (Nat.le_of_eq (e 3 (by omega)).symm) (fun k hk b _ _ => e _ (by omega)) (e 7 (by omega)) (fun j _ _ => e j (by omega))⟩
  rw [e 4 (by omega)] at hi
  have := hM (sro (s 4) m i) (sro_l hi)
  have t0 := sTn_m (s := s) (m := m) hi (d := 0) (by omega)
  rw [Nat.add_zero, Nat.add_zero] at t0
  rw [e 3 (by omega), t0, sTn_m hi (by omega), sTn_m hi (by omega), sTn_m hi (by omega), sTn_m hi (by omega)]
  exact this
theorem c_rvL {L : Nat} (hh : h < 200) (hL : L ≤ 200) : ∀ (m i n : Nat) (r : Nat → Int32), i + m = L / 2 → m < n → ∃ r', lX4_reverseFirst_2 (w + 11) n (nI L) (nI i) (C w I s h r) = some (C w I s h r') ∧ ∀ j, j < 200 → r' ((h + j) % 200) = if i ≤ j ∧ j + i < L then r ((h + (L - 1 - j)) % 200) else r ((h + j) % 200) := by
  intro m
  induction m with
  | zero =>
    intro i n r hi hn
    obtain ⟨n, rfl⟩ : ∃ k, n = k + 1 := ⟨n - 1, by omega⟩
    refine ⟨r, ?_, fun j hj => ?_⟩
    · show cX4_reverseFirst_2 (w + 11) _ n _ _ _ = _
      unfold cX4_reverseFirst_2
      simp (disch := omega) only [li, pk_div, nI_leI]
      rw [if_pos (by omega)]
    · split
      · rw [show L - 1 - j = j by omega]
      · rfl
  | succ m ih =>
    intro i n r hi hn
    obtain ⟨n, rfl⟩ : ∃ k, n = k + 1 := ⟨n - 1, by omega⟩
    obtain ⟨r', e, hr'⟩ := ih (i + 1) n (upr (upr r ((h + i) % 200) (r ((h + (L - 1 - i)) % 200))) ((h + (L - 1 - i)) % 200) (r ((h + i) % 200))) (by omega) (by omega)
    refine ⟨r', ?_, fun j hj => ?_⟩
    · show cX4_reverseFirst_2 (w + 11) _ n _ _ _ = _
      unfold cX4_reverseFirst_2
      simp (disch := omega) only [li, pk_div, nI_leI, pk_sub]
      rw [if_neg (by omega), c_at hh (by omega), bn_s, c_at hh (by omega), bn_s, c_put hh (by omega), bn_s, c_put hh (by omega), bn_s, lt_b, nI_add]
      exact e
    · rw [hr' j hj]
      by_cases c1 : i + 1 ≤ j ∧ j + (i + 1) < L
      · rw [if_pos c1, if_pos (by omega), upr_o (by omega), upr_o (by omega)]
      · rw [if_neg c1]
        by_cases c2 : j = L - 1 - i
        · rw [if_pos (by omega), c2, upr_s, show L - 1 - (L - 1 - i) = i by omega]
        · rw [upr_o (by omega)]
          by_cases c3 : j = i
          · rw [if_pos (by omega), c3, upr_s]
          · rw [upr_o (by omega), if_neg (by omega)]
theorem c_turn (hs : okS s) (hr : okR s h r) {m : Nat} (hm : m ≤ s 4) (hn : 300 ≤ n) : ∃ r', pX4_turnFirst n (w + 11) (nI m) (C w I s h r) = some (1, C w I (sTn s m) h r') ∧ okR (sTn s m) h r' := by
  have h4 := hs.2.2.1.2.2.1
  obtain ⟨r1, e1, hr1⟩ := c_rvL (w := w) (I := I) (s := s) hr.1 h4 (s 4 / 2) 0 n r (by omega) (by omega)
  obtain ⟨r2, e2, hr2⟩ := c_rvL (w := w) (I := I) (s := s) (L := s 4 - m) hr.1 (by omega) ((s 4 - m) / 2) 0 n r1 (by omega) (by omega)
  have hC : C w I (sTn s m) h r2 = C w I s h r2 := C_c (fun x hx => sTn_o h4 hx)
  refine ⟨r2, ?_, hr.1, fun k hk => ?_, fun k hk => ?_⟩
  · unfold pX4_turnFirst pX4_reverseFirst
    rw [if_neg (nI_pos (by omega)), cg_nc, if_pos (nI_le hm (by omega)), show (0 : Int32) = nI 0 from rfl, e1, bn_s, cg_nc, pk_sub hm, e2, bn_s, hC]
  · rw [sTn_o h4 (by omega)] at hk
    have p : pkm (sTn s m) k = pkm s (sro (s 4) m k) := by
      unfold pkm
      have t0 := sTn_m (s := s) (m := m) hk (d := 0) (by omega)
      rw [Nat.add_zero, Nat.add_zero] at t0
      rw [t0, sTn_m hk (by omega), sTn_m hk (by omega), sTn_m hk (by omega), sTn_m hk (by omega)]
    rw [hr2 k (by omega), p, ← hr.2.1 _ (sro_l hk)]
    unfold sro
    by_cases c : k + m < s 4
    · rw [if_pos (by omega), if_pos c, hr1 _ (by omega), if_pos (by omega), show s 4 - 1 - (s 4 - m - 1 - k) = k + m by omega]
    · rw [if_neg (by omega), if_neg c, hr1 _ (by omega), if_pos (by omega)]
  · rw [sTn_o h4 (by omega)] at hk
    rw [sTn_m hk (by omega), sTn_o h4 (by omega)]
    exact hr.2.2 _ (sro_l hk)
theorem r_tn1 {m k N : Nat} {v : Int32} {K : Int32 → Int32 → Int32 → ev_I → Option (Int32 × ev_I)} (hm : m ≤ N) (hN : N ≤ 200) (hk : k < N) : ∀ (e d n : Nat) (I : ev_I), d + e = 5 → e < n → ∃ J, lX10_turn_69 q K n (nI m) v (nI k) (nI (srt N m k)) (nI d) (M q I s) = K (nI m) v (nI (k + 1)) (M q J s) ∧ (∀ a j, ¬ (a = q + 4 ∧ 5 * srt N m k + d ≤ j ∧ j < 5 * srt N m k + 5) → J a j = I a j) ∧ ∀ d', d ≤ d' → d' < 5 → J (q + 4) (5 * srt N m k + d') = nI (s (816 + 5 * k + d')) := by
  have hl : srt N m k < N := by unfold srt; split <;> omega
  intro e
  induction e with
  | zero =>
    intro d n I hd hn
    obtain ⟨n, rfl⟩ : ∃ k, n = k + 1 := ⟨n - 1, by omega⟩
    refine ⟨I, ?_, fun _ _ _ => rfl, fun d' h1 h2 => by omega⟩
    show cX10_turn_69 q K _ n _ _ _ _ _ _ = _
    unfold cX10_turn_69
    simp (disch := omega) only [li, nI_leI, nI_add, lt_b]
    rw [if_pos (by omega)]
  | succ e ih =>
    intro d n I hd hn
    obtain ⟨n, rfl⟩ : ∃ k, n = k + 1 := ⟨n - 1, by omega⟩
    obtain ⟨J, e1, e2, e3⟩ := ih (d + 1) n (ev_u2 I (q + 4) (5 * srt N m k + d) (nI (s (816 + 5 * k + d)))) (by omega) (by omega)
    refine ⟨J, ?_, fun a j ha => ?_, fun d' h1 h2 => ?_⟩
    · show cX10_turn_69 q K _ n _ _ _ _ _ _ = _
      unfold cX10_turn_69
      simp (disch := omega) only [li, nI_leI, nI_add, pk_mul, lt_b, ck_in, nI_clamp, M_get]
      rw [if_neg (by omega), M_pd (by omega)]
      exact e1
    · rw [e2 a j (by omega)]
      unfold ev_u2
      rw [if_neg (by omega)]
    · by_cases c : d' = d
      · rw [c, e2 _ _ (by omega)]
        unfold ev_u2
        rw [if_pos ⟨rfl, rfl⟩]
      · exact e3 d' (by omega) h2
theorem r_tn3 (hs : okS s) {m : Nat} {x : Int32} (hm : m ≤ s 4) {J : ev_I} (hJ : ∀ i d, i < s 4 → d < 5 → J (q + 4) (5 * i + d) = nI (s (816 + 5 * sro (s 4) m i + d))) : ∀ (e j n : Nat), j + e = 5 * s 4 → e < n → lX10_turn_116 q n (nI m) (nI (s 4 - m)) (nI j) (M q J (fun x => if 816 ≤ x ∧ x < 816 + j then sTn s m x else s x)) = some (1, M q J (sTn s m)) := by
  have h4 := hs.2.2.1.2.2.1
  intro e
  induction e with
  | zero =>
    intro j n hj hn
    obtain ⟨n, rfl⟩ : ∃ k, n = k + 1 := ⟨n - 1, by omega⟩
    show cX10_turn_116 q _ n _ _ _ _ = _
    unfold cX10_turn_116
    simp (disch := omega) only [li, nI_leI, nI_add, pk_mul]
    rw [if_pos (by omega)]
    congr 3
    funext x
    by_cases c : 816 ≤ x ∧ x < 816 + j
    · rw [if_pos c]
    · rw [if_neg c]
      unfold sTn
      rw [if_neg (by omega)]
  | succ e ih =>
    intro j n hj hn
    obtain ⟨n, rfl⟩ : ∃ k, n = k + 1 := ⟨n - 1, by omega⟩
    show cX10_turn_116 q _ n _ _ _ _ = _
    unfold cX10_turn_116
    simp (disch := omega) only [li, nI_leI, nI_add, pk_mul, ck_in, nI_clamp, lt_b]
    rw [if_neg (by omega), M_oth (by omega)]
    have hv := hJ (j / 5) (j % 5) (by omega) (by omega)
    rw [show 5 * (j / 5) + j % 5 = j by omega] at hv
    have ht : sTn s m (816 + j) = s (816 + 5 * sro (s 4) m (j / 5) + j % 5) := by
      have := sTn_m (s := s) (m := m) (i := j / 5) (d := j % 5) (by omega) (by omega)
      rw [show 816 + 5 * (j / 5) + j % 5 = 816 + j by omega] at this
      exact this
    rw [hv, ← ht, M_put]
    have := ih (j + 1) n (by omega) (by omega)
    refine Eq.trans ?_ this
    congr 2
    funext x
    unfold up
    by_cases c : x = 816 + j
    · rw [if_pos c, if_pos (by omega), c]
    · rw [if_neg c]
      show (if 816 ≤ x ∧ x < 816 + j then sTn s m x else s x) = _
      by_cases c2 : 816 ≤ x ∧ x < 816 + j
      · rw [if_pos c2, if_pos (by omega)]
      · rw [if_neg c2, if_neg (by omega)]
theorem r_tn2 (hs : okS s) {m : Nat} (hm : m ≤ s 4) : ∀ (e k n : Nat) (I : ev_I), k + e = s 4 → e + 1100 < n → (∀ k', k' < k → ∀ d, d < 5 → I (q + 4) (5 * srt (s 4) m k' + d) = nI (s (816 + 5 * k' + d))) → ∃ J, lX10_turn_33 q n (nI m) (nI (s 4 - m)) (nI k) (M q I s) = some (1, M q J (sTn s m)) ∧ Sc q I J := by
  have h4 := hs.2.2.1.2.2.1
  intro e
  induction e with
  | zero =>
    intro k n I hk hn hI
    obtain ⟨n, rfl⟩ : ∃ k, n = k + 1 := ⟨n - 1, by omega⟩
    refine ⟨I, ?_, Sc_r⟩
    show cX10_turn_33 q _ n _ _ _ _ = _
    unfold cX10_turn_33
    rw [show (4 : Int32).toNatClampNeg = 4 from rfl, M_get, if_pos (nI_le (by omega) (by omega))]
    have hJ : ∀ i d, i < s 4 → d < 5 → I (q + 4) (5 * i + d) = nI (s (816 + 5 * sro (s 4) m i + d)) := fun i d hi hd => by
      have := hI (sro (s 4) m i) (by have := sro_l (m := m) hi; omega) d hd
      rw [← this]
      congr 1
      unfold srt sro
      split <;> split <;> omega
    have := r_tn3 (q := q) hs (x := 0) hm hJ (5 * s 4) 0 n (by omega) (by omega)
    rw [show (fun x => if 816 ≤ x ∧ x < 816 + 0 then sTn s m x else s x) = s from funext (fun x => if_neg (by omega))] at this
    exact this
  | succ e ih =>
    intro k n I hk hn hI
    obtain ⟨n, rfl⟩ : ∃ k, n = k + 1 := ⟨n - 1, by omega⟩
    obtain ⟨J1, e1, e2, e3⟩ := r_tn1 (q := q) (s := s) (N := s 4) (v := nI (s 4 - m)) (K := lX10_turn_33 q n) hm h4 (k := k) (by omega) 5 0 n I (by omega) (by omega)
    obtain ⟨J, e4, e5⟩ := ih (k + 1) n J1 (by omega) (by omega) (fun k' hk' d hd => by
      by_cases c : k' = k
      · rw [c]; exact e3 d (by omega) hd
      · rw [e2 _ _ (by
          have : srt (s 4) m k' ≠ srt (s 4) m k := by unfold srt; split <;> split <;> omega
          omega)]
        exact hI k' (by omega) d hd)
    refine ⟨J, ?_, Sc_t (fun a j ha => e2 a j (by omega)) e5⟩
    show cX10_turn_33 q _ n _ _ _ _ = _
    unfold cX10_turn_33 cX10_turn_64
    rw [show (4 : Int32).toNatClampNeg = 4 from rfl, M_get, if_neg (nI_ge (by omega) (by omega))]
    rw [e4] at e1
    rw [← e1]
    simp (disch := omega) only [li, nI_leI]
    unfold srt
    by_cases c : m ≤ k
    · rw [if_pos c, if_neg (by omega), pk_sub c]
    · rw [if_neg c, if_pos (by omega), pk_sub (by omega), pk_sub (by omega)]
theorem pa_turn (hs : okS s) (hr : okR s h r) {x : Int32} (hn : 1500 ≤ n) : PAt (fun z => pX9_turn n z x) (fun q => pX10_turn n q x) s h r := by
  have h4 := hs.2.2.1.2.2.1
  by_cases c : inb x (nI 0) (nI (s 4)) = true
  · obtain ⟨m, -, hm, rfl⟩ := inb_e c (by omega) (by omega)
    refine ⟨1, sTn s m, ok_tn hs, sTn_o h4 (by omega), fun I z => ?_, fun I q hI => ?_⟩
    · obtain ⟨r', e, hr'⟩ := c_turn (n := n) (w := z + 1) (I := I) hs hr hm (by omega)
      refine ⟨h, r', ?_, hr'⟩
      show pX9_turn n z _ _ = _
      unfold pX9_turn
      rw [e, bn_s]
      rfl
    · obtain ⟨J, e, hJ⟩ := r_tn2 (q := q) hs hm (s 4) 0 n I (by omega) (by omega) (fun k' hk' => by omega)
      refine ⟨J, ?_, hJ⟩
      show pX10_turn n q _ _ = _
      unfold pX10_turn
      rw [Mt hI, lt_b, show (4 : Int32).toNatClampNeg = 4 from rfl, M_get, r_inb, bn_s, if_b, if_pos (show inb (nI m) (0 : Int32) (nI (s 4)) = true from c), lt_b, pk_sub hm]
      exact e
  · refine PA_0 (ans := 0) hs hr (fun I z => ?_) (fun I q hI => ⟨I, ?_, Sc_r⟩)
    · show pX9_turn n z _ _ = _
      unfold pX9_turn pX4_turnFirst
      rw [cg_nc]
      rcases inb_f c (by omega) (by omega) with e | ⟨j, hj, hj2, rfl⟩
      · rw [if_pos e]; rfl
      · rw [if_neg (nI_pos (by omega)), if_neg (nI_ge (by omega) (by omega))]; rfl
    · show pX10_turn n q _ _ = _
      unfold pX10_turn
      rw [Mt hI, lt_b, show (4 : Int32).toNatClampNeg = 4 from rfl, M_get, r_inb, bn_s, if_b, if_neg (show ¬ inb x (0 : Int32) (nI (s 4)) = true from c)]
end F4
