/-! BLOCKS THAT COME TO A NODE, both sides -/
theorem fb_holes : ∀ (m n : Nat) (f : Nat → Nat), (∀ i, i < n → f i < m) → (∀ i j, i < j → j < n → f i ≠ f j) → n ≤ m := by
  intro m
  induction m with
  | zero =>
    intro n f h1 _
    rcases Nat.eq_zero_or_pos n with h | h
    · omega
    · exact absurd (h1 0 h) (Nat.not_lt_zero _)
  | succ m ih =>
    intro n f h1 h2
    by_cases hx : ∃ i, i < n ∧ f i = m
    · obtain ⟨a, ha, hfa⟩ := hx
      have hg := ih (n - 1) (fun i => if i < a then f i else f (i + 1)) (by
        intro i hi
        by_cases q : i < a
        · simp only [if_pos q]
          have b1 := h1 i (by omega)
          have b2 := h2 i a q ha
          omega
        · simp only [if_neg q]
          have b1 := h1 (i + 1) (by omega)
          have b2 := h2 a (i + 1) (by omega) (by omega)
          omega) (by
        intro i j hij hj
        by_cases q : i < a
        · by_cases r : j < a
          · simp only [if_pos q, if_pos r]
            exact h2 i j hij (by omega)
          · simp only [if_pos q, if_neg r]
            exact h2 i (j + 1) (by omega) (by omega)
        · have r : ¬ j < a := by omega
          simp only [if_neg q, if_neg r]
          exact h2 (i + 1) (j + 1) (by omega) (by omega))
      omega
    · have hg := ih n f (fun i hi => by
        have b1 := h1 i hi
        have b2 : f i ≠ m := fun e => hx ⟨i, hi, e⟩
        omega) h2
      omega
/-- the first other block of b's view that was given; whether b was given -/
def rv (s : Nat → Nat) (k b : Nat) : Nat → Nat → Option Nat
  | _, 0 => none
  | i, m + 1 => if s (2416 + 513 * k + 112 + i) ≠ b ∧ s (16 + s (2416 + 513 * k + 112 + i)) = s (16 + b) then some (s (2416 + 513 * k + 112 + i)) else rv s k b (i + 1) m
def ing (s : Nat → Nat) (k b : Nat) : Nat → Nat → Bool
  | _, 0 => false
  | i, m + 1 => s (2416 + 513 * k + 112 + i) == b || ing s k b (i + 1) m
def sRv (s : Nat → Nat) (k b : Nat) (o : Option Nat) : Nat → Nat := match o with
  | some x => sAcc s 1 (s (416 + b) - 1) k x b
  | none => s
def sApp (s : Nat → Nat) (k b : Nat) : Nat → Nat := up (up s (2416 + 513 * k + 112 + s (2416 + 513 * k + 10)) b) (2416 + 513 * k + 10) (s (2416 + 513 * k + 10) + 1)
def sGive (s : Nat → Nat) (k b : Nat) : Nat → Nat := if ing s k b 0 (s (2416 + 513 * k + 10)) = true then sRv s k b (rv s k b 0 (s (2416 + 513 * k + 10))) else sApp (sRv s k b (rv s k b 0 (s (2416 + 513 * k + 10)))) k b
theorem sRv_o {s : Nat → Nat} (h7 : s 7 ≤ 60) {k b j : Nat} {o : Option Nat} (h : j < 7 ∨ (7 < j ∧ j < 1816) ∨ 2116 ≤ j) : sRv s k b o j = s j := by
  cases o with
  | none => rfl
  | some x => exact sAcc_o h h7
theorem sGive_o {s : Nat → Nat} (h7 : s 7 ≤ 60) {k b j : Nat} (hg : s (2416 + 513 * k + 10) ≤ 99) (h : j < 7 ∨ (7 < j ∧ j < 1816) ∨ (2116 ≤ j ∧ (j < 2416 + 513 * k + 10 ∨ (2416 + 513 * k + 10 < j ∧ j < 2416 + 513 * k + 112) ∨ 2416 + 513 * k + 212 ≤ j))) : sGive s k b j = s j := by
  unfold sGive
  split
  · exact sRv_o h7 (by omega)
  · unfold sApp
    rw [sRv_o h7 (show _ from Or.inr (Or.inr (show 2116 ≤ 2416 + 513 * k + 10 by omega))), up_o (by omega), up_o (by omega), sRv_o h7 (by omega)]
theorem ing_c {s t : Nat → Nat} {k b : Nat} : ∀ (m i : Nat), (∀ j, i ≤ j → j < i + m → t (2416 + 513 * k + 112 + j) = s (2416 + 513 * k + 112 + j)) → ing t k b i m = ing s k b i m
  | 0, i, _ => rfl
  | m + 1, i, h => by
    show (t (2416 + 513 * k + 112 + i) == b || ing t k b (i + 1) m) = (s (2416 + 513 * k + 112 + i) == b || ing s k b (i + 1) m)
    rw [h i (by omega) (by omega), ing_c m (i + 1) (fun j h1 h2 => h j (by omega) (by omega))]
theorem ing_f {s : Nat → Nat} {k b : Nat} : ∀ (m i : Nat), ing s k b i m = false → ∀ j, i ≤ j → j < i + m → s (2416 + 513 * k + 112 + j) ≠ b
  | 0, i, _, j, h1, h2 => by omega
  | m + 1, i, h, j, h1, h2 => by
    have h' : (s (2416 + 513 * k + 112 + i) == b || ing s k b (i + 1) m) = false := h
    rw [Bool.or_eq_false_iff] at h'
    by_cases hj : j = i
    · subst hj
      intro e
      rw [e] at h'
      simp at h'
    · exact ing_f m (i + 1) h'.2 j (by omega) (by omega)
theorem rv_ok {s : Nat → Nat} {k b : Nat} (hG : okG s k) : ∀ (m i x : Nat), i + m = s (2416 + 513 * k + 10) → rv s k b i m = some x → 1 ≤ x ∧ x ≤ s 3
  | 0, i, x, hi, h => by cases h
  | m + 1, i, x, hi, h => by
    have h' : (if s (2416 + 513 * k + 112 + i) ≠ b ∧ s (16 + s (2416 + 513 * k + 112 + i)) = s (16 + b) then some (s (2416 + 513 * k + 112 + i)) else rv s k b (i + 1) m) = some x := h
    split at h'
    · injection h' with h'
      subst h'
      exact hG.2.1 i (by omega)
    · exact rv_ok hG m (i + 1) x (by omega) h'
theorem ok_rv {s : Nat → Nat} (h : okS s) {k b : Nat} (hk : k < 7) (hb : b ≤ s 3) {o : Option Nat} (ho : ∀ x, o = some x → x ≤ s 3) : okS (sRv s k b o) := by
  have h3 := h.b3
  have := (h.2.1.2.2.2.2.2.1 b hb).2.2.2.1
  cases o with
  | none => exact h
  | some x =>
    have := ho x rfl
    exact ok_acc h (by omega) (by omega) (by omega) (by omega) (by omega)
theorem ok_app {s : Nat → Nat} (h : okS s) {k b : Nat} (hk : k < 7) (h1 : 1 ≤ b) (hb : b ≤ s 3) (hn : ∀ j, j < s (2416 + 513 * k + 10) → s (2416 + 513 * k + 112 + j) ≠ b) : okS (sApp s k b) := by
  obtain ⟨hB, hC, hZ, hN, hM, hE⟩ := h
  have h3 := hB.1
  obtain ⟨g1, g2, g3⟩ := (hN k hk).2.2
  have hlen : s (2416 + 513 * k + 10) + 1 ≤ s 3 := by
    have := fb_holes (s 3) (s (2416 + 513 * k + 10) + 1) (fun i => (if i < s (2416 + 513 * k + 10) then s (2416 + 513 * k + 112 + i) else b) - 1) (fun i hi => by
      show (if i < s (2416 + 513 * k + 10) then s (2416 + 513 * k + 112 + i) else b) - 1 < s 3
      by_cases c : i < s (2416 + 513 * k + 10)
      · rw [if_pos c]; have := g2 i c; omega
      · rw [if_neg c]; omega) (fun i j hij hj => by
      show (if i < s (2416 + 513 * k + 10) then s (2416 + 513 * k + 112 + i) else b) - 1 ≠ (if j < s (2416 + 513 * k + 10) then s (2416 + 513 * k + 112 + j) else b) - 1
      rw [if_pos (show i < s (2416 + 513 * k + 10) by omega)]
      have a1 := g2 i (by omega)
      by_cases c : j < s (2416 + 513 * k + 10)
      · rw [if_pos c]
        have a2 := g2 j c
        have a3 := g3 i j hij c
        omega
      · rw [if_neg c]
        have a2 := hn i (by omega)
        omega)
    exact this
  generalize hg : s (2416 + 513 * k + 10) = g at *
  have e0 : ∀ j, j ≠ 2416 + 513 * k + 112 + g → j ≠ 2416 + 513 * k + 10 → sApp s k b j = s j := fun j a c => by
    unfold sApp
    rw [hg, up_o c, up_o a]
  have eg : sApp s k b (2416 + 513 * k + 10) = g + 1 := by unfold sApp; rw [up_s, hg]
  have eb : sApp s k b (2416 + 513 * k + 112 + g) = b := by unfold sApp; rw [hg, up_o (by omega), up_s]
  generalize sApp s k b = t at *
  have e1 : ∀ j, (j ≤ 3 ∨ 11 ≤ j) → j < 816 → t j = s j := fun j _ h2 => e0 j (by omega) (by omega)
  have e3 : t 3 = s 3 := e0 3 (by omega) (by omega)
  refine ⟨okB_d hB e1, okC_c hC h3 e1, ⟨by rw [e0 0 (by omega) (by omega)]; exact hZ.1, by rw [e0 1 (by omega) (by omega)]; exact hZ.2.1, by rw [e0 4 (by omega) (by omega)]; exact hZ.2.2.1, by rw [e0 8 (by omega) (by omega)]; exact hZ.2.2.2⟩, ?_, okM_c hM hZ.2.2.1 e3 (e0 4 (by omega) (by omega)) (fun j _ _ => e0 j (by omega) (by omega)), okE_c hE (e0 7 (by omega) (by omega)) (fun j _ _ => e0 j (by omega) (by omega))⟩
  intro i hi
  obtain ⟨⟨f1, f2, f3, f4, f5, f6, f7, f8, f9, f10, f11⟩, ⟨m1, m2, m3⟩, ⟨g1', g2', g3'⟩⟩ := hN i hi
  refine ⟨⟨?_, ?_, ?_, ?_, ?_, ?_, ?_, ?_, ?_, fun b hb => ?_, fun u hu => ?_⟩, ⟨?_, fun j hj => ?_, fun j hj => ?_⟩, ?_⟩
  · rw [e0 _ (by omega) (by omega)]; exact f1
  · rw [e0 _ (by omega) (by omega)]; exact f2
  · rw [e0 _ (by omega) (by omega)]; exact f3
  · rw [e0 _ (by omega) (by omega)]; exact f4
  · rw [e0 _ (by omega) (by omega)]; exact f5
  · rw [e0 _ (by omega) (by omega), e3]; exact f6
  · rw [e0 _ (by omega) (by omega), e3]; exact f7
  · rw [e0 _ (by omega) (by omega)]; exact f8
  · rw [e0 _ (by omega) (by omega)]; exact f9
  · rw [e0 _ (by omega) (by omega)]; exact f10 b hb
  · rw [e0 _ (by omega) (by omega)]; exact f11 u hu
  · rw [e0 _ (by omega) (by omega), e3]; exact m1
  · rw [e0 (2416 + 513 * i + 8) (by omega) (by omega)] at hj
    obtain ⟨a, c⟩ := m2 j hj
    rw [e0 (2416 + 513 * i + 12 + j) (by omega) (by omega), e3, e0 (516 + _) (by omega) (by omega)]
    exact ⟨a, c⟩
  · rw [e0 (2416 + 513 * i + 8) (by omega) (by omega)] at hj
    have a := (m2 (j + 1) (by omega)).1
    rw [e0 (2416 + 513 * i + 12 + (j + 1)) (by omega) (by omega), e0 (2416 + 513 * i + 12 + j) (by omega) (by omega), e0 (116 + _) (by omega) (by omega)]
    exact m3 j hj
  · by_cases hik : i = k
    · subst hik
      refine ⟨by rw [eg, e3]; exact hlen, fun j hj => ?_, fun a j haj hj => ?_⟩
      · rw [eg] at hj
        rw [e3]
        by_cases hjg : j = g
        · subst hjg; rw [eb]; exact ⟨h1, hb⟩
        · rw [e0 _ (by omega) (by omega)]; exact g2 j (by omega)
      · rw [eg] at hj
        by_cases hjg : j = g
        · subst hjg; rw [eb, e0 _ (by omega) (by omega)]; exact hn a (by omega)
        · rw [e0 _ (by omega) (by omega), e0 _ (by omega) (by omega)]; exact g3 a j haj (by omega)
    · refine ⟨by rw [e0 _ (by omega) (by omega), e3]; exact g1', fun j hj => ?_, fun a j haj hj => ?_⟩
      · rw [e0 (2416 + 513 * i + 10) (by omega) (by omega)] at hj
        rw [e0 (2416 + 513 * i + 112 + j) (by omega) (by omega), e3]
        exact g2' j hj
      · rw [e0 (2416 + 513 * i + 10) (by omega) (by omega)] at hj
        rw [e0 (2416 + 513 * i + 112 + j) (by omega) (by omega), e0 (2416 + 513 * i + 112 + a) (by omega) (by omega)]
        exact g3' a j haj hj
theorem ok_give {s : Nat → Nat} (h : okS s) {k b : Nat} (hk : k < 7) (h1 : 1 ≤ b) (hb : b ≤ s 3) : okS (sGive s k b) := by
  have hG := (h.2.2.2.1 k hk).2.2
  have h7 := h.2.2.2.2.2.1
  have hr := ok_rv h hk hb (o := rv s k b 0 (s (2416 + 513 * k + 10))) (fun x hx => (rv_ok hG _ 0 x (by omega) hx).2)
  unfold sGive
  split
  · exact hr
  · rename_i c
    have c := eq_false_of_ne_true c
    have e := fun j hj => sRv_o h7 (k := k) (b := b) (j := j) (o := rv s k b 0 (s (2416 + 513 * k + 10))) hj
    refine ok_app hr hk h1 (by rw [e 3 (by omega)]; exact hb) (fun j hj => ?_)
    rw [e (2416 + 513 * k + 10) (by omega)] at hj
    rw [e (2416 + 513 * k + 112 + j) (by omega)]
    exact ing_f _ 0 c j (by omega) (by omega)
section Gv
variable {n q w : Nat} {I : ev_I} {s : Nat → Nat} {h : Nat} {r : Nat → Int32}
theorem r_giveL {k b : Nat} (hk : k < 7) : ∀ (m i g a n : Nat) (s : Nat → Nat), okS s → 1 ≤ b → b ≤ s 3 → g < 2 → a < 2 → i + m = s (2416 + 513 * k + 10) → m + 62 < n →
    lX10_givesBlock_15 q n (nI k) (nI b) (nI (2416 + 513 * k)) (nI g) (nI a) (nI i) (M q I s) = some (M q I (if g = 1 ∨ ing s k b i m = true then (if a = 1 then s else sRv s k b (rv s k b i m)) else sApp (if a = 1 then s else sRv s k b (rv s k b i m)) k b)) := by
  intro m
  induction m with
  | zero =>
    intro i g a n s hs h1 hb hg ha hi hn
    obtain ⟨n, rfl⟩ : ∃ k, n = k + 1 := ⟨n - 1, by omega⟩
    have h3 := hs.b3
    have hG := (hs.2.2.2.1 k hk).2.2.1
    show cX10_givesBlock_15 q _ n _ _ _ _ _ _ _ = _
    simp (disch := omega) only [cX10_givesBlock_15, li, nI_add, ck_in, nI_clamp, M_get, nI_leI, lt_b, M_put, up_o, nI_eq]
    rw [if_pos (by omega)]
    have e : (if a = 1 then s else sRv s k b (rv s k b i 0)) = s := by split <;> rfl
    rw [e]
    have e2 : ing s k b i 0 = false := rfl
    by_cases g0 : g = 0
    · rw [if_pos g0, if_neg (by rw [e2]; simp; omega)]; rfl
    · rw [if_neg g0, if_pos (by omega)]
  | succ m ih =>
    intro i g a n s hs h1 hb hg ha hi hn
    obtain ⟨n, rfl⟩ : ∃ k, n = k + 1 := ⟨n - 1, by omega⟩
    have h3 := hs.b3
    have h7 := hs.2.2.2.2.2.1
    have hG := (hs.2.2.2.1 k hk).2.2
    obtain ⟨o1, o2⟩ := hG.2.1 i (by omega)
    have hg1 := hG.1
    have v1 := hs.view o2
    have v2 := hs.view hb
    have by1 := (hs.2.1.2.2.2.2.2.1 b hb).2.2.2.1
    have by2 := (hs.2.1.2.2.2.2.2.2 b h1 hb).2.1
    have hr1 := fun g a hg ha => ih (i + 1) g a n s hs h1 hb hg ha (by omega) (by omega)
    have hacc := r_accuses (n := n) (q := q) (I := I) (s := s) hs.2.2.2.2.2 (c := 1) (d := s (416 + b) - 1) (e := k) (f := s (2416 + 513 * k + 112 + i)) (g := b) (by omega) (by omega) (by omega) (by omega) (by omega) (by omega)
    have hsA := ok_acc hs (c := 1) (d := s (416 + b) - 1) (e := k) (f := s (2416 + 513 * k + 112 + i)) (g := b) (by omega) (by omega) (by omega) (by omega) (by omega)
    have eA := fun j hj => sAcc_o (s := s) (c := 1) (d := s (416 + b) - 1) (e := k) (f := s (2416 + 513 * k + 112 + i)) (g := b) (j := j) hj h7
    have hr2 := fun g hg => ih (i + 1) g 1 n (sAcc s 1 (s (416 + b) - 1) k (s (2416 + 513 * k + 112 + i)) b) hsA h1 (by rw [eA 3 (by omega)]; exact hb) hg (by omega) (by rw [eA _ (by omega)]; omega) (by omega)
    have ei : ing (sAcc s 1 (s (416 + b) - 1) k (s (2416 + 513 * k + 112 + i)) b) k b (i + 1) m = ing s k b (i + 1) m := ing_c m (i + 1) (fun j _ _ => eA _ (by omega))
    simp only [ei, if_true] at hr2
    show cX10_givesBlock_15 q _ n _ _ _ _ _ _ _ = _
    simp (disch := omega) only [cX10_givesBlock_15, cX10_givesBlock_52, cX10_givesBlock_112, li, nI_add, ck_in, nI_clamp, M_get, nI_leI, lt_b, nI_eq, pk_sub, hacc, bn_s, hr1, hr2]
    rw [if_neg (by omega)]
    show _ = some (M q I (if g = 1 ∨ (s (2416 + 513 * k + 112 + i) == b || ing s k b (i + 1) m) = true then (if a = 1 then s else sRv s k b (if s (2416 + 513 * k + 112 + i) ≠ b ∧ s (16 + s (2416 + 513 * k + 112 + i)) = s (16 + b) then some (s (2416 + 513 * k + 112 + i)) else rv s k b (i + 1) m)) else sApp (if a = 1 then s else sRv s k b (if s (2416 + 513 * k + 112 + i) ≠ b ∧ s (16 + s (2416 + 513 * k + 112 + i)) = s (16 + b) then some (s (2416 + 513 * k + 112 + i)) else rv s k b (i + 1) m)) k b))
    by_cases c1 : s (2416 + 513 * k + 112 + i) = b
    · simp [c1]
    · by_cases c2 : a = 0
      · by_cases c3 : s (16 + s (2416 + 513 * k + 112 + i)) = s (16 + b)
        · simp [c1, c2, c3, sRv]
        · simp [c1, c2, c3]
      · have c2' : a = 1 := by omega
        simp [c1, c2']
theorem r_give (hs : okS s) {k b : Nat} (hk : k < 7) (h1 : 1 ≤ b) (hb : b ≤ s 3) (hn : 200 ≤ n) : pX10_givesBlock n q (nI k) (nI b) (M q I s) = some (M q I (sGive s k b)) := by
  have hG := (hs.2.2.2.1 k hk).2.2.1
  have h3 := hs.b3
  have := r_giveL (q := q) (I := I) (b := b) hk (s (2416 + 513 * k + 10)) 0 0 0 n s hs h1 hb (by omega) (by omega) (by omega) (by omega)
  unfold pX10_givesBlock
  rw [r_nodeAt, bn_s]
  refine this.trans ?_
  unfold sGive
  simp
theorem c_rivalL (hs : okS s) {k b : Nat} (hk : k < 7) (hb : b ≤ s 3) : ∀ (m i n : Nat), i + m = s (2416 + 513 * k + 10) → m < n → lX3_seenRival_2 (w + (23 + 5 * k)) (w + 1) n (nI b) (nI i) (C w I s h r) = some (match rv s k b i m with | some x => nI x | none => -1) := by
  have h3 := hs.b3
  have hG := (hs.2.2.2.1 k hk).2.2
  have hg1 := hG.1
  have v2 := hs.view hb
  intro m
  induction m with
  | zero =>
    intro i n hi hn
    obtain ⟨n, rfl⟩ : ∃ k, n = k + 1 := ⟨n - 1, by omega⟩
    show cX3_seenRival_2 _ _ _ n _ _ _ = _
    simp (disch := omega) only [cX3_seenRival_2, cg_seenn, nI_leI]
    rw [if_pos (by omega)]
    rfl
  | succ m ih =>
    intro i n hi hn
    obtain ⟨n, rfl⟩ : ∃ k, n = k + 1 := ⟨n - 1, by omega⟩
    obtain ⟨o1, o2⟩ := hG.2.1 i (by omega)
    have v1 := hs.view o2
    have hr := ih (i + 1) n (by omega) (by omega)
    show cX3_seenRival_2 _ _ _ n _ _ _ = _
    simp (disch := omega) only [cX3_seenRival_2, cX3_seenRival_47, cg_seenn, nI_leI, ck_in, nI_clamp, cg_seen, nI_eq, cg_view, lt_b, li, nI_add, hr]
    rw [if_neg (by omega)]
    show _ = some (match (if s (2416 + 513 * k + 112 + i) ≠ b ∧ s (16 + s (2416 + 513 * k + 112 + i)) = s (16 + b) then some (s (2416 + 513 * k + 112 + i)) else rv s k b (i + 1) m) with | some x => nI x | none => -1)
    by_cases c1 : s (2416 + 513 * k + 112 + i) = b
    · rw [if_pos c1, if_neg (by omega)]; rfl
    · rw [if_neg c1]
      by_cases c2 : s (16 + s (2416 + 513 * k + 112 + i)) = s (16 + b)
      · rw [if_pos c2, if_pos ⟨c1, c2⟩]
      · rw [if_neg c2, if_neg (fun q => c2 q.2)]; rfl
theorem c_seeL (hs : okS s) {k b : Nat} (hk : k < 7) (hb : b ≤ s 3) : ∀ (m i n : Nat), i + m = s (2416 + 513 * k + 10) → m < n → lX3_see_2 (w + (23 + 5 * k)) n (nI b) (nI i) (C w I s h r) = some (C w I (if ing s k b i m = true then s else sApp s k b) h r) := by
  have h3 := hs.b3
  have hG := (hs.2.2.2.1 k hk).2.2
  have hg1 := hG.1
  intro m
  induction m with
  | zero =>
    intro i n hi hn
    obtain ⟨n, rfl⟩ : ∃ k, n = k + 1 := ⟨n - 1, by omega⟩
    show cX3_see_2 _ _ n _ _ _ = _
    simp (disch := omega) only [cX3_see_2, cg_seenn, nI_leI, li, ck_in, nI_clamp, cp_seen, lt_b, up_o, nI_add, cp_seenn]
    rw [if_pos (by omega), if_neg (by omega)]
    rfl
  | succ m ih =>
    intro i n hi hn
    obtain ⟨n, rfl⟩ : ∃ k, n = k + 1 := ⟨n - 1, by omega⟩
    obtain ⟨o1, o2⟩ := hG.2.1 i (by omega)
    have hr := ih (i + 1) n (by omega) (by omega)
    show cX3_see_2 _ _ n _ _ _ = _
    simp (disch := omega) only [cX3_see_2, cg_seenn, nI_leI, li, ck_in, nI_clamp, cg_seen, lt_b, nI_add, nI_eq, hr]
    rw [if_neg (by omega)]
    show _ = some (C w I (if (s (2416 + 513 * k + 112 + i) == b || ing s k b (i + 1) m) = true then s else sApp s k b) h r)
    by_cases c1 : s (2416 + 513 * k + 112 + i) = b
    · simp [c1]
    · simp [c1]
theorem c_give (hs : okS s) {k b : Nat} (hk : k < 7) (h1 : 1 ≤ b) (hb : b ≤ s 3) (hn : 200 ≤ n) {β : Type} (f : ev_I → Option β) : ((pX3_seenRival n (w + (23 + 5 * k)) (w + 1) (nI b) (C w I s h r)).bind fun z3 => (pX8_accuse n w (1 : Int32) (nI (s (416 + b) - 1)) (nI k) z3 (nI b) (C w I s h r)).bind fun z4 => (pX3_see n (w + (23 + 5 * k)) (nI b) z4).bind f) = f (C w I (sGive s k b) h r) := by
  have h3 := hs.b3
  have h7 := hs.2.2.2.2.2.1
  have hG := (hs.2.2.2.1 k hk).2.2
  have hg1 := hG.1
  have by1 := (hs.2.1.2.2.2.2.2.1 b hb).2.2.2.1
  have e1 := c_rivalL (w := w) (I := I) (h := h) (r := r) (b := b) hs hk hb (s (2416 + 513 * k + 10)) 0 n (by omega) (by omega)
  unfold pX3_seenRival pX3_see
  rw [show (0 : Int32) = nI 0 from rfl, e1, bn_s]
  have ho : ∀ x, rv s k b 0 (s (2416 + 513 * k + 10)) = some x → x ≤ s 3 := fun x hx => (rv_ok hG _ 0 x (by omega) hx).2
  have hR := ok_rv hs hk hb ho
  have eR := fun j hj => sRv_o h7 (k := k) (b := b) (j := j) (o := rv s k b 0 (s (2416 + 513 * k + 10))) hj
  have e2 : pX8_accuse n w (1 : Int32) (nI (s (416 + b) - 1)) (nI k) (match rv s k b 0 (s (2416 + 513 * k + 10)) with | some x => nI x | none => -1) (nI b) (C w I s h r) = some (C w I (sRv s k b (rv s k b 0 (s (2416 + 513 * k + 10)))) h r) := by
    cases hx : rv s k b 0 (s (2416 + 513 * k + 10)) with
    | none => exact c_accN
    | some x =>
      have := ho x hx
      exact c_acc (c := 1) hs.2.2.2.2.2 (by omega) (by omega) (by omega) (by omega) (by omega) (by omega)
  rw [e2, bn_s]
  have e3 := c_seeL (w := w) (I := I) (h := h) (r := r) (b := b) hR hk (by rw [eR 3 (by omega)]; exact hb) (s (2416 + 513 * k + 10)) 0 n (by rw [eR _ (by omega)]; omega) (by omega)
  rw [e3, bn_s, ing_c _ 0 (fun j _ _ => eR _ (by omega))]
  unfold sGive
  rfl
end Gv
