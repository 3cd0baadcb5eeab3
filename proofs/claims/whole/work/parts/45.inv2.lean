/-! THE INVARIANT: fields of nodes, commits, learning -/
theorem ok_nd {s : Nat → Nat} (h : okS s) {k d v : Nat} (hk : k < 7) (hd : d = 0 ∧ v ≤ 2 ∨ d = 1 ∧ v ≤ 200 ∨ (d = 2 ∨ d = 3 ∨ d = 4) ∧ v ≤ 201 ∨ (d = 5 ∨ d = 6) ∧ v ≤ s 3 ∨ d = 7 ∧ v ≤ 200 ∨ d = 9 ∨ d = 11 ∧ v < 128 ∨ (212 ≤ d ∧ d ≤ 512 ∧ v < 128)) : okS (up s (2416 + 513 * k + d) v) := by
  obtain ⟨hB, hC, hZ, hN, hM, hE⟩ := h
  have h3 := hB.1
  have hd5 : d ≤ 512 ∧ d ≠ 8 ∧ d ≠ 10 ∧ (d < 12 ∨ 212 ≤ d) := by omega
  have e0 : ∀ j, j < 2416 → up s (2416 + 513 * k + d) v j = s j := fun j hj => up_o (by omega)
  have e1 : ∀ j, (j ≤ 3 ∨ 11 ≤ j) → j < 816 → up s (2416 + 513 * k + d) v j = s j := fun j h1 h2 => e0 j (by omega)
  have e3 := e0 3 (by omega)
  refine ⟨okB_d hB e1, okC_c hC h3 e1, ⟨by rw [e0 0 (by omega)]; exact hZ.1, by rw [e0 1 (by omega)]; exact hZ.2.1, by rw [e0 4 (by omega)]; exact hZ.2.2.1, by rw [e0 8 (by omega)]; exact hZ.2.2.2⟩, ?_, okM_c hM hZ.2.2.1 e3 (e0 4 (by omega)) (fun j h1 h2 => e0 j (by omega)), okE_c hE (e0 7 (by omega)) (fun j h1 h2 => e0 j (by omega))⟩
  intro i hi
  obtain ⟨⟨f1, f2, f3, f4, f5, f6, f7, f8, f9, f10, f11⟩, ⟨l1, l2, l3⟩, ⟨g1, g2, g3⟩⟩ := hN i hi
  have w : ∀ x, x = 8 ∨ x = 10 ∨ (12 ≤ x ∧ x < 212) → up s (2416 + 513 * k + d) v (2416 + 513 * i + x) = s (2416 + 513 * i + x) := fun x hx => up_o (by omega)
  refine ⟨⟨?_, ?_, ?_, ?_, ?_, ?_, ?_, ?_, ?_, fun b hb => ?_, fun u hu => ?_⟩, ⟨?_, fun j hj => ?_, fun j hj => ?_⟩, ⟨?_, fun j hj => ?_, fun a j haj hj => ?_⟩⟩
  · unfold up; split
    · omega
    · exact f1
  · unfold up; split
    · omega
    · exact f2
  · unfold up; split
    · omega
    · exact f3
  · unfold up; split
    · omega
    · exact f4
  · unfold up; split
    · omega
    · exact f5
  · rw [e3]; unfold up; split
    · omega
    · exact f6
  · rw [e3]; unfold up; split
    · omega
    · exact f7
  · unfold up; split
    · omega
    · exact f8
  · unfold up; split
    · omega
    · exact f9
  · unfold up; split
    · omega
    · exact f10 b hb
  · unfold up; split
    · omega
    · exact f11 u hu
  · rw [w 8 (by omega), e3]; exact l1
  · rw [w 8 (by omega)] at hj
    obtain ⟨a, b⟩ := l2 j hj
    have := w (12 + j) (by omega)
    rw [← Nat.add_assoc] at this
    rw [this, e3, e0 (516 + _) (by omega)]
    exact ⟨a, b⟩
  · rw [w 8 (by omega)] at hj
    have a := (l2 (j + 1) (by omega)).1
    have w1 := w (12 + j) (by omega)
    have w2 := w (12 + (j + 1)) (by omega)
    rw [← Nat.add_assoc] at w1 w2
    rw [w2, w1, e0 (116 + _) (by omega)]
    exact l3 j hj
  · rw [w 10 (by omega), e3]; exact g1
  · rw [w 10 (by omega)] at hj
    have w1 := w (112 + j) (by omega)
    rw [← Nat.add_assoc] at w1
    rw [w1, e3]
    exact g2 j hj
  · rw [w 10 (by omega)] at hj
    have w1 := w (112 + j) (by omega)
    have w2 := w (112 + a) (by omega)
    rw [← Nat.add_assoc] at w1 w2
    rw [w1, w2]
    exact g3 a j haj hj
/-- j steps up the chain -/
def pw (s : Nat → Nat) : Nat → Nat → Nat
  | 0, x => x
  | j + 1, x => pw s j (s (116 + x) - 1)
theorem pw_ok {s : Nat → Nat} (hB : okB s) : ∀ (j x : Nat), x ≤ s 3 → j ≤ s (516 + x) → pw s j x ≤ s 3 ∧ s (516 + pw s j x) = s (516 + x) - j
  | 0, x, hx, hj => ⟨hx, rfl⟩
  | j + 1, x, hx, hj => by
    have h1 := hB.pos hx (by omega)
    obtain ⟨a, b, c⟩ := hB.2.2.2 x h1 hx
    obtain ⟨d, e⟩ := pw_ok hB j (s (116 + x) - 1) (by omega) (by omega)
    exact ⟨d, by show s (516 + pw s j (s (116 + x) - 1)) = _; rw [e]; omega⟩
theorem pw_s {s : Nat → Nat} (hB : okB s) : ∀ (j x : Nat), x ≤ s 3 → j + 1 ≤ s (516 + x) → pw s (j + 1) x + 1 = s (116 + pw s j x)
  | 0, x, hx, hj => by
    have h1 := hB.pos hx (by omega)
    obtain ⟨a, b, c⟩ := hB.2.2.2 x h1 hx
    show s (116 + x) - 1 + 1 = s (116 + x)
    omega
  | j + 1, x, hx, hj => by
    have h1 := hB.pos hx (by omega)
    obtain ⟨a, b, c⟩ := hB.2.2.2 x h1 hx
    exact pw_s hB j (s (116 + x) - 1) (by omega) (by omega)
theorem anc_pw {s : Nat → Nat} (hB : okB s) : ∀ (m x h : Nat), x ≤ s 3 → s (516 + x) ≤ m → h ≤ s (516 + x) → anc s m x h = pw s (s (516 + x) - h) x
  | 0, x, h, hx, hm, hh => by
    rw [show s (516 + x) - h = 0 by omega]
    rfl
  | m + 1, x, h, hx, hm, hh => by
    show (if s (516 + x) ≤ h then x else anc s m (s (116 + x) - 1) h) = _
    by_cases c : s (516 + x) ≤ h
    · rw [if_pos c, show s (516 + x) - h = 0 by omega]
      rfl
    · rw [if_neg c]
      have h1 := hB.pos hx (by omega)
      obtain ⟨a, b, d⟩ := hB.2.2.2 x h1 hx
      rw [anc_pw hB m _ h (by omega) (by omega) (by omega), show s (516 + x) - h = (s (516 + (s (116 + x) - 1)) - h) + 1 by omega]
      rfl
theorem ext_pw {s : Nat → Nat} (hB : okB s) {a b : Nat} (ha : a ≤ s 3) (h : ext s a b = true) : pw s (s (516 + a) - s (516 + b)) a = b := by
  have hh := ext_h hB ha h
  have := hB.ht a ha
  have := hB.1
  unfold ext at h
  simp only [beq_iff_eq] at h
  rw [← anc_pw hB 100 a _ ha (by omega) hh]
  exact h
theorem sW_o {b : Nat} (hb : 2416 ≤ b) : ∀ (m x : Nat) (s : Nat → Nat) (j : Nat), j ≤ b ∨ b + m < j → sW s b m x j = s j
  | 0, x, s, j, h => rfl
  | m + 1, x, s, j, h => by
    show sW (up s (b + (m + 1)) x) b m (s (116 + x) - 1) j = _
    rw [sW_o hb m _ _ j (by omega), up_o (by omega)]
theorem sW_g {b : Nat} (hb : 2416 ≤ b) : ∀ (m x : Nat) (s : Nat → Nat), okB s → x ≤ s 3 → m ≤ s (516 + x) → ∀ j, 1 ≤ j → j ≤ m → sW s b m x (b + j) = pw s (m - j) x
  | 0, x, s, hB, hx, hm, j, h1, h2 => by omega
  | m + 1, x, s, hB, hx, hm, j, h1, h2 => by
    have h3 := hB.1
    have hx1 := hB.pos hx (by omega)
    obtain ⟨a1, a2, a3⟩ := hB.2.2.2 x hx1 hx
    have eU : ∀ i, i < 816 → up s (b + (m + 1)) x i = s i := fun i hi => up_o (by omega)
    have hB' := okB_c hB eU
    show sW (up s (b + (m + 1)) x) b m (s (116 + x) - 1) (b + j) = _
    by_cases hj : j = m + 1
    · subst hj
      rw [sW_o hb m _ _ _ (by omega), up_s, Nat.sub_self]
      rfl
    · rw [sW_g hb m _ _ hB' (by rw [eU 3 (by omega)]; omega) (by rw [eU _ (by omega)]; omega) j h1 (by omega)]
      have pc : ∀ (i y : Nat), y ≤ s 3 → i ≤ s (516 + y) → pw (up s (b + (m + 1)) x) i y = pw s i y := by
        intro i
        induction i with
        | zero => intro y _ _; rfl
        | succ i ih =>
          intro y hy hi
          have hy1 := hB.pos hy (by omega)
          obtain ⟨c1, c2, c3⟩ := hB.2.2.2 y hy1 hy
          show pw (up s (b + (m + 1)) x) i (up s (b + (m + 1)) x (116 + y) - 1) = pw s i (s (116 + y) - 1)
          rw [eU (116 + y) (by omega)]
          exact ih _ (by omega) (by omega)
      rw [pc _ _ (by omega) (by omega), show m + 1 - j = (m - j) + 1 by omega]
      rfl
theorem sT2_o {k b : Nat} : ∀ (m i : Nat) (s : Nat → Nat) (j : Nat), (j < 8 ∨ (8 < j ∧ j < 2116) ∨ 2416 ≤ j) → s 8 ≤ 100 → sT2 s k b i m j = s j
  | 0, i, s, j, h, h8 => rfl
  | m + 1, i, s, j, h, h8 => by
    show sT2 (sTell s 3 k (s (b + i))) k b (i + 1) m j = _
    rw [sT2_o m _ _ j h (sTell_8 h8), sTell_o h h8]
theorem ok_T2 {k b : Nat} : ∀ (m i : Nat) (s : Nat → Nat), okS s → okS (sT2 s k b i m)
  | 0, i, s, h => h
  | m + 1, i, s, h => ok_T2 m _ _ (ok_tell h _ _ _)
/-- events don't look at the logs -/
theorem sTell_c {s t : Nat → Nat} {a b c : Nat} (h : s 8 = t 8) (he : ∀ j, 2416 ≤ j ∨ j < 2416 → True) : sTell s a b c 8 = sTell t a b c 8 := by
  unfold sTell
  by_cases h1 : s 8 = 100
  · rw [if_pos h1, if_pos (h ▸ h1)]; exact h
  · rw [if_neg h1, if_neg (h ▸ h1), up_s, up_s, h]
theorem ok_commit {s : Nat → Nat} (h : okS s) {k e : Nat} (hk : k < 7) (he : e ≤ s 3) : okS (sCommit s k e) := by
  have h0 := h
  obtain ⟨hB, hC, hZ, hN, hM, hE⟩ := h
  have h3 := hB.1
  have h8 := hZ.2.2.2
  obtain ⟨-, ⟨l1, l2, l3⟩, -⟩ := hN k hk
  obtain ⟨ll, lh⟩ := l2 _ (Nat.le_refl _)
  unfold sCommit
  split
  · rename_i c1
    have hh := ext_h hB he c1
    have hpw := ext_pw hB he c1
    have qe := hB.ht e he
    generalize hl0 : s (2416 + 513 * k + 12 + s (2416 + 513 * k + 8)) = l at *
    generalize hm0 : s (516 + e) - s (516 + l) = m at *
    -- the log's cells, then its length, then the events
    have hW := sW_g (s := s) (b := 2416 + 513 * k + 12 + s (2416 + 513 * k + 8)) (by omega) m e hB he (by omega)
    have hWo := fun j hj => sW_o (b := 2416 + 513 * k + 12 + s (2416 + 513 * k + 8)) (by omega) m e s j hj
    have key : okS (up (sW s (2416 + 513 * k + 12 + s (2416 + 513 * k + 8)) m e) (2416 + 513 * k + 8) (s (2416 + 513 * k + 8) + m)) := by
      have e0 : ∀ j, (j < 2416 + 513 * k + 8 ∨ (2416 + 513 * k + 8 < j ∧ j ≤ 2416 + 513 * k + 12 + s (2416 + 513 * k + 8)) ∨ 2416 + 513 * k + 12 + s (2416 + 513 * k + 8) + m < j) → up (sW s (2416 + 513 * k + 12 + s (2416 + 513 * k + 8)) m e) (2416 + 513 * k + 8) (s (2416 + 513 * k + 8) + m) j = s j := fun j hj => by
        rw [up_o (by omega), hWo j (by omega)]
      have eg : ∀ j, 1 ≤ j → j ≤ m → up (sW s (2416 + 513 * k + 12 + s (2416 + 513 * k + 8)) m e) (2416 + 513 * k + 8) (s (2416 + 513 * k + 8) + m) (2416 + 513 * k + 12 + s (2416 + 513 * k + 8) + j) = pw s (m - j) e := fun j h1 h2 => by
        rw [up_o (by omega)]; exact hW j h1 h2
      have el : up (sW s (2416 + 513 * k + 12 + s (2416 + 513 * k + 8)) m e) (2416 + 513 * k + 8) (s (2416 + 513 * k + 8) + m) (2416 + 513 * k + 8) = s (2416 + 513 * k + 8) + m := up_s
      generalize up (sW s (2416 + 513 * k + 12 + s (2416 + 513 * k + 8)) m e) (2416 + 513 * k + 8) (s (2416 + 513 * k + 8) + m) = t at *
      have e1 : ∀ j, (j ≤ 3 ∨ 11 ≤ j) → j < 816 → t j = s j := fun j _ h2 => e0 j (by omega)
      have e3 : t 3 = s 3 := e0 3 (by omega)
      refine ⟨okB_d hB e1, okC_c hC h3 e1, ⟨by rw [e0 0 (by omega)]; exact hZ.1, by rw [e0 1 (by omega)]; exact hZ.2.1, by rw [e0 4 (by omega)]; exact hZ.2.2.1, by rw [e0 8 (by omega)]; exact hZ.2.2.2⟩, ?_, okM_c hM hZ.2.2.1 e3 (e0 4 (by omega)) (fun j _ _ => e0 j (by omega)), okE_c hE (e0 7 (by omega)) (fun j _ _ => e0 j (by omega))⟩
      intro i hi
      obtain ⟨⟨f1, f2, f3, f4, f5, f6, f7, f8, f9, f10, f11⟩, ⟨m1, m2, m3⟩, ⟨g1, g2, g3⟩⟩ := hN i hi
      refine ⟨⟨?_, ?_, ?_, ?_, ?_, ?_, ?_, ?_, ?_, fun b hb => ?_, fun u hu => ?_⟩, ?_, ⟨?_, fun j hj => ?_, fun a j haj hj => ?_⟩⟩
      · rw [e0 _ (by omega)]; exact f1
      · rw [e0 _ (by omega)]; exact f2
      · rw [e0 _ (by omega)]; exact f3
      · rw [e0 _ (by omega)]; exact f4
      · rw [e0 _ (by omega)]; exact f5
      · rw [e0 _ (by omega), e3]; exact f6
      · rw [e0 _ (by omega), e3]; exact f7
      · rw [e0 _ (by omega)]; exact f8
      · rw [e0 _ (by omega)]; exact f9
      · rw [e0 _ (by omega)]; exact f10 b hb
      · rw [e0 _ (by omega)]; exact f11 u hu
      · by_cases hik : i = k
        · subst hik
          have hP : ∀ j, j ≤ m → pw s (m - j) e ≤ s 3 ∧ s (516 + pw s (m - j) e) = s (516 + e) - (m - j) := fun j hj => pw_ok hB (m - j) e he (by omega)
          have hv : ∀ j, j ≤ s (2416 + 513 * i + 8) + m → t (2416 + 513 * i + 12 + j) ≤ s 3 ∧ s (516 + t (2416 + 513 * i + 12 + j)) = j := fun j hj => by
            by_cases hjl : j ≤ s (2416 + 513 * i + 8)
            · rw [e0 _ (by omega)]
              exact m2 j hjl
            · obtain ⟨r, rfl⟩ : ∃ r, j = s (2416 + 513 * i + 8) + r := ⟨j - s (2416 + 513 * i + 8), by omega⟩
              rw [show 2416 + 513 * i + 12 + (s (2416 + 513 * i + 8) + r) = 2416 + 513 * i + 12 + s (2416 + 513 * i + 8) + r by omega, eg r (by omega) (by omega)]
              obtain ⟨p1, p2⟩ := hP r (by omega)
              exact ⟨p1, by rw [p2]; omega⟩
          refine ⟨by rw [el, e3]; omega, fun j hj => ?_, fun j hj => ?_⟩
          · rw [el] at hj
            obtain ⟨p1, p2⟩ := hv j hj
            rw [e3, e0 (516 + _) (by omega)]
            exact ⟨p1, p2⟩
          · rw [el] at hj
            have p1 := (hv (j + 1) (by omega)).1
            rw [e0 (116 + _) (by omega)]
            by_cases hjl : j < s (2416 + 513 * i + 8)
            · rw [e0 (2416 + 513 * i + 12 + (j + 1)) (by omega), e0 (2416 + 513 * i + 12 + j) (by omega)]
              exact m3 j hjl
            · obtain ⟨r, rfl⟩ : ∃ r, j = s (2416 + 513 * i + 8) + r := ⟨j - s (2416 + 513 * i + 8), by omega⟩
              have a1 : t (2416 + 513 * i + 12 + (s (2416 + 513 * i + 8) + r + 1)) = pw s (m - (r + 1)) e := by
                rw [show 2416 + 513 * i + 12 + (s (2416 + 513 * i + 8) + r + 1) = 2416 + 513 * i + 12 + s (2416 + 513 * i + 8) + (r + 1) by omega]
                exact eg (r + 1) (by omega) (by omega)
              have a2 : t (2416 + 513 * i + 12 + (s (2416 + 513 * i + 8) + r)) = pw s (m - r) e := by
                rw [show 2416 + 513 * i + 12 + (s (2416 + 513 * i + 8) + r) = 2416 + 513 * i + 12 + s (2416 + 513 * i + 8) + r by omega]
                by_cases hr : r = 0
                · subst hr
                  rw [Nat.add_zero, e0 _ (by omega), hl0, Nat.sub_zero, hpw]
                · exact eg r (by omega) (by omega)
              rw [a1, a2, show m - r = (m - (r + 1)) + 1 by omega]
              exact (pw_s hB (m - (r + 1)) e he (by omega)).symm
        · have w : ∀ x, x < 513 → t (2416 + 513 * i + x) = s (2416 + 513 * i + x) := fun x hx => e0 _ (by omega)
          refine ⟨by rw [w 8 (by omega), e3]; exact m1, fun j hj => ?_, fun j hj => ?_⟩
          · rw [w 8 (by omega)] at hj
            obtain ⟨a, b⟩ := m2 j hj
            rw [e0 (2416 + 513 * i + 12 + j) (by omega), e3, e0 (516 + _) (by omega)]
            exact ⟨a, b⟩
          · rw [w 8 (by omega)] at hj
            have a := (m2 (j + 1) (by omega)).1
            rw [e0 (2416 + 513 * i + 12 + (j + 1)) (by omega), e0 (2416 + 513 * i + 12 + j) (by omega), e0 (116 + _) (by omega)]
            exact m3 j hj
      · rw [e0 _ (by omega), e3]; exact g1
      · rw [e0 (2416 + 513 * i + 10) (by omega)] at hj
        rw [e0 (2416 + 513 * i + 112 + j) (by omega), e3]
        exact g2 j hj
      · rw [e0 (2416 + 513 * i + 10) (by omega)] at hj
        rw [e0 (2416 + 513 * i + 112 + j) (by omega), e0 (2416 + 513 * i + 112 + a) (by omega)]
        exact g3 a j haj hj
    -- the events and the length commute
    have com : ∀ (m i : Nat) (u : Nat → Nat) (v : Nat), u 8 ≤ 100 → (∀ j, i ≤ j → 2416 + 513 * k + 12 + s (2416 + 513 * k + 8) + j ≠ 2416 + 513 * k + 8) → up (sT2 u k (2416 + 513 * k + 12 + s (2416 + 513 * k + 8)) i m) (2416 + 513 * k + 8) v = sT2 (up u (2416 + 513 * k + 8) v) k (2416 + 513 * k + 12 + s (2416 + 513 * k + 8)) i m := by
      intro m
      induction m with
      | zero => intro i u v _ _; rfl
      | succ m ih =>
        intro i u v hu hne
        show up (sT2 (sTell u 3 k (u (2416 + 513 * k + 12 + s (2416 + 513 * k + 8) + i))) k _ (i + 1) m) _ v = sT2 (sTell (up u (2416 + 513 * k + 8) v) 3 k (up u (2416 + 513 * k + 8) v (2416 + 513 * k + 12 + s (2416 + 513 * k + 8) + i))) k _ (i + 1) m
        rw [ih (i + 1) _ v (sTell_8 hu) (fun j hj => hne j (by omega)), up_o (by omega)]
        congr 1
        funext j
        unfold sTell
        rw [show up u (2416 + 513 * k + 8) v 8 = u 8 from up_o (by omega)]
        by_cases hc : u 8 = 100
        · rw [if_pos hc, if_pos hc]
        · rw [if_neg hc, if_neg hc]
          unfold up
          by_cases hj : j = 2416 + 513 * k + 8
          · subst hj
            rw [if_pos rfl, if_neg (by omega), if_neg (by omega), if_neg (by omega), if_neg (by omega), if_pos rfl]
          · simp only [if_neg hj]
    rw [com m 1 _ _ (by rw [hWo 8 (by omega)]; exact h8) (fun j hj => by omega)]
    exact ok_T2 _ _ _ key
  · split
    · exact h0
    · exact ok_tell (ok_nd h0 (d := 9) hk (by omega)) _ _ _
