/-! WHAT ALWAYS HOLDS of the row s (bounds, logs are chains, what was given is given once, messages) -/
def okC (s : Nat → Nat) : Prop := s 16 = 0 ∧ s 216 = 0 ∧ s 316 = 0 ∧ s 416 = 0 ∧ s 616 = 0 ∧ (∀ b, b ≤ s 3 → s (16 + b) ≤ 200 ∧ s (216 + b) ≤ b ∧ s (316 + b) ≤ 999 ∧ s (416 + b) ≤ 7 ∧ s (616 + b) ≤ 1 ∧ s (716 + b) ≤ 1) ∧ ∀ b, 1 ≤ b → b ≤ s 3 → 1 ≤ s (16 + b) ∧ 1 ≤ s (416 + b) ∧ s (216 + b) < b
def okZ (s : Nat → Nat) : Prop := s 0 ≤ 3 ∧ s 1 ≤ 2 ∧ s 4 ≤ 200 ∧ s 8 ≤ 100
def okL (s : Nat → Nat) (k : Nat) : Prop := s (2416 + 513 * k + 8) ≤ s 3 ∧ (∀ i, i ≤ s (2416 + 513 * k + 8) → s (2416 + 513 * k + 12 + i) ≤ s 3 ∧ s (516 + s (2416 + 513 * k + 12 + i)) = i) ∧ ∀ i, i < s (2416 + 513 * k + 8) → s (116 + s (2416 + 513 * k + 12 + (i + 1))) = s (2416 + 513 * k + 12 + i) + 1
def okG (s : Nat → Nat) (k : Nat) : Prop := s (2416 + 513 * k + 10) ≤ s 3 ∧ (∀ j, j < s (2416 + 513 * k + 10) → 1 ≤ s (2416 + 513 * k + 112 + j) ∧ s (2416 + 513 * k + 112 + j) ≤ s 3) ∧ ∀ i j, i < j → j < s (2416 + 513 * k + 10) → s (2416 + 513 * k + 112 + i) ≠ s (2416 + 513 * k + 112 + j)
def okF (s : Nat → Nat) (k : Nat) : Prop := s (2416 + 513 * k) ≤ 2 ∧ s (2416 + 513 * k + 1) ≤ 200 ∧ s (2416 + 513 * k + 2) ≤ 201 ∧ s (2416 + 513 * k + 3) ≤ 201 ∧ s (2416 + 513 * k + 4) ≤ 201 ∧ s (2416 + 513 * k + 5) ≤ s 3 ∧ s (2416 + 513 * k + 6) ≤ s 3 ∧ s (2416 + 513 * k + 7) ≤ 200 ∧ s (2416 + 513 * k + 11) < 128 ∧ (∀ b, b < 100 → s (2416 + 513 * k + 212 + b) < 128) ∧ (∀ v, v ≤ 200 → s (2416 + 513 * k + 312 + v) < 128)
def okN (s : Nat → Nat) : Prop := ∀ k, k < 7 → okF s k ∧ okL s k ∧ okG s k
def okM (s : Nat → Nat) : Prop := ∀ i, i < s 4 → s (816 + 5 * i) < 7 ∧ s (816 + 5 * i + 1) < 7 ∧ (((s (816 + 5 * i + 2) = 1 ∨ s (816 + 5 * i + 2) = 2) ∧ 1 ≤ s (816 + 5 * i + 3) ∧ s (816 + 5 * i + 3) ≤ s 3 ∧ s (816 + 5 * i + 4) = 0) ∨ (s (816 + 5 * i + 2) = 3 ∧ 1 ≤ s (816 + 5 * i + 3) ∧ s (816 + 5 * i + 3) ≤ 200 ∧ 1 ≤ s (816 + 5 * i + 4) ∧ s (816 + 5 * i + 4) ≤ s 3 + 1))
def okS (s : Nat → Nat) : Prop := okB s ∧ okC s ∧ okZ s ∧ okN s ∧ okM s ∧ okE s
theorem okC_c {s t : Nat → Nat} (h : okC s) (h3 : s 3 ≤ 99) (e : ∀ j, (j ≤ 3 ∨ 11 ≤ j) → j < 816 → t j = s j) : okC t := by
  obtain ⟨a1, a2, a3, a4, a5, a6, a7⟩ := h
  have e3 := e 3 (by omega) (by omega)
  refine ⟨by rw [e _ (by omega) (by omega)]; exact a1, by rw [e _ (by omega) (by omega)]; exact a2, by rw [e _ (by omega) (by omega)]; exact a3, by rw [e _ (by omega) (by omega)]; exact a4, by rw [e _ (by omega) (by omega)]; exact a5, fun b hb => ?_, fun b h1 hb => ?_⟩
  · rw [e3] at hb
    rw [e (16 + b) (by omega) (by omega), e (216 + b) (by omega) (by omega), e (316 + b) (by omega) (by omega), e (416 + b) (by omega) (by omega), e (616 + b) (by omega) (by omega), e (716 + b) (by omega) (by omega)]
    exact a6 b hb
  · rw [e3] at hb
    rw [e (16 + b) (by omega) (by omega), e (216 + b) (by omega) (by omega), e (416 + b) (by omega) (by omega)]
    exact a7 b h1 hb
theorem okN_c {s t : Nat → Nat} (h : okN s) (h3 : s 3 ≤ 99) (e : ∀ j, (j ≤ 3 ∨ 11 ≤ j) → j < 816 → t j = s j) (e2 : ∀ j, 2416 ≤ j → t j = s j) : okN t := by
  have e3 := e 3 (by omega) (by omega)
  intro k hk
  obtain ⟨⟨f1, f2, f3, f4, f5, f6, f7, f8, f9, f10, f11⟩, ⟨l1, l2, l3⟩, ⟨g1, g2, g3⟩⟩ := h k hk
  refine ⟨⟨?_, ?_, ?_, ?_, ?_, ?_, ?_, ?_, ?_, fun b hb => ?_, fun v hv => ?_⟩, ⟨?_, fun i hi => ?_, fun i hi => ?_⟩, ⟨?_, fun j hj => ?_, fun i j hij hj => ?_⟩⟩
  · rw [e2 _ (by omega)]; exact f1
  · rw [e2 _ (by omega)]; exact f2
  · rw [e2 _ (by omega)]; exact f3
  · rw [e2 _ (by omega)]; exact f4
  · rw [e2 _ (by omega)]; exact f5
  · rw [e2 _ (by omega), e3]; exact f6
  · rw [e2 _ (by omega), e3]; exact f7
  · rw [e2 _ (by omega)]; exact f8
  · rw [e2 _ (by omega)]; exact f9
  · rw [e2 _ (by omega)]; exact f10 b hb
  · rw [e2 _ (by omega)]; exact f11 v hv
  · rw [e2 _ (by omega), e3]; exact l1
  · rw [e2 (2416 + 513 * k + 8) (by omega)] at hi
    obtain ⟨a, b⟩ := l2 i hi
    rw [e2 (2416 + 513 * k + 12 + i) (by omega), e3, e (516 + _) (by omega) (by omega)]
    exact ⟨a, b⟩
  · rw [e2 (2416 + 513 * k + 8) (by omega)] at hi
    have a := (l2 (i + 1) (by omega)).1
    rw [e2 (2416 + 513 * k + 12 + (i + 1)) (by omega), e2 (2416 + 513 * k + 12 + i) (by omega), e (116 + _) (by omega) (by omega)]
    exact l3 i hi
  · rw [e2 _ (by omega), e3]; exact g1
  · rw [e2 (2416 + 513 * k + 10) (by omega)] at hj
    rw [e2 (2416 + 513 * k + 112 + j) (by omega), e3]
    exact g2 j hj
  · rw [e2 (2416 + 513 * k + 10) (by omega)] at hj
    rw [e2 (2416 + 513 * k + 112 + j) (by omega), e2 (2416 + 513 * k + 112 + i) (by omega)]
    exact g3 i j hij hj
theorem okM_c {s t : Nat → Nat} (h : okM s) (h4 : s 4 ≤ 200) (e3 : t 3 = s 3) (e4 : t 4 = s 4) (e : ∀ j, 816 ≤ j → j < 1816 → t j = s j) : okM t := by
  intro i hi
  rw [e4] at hi
  rw [e (816 + 5 * i) (by omega) (by omega), e (816 + 5 * i + 1) (by omega) (by omega), e (816 + 5 * i + 2) (by omega) (by omega), e (816 + 5 * i + 3) (by omega) (by omega), e (816 + 5 * i + 4) (by omega) (by omega), e3]
  exact h i hi
theorem okE_c {s t : Nat → Nat} (h : okE s) (e7 : t 7 = s 7) (e : ∀ j, 1816 ≤ j → j < 2116 → t j = s j) : okE t := by
  obtain ⟨h7, hE⟩ := h
  refine ⟨by rw [e7]; exact h7, fun i hi j hj => ?_⟩
  rw [e7] at hi
  rw [e _ (by omega) (by omega)]
  exact hE i hi j hj
theorem okB_d {s t : Nat → Nat} (h : okB s) (e : ∀ j, (j ≤ 3 ∨ 11 ≤ j) → j < 816 → t j = s j) : okB t := by
  have h3 := e 3 (by omega) (by omega)
  refine ⟨by rw [h3]; exact h.1, by rw [e 516 (by omega) (by omega)]; exact h.2.1, by rw [e 116 (by omega) (by omega)]; exact h.2.2.1, fun b h1 h2 => ?_⟩
  rw [h3] at h2
  have hb := h.1
  obtain ⟨a, c, d⟩ := h.2.2.2 b h1 h2
  rw [e (116 + b) (by omega) (by omega), e (516 + b) (by omega) (by omega), e (516 + (s (116 + b) - 1)) (by omega) (by omega)]
  exact ⟨a, c, d⟩
/-- an event keeps all -/
theorem ok_tell {s : Nat → Nat} (h : okS s) (a b c : Nat) : okS (sTell s a b c) := by
  obtain ⟨hB, hC, hZ, hN, hM, hE⟩ := h
  have h8 := hZ.2.2.2
  have h3 := hB.1
  have e : ∀ j, (j < 8 ∨ (8 < j ∧ j < 2116) ∨ 2416 ≤ j) → sTell s a b c j = s j := fun j hj => sTell_o hj h8
  have e1 : ∀ j, (j ≤ 3 ∨ 11 ≤ j) → j < 816 → sTell s a b c j = s j := fun j h1 h2 => e j (by omega)
  exact ⟨okB_d hB e1, okC_c hC h3 e1, ⟨by rw [e 0 (by omega)]; exact hZ.1, by rw [e 1 (by omega)]; exact hZ.2.1, by rw [e 4 (by omega)]; exact hZ.2.2.1, sTell_8 h8⟩, okN_c hN h3 e1 (fun j hj => e j (by omega)), okM_c hM hZ.2.2.1 (e 3 (by omega)) (e 4 (by omega)) (fun j h1 h2 => e j (by omega)), okE_c hE (e 7 (by omega)) (fun j h1 h2 => e j (by omega))⟩
theorem sAcc_o {s : Nat → Nat} {c d e f g j : Nat} (h : j < 7 ∨ (7 < j ∧ j < 1816) ∨ 2116 ≤ j) (h7 : s 7 ≤ 60) : sAcc s c d e f g j = s j := by
  unfold sAcc
  split
  · rfl
  · split
    · rfl
    · rw [up_o (by omega), up_o (by omega), up_o (by omega), up_o (by omega), up_o (by omega), up_o (by omega)]
theorem ok_acc {s : Nat → Nat} (h : okS s) {c d e f g : Nat} (hc : c < 1000) (hd : d < 1000) (he : e < 1000) (hf : f < 1000) (hg : g < 1000) : okS (sAcc s c d e f g) := by
  obtain ⟨hB, hC, hZ, hN, hM, hE⟩ := h
  have h3 := hB.1
  have e0 : ∀ j, (j < 7 ∨ (7 < j ∧ j < 1816) ∨ 2116 ≤ j) → sAcc s c d e f g j = s j := fun j hj => sAcc_o hj hE.1
  have e1 : ∀ j, (j ≤ 3 ∨ 11 ≤ j) → j < 816 → sAcc s c d e f g j = s j := fun j h1 h2 => e0 j (by omega)
  refine ⟨okB_d hB e1, okC_c hC h3 e1, ⟨by rw [e0 0 (by omega)]; exact hZ.1, by rw [e0 1 (by omega)]; exact hZ.2.1, by rw [e0 4 (by omega)]; exact hZ.2.2.1, by rw [e0 8 (by omega)]; exact hZ.2.2.2⟩, okN_c hN h3 e1 (fun j hj => e0 j (by omega)), okM_c hM hZ.2.2.1 (e0 3 (by omega)) (e0 4 (by omega)) (fun j h1 h2 => e0 j (by omega)), ?_⟩
  obtain ⟨h7, hE⟩ := hE
  unfold sAcc
  split
  · exact ⟨h7, hE⟩
  · split
    · exact ⟨h7, hE⟩
    · refine ⟨by rw [up_s]; omega, fun i hi j hj => ?_⟩
      rw [up_s] at hi
      rw [up_o (by omega)]
      unfold up
      repeat' split
      all_goals first | omega | exact hE i (by omega) j hj
theorem ok_up {s : Nat → Nat} (h : okS s) {k v : Nat} (hk : k = 5 ∨ k = 6 ∨ k = 9 ∨ k = 10) : okS (up s k v) := by
  obtain ⟨hB, hC, hZ, hN, hM, hE⟩ := h
  have h3 := hB.1
  have e0 : ∀ j, j ≠ k → up s k v j = s j := fun j hj => up_o hj
  have e1 : ∀ j, (j ≤ 3 ∨ 11 ≤ j) → j < 816 → up s k v j = s j := fun j h1 h2 => e0 j (by omega)
  exact ⟨okB_d hB e1, okC_c hC h3 e1, ⟨by rw [e0 0 (by omega)]; exact hZ.1, by rw [e0 1 (by omega)]; exact hZ.2.1, by rw [e0 4 (by omega)]; exact hZ.2.2.1, by rw [e0 8 (by omega)]; exact hZ.2.2.2⟩, okN_c hN h3 e1 (fun j hj => e0 j (by omega)), okM_c hM hZ.2.2.1 (e0 3 (by omega)) (e0 4 (by omega)) (fun j h1 h2 => e0 j (by omega)), okE_c hE (e0 7 (by omega)) (fun j h1 h2 => e0 j (by omega))⟩
/-- what a message may be -/
def okm (s : Nat → Nat) (f t kd w hu : Nat) : Prop := f < 7 ∧ t < 7 ∧ (((kd = 1 ∨ kd = 2) ∧ 1 ≤ w ∧ w ≤ s 3 ∧ hu = 0) ∨ (kd = 3 ∧ 1 ≤ w ∧ w ≤ 200 ∧ 1 ≤ hu ∧ hu ≤ s 3 + 1))
theorem ok_send {s : Nat → Nat} (h : okS s) {f t kd w hu : Nat} (hm : okm s f t kd w hu) : okS (sSend s f t kd w hu) := by
  unfold sSend
  split
  · split
    · exact ok_up h (Or.inl rfl)
    · rename_i c4
      obtain ⟨hB, hC, hZ, hN, hM, hE⟩ := h
      have h3 := hB.1
      have h4 := hZ.2.2.1
      have e0 : ∀ j, (j < 4 ∨ (4 < j ∧ j < 816) ∨ 1816 ≤ j) → up (sMsg s (s 4) f t kd w hu) 4 (s 4 + 1) j = s j := fun j hj => by
        unfold sMsg
        rw [up_o (by omega), up_o (by omega), up_o (by omega), up_o (by omega), up_o (by omega), up_o (by omega)]
      have e1 : ∀ j, (j ≤ 3 ∨ 11 ≤ j) → j < 816 → up (sMsg s (s 4) f t kd w hu) 4 (s 4 + 1) j = s j := fun j h1 h2 => e0 j (by omega)
      refine ⟨okB_d hB e1, okC_c hC h3 e1, ⟨by rw [e0 0 (by omega)]; exact hZ.1, by rw [e0 1 (by omega)]; exact hZ.2.1, by rw [up_s]; omega, by rw [e0 8 (by omega)]; exact hZ.2.2.2⟩, okN_c hN h3 e1 (fun j hj => e0 j (by omega)), ?_, okE_c hE (e0 7 (by omega)) (fun j h1 h2 => e0 j (by omega))⟩
      intro i hi
      rw [up_s] at hi
      rw [e0 3 (by omega)]
      by_cases hi4 : i = s 4
      · subst hi4
        unfold sMsg
        have d0 : up (up (up (up (up (up s (816 + 5 * s 4) f) (816 + 5 * s 4 + 1) t) (816 + 5 * s 4 + 2) kd) (816 + 5 * s 4 + 3) w) (816 + 5 * s 4 + 4) hu) 4 (s 4 + 1) (816 + 5 * s 4) = f := by
          rw [up_o (by omega), up_o (by omega), up_o (by omega), up_o (by omega), up_o (by omega), up_s]
        have d1 : up (up (up (up (up (up s (816 + 5 * s 4) f) (816 + 5 * s 4 + 1) t) (816 + 5 * s 4 + 2) kd) (816 + 5 * s 4 + 3) w) (816 + 5 * s 4 + 4) hu) 4 (s 4 + 1) (816 + 5 * s 4 + 1) = t := by
          rw [up_o (by omega), up_o (by omega), up_o (by omega), up_o (by omega), up_s]
        have d2 : up (up (up (up (up (up s (816 + 5 * s 4) f) (816 + 5 * s 4 + 1) t) (816 + 5 * s 4 + 2) kd) (816 + 5 * s 4 + 3) w) (816 + 5 * s 4 + 4) hu) 4 (s 4 + 1) (816 + 5 * s 4 + 2) = kd := by
          rw [up_o (by omega), up_o (by omega), up_o (by omega), up_s]
        have d3 : up (up (up (up (up (up s (816 + 5 * s 4) f) (816 + 5 * s 4 + 1) t) (816 + 5 * s 4 + 2) kd) (816 + 5 * s 4 + 3) w) (816 + 5 * s 4 + 4) hu) 4 (s 4 + 1) (816 + 5 * s 4 + 3) = w := by
          rw [up_o (by omega), up_o (by omega), up_s]
        have d4 : up (up (up (up (up (up s (816 + 5 * s 4) f) (816 + 5 * s 4 + 1) t) (816 + 5 * s 4 + 2) kd) (816 + 5 * s 4 + 3) w) (816 + 5 * s 4 + 4) hu) 4 (s 4 + 1) (816 + 5 * s 4 + 4) = hu := by
          rw [up_o (by omega), up_s]
        rw [d0, d1, d2, d3, d4]
        exact hm
      · have dd : ∀ j, j < 5 → up (sMsg s (s 4) f t kd w hu) 4 (s 4 + 1) (816 + 5 * i + j) = s (816 + 5 * i + j) := fun j hj => by
          unfold sMsg
          rw [up_o (by omega), up_o (by omega), up_o (by omega), up_o (by omega), up_o (by omega), up_o (by omega)]
        have d0 : up (sMsg s (s 4) f t kd w hu) 4 (s 4 + 1) (816 + 5 * i) = s (816 + 5 * i) := dd 0 (by omega)
        rw [d0, dd 1 (by omega), dd 2 (by omega), dd 3 (by omega), dd 4 (by omega)]
        exact hM i (by omega)
  · exact ok_up h (by omega)
theorem ok_SA {s : Nat → Nat} (h : okS s) {f kd w hu : Nat} (hm : ∀ t, t < 7 → okm s f t kd w hu) : ∀ k, k ≤ 7 → okS (sSA s f kd w hu k)
  | 0, _ => h
  | k + 1, hk => by
    have h4 := h.2.2.1.2.2.1
    have := hm k (by omega)
    refine ok_send (ok_SA h hm k (by omega)) ?_
    unfold okm at this ⊢
    rw [sSA_o (by omega) h4]
    exact this
