/-! LEARNING, both sides -/
def sHi (s : Nat → Nat) (k c : Nat) : Nat → Nat := if s (16 + c) ≤ s (16 + s (2416 + 513 * k + 5)) then s else up s (2416 + 513 * k + 5) c
def sLk (s : Nat → Nat) (k c : Nat) : Nat → Nat := if s (16 + s (216 + c)) ≤ s (16 + s (2416 + 513 * k + 6)) then s else up s (2416 + 513 * k + 6) (s (216 + c))
def cmb (s : Nat → Nat) (c : Nat) : Nat := if s (216 + s (216 + c)) ≠ 0 ∧ s (116 + c) = s (216 + c) + 1 ∧ s (116 + s (216 + c)) = s (216 + s (216 + c)) + 1 ∧ s (16 + c) = s (16 + s (216 + c)) + 1 ∧ s (16 + s (216 + c)) = s (16 + s (216 + s (216 + c))) + 1 then s (216 + s (216 + c)) else 0
def sLearn (s : Nat → Nat) (k c : Nat) : Nat → Nat := if cmb s c = 0 then sLk (sHi s k c) k c else sCommit (sLk (sHi s k c) k c) k (cmb s c)
theorem sHi_o {s : Nat → Nat} {k c j : Nat} (h : j ≠ 2416 + 513 * k + 5) : sHi s k c j = s j := by
  unfold sHi
  split
  · rfl
  · exact up_o h
theorem sLk_o {s : Nat → Nat} {k c j : Nat} (h : j ≠ 2416 + 513 * k + 6) : sLk s k c j = s j := by
  unfold sLk
  split
  · rfl
  · exact up_o h
theorem ok_hi {s : Nat → Nat} (h : okS s) {k c : Nat} (hk : k < 7) (hc : c ≤ s 3) : okS (sHi s k c) := by
  unfold sHi
  split
  · exact h
  · exact ok_nd h (d := 5) hk (by omega)
theorem okS.just {s : Nat → Nat} (h : okS s) {c : Nat} (hc : c ≤ s 3) : s (216 + c) ≤ s 3 := by
  have := (h.2.1.2.2.2.2.2.1 c hc).2.1
  omega
theorem okS.view {s : Nat → Nat} (h : okS s) {c : Nat} (hc : c ≤ s 3) : s (16 + c) ≤ 200 := (h.2.1.2.2.2.2.2.1 c hc).1
theorem okS.b3 {s : Nat → Nat} (h : okS s) : s 3 ≤ 99 := h.1.1
theorem ok_lk {s : Nat → Nat} (h : okS s) {k c : Nat} (hk : k < 7) (hc : c ≤ s 3) : okS (sLk s k c) := by
  have := h.just hc
  unfold sLk
  split
  · exact h
  · exact ok_nd h (d := 6) hk (by omega)
theorem cmb_le {s : Nat → Nat} (h : okS s) {c : Nat} (hc : c ≤ s 3) : cmb s c ≤ s 3 := by
  unfold cmb
  split
  · exact h.just (h.just hc)
  · omega
theorem cmb_c {s t : Nat → Nat} (h : okS s) {c : Nat} (hc : c ≤ s 3) (e : ∀ j, j < 816 → t j = s j) : cmb t c = cmb s c := by
  have h3 := h.b3
  have hd := h.just hc
  have he := h.just hd
  unfold cmb
  rw [e (216 + c) (by omega), e (216 + s (216 + c)) (by omega), e (116 + c) (by omega), e (116 + s (216 + c)) (by omega), e (16 + c) (by omega), e (16 + s (216 + c)) (by omega), e (16 + s (216 + s (216 + c))) (by omega)]
theorem sCommit_o {s : Nat → Nat} (h : okS s) {k e j : Nat} (hk : k < 7) (he : e ≤ s 3) (hj : j < 8 ∨ (8 < j ∧ j < 2116) ∨ (2416 ≤ j ∧ (j < 2416 + 513 * k + 8 ∨ j = 2416 + 513 * k + 10 ∨ j = 2416 + 513 * k + 11 ∨ 2416 + 513 * k + 112 ≤ j))) : sCommit s k e j = s j := by
  have h8 := h.2.2.1.2.2.2
  have h3 := h.b3
  obtain ⟨l1, l2, l3⟩ := (h.2.2.2.1 k hk).2.1
  have q1 := h.1.ht e he
  have lh := (l2 _ (Nat.le_refl _)).2
  unfold sCommit
  split
  · rw [up_o (by omega), sT2_o _ _ _ _ (by omega) (by rw [sW_o (by omega) _ _ _ _ (by omega)]; exact h8), sW_o (by omega) _ _ _ _ (by omega)]
  · split
    · rfl
    · rw [sTell_o (by omega) (by rw [up_o (by omega)]; exact h8), up_o (by omega)]
theorem sLearn_o {s : Nat → Nat} (h : okS s) {k c j : Nat} (hk : k < 7) (hc : c ≤ s 3) (hj : j < 8 ∨ (8 < j ∧ j < 2116) ∨ (2416 ≤ j ∧ (j < 2416 + 513 * k + 5 ∨ j = 2416 + 513 * k + 7 ∨ j = 2416 + 513 * k + 10 ∨ j = 2416 + 513 * k + 11 ∨ 2416 + 513 * k + 112 ≤ j))) : sLearn s k c j = s j := by
  have h1 := ok_hi h hk hc
  have h2 := ok_lk h1 hk (by rw [sHi_o (by omega)]; exact hc)
  unfold sLearn
  split
  · rw [sLk_o (by omega), sHi_o (by omega)]
  · rw [sCommit_o h2 hk (by rw [sLk_o (by omega), sHi_o (by omega)]; exact cmb_le h hc) (by omega), sLk_o (by omega), sHi_o (by omega)]
theorem ok_learn {s : Nat → Nat} (h : okS s) {k c : Nat} (hk : k < 7) (hc : c ≤ s 3) : okS (sLearn s k c) := by
  have h1 := ok_hi h hk hc
  have h2 := ok_lk h1 hk (by rw [sHi_o (by omega)]; exact hc)
  unfold sLearn
  split
  · exact h2
  · exact ok_commit h2 hk (by rw [sLk_o (by omega), sHi_o (by omega)]; exact cmb_le h hc)
theorem sb1_eq {a d : Nat} (ha : a < 2 ^ 30) (hd : d < 2 ^ 30) : nI a - nI 1 = nI d ↔ a = d + 1 := by
  constructor
  · intro q
    have q2 : nI a - nI 1 + nI 1 = nI d + nI 1 := by rw [q]
    rw [nI_add, Int32.sub_add_cancel] at q2
    exact (nI_eq (by omega) (by omega)).mp q2
  · intro q
    subst q
    rw [pk_sub (by omega)]
    congr 1
section Ln
variable {n q w : Nat} {I : ev_I} {s : Nat → Nat} {h : Nat} {r : Nat → Int32}
theorem r_learns_96 (hs : okS s) {k c : Nat} (hk : k < 7) (hc : c ≤ s 3) (hn : 300 ≤ n) : cX10_learns_96 q n (nI k) (nI c) (nI (s (216 + c))) (M q I s) = some (M q I (if cmb s c = 0 then s else sCommit s k (cmb s c))) := by
  have h3 := hs.b3
  have hd := hs.just hc
  have he := hs.just hd
  have v1 := hs.view hc
  have v2 := hs.view hd
  have v3 := hs.view he
  have p1 : s (116 + c) ≤ 100 := by
    by_cases c0 : c = 0
    · subst c0; rw [show 116 + 0 = 116 from rfl, hs.1.2.2.1]; omega
    · have := (hs.1.2.2.2 c (by omega) hc).2.1; omega
  have p2 : s (116 + s (216 + c)) ≤ 100 := by
    by_cases c0 : s (216 + c) = 0
    · rw [c0, show 116 + 0 = 116 from rfl, hs.1.2.2.1]; omega
    · have := (hs.1.2.2.2 (s (216 + c)) (by omega) hd).2.1; omega
  obtain ⟨l1, l2, l3⟩ := (hs.2.2.2.1 k hk).2.1
  have hr := r_commits (n := n) (q := q) (I := I) (s := s) (k := k) (e := s (216 + s (216 + c))) hk hs.1 hs.2.2.1.2.2.2 he (by omega) (l2 _ (Nat.le_refl _)).1 (l2 _ (Nat.le_refl _)).2 hn
  simp (disch := omega) only [cX10_learns_96, cX10_learns_188, cX10_learns_189, li, nI_add, ck_in, nI_clamp, M_get, lt_b, bn_s, r_parentN, nI_eq, sb1_eq, hr]
  unfold cmb
  by_cases a0 : s (216 + s (216 + c)) = 0
  · simp [a0]
  · by_cases a1 : s (116 + c) = s (216 + c) + 1
    · by_cases a2 : s (116 + s (216 + c)) = s (216 + s (216 + c)) + 1
      · by_cases a3 : s (16 + c) = s (16 + s (216 + c)) + 1
        · by_cases a4 : s (16 + s (216 + c)) = s (16 + s (216 + s (216 + c))) + 1
          · simp [a0, a1, a2, a3, a4]
          · simp [a0, a1, a2, a3, a4]
        · simp [a0, a1, a2, a3]
      · simp [a0, a1, a2]
    · simp [a0, a1]
theorem r_learns (hs : okS s) {k c : Nat} (hk : k < 7) (hc : c ≤ s 3) (hn : 300 ≤ n) : pX10_learns n q (nI k) (nI c) (M q I s) = some (M q I (sLearn s k c)) := by
  have h3 := hs.b3
  have hd := hs.just hc
  have hh := (hs.2.2.2.1 k hk).1.2.2.2.2.2.1
  have v1 := hs.view hc
  have v2 := hs.view hh
  have h1 := ok_hi hs hk hc
  have e43 : ∀ t, okS t → c ≤ t 3 → cX10_learns_43 q n (nI k) (nI c) (nI (2416 + 513 * k)) (M q I t) = some (M q I (if cmb (sLk t k c) c = 0 then sLk t k c else sCommit (sLk t k c) k (cmb (sLk t k c) c))) := by
    intro t ht hct
    have t3 := ht.b3
    have td := ht.just hct
    have tl := (ht.2.2.2.1 k hk).1.2.2.2.2.2.2.1
    have u1 := ht.view td
    have u2 := ht.view tl
    have h2 := ok_lk ht hk hct
    have hr := r_learns_96 (n := n) (q := q) (I := I) (s := sLk t k c) h2 hk (by rw [sLk_o (by omega)]; exact hct) hn
    rw [sLk_o (show 216 + c ≠ 2416 + 513 * k + 6 by omega)] at hr
    simp (disch := omega) only [cX10_learns_43, li, nI_add, ck_in, nI_clamp, M_get, lt_b, M_put, nI_leI]
    rw [← hr]
    unfold sLk
    split <;> rfl
  simp (disch := omega) only [pX10_learns, r_nodeAt, li, nI_add, ck_in, nI_clamp, M_get, lt_b, bn_s, M_put, nI_leI]
  have hc1 : c ≤ sHi s k c 3 := by rw [sHi_o (by omega)]; exact hc
  have er := e43 _ h1 hc1
  have ec : cmb (sLk (sHi s k c) k c) c = cmb s c := cmb_c hs hc (fun j hj => by rw [sLk_o (by omega), sHi_o (by omega)])
  rw [ec] at er
  unfold sLearn
  rw [← er]
  conv => rhs; unfold sHi
  split <;> rfl
theorem cg_par_eq (hs : okS s) {c d : Nat} (hc : c ≤ s 3) (hd : d < 1000) : C w I s h r (w + 1 + 2) c = nI d ↔ s (116 + c) = d + 1 := by
  have h3 := hs.b3
  by_cases c0 : c = 0
  · subst c0
    rw [cg_parent0 hs.1.2.2.1, show 116 + 0 = 116 from rfl, hs.1.2.2.1]
    constructor
    · intro q; exact absurd q.symm (nI_m1 (by omega))
    · intro q; omega
  · obtain ⟨a1, a2, -⟩ := hs.1.2.2.2 c (by omega) hc
    rw [cg_parent (by omega) a1, nI_eq (by omega) (by omega)]
    omega
theorem c_cmb (hs : okS s) {c : Nat} (hc : c ≤ s 3) : pX1_committedBy n (w + 1) (nI c) (C w I s h r) = some (nI (cmb s c)) := by
  have h3 := hs.b3
  have hd := hs.just hc
  have he := hs.just hd
  have v1 := hs.view hc
  have v2 := hs.view hd
  have v3 := hs.view he
  simp (disch := omega) only [pX1_committedBy, cX1_committedBy_38, cX1_committedBy_39, cX1_committedBy_79, cX1_committedBy_80, li, nI_add, ck_in, nI_clamp, lt_b, cg_justify, cg_view, nI_eq]
  simp (disch := omega) only [cg_par_eq hs hc, cg_par_eq hs hd]
  unfold cmb
  by_cases a0 : s (216 + s (216 + c)) = 0
  · simp [a0]
  · by_cases a1 : s (116 + c) = s (216 + c) + 1
    · by_cases a2 : s (116 + s (216 + c)) = s (216 + s (216 + c)) + 1
      · by_cases a3 : s (16 + c) = s (16 + s (216 + c)) + 1
        · by_cases a4 : s (16 + s (216 + c)) = s (16 + s (216 + s (216 + c))) + 1
          · simp [a0, a1, a2, a3, a4]
          · simp [a0, a1, a2, a3, a4]
        · simp [a0, a1, a2, a3]
      · simp [a0, a1, a2]
    · simp [a0, a1]
theorem c_lockAfter (hs : okS s) {k c : Nat} (hk : k < 7) (hc : c ≤ s 3) : pX8_lockAfter n w (w + (23 + 5 * k)) (nI c) (C w I s h r) = some (nI (if s (16 + s (216 + c)) ≤ s (16 + s (2416 + 513 * k + 6)) then s (2416 + 513 * k + 6) else s (216 + c))) := by
  have h3 := hs.b3
  have hd := hs.just hc
  have tl := (hs.2.2.2.1 k hk).1.2.2.2.2.2.2.1
  have v1 := hs.view hd
  have v2 := hs.view tl
  simp (disch := omega) only [pX8_lockAfter, ck_in, nI_clamp, lt_b, cg_justify, cg_view, cg_lock, nI_leI]
  split <;> rfl
theorem c_learn (hs : okS s) {k c : Nat} (hk : k < 7) (hc : c ≤ s 3) (hn : 300 ≤ n) : pX8_learn n w (nI k) (nI c) (C w I s h r) = some (C w I (sLearn s k c) h r) := by
  have h3 := hs.b3
  have hd := hs.just hc
  have hh := (hs.2.2.2.1 k hk).1.2.2.2.2.2.1
  have v1 := hs.view hc
  have v2 := hs.view hh
  have h1 := ok_hi hs hk hc
  have e36 : ∀ t, okS t → c ≤ t 3 → cX8_learn_36 w n (nI k) (nI c) (w + (23 + 5 * k)) (C w I t h r) = some (C w I (if cmb (sLk t k c) c = 0 then sLk t k c else sCommit (sLk t k c) k (cmb (sLk t k c) c)) h r) := by
    intro t ht hct
    have h2 := ok_lk ht hk hct
    have hc2 : c ≤ sLk t k c 3 := by rw [sLk_o (by omega)]; exact hct
    have eL : up t (2416 + 513 * k + 6) (if t (16 + t (216 + c)) ≤ t (16 + t (2416 + 513 * k + 6)) then t (2416 + 513 * k + 6) else t (216 + c)) = sLk t k c := by
      unfold sLk
      split
      · exact up_id rfl
      · rfl
    obtain ⟨l1, l2, l3⟩ := (h2.2.2.2.1 k hk).2.1
    have h23 := h2.b3
    have cl := cmb_le h2 hc2
    have hr := c_commit (n := n) (w := w) (I := I) (h := h) (r := r) (s := sLk t k c) (k := k) (e := cmb (sLk t k c) c) hk h2.1 h2.2.2.1.2.2.2 cl (by omega) (l2 _ (Nat.le_refl _)).1 (l2 _ (Nat.le_refl _)).2 hn
    unfold cX8_learn_36
    rw [c_lockAfter ht hk hct]
    simp (disch := omega) only [bn_s, lt_b, cp_lock, eL]
    rw [c_cmb h2 hc2, bn_s]
    by_cases c0 : cmb (sLk t k c) c = 0
    · rw [if_pos (by rw [c0]; rfl), if_pos c0]
    · rw [if_neg (nI_ne0 (by omega) (by omega)), if_neg c0, hr]; rfl
  have hc1 : c ≤ sHi s k c 3 := by rw [sHi_o (by omega)]; exact hc
  have er := e36 _ h1 hc1
  have ec : cmb (sLk (sHi s k c) k c) c = cmb s c := cmb_c hs hc (fun j hj => by rw [sLk_o (by omega), sHi_o (by omega)])
  rw [ec] at er
  simp (disch := omega) only [pX8_learn, ck_in, nI_clamp, cg_high, cg_view, nI_leI, lt_b, cp_high]
  unfold sLearn
  rw [← er]
  conv => rhs; unfold sHi
  split <;> rfl
end Ln
