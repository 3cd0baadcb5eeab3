/-! THE TAPE: what it bears, its tokens -/
def sb (x : Nat) : Int32 := if x < 128 then nI x else nI x - nI 256
def isB (x : Nat) : Bool := x == 32 || x == 10
def isL (x : Nat) : Bool := (decide (97 ≤ x) && decide (x ≤ 122)) || (decide (65 ≤ x) && decide (x ≤ 90))
def isD (x : Nat) : Bool := decide (48 ≤ x) && decide (x ≤ 57)
theorem c_isB0 : ∀ x, x < 256 → pX7_isBlank 0 (sb x) (fun _ _ => 0) = some (nI (b01 (isB x))) := by decide +kernel
theorem c_isL0 : ∀ x, x < 256 → pX7_isLetter 0 (sb x) (fun _ _ => 0) = some (nI (b01 (isL x))) := by decide +kernel
theorem c_isD0 : ∀ x, x < 256 → pX7_isDigit 0 (sb x) (fun _ _ => 0) = some (nI (b01 (isD x))) := by decide +kernel
theorem r_isL0 : ∀ x, x < 256 → pX10_isLetter 0 0 (nI x) (fun _ _ => 0) = some (nI (b01 (isL x))) := by decide +kernel
theorem r_isD0 : ∀ x, x < 256 → pX10_isDigit 0 0 (nI x) (fun _ _ => 0) = some (nI (b01 (isD x))) := by decide +kernel
theorem sb_59 : ∀ x, x < 256 → (sb x = (59 : Int32) ↔ x = 59) := by decide +kernel
theorem isL_n : ∀ x, x < 256 → isL x = true → x ≠ 32 := by decide +kernel
theorem isD_n : ∀ x, x < 256 → isD x = true → sb x = nI x ∧ 48 ≤ x ∧ x ≤ 57 := by decide +kernel
/-- the end of a run of signs -/
def rn (T : Nat → Nat) (p : Nat → Bool) : Nat → Nat → Nat
  | 0, i => i
  | m + 1, i => if p (T i) = true then rn T p m (i + 1) else i
theorem rn_b {T : Nat → Nat} {p : Nat → Bool} : ∀ (m i : Nat), i ≤ rn T p m i ∧ rn T p m i ≤ i + m
  | 0, i => ⟨Nat.le_refl _, Nat.le_refl _⟩
  | m + 1, i => by
    have := rn_b (T := T) (p := p) m (i + 1)
    show i ≤ (if p (T i) = true then rn T p m (i + 1) else i) ∧ (if p (T i) = true then rn T p m (i + 1) else i) ≤ i + (m + 1)
    split <;> omega
theorem rn_p {T : Nat → Nat} {p : Nat → Bool} : ∀ (m i j : Nat), i ≤ j → j < rn T p m i → p (T j) = true
  | 0, i, j, h1, h2 => by
    have : rn T p 0 i = i := rfl
    omega
  | m + 1, i, j, h1, h2 => by
    by_cases c : p (T i) = true
    · rw [show rn T p (m + 1) i = rn T p m (i + 1) from if_pos c] at h2
      by_cases e : j = i
      · rw [e]; exact c
      · exact rn_p m (i + 1) j (by omega) h2
    · rw [show rn T p (m + 1) i = i from if_neg c] at h2
      omega
def stt (L : Nat) (T : Nat → Nat) (b : Nat) : Nat := rn T isB (L - b) b
def ent (L : Nat) (T : Nat → Nat) (b : Nat) : Nat := if stt L T b < L then (if isL (T (stt L T b)) = true then rn T isL (L - stt L T b) (stt L T b) else if isD (T (stt L T b)) = true then rn T isD (L - stt L T b) (stt L T b) else stt L T b + 1) else stt L T b
/-- kinds: 0 end, 1 letters, 2 a number, 3 a semicolon, 4 nothing known -/
def kct (L : Nat) (T : Nat → Nat) (b : Nat) : Nat := if stt L T b < L then (if isL (T (stt L T b)) = true then 1 else if isD (T (stt L T b)) = true then (if ent L T b - stt L T b ≤ 4 then 2 else 4) else if T (stt L T b) = 59 then 3 else 4) else 0
theorem stt_b {L b : Nat} {T : Nat → Nat} (hb : b ≤ L) : b ≤ stt L T b ∧ stt L T b ≤ L := by
  have := rn_b (T := T) (p := isB) (L - b) b
  unfold stt
  omega
theorem ent_b {L b : Nat} {T : Nat → Nat} (hb : b ≤ L) : stt L T b ≤ ent L T b ∧ ent L T b ≤ L := by
  have h1 := stt_b (T := T) hb
  have h2 := rn_b (T := T) (p := isL) (L - stt L T b) (stt L T b)
  have h3 := rn_b (T := T) (p := isD) (L - stt L T b) (stt L T b)
  unfold ent
  by_cases c : stt L T b < L
  · rw [if_pos c]
    by_cases d : isL (T (stt L T b)) = true
    · rw [if_pos d]; omega
    · rw [if_neg d]
      by_cases e : isD (T (stt L T b)) = true
      · rw [if_pos e]; omega
      · rw [if_neg e]; omega
  · rw [if_neg c]; omega
def TpC (t L : Nat) (T : Nat → Nat) (I : ev_I) : Prop := I t 1 = nI L ∧ ∀ j, j < L → I (t + 1) j = sb (T j)
def okT (L : Nat) (T : Nat → Nat) : Prop := L ≤ 400 ∧ ∀ j, j < L → T j < 256
def F3 (t : Nat) (I J : ev_I) : Prop := ∀ a j, ¬ (a = t ∧ 5 ≤ j ∧ j ≤ 7) → J a j = I a j
theorem F3_t {t : Nat} {I J K : ev_I} (h1 : F3 t I J) (h2 : F3 t J K) : F3 t I K := fun a j h => (h2 a j h).trans (h1 a j h)
theorem F3_u {t k : Nat} {I : ev_I} {v : Int32} (hk : 5 ≤ k ∧ k ≤ 7) : F3 t I (ev_u2 I t k v) := fun a j h => by
  unfold ev_u2
  rw [if_neg (by omega)]
theorem TpC_F {t L : Nat} {T : Nat → Nat} {I J : ev_I} (h : TpC t L T I) (f : F3 t I J) : TpC t L T J := ⟨by rw [f t 1 (by omega)]; exact h.1, fun j hj => by rw [f (t + 1) j (by omega)]; exact h.2 j hj⟩
theorem u2_s {I : ev_I} {a j : Nat} {v : Int32} : ev_u2 I a j v a j = v := by unfold ev_u2; rw [if_pos ⟨rfl, rfl⟩]
theorem u2_o {I : ev_I} {a j b k : Nat} {v : Int32} (h : ¬ (b = a ∧ k = j)) : ev_u2 I a j v b k = I b k := by unfold ev_u2; rw [if_neg h]
section Lex
variable {n t q L b : Nat} {T : Nat → Nat} {I : ev_I}
theorem c_isBl {x : Nat} (hx : x < 256) : pX7_isBlank n (sb x) I = some (nI (b01 (isB x))) := c_isB0 x hx
theorem c_isLt {x : Nat} (hx : x < 256) : pX7_isLetter n (sb x) I = some (nI (b01 (isL x))) := c_isL0 x hx
theorem c_isDg {x : Nat} (hx : x < 256) : pX7_isDigit n (sb x) I = some (nI (b01 (isD x))) := c_isD0 x hx
theorem c_sk (hT : okT L T) : ∀ (m i n : Nat) (I : ev_I), i + m = L → TpC t L T I → I t 5 = nI i → m < n → ∃ n' J, n ≤ n' + m + 1 ∧ lX7_step_8 t n I = cX7_step_47 t n' J ∧ J t 5 = nI (rn T isB m i) ∧ F3 t I J := by
  have hL := hT.1
  intro m
  induction m with
  | zero =>
    intro i n I hi hI h5 hn
    obtain ⟨n, rfl⟩ : ∃ k, n = k + 1 := ⟨n - 1, by omega⟩
    refine ⟨n, I, by omega, ?_, h5, fun _ _ _ => rfl⟩
    show cX7_step_8 t _ n _ = _
    unfold cX7_step_8
    rw [hI.1, h5, if_pos (nI_le (by omega) (by omega))]
  | succ m ih =>
    intro i n I hi hI h5 hn
    obtain ⟨n, rfl⟩ : ∃ k, n = k + 1 := ⟨n - 1, by omega⟩
    have hx := hT.2 i (by omega)
    by_cases c : isB (T i) = true
    · obtain ⟨n', J, e1, e2, e3, e4⟩ := ih (i + 1) n (ev_u2 I t 5 (nI (i + 1))) (by omega) (TpC_F hI (F3_u (by omega))) u2_s (by omega)
      refine ⟨n', J, by omega, ?_, ?_, F3_t (F3_u (by omega)) e4⟩
      · show cX7_step_8 t _ n _ = _
        unfold cX7_step_8
        rw [hI.1, h5, if_neg (nI_ge (by omega) (by omega)), ck_in (by omega) (by omega), nI_clamp (by omega), hI.2 i (by omega), c_isBl hx, bn_s, if_b, if_pos c, lt_b, nI_1]
        exact e2
      · rw [e3]
        congr 1
        exact (if_pos c).symm
    · refine ⟨n, I, by omega, ?_, ?_, fun _ _ _ => rfl⟩
      · show cX7_step_8 t _ n _ = _
        unfold cX7_step_8
        rw [hI.1, h5, if_neg (nI_ge (by omega) (by omega)), ck_in (by omega) (by omega), nI_clamp (by omega), hI.2 i (by omega), c_isBl hx, bn_s, if_b, if_neg c]
      · rw [h5]
        congr 1
        exact (if_neg c).symm
theorem c_lt (hT : okT L T) : ∀ (m i n : Nat) (I : ev_I), i + m = L → TpC t L T I → I t 6 = nI i → m < n → ∃ J, lX7_step_89 t n I = some J ∧ J t 6 = nI (rn T isL m i) ∧ J t 7 = nI 1 ∧ J t 5 = I t 5 ∧ F3 t I J := by
  have hL := hT.1
  intro m
  induction m with
  | zero =>
    intro i n I hi hI h6 hn
    obtain ⟨n, rfl⟩ : ∃ k, n = k + 1 := ⟨n - 1, by omega⟩
    refine ⟨ev_u2 I t 7 (1 : Int32), ?_, (u2_o (by omega)).trans h6, u2_s, u2_o (by omega), F3_u (by omega)⟩
    show cX7_step_89 t _ n _ = _
    unfold cX7_step_89 cX7_step_128
    rw [hI.1, h6, if_pos (nI_le (by omega) (by omega)), lt_b]
  | succ m ih =>
    intro i n I hi hI h6 hn
    obtain ⟨n, rfl⟩ : ∃ k, n = k + 1 := ⟨n - 1, by omega⟩
    have hx := hT.2 i (by omega)
    by_cases c : isL (T i) = true
    · obtain ⟨J, e1, e2, e3, e4, e5⟩ := ih (i + 1) n (ev_u2 I t 6 (nI (i + 1))) (by omega) (TpC_F hI (F3_u (by omega))) u2_s (by omega)
      refine ⟨J, ?_, ?_, e3, e4.trans (u2_o (by omega)), F3_t (F3_u (by omega)) e5⟩
      · show cX7_step_89 t _ n _ = _
        unfold cX7_step_89
        rw [hI.1, h6, if_neg (nI_ge (by omega) (by omega)), ck_in (by omega) (by omega), nI_clamp (by omega), hI.2 i (by omega), c_isLt hx, bn_s, if_b, if_pos c, lt_b, nI_1]
        exact e1
      · rw [e2]
        congr 1
        exact (if_pos c).symm
    · refine ⟨ev_u2 I t 7 (1 : Int32), ?_, ?_, u2_s, u2_o (by omega), F3_u (by omega)⟩
      · show cX7_step_89 t _ n _ = _
        unfold cX7_step_89 cX7_step_128
        rw [hI.1, h6, if_neg (nI_ge (by omega) (by omega)), ck_in (by omega) (by omega), nI_clamp (by omega), hI.2 i (by omega), c_isLt hx, bn_s, if_b, if_neg c, lt_b]
      · rw [u2_o (by omega), h6]
        congr 1
        exact (if_neg c).symm
theorem c_190 {a e : Nat} (h5 : I t 5 = nI a) (h6 : I t 6 = nI e) (ha : a ≤ e) (he : e ≤ 400) : cX7_step_190 t n I = some (ev_u2 I t 7 (nI (if e - a ≤ 4 then 2 else 4))) := by
  unfold cX7_step_190 cX7_step_209
  rw [h5, h6, pk_sub ha, lt_b, lt_b]
  by_cases c : e - a ≤ 4
  · rw [if_neg (show ¬ (4 : Int32) < nI (e - a) from nI_nlt (a := 4) c (by omega)), if_pos c]
    rfl
  · rw [if_pos (show (4 : Int32) < nI (e - a) from nI_lt (a := 4) (by omega) (by omega)), if_neg c]
    rfl
theorem c_dg (hT : okT L T) {a : Nat} : ∀ (m i n : Nat) (I : ev_I), i + m = L → TpC t L T I → I t 6 = nI i → I t 5 = nI a → a ≤ i → m < n → ∃ J, lX7_step_151 t n I = some J ∧ J t 6 = nI (rn T isD m i) ∧ J t 7 = nI (if rn T isD m i - a ≤ 4 then 2 else 4) ∧ J t 5 = I t 5 ∧ F3 t I J := by
  have hL := hT.1
  intro m
  induction m with
  | zero =>
    intro i n I hi hI h6 h5 ha hn
    obtain ⟨n, rfl⟩ : ∃ k, n = k + 1 := ⟨n - 1, by omega⟩
    refine ⟨_, ?_, (u2_o (by omega)).trans h6, u2_s, u2_o (by omega), F3_u (by omega)⟩
    show cX7_step_151 t _ n _ = _
    unfold cX7_step_151
    rw [hI.1, h6, if_pos (nI_le (by omega) (by omega)), c_190 h5 h6 ha (by omega)]
    rfl
  | succ m ih =>
    intro i n I hi hI h6 h5 ha hn
    obtain ⟨n, rfl⟩ : ∃ k, n = k + 1 := ⟨n - 1, by omega⟩
    have hx := hT.2 i (by omega)
    by_cases c : isD (T i) = true
    · obtain ⟨J, e1, e2, e3, e4, e5⟩ := ih (i + 1) n (ev_u2 I t 6 (nI (i + 1))) (by omega) (TpC_F hI (F3_u (by omega))) u2_s ((u2_o (by omega)).trans h5) (by omega) (by omega)
      have er : rn T isD (m + 1) i = rn T isD m (i + 1) := if_pos c
      refine ⟨J, ?_, by rw [er]; exact e2, by rw [er]; exact e3, e4.trans (u2_o (by omega)), F3_t (F3_u (by omega)) e5⟩
      show cX7_step_151 t _ n _ = _
      unfold cX7_step_151
      rw [hI.1, h6, if_neg (nI_ge (by omega) (by omega)), ck_in (by omega) (by omega), nI_clamp (by omega), hI.2 i (by omega), c_isDg hx, bn_s, if_b, if_pos c, lt_b, nI_1]
      exact e1
    · have er : rn T isD (m + 1) i = i := if_neg c
      refine ⟨ev_u2 I t 7 (nI (if i - a ≤ 4 then 2 else 4)), ?_, ?_, ?_, u2_o (by omega), F3_u (by omega)⟩
      · show cX7_step_151 t _ n _ = _
        unfold cX7_step_151
        rw [hI.1, h6, if_neg (nI_ge (by omega) (by omega)), ck_in (by omega) (by omega), nI_clamp (by omega), hI.2 i (by omega), c_isDg hx, bn_s, if_b, if_neg c, c_190 h5 h6 ha (by omega)]
      · rw [u2_o (by omega), h6, er]
      · rw [u2_s, er]
/-- the class goes on to the next token -/
theorem c_stp (hT : okT L T) (hI : TpC t L T I) (hb : b ≤ L) (h6 : I t 6 = nI b) (hn : 1000 ≤ n) : ∃ J, pX7_step n t I = some J ∧ J t 5 = nI (stt L T b) ∧ J t 6 = nI (ent L T b) ∧ J t 7 = nI (kct L T b) ∧ F3 t I J := by
  have hL := hT.1
  have sbd := stt_b (T := T) hb
  obtain ⟨n', J, e1, e2, e3, e4⟩ := c_sk (t := t) hT (L - b) b n (ev_u2 I t 5 (nI b)) (by omega) (TpC_F hI (F3_u (by omega))) u2_s (by omega)
  have eS : rn T isB (L - b) b = stt L T b := rfl
  rw [eS] at e3
  have hJ : TpC t L T J := TpC_F (TpC_F hI (F3_u (by omega))) e4
  have fJ : F3 t I J := F3_t (F3_u (by omega)) e4
  have e0 : pX7_step n t I = cX7_step_47 t n' J := by
    unfold pX7_step
    rw [lt_b, h6]
    exact e2
  have hK : TpC t L T (ev_u2 J t 6 (nI (stt L T b))) := TpC_F hJ (F3_u (by omega))
  have k5 : ev_u2 J t 6 (nI (stt L T b)) t 5 = nI (stt L T b) := (u2_o (by omega)).trans e3
  have fK : F3 t I (ev_u2 J t 6 (nI (stt L T b))) := F3_t fJ (F3_u (by omega))
  rw [e0]
  unfold cX7_step_47 ent kct
  rw [e3, lt_b, k5, hK.1]
  by_cases c : stt L T b < L
  · have hx := hT.2 _ c
    rw [if_pos (nI_lt c (by omega)), if_pos c, if_pos c, ck_in (by omega) (by omega), nI_clamp (by omega), hK.2 _ c, c_isLt hx, bn_s, if_b]
    by_cases d : isL (T (stt L T b)) = true
    · rw [if_pos d, if_pos d, if_pos d]
      obtain ⟨K, f1, f2, f3, f4, f5⟩ := c_lt (t := t) hT (L - stt L T b) (stt L T b) n' _ (by omega) hK u2_s (by omega)
      exact ⟨K, f1, f4.trans k5, f2, f3, F3_t fK f5⟩
    · rw [if_neg d, if_neg d, if_neg d, ck_in (by omega) (by omega), c_isDg hx, bn_s, if_b]
      by_cases e : isD (T (stt L T b)) = true
      · rw [if_pos e, if_pos e, if_pos e]
        obtain ⟨K, f1, f2, f3, f4, f5⟩ := c_dg (t := t) hT (a := stt L T b) (L - stt L T b) (stt L T b) n' _ (by omega) hK u2_s k5 (Nat.le_refl _) (by omega)
        have eE : ent L T b = rn T isD (L - stt L T b) (stt L T b) := by unfold ent; rw [if_pos c, if_neg d, if_pos e]
        exact ⟨K, f1, f4.trans k5, f2, by rw [eE]; exact f3, F3_t fK f5⟩
      · rw [if_neg e, if_neg e, if_neg e, nI_1, lt_b]
        have m5 : ev_u2 (ev_u2 J t 6 (nI (stt L T b))) t 6 (nI (stt L T b + 1)) t 5 = nI (stt L T b) := (u2_o (by omega)).trans k5
        have hM : TpC t L T (ev_u2 (ev_u2 J t 6 (nI (stt L T b))) t 6 (nI (stt L T b + 1))) := TpC_F hK (F3_u (by omega))
        rw [m5, ck_in (by omega) (by omega), nI_clamp (by omega), hM.2 _ c]
        unfold cX7_step_245
        by_cases g : T (stt L T b) = 59
        · rw [if_pos ((sb_59 _ hx).mpr g), if_pos g, lt_b]
          exact ⟨_, rfl, (u2_o (by omega)).trans m5, (u2_o (by omega)).trans u2_s, u2_s, F3_t fK (F3_t (F3_u (by omega)) (F3_u (by omega)))⟩
        · rw [if_neg (fun e => g ((sb_59 _ hx).mp e)), if_neg g, lt_b]
          exact ⟨_, rfl, (u2_o (by omega)).trans m5, (u2_o (by omega)).trans u2_s, u2_s, F3_t fK (F3_t (F3_u (by omega)) (F3_u (by omega)))⟩
  · rw [if_neg (nI_nlt (by omega) (by omega)), if_neg c, if_neg c, lt_b]
    exact ⟨_, rfl, (u2_o (by omega)).trans k5, (u2_o (by omega)).trans u2_s, u2_s, F3_t fK (F3_u (by omega))⟩
end Lex
/-! words, by the class's numbers of texts -/
def wln : List Nat := [7, 7, 4, 4, 4, 7, 4, 3, 4, 5]
def wch : List (List Nat) := [[112, 114, 111, 112, 111, 115, 101], [100, 101, 108, 105, 118, 101, 114], [100, 114, 111, 112], [108, 111, 115, 101], [116, 117, 114, 110], [116, 105, 109, 101, 111, 117, 116], [99, 97, 108, 109], [108, 105, 101], [109, 97, 114, 107], [98, 108, 111, 99, 107]]
def wl (k : Nat) : Nat := wln.getD k 0
def wd (k i : Nat) : Nat := (wch.getD k []).getD i 0
theorem wl_e : ∀ k, k < 10 → ev_ln.getD k 0 = wl k := by decide +kernel
theorem wd_e : ∀ k, k < 10 → ∀ i, i < wl k → ev_ch k i = nI (wd k i) ∧ wd k i < 128 ∧ wd k i ≠ 32 := by decide +kernel
theorem wl_b : ∀ k, k < 10 → wl k ≤ 7 ∧ 3 ≤ wl k := by decide +kernel
theorem w_un : ∀ k, k < 10 → ∀ k', k' < 10 → k ≠ k' → wl k ≠ wl k' ∨ ∃ i, i < wl k ∧ wd k i ≠ wd k' i := by decide +kernel
def mtN (T : Nat → Nat) (k a : Nat) : Nat → Nat → Bool
  | 0, i => i == wl k
  | m + 1, i => decide (i < wl k ∧ T (a + i) = wd k i) && mtN T k a m (i + 1)
/-- whether the word k stands from a to e -/
def weq (T : Nat → Nat) (k a e : Nat) : Bool := mtN T k a (e - a) 0
theorem mt_len {T : Nat → Nat} {k a : Nat} : ∀ (m i : Nat), mtN T k a m i = true → i + m = wl k ∧ ∀ j, i ≤ j → j < wl k → T (a + j) = wd k j
  | 0, i, h => by
    have e : i = wl k := by simpa [mtN] using h
    exact ⟨by omega, fun j h1 h2 => by omega⟩
  | m + 1, i, h => by
    have h' : (i < wl k ∧ T (a + i) = wd k i) ∧ mtN T k a m (i + 1) = true := by simpa [mtN] using h
    obtain ⟨e1, e2⟩ := mt_len m (i + 1) h'.2
    refine ⟨by omega, fun j h1 h2 => ?_⟩
    by_cases c : j = i
    · rw [c]; exact h'.1.2
    · exact e2 j (by omega) h2
theorem weq_un {T : Nat → Nat} {k k' a e : Nat} (hk : k < 10) (hk' : k' < 10) (h : weq T k a e = true) (h' : weq T k' a e = true) : k = k' := by
  by_cases c : k = k'
  · exact c
  · obtain ⟨e1, e2⟩ := mt_len _ _ h
    obtain ⟨f1, f2⟩ := mt_len _ _ h'
    rcases w_un k hk k' hk' c with d | ⟨i, hi, d⟩
    · omega
    · exact absurd ((e2 i (by omega) hi).symm.trans (f2 i (by omega) (by omega))) d
section Wrd
variable {n t q L b : Nat} {T : Nat → Nat} {I : ev_I}
theorem sb_e : ∀ x, x < 256 → ∀ c, c < 128 → (sb x = nI c ↔ x = c) := by
  intro x hx c hc
  unfold sb
  by_cases d : x < 128
  · rw [if_pos d, nI_eq (by omega) (by omega)]
  · rw [if_neg d]
    constructor
    · intro e
      have := pk_sneg (a := x) (b := 256) (by omega) hx
      rw [e] at this
      exact absurd this (nI_pos (by omega))
    · intro e; omega
theorem c_hrL (hT : okT L T) (hI : TpC t L T I) {k a : Nat} (hk : k < 10) (h5 : I t 5 = nI a) (hw : a + wl k ≤ L) : ∀ (m i n : Nat), i + m = wl k → m < n → lX7_isHere_20 t k n (nI i) I = some (nI (b01 (mtN T k a m i)), I) := by
  have hL := hT.1
  intro m
  induction m with
  | zero =>
    intro i n hi hn
    obtain ⟨n, rfl⟩ : ∃ k, n = k + 1 := ⟨n - 1, by omega⟩
    show cX7_isHere_20 t k _ n _ _ = _
    unfold cX7_isHere_20
    rw [ev_ckT (by unfold ev_le; rw [decide_eq_true_eq]; omega), wl_e k hk, if_pos (nI_le (by omega) (by have := wl_b k hk; omega)), show mtN T k a 0 i = true by simp [mtN]; omega]
    rfl
  | succ m ih =>
    intro i n hi hn
    obtain ⟨n, rfl⟩ : ∃ k, n = k + 1 := ⟨n - 1, by omega⟩
    have wb := wl_b k hk
    obtain ⟨w1, w2, w3⟩ := wd_e k hk i (by omega)
    have hx := hT.2 (a + i) (by omega)
    show cX7_isHere_20 t k _ n _ _ = _
    unfold cX7_isHere_20
    rw [ev_ckT (by unfold ev_le; rw [decide_eq_true_eq]; omega), wl_e k hk, if_neg (nI_ge (by omega) (by omega)), h5, nI_add, ck_in (by omega) (by omega), ev_ckT (by unfold ev_le; rw [decide_eq_true_eq]; omega), ck_in (by omega) (by omega), nI_clamp (by omega), nI_clamp (by omega), hI.2 _ (by omega), w1, lt_b, nI_1]
    by_cases c : T (a + i) = wd k i
    · rw [if_pos ((sb_e _ hx _ w2).mpr c), ih (i + 1) n (by omega) (by omega), show mtN T k a (m + 1) i = mtN T k a m (i + 1) by simp [mtN, c]; omega]
    · rw [if_neg (fun e => c ((sb_e _ hx _ w2).mp e)), show mtN T k a (m + 1) i = false by simp [mtN, c]]
      rfl
theorem c_isHere (hT : okT L T) (hI : TpC t L T I) {k a e : Nat} (hk : k < 10) (h5 : I t 5 = nI a) (h6 : I t 6 = nI e) (ha : a ≤ e) (he : e ≤ L) (hn : 100 ≤ n) : pX7_isHere n t k I = some (nI (b01 (weq T k a e)), I) := by
  have hL := hT.1
  have wb := wl_b k hk
  unfold pX7_isHere
  rw [ev_ckT (by unfold ev_le; rw [decide_eq_true_eq]; omega), wl_e k hk, h5, h6, pk_sub ha]
  by_cases c : wl k = e - a
  · rw [if_pos (congrArg nI c), show (0 : Int32) = nI 0 from rfl, c_hrL hT hI hk h5 (by omega) (wl k) 0 n (by omega) (by omega)]
    unfold weq
    rw [c]
  · rw [if_neg (fun q => c ((nI_eq (by omega) (by omega)).mp q)), show weq T k a e = false from Bool.eq_false_iff.mpr (fun q => by
      have := (mt_len _ _ q).1
      omega)]
    rfl
end Wrd
