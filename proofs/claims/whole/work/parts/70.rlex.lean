/-! THE TAPE: the reference's tokens -/
def wrL : List Nat := [32, 112, 114, 111, 112, 111, 115, 101, 32, 100, 101, 108, 105, 118, 101, 114, 32, 100, 114, 111, 112, 32, 108, 111, 115, 101, 32, 116, 117, 114, 110, 32, 116, 105, 109, 101, 111, 117, 116, 32, 108, 105, 101, 32, 109, 97, 114, 107, 32, 98, 108, 111, 99, 107, 32, 99, 97, 108, 109, 32]
def wr (j : Nat) : Nat := wrL.getD j 0
def txL : List Nat := [0, 1, 2, 3, 4, 5, 7, 8, 9, 6]
def tx (w : Nat) : Nat := txL.getD w 0
def wpL : List Nat := [0, 8, 16, 21, 26, 31, 39, 43, 48, 54, 59]
def wp (w : Nat) : Nat := wpL.getD w 0
theorem wr_t : ∀ w, w < 10 → tx w < 10 ∧ wp w < 59 ∧ wp (w + 1) = wp w + 1 + wl (tx w) ∧ wp (w + 1) < 60 ∧ wr (wp w + 1 + wl (tx w)) = 32 ∧ ∀ i, i < wl (tx w) → wr (wp w + 1 + i) = wd (tx w) i := by decide +kernel
theorem wp_10 : wp 10 = 59 := rfl
theorem wp_0 : wp 0 = 0 := rfl
theorem wr_b : ∀ j, j < 60 → wr j < 128 := by decide +kernel
def TpR (q L : Nat) (T : Nat → Nat) (I : ev_I) : Prop := I q 8 = nI L ∧ (∀ j, j < L → I (q + 7) j = nI (T j)) ∧ ∀ j, j < 60 → I (q + 8) j = nI (wr j)
def F4 (q : Nat) (I J : ev_I) : Prop := ∀ a j, ¬ (a = q ∧ 9 ≤ j ∧ j ≤ 12) → J a j = I a j
theorem F4_t {t : Nat} {I J K : ev_I} (h1 : F4 t I J) (h2 : F4 t J K) : F4 t I K := fun a j h => (h2 a j h).trans (h1 a j h)
theorem F4_u {t k : Nat} {I : ev_I} {v : Int32} (hk : 9 ≤ k ∧ k ≤ 12) : F4 t I (ev_u2 I t k v) := fun a j h => by
  unfold ev_u2
  rw [if_neg (by omega)]
theorem TpR_F {q L : Nat} {T : Nat → Nat} {I J : ev_I} (h : TpR q L T I) (f : F4 q I J) : TpR q L T J := ⟨by rw [f q 8 (by omega)]; exact h.1, fun j hj => by rw [f (q + 7) j (by omega)]; exact h.2.1 j hj, fun j hj => by rw [f (q + 8) j (by omega)]; exact h.2.2 j hj⟩
def rwv (L : Nat) (T : Nat → Nat) (i : Nat) : Int32 := if i < L then nI (T i) else -1
theorem weq_of {T : Nat → Nat} {k a : Nat} : ∀ (m i : Nat), i + m = wl k → (∀ j, i ≤ j → j < wl k → T (a + j) = wd k j) → mtN T k a m i = true
  | 0, i, h, _ => by simp [mtN]; omega
  | m + 1, i, h, g => by
    have := weq_of m (i + 1) (by omega) (fun j h1 h2 => g j (by omega) h2)
    simp [mtN, this, g i (by omega) (by omega)]
    omega
section RLex
variable {n q L b : Nat} {T : Nat → Nat} {I : ev_I}
theorem r_raw {i : Nat} (hT : okT L T) (hI : TpR q L T I) (hi : i ≤ L) : pX10_raw n q (nI i) I = some (rwv L T i) := by
  have hL := hT.1
  unfold pX10_raw rwv
  rw [hI.1]
  by_cases c : i < L
  · rw [if_neg (nI_ge c (by omega)), if_pos c, ck_in (by omega) (by omega), nI_clamp (by omega), hI.2.1 i c]
  · rw [if_pos (nI_le (by omega) (by omega)), if_neg c]
theorem r_isLt {i : Nat} (hT : okT L T) : pX10_isLetter n q (rwv L T i) I = some (nI (b01 (decide (i < L) && isL (T i)))) := by
  unfold rwv
  by_cases c : i < L
  · rw [if_pos c]
    exact (r_isL0 (T i) (hT.2 i c)).trans (by simp [c])
  · rw [if_neg c]
    have h0 : pX10_isLetter 0 0 (-1) (fun _ _ => 0) = some (nI (b01 false)) := by decide
    exact Eq.trans h0 (by simp [c])
theorem r_isDg {i : Nat} (hT : okT L T) : pX10_isDigit n q (rwv L T i) I = some (nI (b01 (decide (i < L) && isD (T i)))) := by
  unfold rwv
  by_cases c : i < L
  · rw [if_pos c]
    exact (r_isD0 (T i) (hT.2 i c)).trans (by simp [c])
  · rw [if_neg c]
    have h0 : pX10_isDigit 0 0 (-1) (fun _ _ => 0) = some (nI (b01 false)) := by decide
    exact Eq.trans h0 (by simp [c])
/-- the reference skips blanks -/
theorem r_sk (hT : okT L T) : ∀ (m i n : Nat) (I : ev_I), i + m = L → TpR q L T I → I q 9 = nI i → m < n → ∃ n' J, n ≤ n' + m + 1 ∧ lX10_reads_0 q n I = cX10_reads_0 q (lX10_reads_0 q n') n' J ∧ J q 9 = nI (rn T isB m i) ∧ F4 q I J ∧ (rn T isB m i < L → isB (T (rn T isB m i)) = false) := by
  have hL := hT.1
  intro m
  induction m with
  | zero =>
    intro i n I hi hI h9 hn
    obtain ⟨n, rfl⟩ : ∃ k, n = k + 1 := ⟨n - 1, by omega⟩
    exact ⟨n, I, by omega, rfl, h9, fun _ _ _ => rfl, fun h => by
      have : rn T isB 0 i = i := rfl
      omega⟩
  | succ m ih =>
    intro i n I hi hI h9 hn
    obtain ⟨n, rfl⟩ : ∃ k, n = k + 1 := ⟨n - 1, by omega⟩
    have hx := hT.2 i (by omega)
    by_cases c : isB (T i) = true
    · obtain ⟨n', J, e1, e2, e3, e4, e5⟩ := ih (i + 1) n (ev_u2 I q 9 (nI (i + 1))) (by omega) (TpR_F hI (F4_u (by omega))) u2_s (by omega)
      have er : rn T isB (m + 1) i = rn T isB m (i + 1) := if_pos c
      refine ⟨n', J, by omega, ?_, by rw [er]; exact e3, F4_t (F4_u (by omega)) e4, by rw [er]; exact e5⟩
      show cX10_reads_0 q _ n _ = _
      rw [← e2]
      unfold cX10_reads_0 cX10_reads_26
      rw [h9, r_raw hT hI (by omega), bn_s, bn_s, show rwv L T i = nI (T i) from if_pos (by omega), lt_b, nI_1]
      have c' : T i = 32 ∨ T i = 10 := by simpa [isB] using c
      rcases c' with c' | c'
      · rw [c', if_pos (show nI 32 = (32 : Int32) from rfl)]
      · rw [c', if_neg (by decide), if_pos (show nI 10 = (10 : Int32) from rfl)]
    · have er : rn T isB (m + 1) i = i := if_neg c
      exact ⟨n, I, by omega, rfl, by rw [er]; exact h9, fun _ _ _ => rfl, fun _ => by rw [er]; simpa using c⟩
/-- one word of the reference's row against the tape -/
theorem r_w93 {K5 : Int32 → Int32 → Int32 → Int32 → ev_I → Option (Int32)} {K19 : Int32 → Int32 → Int32 → Int32 → Int32 → ev_I → Option (Int32)} {y1 y2 y3 : Int32} (hI : TpR q L T I) {w : Nat} (hw : w < 10) : ∀ (m i n : Nat), i + m = wl (tx w) → m < n → lX10_wordAt_93 q K5 K19 n y1 y2 y3 (nI (wp w + 1 + i)) I = K5 y1 y2 y3 (nI (wp (w + 1))) I := by
  obtain ⟨w1, w2, w3, w4, w5, w6⟩ := wr_t w hw
  intro m
  induction m with
  | zero =>
    intro i n hi hn
    obtain ⟨n, rfl⟩ : ∃ k, n = k + 1 := ⟨n - 1, by omega⟩
    show cX10_wordAt_93 q K5 K19 _ n _ _ _ _ _ = _
    unfold cX10_wordAt_93
    rw [ck_in (by omega) (by omega), nI_clamp (by omega), hI.2.2 _ (by omega), show wp w + 1 + i = wp w + 1 + wl (tx w) by omega, w5, if_pos (show nI 32 = (32 : Int32) from rfl), w3]
  | succ m ih =>
    intro i n hi hn
    obtain ⟨n, rfl⟩ : ∃ k, n = k + 1 := ⟨n - 1, by omega⟩
    obtain ⟨v1, v2, v3⟩ := wd_e (tx w) w1 i (by omega)
    show cX10_wordAt_93 q K5 K19 _ n _ _ _ _ _ = _
    unfold cX10_wordAt_93
    rw [ck_in (by omega) (by omega), nI_clamp (by omega), hI.2.2 _ (by omega), w6 i (by omega), if_neg (show ¬ nI (wd (tx w) i) = (32 : Int32) from fun e => v3 ((nI_eq (b := 32) (by omega) (by omega)).mp e)), lt_b, nI_1]
    exact ih (i + 1) n (by omega) (by omega)
theorem r_w19 {K5 : Int32 → Int32 → Int32 → Int32 → ev_I → Option (Int32)} {y3 : Int32} (hT : okT L T) (hI : TpR q L T I) {w a e : Nat} (hw : w < 10) (he : e ≤ L) (hl : ∀ j, a ≤ j → j < e → T j ≠ 32) : ∀ (m i n : Nat), i + m = wl (tx w) → a + i ≤ e → (∀ j, j < i → T (a + j) = wd (tx w) j) → m + 20 < n → lX10_wordAt_19 q K5 n (nI a) (nI e) y3 (nI (wp w)) (nI i) I = if weq T (tx w) a e = true then some y3 else K5 (nI a) (nI e) y3 (nI (wp (w + 1))) I := by
  have hL := hT.1
  obtain ⟨w1, w2, w3, w4, w5, w6⟩ := wr_t w hw
  have wb := wl_b (tx w) w1
  have h87 : ∀ n K19, 10 < n → cX10_wordAt_87 q K5 K19 n (nI a) (nI e) y3 (nI (wp w)) I = K5 (nI a) (nI e) y3 (nI (wp (w + 1))) I := by
    intro n K19 hn
    unfold cX10_wordAt_87
    rw [lt_b, nI_1]
    exact r_w93 hI hw (wl (tx w)) 0 n (by omega) (by omega)
  intro m
  induction m with
  | zero =>
    intro i n hi ha hm hn
    obtain ⟨n, rfl⟩ : ∃ k, n = k + 1 := ⟨n - 1, by omega⟩
    have ei : i = wl (tx w) := by omega
    show cX10_wordAt_19 q K5 _ n _ _ _ _ _ _ = _
    unfold cX10_wordAt_19 cX10_wordAt_60
    rw [nI_add, nI_1, nI_add, h87 n _ (by omega)]
    by_cases c : a + i = e
    · rw [if_pos (nI_le (by omega) (by omega)), if_pos (congrArg nI c), ck_in (by omega) (by omega), nI_clamp (by omega), hI.2.2 _ (by omega), ei, w5, if_pos (show nI 32 = (32 : Int32) from rfl), if_pos]
      unfold weq
      exact weq_of _ _ (by omega) (fun j _ h2 => hm j (by omega))
    · rw [if_neg (nI_ge (by omega) (by omega)), ck_in (by omega) (by omega), ck_in (by omega) (by omega), nI_clamp (by omega), nI_clamp (by omega), hI.2.2 _ (by omega), hI.2.1 _ (by omega), ei, w5, if_neg (fun g => hl (a + wl (tx w)) (by omega) (by omega) ((nI_eq (by omega) (by have := hT.2 (a + wl (tx w)) (by omega); omega)).mp g).symm), if_neg (fun g => c ((nI_eq (by omega) (by omega)).mp (by rw [ei]; exact g))), if_neg (fun g => by
        have := (mt_len _ _ g).1
        omega)]
  | succ m ih =>
    intro i n hi ha hm hn
    obtain ⟨n, rfl⟩ : ∃ k, n = k + 1 := ⟨n - 1, by omega⟩
    obtain ⟨v1, v2, v3⟩ := wd_e (tx w) w1 i (by omega)
    show cX10_wordAt_19 q K5 _ n _ _ _ _ _ _ = _
    unfold cX10_wordAt_19 cX10_wordAt_60
    rw [nI_add, nI_1, nI_add, h87 n _ (by omega)]
    by_cases c : a + i = e
    · rw [if_pos (nI_le (by omega) (by omega)), if_pos (congrArg nI c), ck_in (by omega) (by omega), nI_clamp (by omega), hI.2.2 _ (by omega), w6 i (by omega), if_neg (show ¬ nI (wd (tx w) i) = (32 : Int32) from fun g => v3 ((nI_eq (b := 32) (by omega) (by omega)).mp g)), if_neg (fun g => by
        have := (mt_len _ _ g).1
        omega)]
    · have hx := hT.2 (a + i) (by omega)
      rw [if_neg (nI_ge (by omega) (by omega)), ck_in (by omega) (by omega), ck_in (by omega) (by omega), nI_clamp (by omega), nI_clamp (by omega), hI.2.2 _ (by omega), hI.2.1 _ (by omega), w6 i (by omega)]
      by_cases d : wd (tx w) i = T (a + i)
      · rw [if_pos (congrArg nI d), lt_b, nI_1]
        exact ih (i + 1) n (by omega) (by omega) (fun j hj => by
          by_cases g : j = i
          · rw [g]; exact d.symm
          · exact hm j (by omega)) (by omega)
      · rw [if_neg (fun g => d ((nI_eq (by omega) (by omega)).mp g)), if_neg (fun g => c ((nI_eq (by omega) (by omega)).mp g)), if_neg (show ¬ weq T (tx w) a e = true from fun g => d ((mt_len (e - a) 0 g).2 i (by omega) (by omega)).symm)]
/-- the word's place in the reference's row, 10 if none -/
def wvN (T : Nat → Nat) (a e : Nat) : Nat → Nat → Nat
  | 0, _ => 10
  | m + 1, w => if weq T (tx w) a e = true then w else wvN T a e m (w + 1)
def wv (T : Nat → Nat) (a e : Nat) : Nat := wvN T a e 10 0
theorem wvN_s {a e : Nat} : ∀ (m w : Nat), w + m = 10 → (wvN T a e m w = 10 ∧ ∀ v, w ≤ v → v < 10 → weq T (tx v) a e = false) ∨ (wvN T a e m w < 10 ∧ weq T (tx (wvN T a e m w)) a e = true)
  | 0, w, h => Or.inl ⟨rfl, fun v h1 h2 => by omega⟩
  | m + 1, w, h => by
    by_cases c : weq T (tx w) a e = true
    · rw [show wvN T a e (m + 1) w = w from if_pos c]
      exact Or.inr ⟨by omega, c⟩
    · rw [show wvN T a e (m + 1) w = wvN T a e m (w + 1) from if_neg c]
      rcases wvN_s m (w + 1) (by omega) with g | g
      · refine Or.inl ⟨g.1, fun v h1 h2 => ?_⟩
        by_cases d : v = w
        · rw [d]; simpa using c
        · exact g.2 v (by omega) h2
      · exact Or.inr g
theorem tx_on : ∀ k, k < 10 → ∃ w, w < 10 ∧ tx w = k := by decide +kernel
theorem wv_s {a e : Nat} : (wv T a e = 10 ∧ ∀ k, k < 10 → weq T k a e = false) ∨ (wv T a e < 10 ∧ ∀ k, k < 10 → weq T k a e = decide (k = tx (wv T a e))) := by
  rcases wvN_s (T := T) (a := a) (e := e) 10 0 rfl with g | g
  · refine Or.inl ⟨g.1, fun k hk => ?_⟩
    obtain ⟨w, h1, h2⟩ := tx_on k hk
    rw [← h2]
    exact g.2 w (by omega) h1
  · refine Or.inr ⟨g.1, fun k hk => ?_⟩
    by_cases c : k = tx (wv T a e)
    · rw [decide_eq_true c, c]; exact g.2
    · rw [decide_eq_false c]
      exact Bool.eq_false_iff.mpr (fun h => c (weq_un hk (wr_t _ g.1).1 h g.2))
def wo (k : Nat) : Int32 := if k = 10 then -1 else nI k
theorem r_w5 (hT : okT L T) (hI : TpR q L T I) {a e : Nat} (ha : a ≤ e) (he : e ≤ L) (hl : ∀ j, a ≤ j → j < e → T j ≠ 32) : ∀ (m w n : Nat) (y : Int32), w + m = 10 → y + 1 = nI w → m + 40 < n → lX10_wordAt_5 q n (nI a) (nI e) y (nI (wp w)) I = some (wo (wvN T a e m w)) := by
  have hL := hT.1
  intro m
  induction m with
  | zero =>
    intro w n y hw hy hn
    obtain ⟨n, rfl⟩ : ∃ k, n = k + 1 := ⟨n - 1, by omega⟩
    obtain rfl : w = 10 := by omega
    rfl
  | succ m ih =>
    intro w n y hw hy hn
    obtain ⟨n, rfl⟩ : ∃ k, n = k + 1 := ⟨n - 1, by omega⟩
    obtain ⟨w1, w2, w3, w4, w5, w6⟩ := wr_t w (by omega)
    have wb := wl_b (tx w) w1
    show cX10_wordAt_5 q _ n _ _ _ _ _ = _
    unfold cX10_wordAt_5
    rw [if_neg (show ¬ (59 : Int32) ≤ nI (wp w) from nI_ge (b := 59) (by omega) (by omega)), lt_b, hy, show (0 : Int32) = nI 0 from rfl, r_w19 hT hI (by omega) he hl (wl (tx w)) 0 n (by omega) (by omega) (fun j hj => by omega) (by omega)]
    by_cases c : weq T (tx w) a e = true
    · rw [if_pos c, show wvN T a e (m + 1) w = w from if_pos c]
      unfold wo
      rw [if_neg (by omega)]
    · rw [if_neg c, show wvN T a e (m + 1) w = wvN T a e m (w + 1) from if_neg c]
      exact ih (w + 1) n (nI w) (by omega) (nI_1 w) (by omega)
theorem r_wordAt (hT : okT L T) (hI : TpR q L T I) {a e : Nat} (ha : a ≤ e) (he : e ≤ L) (hl : ∀ j, a ≤ j → j < e → T j ≠ 32) (hn : 100 ≤ n) : pX10_wordAt n q (nI a) (nI e) I = some (wo (wv T a e)) := r_w5 hT hI ha he hl 10 0 n (-1) rfl rfl (by omega)
theorem r_lt (hT : okT L T) {a : Nat} : ∀ (m i n : Nat) (I : ev_I), i + m = L → TpR q L T I → I q 9 = nI i → I q 10 = nI a → I q 11 = nI 1 → a ≤ i → (∀ j, a ≤ j → j < i → isL (T j) = true) → m + 100 < n → ∃ J, lX10_reads_95 q n I = some J ∧ J q 9 = nI (rn T isL m i) ∧ J q 10 = nI a ∧ J q 11 = nI (if wv T a (rn T isL m i) = 10 then 1 else 2) ∧ J q 12 = wo (wv T a (rn T isL m i)) ∧ F4 q I J := by
  have hL := hT.1
  have fin : ∀ (i n : Nat) (I : ev_I), TpR q L T I → i ≤ L → I q 9 = nI i → I q 10 = nI a → I q 11 = nI 1 → a ≤ i → (∀ j, a ≤ j → j < i → isL (T j) = true) → 100 ≤ n → ∀ K, (i < L → isL (T i) = false) → ∃ J, cX10_reads_95 q K n I = some J ∧ J q 9 = nI i ∧ J q 10 = nI a ∧ J q 11 = nI (if wv T a i = 10 then 1 else 2) ∧ J q 12 = wo (wv T a i) ∧ F4 q I J := by
    intro i n I hI hi h9 h10 h11 ha hl hn K hs
    have e0 : (decide (i < L) && isL (T i)) = false := by
      by_cases c : i < L
      · rw [hs c]; simp
      · simp [c]
    unfold cX10_reads_95
    rw [h9, r_raw hT hI hi, bn_s, r_isLt hT, bn_s, e0, if_b, if_neg Bool.false_ne_true, h10, r_wordAt hT hI ha hi (fun j h1 h2 => isL_n _ (hT.2 j (by omega)) (hl j h1 h2)) hn, bn_s, lt_b, u2_s]
    by_cases c : wv T a i = 10
    · rw [c, if_pos rfl, if_pos (show wo 10 = (-1 : Int32) from rfl)]
      exact ⟨_, rfl, (u2_o (by omega)).trans h9, (u2_o (by omega)).trans h10, (u2_o (by omega)).trans h11, u2_s, F4_u (by omega)⟩
    · have g : ¬ wo (wv T a i) = (-1 : Int32) := by
        unfold wo
        rw [if_neg c]
        rcases wv_s (T := T) (a := a) (e := i) with d | d
        · exact absurd d.1 c
        · exact nI_m1 (by omega)
      rw [if_neg g, lt_b, if_neg c]
      exact ⟨_, rfl, (u2_o (by omega)).trans ((u2_o (by omega)).trans h9), (u2_o (by omega)).trans ((u2_o (by omega)).trans h10), u2_s, (u2_o (by omega)).trans u2_s, F4_t (F4_u (by omega)) (F4_u (by omega))⟩
  intro m
  induction m with
  | zero =>
    intro i n I hi hI h9 h10 h11 ha hl hn
    obtain ⟨n, rfl⟩ : ∃ k, n = k + 1 := ⟨n - 1, by omega⟩
    exact fin i n I hI (by omega) h9 h10 h11 ha hl (by omega) _ (fun h => by omega)
  | succ m ih =>
    intro i n I hi hI h9 h10 h11 ha hl hn
    obtain ⟨n, rfl⟩ : ∃ k, n = k + 1 := ⟨n - 1, by omega⟩
    by_cases c : isL (T i) = true
    · have er : rn T isL (m + 1) i = rn T isL m (i + 1) := if_pos c
      obtain ⟨J, e1, e2, e3, e4, e5, e6⟩ := ih (i + 1) n (ev_u2 I q 9 (nI (i + 1))) (by omega) (TpR_F hI (F4_u (by omega))) u2_s ((u2_o (by omega)).trans h10) ((u2_o (by omega)).trans h11) (by omega) (fun j h1 h2 => by
        by_cases g : j = i
        · rw [g]; exact c
        · exact hl j h1 (by omega)) (by omega)
      refine ⟨J, ?_, by rw [er]; exact e2, e3, by rw [er]; exact e4, by rw [er]; exact e5, F4_t (F4_u (by omega)) e6⟩
      show cX10_reads_95 q _ n _ = _
      unfold cX10_reads_95
      rw [h9, r_raw hT hI (by omega), bn_s, r_isLt hT, bn_s, show (decide (i < L) && isL (T i)) = true by rw [c]; simp; omega, if_b, if_pos rfl, lt_b, nI_1]
      exact e1
    · have er : rn T isL (m + 1) i = i := if_neg c
      rw [er]
      exact fin i n I hI (by omega) h9 h10 h11 ha hl (by omega) _ (fun _ => by simpa using c)
/-- a number's value -/
def dv (T : Nat → Nat) (a : Nat) : Nat → Nat
  | 0 => 0
  | m + 1 => 10 * dv T a m + (T (a + m) - 48)
theorem r_dg (hT : okT L T) {a : Nat} : ∀ (m i n : Nat) (I : ev_I), i + m = L → TpR q L T I → I q 9 = nI i → I q 10 = nI a → I q 11 = nI 1 → a ≤ i → (∃ v, I q 12 = nI v ∧ v < 200000 ∧ (i - a ≤ 4 → v = dv T a (i - a) ∧ v < 10 ^ (i - a))) → m < n → ∃ J, lX10_reads_171 q n I = some J ∧ J q 9 = nI (rn T isD m i) ∧ J q 10 = nI a ∧ J q 11 = nI (if rn T isD m i - a ≤ 4 then 3 else 1) ∧ (rn T isD m i - a ≤ 4 → J q 12 = nI (dv T a (rn T isD m i - a))) ∧ F4 q I J := by
  have hL := hT.1
  have fin : ∀ (i n : Nat) (I : ev_I), TpR q L T I → i ≤ L → I q 9 = nI i → I q 10 = nI a → I q 11 = nI 1 → a ≤ i → (∃ v, I q 12 = nI v ∧ v < 200000 ∧ (i - a ≤ 4 → v = dv T a (i - a) ∧ v < 10 ^ (i - a))) → ∀ K, (i < L → isD (T i) = false) → ∃ J, cX10_reads_171 q K n I = some J ∧ J q 9 = nI i ∧ J q 10 = nI a ∧ J q 11 = nI (if i - a ≤ 4 then 3 else 1) ∧ (i - a ≤ 4 → J q 12 = nI (dv T a (i - a))) ∧ F4 q I J := by
    intro i n I hI hi h9 h10 h11 ha ⟨v, h12, hv, hd⟩ K hs
    have e0 : (decide (i < L) && isD (T i)) = false := by
      by_cases c : i < L
      · rw [hs c]; simp
      · simp [c]
    unfold cX10_reads_171
    rw [h9, r_raw hT hI hi, bn_s, r_isDg hT, bn_s, e0, if_b, if_neg Bool.false_ne_true, h10, pk_sub ha]
    by_cases c : i - a ≤ 4
    · rw [if_neg (show ¬ (5 : Int32) ≤ nI (i - a) from nI_ge (b := 5) (by omega) (by omega)), lt_b, if_pos c]
      exact ⟨_, rfl, (u2_o (by omega)).trans h9, (u2_o (by omega)).trans h10, u2_s, fun h => by rw [u2_o (by omega), h12, (hd h).1], F4_u (by omega)⟩
    · rw [if_pos (show (5 : Int32) ≤ nI (i - a) from nI_le (a := 5) (by omega) (by omega)), if_neg c]
      exact ⟨_, rfl, h9, h10, h11, fun h => absurd h c, fun _ _ _ => rfl⟩
  intro m
  induction m with
  | zero =>
    intro i n I hi hI h9 h10 h11 ha hv hn
    obtain ⟨n, rfl⟩ : ∃ k, n = k + 1 := ⟨n - 1, by omega⟩
    exact fin i n I hI (by omega) h9 h10 h11 ha hv _ (fun h => by omega)
  | succ m ih =>
    intro i n I hi hI h9 h10 h11 ha hv hn
    obtain ⟨n, rfl⟩ : ∃ k, n = k + 1 := ⟨n - 1, by omega⟩
    by_cases c : isD (T i) = true
    · have er : rn T isD (m + 1) i = rn T isD m (i + 1) := if_pos c
      obtain ⟨v, h12, hv, hd⟩ := hv
      obtain ⟨d1, d2, d3⟩ := isD_n _ (hT.2 i (by omega)) c
      have key : ∃ x, (x < 200000 ∧ (i + 1 - a ≤ 4 → x = dv T a (i + 1 - a) ∧ x < 10 ^ (i + 1 - a))) ∧ cX10_reads_171 q (lX10_reads_171 q n) n I = lX10_reads_171 q n (ev_u2 (ev_u2 I q 12 (nI x)) q 9 (nI (i + 1))) := by
        unfold cX10_reads_171 cX10_reads_223
        rw [h9, r_raw hT hI (by omega), bn_s, r_isDg hT, bn_s, show (decide (i < L) && isD (T i)) = true by rw [c]; simp; omega, if_b, if_pos rfl, bn_s, h12]
        by_cases e : 10000 ≤ v
        · refine ⟨v, ⟨hv, fun h => ?_⟩, ?_⟩
          · obtain ⟨_, g⟩ := hd (by omega)
            have : 10 ^ (i - a) ≤ 10 ^ 3 := Nat.pow_le_pow_right (by omega) (by omega)
            omega
          · rw [if_pos (show (10000 : Int32) ≤ nI v from nI_le (a := 10000) e (by omega)), lt_b, lt_b, u2_o (by omega), h9, nI_1]
        · refine ⟨10 * v + (T i - 48), ⟨by omega, fun h => ?_⟩, ?_⟩
          · obtain ⟨g1, g2⟩ := hd (by omega)
            have e1 : i + 1 - a = (i - a) + 1 := by omega
            rw [e1, Nat.pow_succ]
            refine ⟨?_, by omega⟩
            show _ = 10 * dv T a (i - a) + (T (a + (i - a)) - 48)
            rw [← g1, show a + (i - a) = i by omega]
          · rw [if_neg (show ¬ (10000 : Int32) ≤ nI v from nI_ge (b := 10000) (by omega) (by omega)), lt_b, lt_b, u2_o (by omega), h9, nI_1, show rwv L T i = nI (T i) from if_pos (by omega), show (10 : Int32) = nI 10 from rfl, show (48 : Int32) = nI 48 from rfl, pk_mul, nI_add, pk_sub (by omega), show 10 * v + T i - 48 = 10 * v + (T i - 48) by omega]
      obtain ⟨x, hx, ex⟩ := key
      obtain ⟨J, e1, e2, e3, e4, e5, e6⟩ := ih (i + 1) n (ev_u2 (ev_u2 I q 12 (nI x)) q 9 (nI (i + 1))) (by omega) (TpR_F hI (F4_t (F4_u (by omega)) (F4_u (by omega)))) u2_s ((u2_o (by omega)).trans ((u2_o (by omega)).trans h10)) ((u2_o (by omega)).trans ((u2_o (by omega)).trans h11)) (by omega) ⟨x, (u2_o (by omega)).trans u2_s, hx⟩ (by omega)
      refine ⟨J, ?_, by rw [er]; exact e2, e3, by rw [er]; exact e4, by rw [er]; exact e5, F4_t (F4_t (F4_u (by omega)) (F4_u (by omega))) e6⟩
      show cX10_reads_171 q _ n _ = _
      rw [ex]
      exact e1
    · have er : rn T isD (m + 1) i = i := if_neg c
      rw [er]
      exact fin i n I hI (by omega) h9 h10 h11 ha hv _ (fun _ => by simpa using c)
def krf (L : Nat) (T : Nat → Nat) (b : Nat) : Nat := if kct L T b = 0 then 0 else if kct L T b = 1 then (if wv T (stt L T b) (ent L T b) = 10 then 1 else 2) else if kct L T b = 2 then 3 else if kct L T b = 3 then 4 else 1
def nvl (L : Nat) (T : Nat → Nat) (b : Nat) : Nat := dv T (stt L T b) (ent L T b - stt L T b)
/-- the reference goes on to the next token -/
theorem r_reads (hT : okT L T) (hI : TpR q L T I) (hb : b ≤ L) (h9 : I q 9 = nI b) (hn : 1000 ≤ n) : ∃ J, pX10_reads n q I = some J ∧ J q 9 = nI (ent L T b) ∧ J q 10 = nI (stt L T b) ∧ J q 11 = nI (krf L T b) ∧ (kct L T b = 1 → J q 12 = wo (wv T (stt L T b) (ent L T b))) ∧ (kct L T b = 2 → J q 12 = nI (nvl L T b)) ∧ F4 q I J := by
  have hL := hT.1
  have sbd := stt_b (T := T) hb
  obtain ⟨n', J, e1, e2, e3, e4, e5⟩ := r_sk (q := q) hT (L - b) b n I (by omega) hI h9 (by omega)
  have eS : rn T isB (L - b) b = stt L T b := rfl
  rw [eS] at e3 e5
  have hJ : TpR q L T J := TpR_F hI e4
  unfold pX10_reads
  rw [e2]
  unfold cX10_reads_0
  rw [e3, r_raw hT hJ sbd.2, bn_s]
  by_cases c : stt L T b < L
  · have hx := hT.2 _ c
    have eb := e5 c
    have eb' : ¬ T (stt L T b) = 32 ∧ ¬ T (stt L T b) = 10 := by simpa [isB] using eb
    rw [show rwv L T (stt L T b) = nI (T (stt L T b)) from if_pos c, if_neg (show ¬ nI (T (stt L T b)) = (32 : Int32) from fun g => eb'.1 ((nI_eq (b := 32) (by omega) (by omega)).mp g)), bn_s, if_neg (show ¬ nI (T (stt L T b)) = (10 : Int32) from fun g => eb'.2 ((nI_eq (b := 10) (by omega) (by omega)).mp g)), lt_b, lt_b]
    generalize hK : ev_u2 (ev_u2 J q 10 (nI (stt L T b))) q 11 (1 : Int32) = K
    have fK : F4 q J K := by rw [← hK]; exact F4_t (F4_u (by omega)) (F4_u (by omega))
    have k9 : K q 9 = nI (stt L T b) := by rw [← hK]; exact (u2_o (by omega)).trans ((u2_o (by omega)).trans e3)
    have k10 : K q 10 = nI (stt L T b) := by rw [← hK]; exact (u2_o (by omega)).trans u2_s
    have k11 : K q 11 = nI 1 := by rw [← hK]; exact u2_s
    have tK := TpR_F hJ fK
    rw [k9, r_raw hT tK sbd.2, bn_s, show rwv L T (stt L T b) = nI (T (stt L T b)) from if_pos c, if_neg (show ¬ nI (T (stt L T b)) = (-1 : Int32) from nI_m1 (by omega)), lt_b, lt_b, nI_1]
    generalize hN : ev_u2 (ev_u2 K q 9 (nI (stt L T b + 1))) q 12 (nI (T (stt L T b))) = N
    have fN : F4 q K N := by rw [← hN]; exact F4_t (F4_u (by omega)) (F4_u (by omega))
    have n9 : N q 9 = nI (stt L T b + 1) := by rw [← hN]; exact (u2_o (by omega)).trans u2_s
    have n10 : N q 10 = nI (stt L T b) := by rw [← hN]; exact (u2_o (by omega)).trans ((u2_o (by omega)).trans k10)
    have n11 : N q 11 = nI 1 := by rw [← hN]; exact (u2_o (by omega)).trans ((u2_o (by omega)).trans k11)
    have tN := TpR_F tK fN
    have fIN : F4 q I N := F4_t e4 (F4_t fK fN)
    have hl := r_isLt (n := n') (q := q) (I := N) (i := stt L T b) hT
    have hd := r_isDg (n := n') (q := q) (I := N) (i := stt L T b) hT
    rw [show rwv L T (stt L T b) = nI (T (stt L T b)) from if_pos c, decide_eq_true c, Bool.true_and] at hl hd
    have c2 : stt L T b ≤ L := by omega
    rw [hl, bn_s, if_b]
    by_cases d : isL (T (stt L T b)) = true
    · rw [if_pos d]
      obtain ⟨Z, f1, f2, f3, f4, f5, f6⟩ := r_lt (q := q) hT (a := stt L T b) (L - (stt L T b + 1)) (stt L T b + 1) n' N (by omega) tN n9 n10 n11 (by omega) (fun j h1 h2 => by rw [show j = stt L T b by omega]; exact d) (by omega)
      have ee : ent L T b = rn T isL (L - (stt L T b + 1)) (stt L T b + 1) := by
        unfold ent
        rw [if_pos c, if_pos d, show L - stt L T b = (L - (stt L T b + 1)) + 1 by omega]
        exact if_pos d
      have ek : kct L T b = 1 := by unfold kct; rw [if_pos c, if_pos d]
      rw [← ee] at f2 f4 f5
      refine ⟨Z, f1, f2, f3, ?_, fun _ => f5, fun h => by omega, F4_t fIN f6⟩
      rw [f4]; unfold krf; rw [ek]; rfl
    · rw [if_neg d, hd, bn_s, if_b]
      by_cases e : isD (T (stt L T b)) = true
      · rw [if_pos e, lt_b]
        obtain ⟨g1, g2, g3⟩ := isD_n _ hx e
        have ev : nI (T (stt L T b)) - (48 : Int32) = nI (T (stt L T b) - 48) := pk_sub (b := 48) g2
        rw [ev]
        obtain ⟨Z, f1, f2, f3, f4, f5, f6⟩ := r_dg (q := q) hT (a := stt L T b) (L - (stt L T b + 1)) (stt L T b + 1) n' (ev_u2 N q 12 (nI (T (stt L T b) - 48))) (by omega) (TpR_F tN (F4_u (by omega))) ((u2_o (by omega)).trans n9) ((u2_o (by omega)).trans n10) ((u2_o (by omega)).trans n11) (by omega) ⟨T (stt L T b) - 48, u2_s, by omega, fun _ => by
          rw [show stt L T b + 1 - stt L T b = 1 by omega]
          refine ⟨?_, by omega⟩
          show _ = 10 * 0 + (T (stt L T b + 0) - 48)
          rw [Nat.add_zero]
          omega⟩ (by omega)
        have ee : ent L T b = rn T isD (L - (stt L T b + 1)) (stt L T b + 1) := by
          unfold ent
          rw [if_pos c, if_neg d, if_pos e, show L - stt L T b = (L - (stt L T b + 1)) + 1 by omega]
          exact if_pos e
        rw [← ee] at f2 f4 f5
        have ek : kct L T b = if ent L T b - stt L T b ≤ 4 then 2 else 4 := by unfold kct; rw [if_pos c, if_neg d, if_pos e]
        refine ⟨Z, f1, f2, f3, ?_, fun h => ?_, fun h => ?_, F4_t fIN (F4_t (F4_u (by omega)) f6)⟩
        · rw [f4]; unfold krf; rw [ek]
          by_cases z : ent L T b - stt L T b ≤ 4
          · rw [if_pos z, if_pos z]; rfl
          · rw [if_neg z, if_neg z]; rfl
        · rw [ek] at h
          by_cases z : ent L T b - stt L T b ≤ 4
          · rw [if_pos z] at h; omega
          · rw [if_neg z] at h; omega
        · rw [ek] at h
          by_cases z : ent L T b - stt L T b ≤ 4
          · exact f5 z
          · rw [if_neg z] at h; omega
      · rw [if_neg e]
        have ee : ent L T b = stt L T b + 1 := by unfold ent; rw [if_pos c, if_neg d, if_neg e]
        by_cases g : T (stt L T b) = 59
        · have ek : kct L T b = 3 := by unfold kct; rw [if_pos c, if_neg d, if_neg e, if_pos g]
          rw [if_pos (show nI (T (stt L T b)) = (59 : Int32) from congrArg nI g), lt_b]
          refine ⟨_, rfl, (u2_o (by omega)).trans (by rw [ee]; exact n9), (u2_o (by omega)).trans n10, u2_s.trans ?_, fun h => by omega, fun h => by omega, F4_t fIN (F4_u (by omega))⟩
          unfold krf; rw [ek]; rfl
        · have ek : kct L T b = 4 := by unfold kct; rw [if_pos c, if_neg d, if_neg e, if_neg g]
          rw [if_neg (show ¬ nI (T (stt L T b)) = (59 : Int32) from fun z => g ((nI_eq (b := 59) (by omega) (by omega)).mp z))]
          refine ⟨_, rfl, by rw [ee]; exact n9, n10, n11.trans ?_, fun h => by omega, fun h => by omega, fIN⟩
          unfold krf; rw [ek]; rfl
  · have er : rwv L T (stt L T b) = (-1 : Int32) := if_neg c
    have ek : kct L T b = 0 := by unfold kct; rw [if_neg c]
    have ee : ent L T b = stt L T b := by unfold ent; rw [if_neg c]
    rw [er, if_neg (by decide), bn_s, if_neg (by decide), lt_b, lt_b]
    generalize hK : ev_u2 (ev_u2 J q 10 (nI (stt L T b))) q 11 (1 : Int32) = K
    have fK : F4 q J K := by rw [← hK]; exact F4_t (F4_u (by omega)) (F4_u (by omega))
    have k9 : K q 9 = nI (stt L T b) := by rw [← hK]; exact (u2_o (by omega)).trans ((u2_o (by omega)).trans e3)
    have k10 : K q 10 = nI (stt L T b) := by rw [← hK]; exact (u2_o (by omega)).trans u2_s
    have tK := TpR_F hJ fK
    rw [k9, r_raw hT tK sbd.2, bn_s, er, if_pos rfl, lt_b]
    refine ⟨_, rfl, (u2_o (by omega)).trans (by rw [ee]; exact k9), (u2_o (by omega)).trans k10, u2_s.trans ?_, fun h => by omega, fun h => by omega, F4_t e4 (F4_t fK (F4_u (by omega)))⟩
    unfold krf; rw [ek]; rfl
end RLex
