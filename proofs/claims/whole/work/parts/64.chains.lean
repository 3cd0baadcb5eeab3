/-! CHAINS; what only asks, second: since, would, two, chain -/
theorem log_pw {s : Nat → Nat} {k : Nat} (hL : okL s k) : ∀ (j i : Nat), i ≤ s (2416 + 513 * k + 8) → j ≤ i → pw s j (s (2416 + 513 * k + 12 + i)) = s (2416 + 513 * k + 12 + (i - j))
  | 0, i, hi, hj => rfl
  | j + 1, i, hi, hj => by
    have e := hL.2.2 (i - 1) (by omega)
    rw [show i - 1 + 1 = i by omega] at e
    show pw s j (s (116 + s (2416 + 513 * k + 12 + i)) - 1) = _
    rw [e, Nat.add_sub_cancel, log_pw hL j (i - 1) (by omega) (by omega), show i - 1 - j = i - (j + 1) by omega]
/-- whether b is in the log of k -/
def inl (s : Nat → Nat) (k b : Nat) : Bool := decide (s (516 + b) ≤ s (2416 + 513 * k + 8) ∧ s (2416 + 513 * k + 12 + s (516 + b)) = b)
theorem ext_iff {s : Nat → Nat} {a b : Nat} : ext s a b = true ↔ anc s 100 a (s (516 + b)) = b := by
  unfold ext
  rw [beq_iff_eq]
theorem okS.lst {s : Nat → Nat} (hs : okS s) {k : Nat} (hk : k < 7) : s (2416 + 513 * k + 12 + s (2416 + 513 * k + 8)) ≤ s 3 ∧ s (516 + s (2416 + 513 * k + 12 + s (2416 + 513 * k + 8))) = s (2416 + 513 * k + 8) ∧ s (2416 + 513 * k + 8) ≤ s 3 :=
  ⟨((hs.2.2.2.1 k hk).2.1.2.1 _ (Nat.le_refl _)).1, ((hs.2.2.2.1 k hk).2.1.2.1 _ (Nat.le_refl _)).2, (hs.2.2.2.1 k hk).2.1.1⟩
theorem anc_log {s : Nat → Nat} (hs : okS s) {k h : Nat} (hk : k < 7) (hh : h ≤ s (2416 + 513 * k + 8)) : anc s 100 (s (2416 + 513 * k + 12 + s (2416 + 513 * k + 8))) h = s (2416 + 513 * k + 12 + h) := by
  obtain ⟨l1, l2, l3⟩ := hs.lst hk
  have h3 := hs.b3
  rw [anc_pw hs.1 100 _ h l1 (by omega) (by omega), l2, log_pw (hs.2.2.2.1 k hk).2.1 _ _ (Nat.le_refl _) (by omega), show s (2416 + 513 * k + 8) - (s (2416 + 513 * k + 8) - h) = h by omega]
theorem ext_log {s : Nat → Nat} (hs : okS s) {k b : Nat} (hk : k < 7) (hb : b ≤ s 3) : ext s (s (2416 + 513 * k + 12 + s (2416 + 513 * k + 8))) b = inl s k b := by
  obtain ⟨l1, l2, l3⟩ := hs.lst hk
  rw [Bool.eq_iff_iff, ext_iff]
  unfold inl
  rw [decide_eq_true_eq]
  by_cases c : s (516 + b) ≤ s (2416 + 513 * k + 8)
  · rw [anc_log hs hk c]
    exact ⟨fun h => ⟨c, h⟩, fun h => h.2⟩
  · constructor
    · intro h
      have := ext_h hs.1 l1 (ext_iff.mpr h)
      omega
    · intro h
      exact absurd h.1 c
theorem anc_e {s t : Nat → Nat} (hB : okB s) (e : ∀ j, 11 ≤ j → j < 816 → t j = s j) : ∀ (m x h : Nat), x ≤ s 3 → anc t m x h = anc s m x h
  | 0, x, h, hx => rfl
  | m + 1, x, h, hx => by
    have h3 := hB.1
    show (if t (516 + x) ≤ h then x else anc t m (t (116 + x) - 1) h) = (if s (516 + x) ≤ h then x else anc s m (s (116 + x) - 1) h)
    rw [e (516 + x) (by omega) (by omega), e (116 + x) (by omega) (by omega)]
    by_cases c : s (516 + x) ≤ h
    · rw [if_pos c, if_pos c]
    · rw [if_neg c, if_neg c]
      have h1 := hB.pos hx (by omega)
      obtain ⟨a, b, d⟩ := hB.2.2.2 x h1 hx
      exact anc_e hB e m _ h (by omega)
theorem ext_e {s t : Nat → Nat} (hB : okB s) (e : ∀ j, 11 ≤ j → j < 816 → t j = s j) {a b : Nat} (ha : a ≤ s 3) (hb : b ≤ s 3) : ext t a b = ext s a b := by
  have h3 := hB.1
  unfold ext
  rw [e (516 + b) (by omega) (by omega), anc_e hB e 100 a _ ha]
theorem ext_le {s : Nat → Nat} (hB : okB s) {a b : Nat} (ha : a ≤ s 3) (h : ext s a b = true) : b ≤ a := by
  have := anc_lx hB 100 a (s (516 + b)) ha
  rw [ext_iff.mp h] at this
  exact this
theorem ext_rf {s : Nat → Nat} {a : Nat} : ext s a a = true := by
  rw [ext_iff]
  show (if s (516 + a) ≤ s (516 + a) then a else _) = a
  rw [if_pos (Nat.le_refl _)]
theorem anc_100 {s : Nat → Nat} (hB : okB s) {x t : Nat} (hx : x ≤ s 3) (h1 : 1 ≤ x) (h : ¬ s (516 + x) ≤ t) : anc s 100 x t = anc s 100 (s (116 + x) - 1) t := by
  have h3 := hB.1
  obtain ⟨a, b, d⟩ := hB.2.2.2 x h1 hx
  have e := hB.ht x hx
  rw [show anc s 100 x t = (if s (516 + x) ≤ t then x else anc s 99 (s (116 + x) - 1) t) from rfl, if_neg h]
  exact (anc_st hB 99 _ t (by omega) (by omega)).symm
theorem ext_par {s : Nat → Nat} (hB : okB s) {y z : Nat} (hy : y ≤ s 3) (hz : z < y) : ext s y z = ext s (s (116 + y) - 1) z := by
  obtain ⟨a, b, d⟩ := hB.2.2.2 y (by omega) hy
  rw [Bool.eq_iff_iff, ext_iff, ext_iff]
  by_cases c : s (516 + y) ≤ s (516 + z)
  · have e1 : anc s 100 y (s (516 + z)) = y := by
      show (if s (516 + y) ≤ s (516 + z) then y else _) = y
      rw [if_pos c]
    have e2 : anc s 100 (s (116 + y) - 1) (s (516 + z)) = s (116 + y) - 1 := by
      show (if s (516 + (s (116 + y) - 1)) ≤ s (516 + z) then s (116 + y) - 1 else _) = s (116 + y) - 1
      rw [if_pos (by omega)]
    rw [e1, e2]
    constructor
    · intro h; omega
    · intro h; rw [h] at d; omega
  · rw [anc_100 hB hy (by omega) c]
theorem ext_0 {s : Nat → Nat} (hB : okB s) : ∀ (y : Nat), y ≤ s 3 → ext s y 0 = true := by
  intro y
  induction y using Nat.strongRecOn with
  | _ y ih =>
    intro hy
    by_cases h0 : y = 0
    · rw [h0]; exact ext_rf
    · obtain ⟨a, b, d⟩ := hB.2.2.2 y (by omega) hy
      rw [ext_par hB hy (by omega)]
      exact ih _ (by omega) (by omega)
/-- the first of x and those before it that y extends -/
def cmA (s : Nat → Nat) (y : Nat) : Nat → Nat → Nat
  | 0, x => x
  | m + 1, x => if ext s y x = true then x else cmA s y m (s (116 + x) - 1)
theorem cm_st {s : Nat → Nat} (hB : okB s) {y : Nat} (hy : y ≤ s 3) : ∀ (m x : Nat), x ≤ s 3 → x ≤ m → cmA s y (m + 1) x = cmA s y m x
  | 0, x, hx, hm => by
    have e : x = 0 := by omega
    subst e
    show (if ext s y 0 = true then 0 else _) = 0
    rw [if_pos (ext_0 hB y hy)]
  | m + 1, x, hx, hm => by
    show (if ext s y x = true then x else cmA s y (m + 1) (s (116 + x) - 1)) = (if ext s y x = true then x else cmA s y m (s (116 + x) - 1))
    by_cases c : ext s y x = true
    · rw [if_pos c, if_pos c]
    · rw [if_neg c, if_neg c]
      have h0 : x ≠ 0 := fun e => c (by rw [e]; exact ext_0 hB y hy)
      obtain ⟨a, b, d⟩ := hB.2.2.2 x (by omega) hx
      exact cm_st hB hy m _ (by omega) (by omega)
theorem cm_y {s : Nat → Nat} (hB : okB s) {y : Nat} (hy : y ≤ s 3) : ∀ (m x : Nat), x < y → cmA s y m x = cmA s (s (116 + y) - 1) m x
  | 0, x, hx => rfl
  | m + 1, x, hx => by
    show (if ext s y x = true then x else cmA s y m (s (116 + x) - 1)) = (if ext s (s (116 + y) - 1) x = true then x else cmA s (s (116 + y) - 1) m (s (116 + x) - 1))
    rw [ext_par hB hy hx]
    by_cases c : ext s (s (116 + y) - 1) x = true
    · rw [if_pos c, if_pos c]
    · rw [if_neg c, if_neg c]
      by_cases h0 : x = 0
      · obtain ⟨a, b, d⟩ := hB.2.2.2 y (by omega) hy
        exact absurd (by rw [h0]; exact ext_0 hB _ (by omega)) c
      · obtain ⟨a, b, d⟩ := hB.2.2.2 x (by omega) (by omega)
        exact cm_y hB hy m _ (by omega)
def plS (s : Nat → Nat) : Nat → Nat → Nat
  | 0, _ => 0
  | m + 1, x => s (316 + x) + (if x = 0 then 0 else plS s m (s (116 + x) - 1))
def vrS (s : Nat → Nat) : Nat → Nat → Nat
  | 0, _ => 0
  | m + 1, x => if x ≠ 0 ∧ s (16 + x) = s (16 + (s (116 + x) - 1)) + 1 then 1 + vrS s m (s (116 + x) - 1) else 0
def chN (s : Nat → Nat) (b : Nat) : Nat → Nat → Nat
  | 0, _ => 0
  | m + 1, i => (if ext s i b = true then 1 else 0) + chN s b m (i + 1)
def chM (s : Nat → Nat) (b : Nat) : Nat → Nat → Nat → Nat
  | 0, _, t => t
  | m + 1, i, t => chM s b m (i + 1) (if ext s i b = true then mxn t (s (516 + i)) else t)
theorem ch_sk {s : Nat → Nat} (hB : okB s) {b : Nat} : ∀ (k m i t : Nat), i + k = b → b ≤ s 3 → chN s b (k + m) i = chN s b m b ∧ chM s b (k + m) i t = chM s b m b t
  | 0, m, i, t, hi, hb => by
    have e : i = b := by omega
    subst e
    rw [Nat.zero_add]
    exact ⟨rfl, rfl⟩
  | k + 1, m, i, t, hi, hb => by
    have c : ¬ ext s i b = true := fun h => by have := ext_le hB (by omega) h; omega
    rw [show k + 1 + m = (k + m) + 1 by omega]
    show (if ext s i b = true then 1 else 0) + chN s b (k + m) (i + 1) = _ ∧ chM s b (k + m) (i + 1) (if ext s i b = true then mxn t (s (516 + i)) else t) = _
    rw [if_neg c, if_neg c, Nat.zero_add]
    exact ch_sk hB k m (i + 1) t (by omega) hb
def ctN (p : Nat → Bool) : Nat → Nat → Nat
  | 0, _ => 0
  | m + 1, i => b01 (p i) + ctN p m (i + 1)
def neN (s : Nat → Nat) (base : Nat) : Nat → Nat → Nat
  | 0, _ => 0
  | m + 1, i => (if s (base + i) = 0 then 0 else 1) + neN s base m (i + 1)
theorem ne_sk {s : Nat → Nat} {base : Nat} : ∀ (k m i : Nat), (∀ j, i + k ≤ j → j < i + k + m → s (base + j) = 0) → neN s base (k + m) i = neN s base k i
  | 0, m, i, h => by
    rw [Nat.zero_add]
    show _ = 0
    induction m generalizing i with
    | zero => rfl
    | succ m ih =>
      show (if s (base + i) = 0 then 0 else 1) + neN s base m (i + 1) = 0
      rw [if_pos (h i (by omega) (by omega)), ih (i + 1) (fun j h1 h2 => h j (by omega) (by omega))]
  | k + 1, m, i, h => by
    rw [show k + 1 + m = (k + m) + 1 by omega]
    show (if s (base + i) = 0 then 0 else 1) + neN s base (k + m) (i + 1) = (if s (base + i) = 0 then 0 else 1) + neN s base k (i + 1)
    rw [ne_sk k m (i + 1) (fun j h1 h2 => h j (by omega) (by omega))]
def Wt (q : Nat) (I : ev_I) (s : Nat → Nat) (i : Nat) : ev_I := fun a j => if a = q + 2 ∧ j < i then nI (s j) else I a j
theorem Wt_0 {q : Nat} {I : ev_I} {s : Nat → Nat} : Wt q I s 0 = I := by
  funext a j
  unfold Wt
  rw [if_neg (by omega)]
theorem Wt_Sc {q i : Nat} {I : ev_I} {s : Nat → Nat} : Sc q I (Wt q I s i) := fun a j h => by
  unfold Wt
  rw [if_neg (by omega)]
theorem Wt_g {q i j : Nat} {I : ev_I} {s : Nat → Nat} (h : j < i) : Wt q I s i (q + 2) j = nI (s j) := by
  unfold Wt
  rw [if_pos ⟨rfl, h⟩]
section F6
variable {n q w z : Nat} {I : ev_I} {s : Nat → Nat} {h : Nat} {r : Nat → Int32}
set_option maxRecDepth 100000 in
theorem r_thL : ∀ (m i n : Nat), i + m = 6010 → m < n → lX10_thinks_2 q n (nI i) (M q (Wt q I s i) s) = some (M q (Wt q I s 6010) s) := by
  intro m
  induction m with
  | zero =>
    intro i n hi hn
    obtain ⟨n, rfl⟩ : ∃ k, n = k + 1 := ⟨n - 1, by omega⟩
    have e : i = 6010 := by omega
    subst e
    show cX10_thinks_2 q _ n _ _ = _
    unfold cX10_thinks_2
    rw [if_pos (show (6010 : Int32) ≤ nI 6010 by decide)]
  | succ m ih =>
    intro i n hi hn
    obtain ⟨n, rfl⟩ : ∃ k, n = k + 1 := ⟨n - 1, by omega⟩
    show cX10_thinks_2 q _ n _ _ = _
    unfold cX10_thinks_2
    rw [if_neg (show ¬ (6010 : Int32) ≤ nI i from nI_ge (b := 6010) (by omega) (by omega)), ck_in (by omega) (by omega), ck_in (by omega) (by omega), nI_clamp (by omega), M_get, M_pd (by omega), lt_b, lt_b, nI_1]
    refine Eq.trans ?_ (ih (i + 1) n (by omega) (by omega))
    congr 2
    funext a j
    unfold ev_u2 Wt
    by_cases c : a = q + 2 ∧ j = i
    · rw [if_pos c, if_pos (by omega), c.2]
    · rw [if_neg c]
      by_cases c2 : a = q + 2 ∧ j < i
      · rw [if_pos c2, if_pos (by omega)]
      · rw [if_neg c2, if_neg (by omega)]
theorem r_think (hn : 6100 ≤ n) : pX10_thinks n q (M q I s) = some (M q (Wt q I s 6010) s) := by
  have := r_thL (q := q) (I := I) (s := s) 6010 0 n (by omega) (by omega)
  rw [Wt_0] at this
  exact this
set_option maxRecDepth 100000 in
theorem r_enL {t : Nat → Nat} {J : ev_I} (hJ : ∀ j, j < 6010 → J (q + 2) j = nI (s j)) : ∀ (m i n : Nat), i + m = 6010 → m < n → lX10_endsThought_2 q n (nI i) (M q J (fun j => if j < i then s j else t j)) = some (M q J (fun j => if j < 6010 then s j else t j)) := by
  intro m
  induction m with
  | zero =>
    intro i n hi hn
    obtain ⟨n, rfl⟩ : ∃ k, n = k + 1 := ⟨n - 1, by omega⟩
    have e : i = 6010 := by omega
    subst e
    show cX10_endsThought_2 q _ n _ _ = _
    unfold cX10_endsThought_2
    rw [if_pos (show (6010 : Int32) ≤ nI 6010 by decide)]
  | succ m ih =>
    intro i n hi hn
    obtain ⟨n, rfl⟩ : ∃ k, n = k + 1 := ⟨n - 1, by omega⟩
    show cX10_endsThought_2 q _ n _ _ = _
    unfold cX10_endsThought_2
    rw [if_neg (show ¬ (6010 : Int32) ≤ nI i from nI_ge (b := 6010) (by omega) (by omega)), ck_in (by omega) (by omega), ck_in (by omega) (by omega), nI_clamp (by omega), M_oth (show q + 2 ≠ q + 1 by omega), hJ i (by omega), M_put, lt_b, lt_b, nI_1]
    refine Eq.trans ?_ (ih (i + 1) n (by omega) (by omega))
    congr 2
    funext j
    show (if j = i then s i else if j < i then s j else t j) = (if j < i + 1 then s j else t j)
    refine it0 (fun e => ?_) (fun e => it0 (fun e2 => ?_) (fun e2 => ?_))
    · rw [if_pos (by omega), e]
    · rw [if_pos (by omega)]
    · rw [if_neg (by omega)]
theorem r_ends {t : Nat → Nat} {J : ev_I} (hJ : ∀ j, j < 6010 → J (q + 2) j = nI (s j)) (ht : ∀ j, 6010 ≤ j → t j = s j) (hn : 6100 ≤ n) : pX10_endsThought n q (M q J t) = some (M q J s) := by
  have := r_enL (t := t) hJ 6010 0 n (by omega) (by omega)
  rw [show (fun j => if j < 0 then s j else t j) = t from funext (fun j => if_neg (by omega)), show (fun j => if j < 6010 then s j else t j) = s from funext (fun j => by
    by_cases c : j < 6010
    · rw [if_pos c]
    · rw [if_neg c, ht j (by omega)])] at this
  exact this
theorem c_hasLogged (hs : okS s) {k b : Nat} (hk : k < 7) (hb : b ≤ s 3) : pX3_hasLogged n (w + (23 + 5 * k)) (w + 1) (nI b) (C w I s h r) = some (nI (b01 (inl s k b))) := by
  obtain ⟨l1, l2, l3⟩ := hs.lst hk
  have h3 := hs.b3
  have ht := hs.1.ht b hb
  unfold pX3_hasLogged inl
  rw [ck_in (by omega) (by omega), nI_clamp (by omega), cg_height (by omega), lt_b, cg_logn hk]
  by_cases c : s (516 + b) ≤ s (2416 + 513 * k + 8)
  · have f := (hs.2.2.2.1 k hk).2.1.2.1 _ c
    rw [if_neg (nI_ge (by omega) (by omega)), ck_in (by omega) (by omega), nI_clamp (by omega), cg_logged hk (by omega)]
    by_cases d : s (2416 + 513 * k + 12 + s (516 + b)) = b
    · rw [if_pos (congrArg nI d), decide_eq_true ⟨c, d⟩]; rfl
    · rw [if_neg (fun e => d ((nI_eq (by omega) (by omega)).mp e)), decide_eq_false (fun e => d e.2)]; rfl
  · rw [if_pos (nI_le (by omega) (by omega)), decide_eq_false (fun e => c e.1)]; rfl
theorem r_isInLog (hs : okS s) {k b : Nat} (hk : k < 7) (hb : b ≤ s 3) (hn : 101 ≤ n) : pX10_isInLog n q (nI k) (nI b) (M q I s) = some (nI (b01 (inl s k b))) := by
  obtain ⟨l1, l2, l3⟩ := hs.lst hk
  have h3 := hs.b3
  unfold pX10_isInLog
  rw [r_logLast hk (by omega), bn_s, r_ext hs.1 l1 hb hn, bn_s, ext_log hs hk hb]
  show ev_ck (ev_01 (nI (b01 (inl s k b)))) (some (nI (b01 (inl s k b)))) = _
  rw [ck_1]
theorem fl_b {a : Bool} : pX6_flag n (nI (b01 a)) I = some (nI (b01 a)) := by cases a <;> rfl
theorem r_neL {base N : Nat} (hN : base + N ≤ 6010) (hv : ∀ i, i < N → s (base + i) < 128) : ∀ (m i c n : Nat), i + m = N → m < n → lX10_notEmpty_5 q n (nI base) (nI N) (nI c) (nI i) (M q I s) = some (nI (c + neN s base m i)) := by
  intro m
  induction m with
  | zero =>
    intro i c n hi hn
    obtain ⟨n, rfl⟩ : ∃ k, n = k + 1 := ⟨n - 1, by omega⟩
    show cX10_notEmpty_5 q _ n _ _ _ _ _ = _
    unfold cX10_notEmpty_5
    rw [if_pos (nI_le (by omega) (by omega))]
    rfl
  | succ m ih =>
    intro i c n hi hn
    obtain ⟨n, rfl⟩ : ∃ k, n = k + 1 := ⟨n - 1, by omega⟩
    have hb := hv i (by omega)
    show cX10_notEmpty_5 q _ n _ _ _ _ _ = _
    unfold cX10_notEmpty_5 cX10_notEmpty_27
    rw [if_neg (nI_ge (by omega) (by omega)), nI_add, ck_in (by omega) (by omega), nI_clamp (by omega), M_get, lt_b, lt_b, lt_b, nI_1, nI_1]
    show _ = some (nI (c + ((if s (base + i) = 0 then 0 else 1) + neN s base m (i + 1))))
    by_cases d : s (base + i) = 0
    · rw [d, if_pos (show nI 0 = (0 : Int32) from rfl), if_pos rfl, ih (i + 1) c n (by omega) (by omega), Nat.zero_add]
    · rw [if_neg (nI_ne0 (by omega) (by omega)), if_neg d, ih (i + 1) (c + 1) n (by omega) (by omega), Nat.add_assoc]
theorem c_neL {base N Z a : Nat} {J : ev_I} (hZ : N ≤ Z) (hZ2 : Z < 2 ^ 31) (hJ : ∀ i, i < N → J a i = nI (s (base + i))) (hv : ∀ i, i < N → s (base + i) < 128) : ∀ (m i c n : Nat), i + m = N → m < n → lX6_countFilled_4 a Z n (nI N) (nI c) (nI i) J = some (nI (c + neN s base m i)) := by
  intro m
  induction m with
  | zero =>
    intro i c n hi hn
    obtain ⟨n, rfl⟩ : ∃ k, n = k + 1 := ⟨n - 1, by omega⟩
    show cX6_countFilled_4 a Z _ n _ _ _ _ = _
    unfold cX6_countFilled_4
    rw [if_pos (nI_le (by omega) (by omega))]
    rfl
  | succ m ih =>
    intro i c n hi hn
    obtain ⟨n, rfl⟩ : ∃ k, n = k + 1 := ⟨n - 1, by omega⟩
    have hb := hv i (by omega)
    show cX6_countFilled_4 a Z _ n _ _ _ _ = _
    unfold cX6_countFilled_4 cX6_countFilled_27
    rw [if_neg (nI_ge (by omega) (by omega)), if_neg (show ¬ Int32.ofNat Z ≤ nI i from nI_ge (b := Z) (by omega) (by omega)), ck_in (by omega) (by omega), nI_clamp (by omega), hJ i (by omega)]
    show _ = some (nI (c + ((if s (base + i) = 0 then 0 else 1) + neN s base m (i + 1))))
    by_cases d : s (base + i) = 0
    · rw [d, if_pos (show nI 0 = (0 : Int32) from rfl), if_pos rfl, show pX6_flag n (0 : Int32) J = some (nI 0) from rfl, bn_s, lt_b, lt_b, nI_1, nI_add, ih (i + 1) (c + 0) n (by omega) (by omega), Nat.zero_add, Nat.add_zero]
    · rw [if_neg (nI_ne0 (by omega) (by omega)), if_neg d, show pX6_flag n (1 : Int32) J = some (nI 1) from rfl, bn_s, lt_b, lt_b, nI_1, nI_add, ih (i + 1) (c + 1) n (by omega) (by omega), Nat.add_assoc]

theorem pq_since (hs : okS s) (hx : okX s) {x y : Int32} (hn : 300 ≤ n) : PQt (fun z => pX9_since n z x y) (fun q => pX10_since n q x y) s h r := by
  have h0 := hs.2.2.1.1
  have h3 := hs.b3
  by_cases c : gd x (s 0 + 4) = true
  · obtain ⟨k, hk, rfl⟩ := gd_e c (by omega)
    have k7 : k < 7 := by omega
    obtain ⟨l1, l2, l3⟩ := hs.lst k7
    obtain ⟨f0, f1, f2, f3, f4, f5, f6, f7, f8, f9, f10⟩ := (hs.2.2.2.1 k k7).1
    have eC : ∀ (I : ev_I) z, pX9_since n z (nI k) y (C (z + 1) I s h r) = (pX6_distance n (z + 1) (z + 1 + (23 + 5 * k)) y (C (z + 1) I s h r)).bind fun z4 => some z4 := by
      intro I z
      unfold pX9_since
      rw [c_node, bn_s, if_b, if_pos c, ck_in (by omega) (by omega), nI_clamp (by omega)]
    by_cases d : inb y (nI 0) (nI 6) = true
    · have eM : ∀ (I : ev_I) q, I q 0 = 0 → ∀ o, (if y = 0 then (pX10_viewOf n q (nI k) (M q I s)).bind fun z27 => ev_ck (ev_in ((16 : Int32) + nI (s (2416 + 513 * k + 12 + s (2416 + 513 * k + 8)))) 6010) <| some ((z27 - (M q I s (q + 1) ((16 : Int32) + nI (s (2416 + 513 * k + 12 + s (2416 + 513 * k + 8)))).toNatClampNeg)), M q I s) else if y = (1 : Int32) then ev_ck (ev_in (nI (2416 + 513 * k) + (5 : Int32)) 6010) <| ev_ck (ev_in ((516 : Int32) + (M q I s (q + 1) (nI (2416 + 513 * k) + (5 : Int32)).toNatClampNeg)) 6010) <| ev_ck (ev_in ((516 : Int32) + nI (s (2416 + 513 * k + 12 + s (2416 + 513 * k + 8)))) 6010) <| some (((M q I s (q + 1) ((516 : Int32) + (M q I s (q + 1) (nI (2416 + 513 * k) + (5 : Int32)).toNatClampNeg)).toNatClampNeg) - (M q I s (q + 1) ((516 : Int32) + nI (s (2416 + 513 * k + 12 + s (2416 + 513 * k + 8)))).toNatClampNeg)), M q I s) else if y = (2 : Int32) then ev_ck (ev_in (nI (2416 + 513 * k) + (5 : Int32)) 6010) <| ev_ck (ev_in (nI (2416 + 513 * k) + (6 : Int32)) 6010) <| (pX10_doesExtend n q (M q I s (q + 1) (nI (2416 + 513 * k) + (5 : Int32)).toNatClampNeg) (M q I s (q + 1) (nI (2416 + 513 * k) + (6 : Int32)).toNatClampNeg) (M q I s)).bind fun z22 => if z22 = 0 then some ((0 : Int32), M q I s) else some ((1 : Int32), M q I s) else if y = (3 : Int32) then ev_ck (ev_in (nI (2416 + 513 * k) + (6 : Int32)) 6010) <| (pX10_doesExtend n q (M q I s (q + 1) (nI (2416 + 513 * k) + (6 : Int32)).toNatClampNeg) (nI (s (2416 + 513 * k + 12 + s (2416 + 513 * k + 8)))) (M q I s)).bind fun z18 => if z18 = 0 then some ((0 : Int32), M q I s) else some ((1 : Int32), M q I s) else if y = (4 : Int32) then ev_ck (ev_in (nI (2416 + 513 * k) + (10 : Int32)) 6010) <| some ((M q I s (q + 1) (nI (2416 + 513 * k) + (10 : Int32)).toNatClampNeg), M q I s) else if y = (5 : Int32) then (pX10_notEmpty n q (nI (2416 + 513 * k) + (312 : Int32)) (201 : Int32) (M q I s)).bind fun z15 => some (z15, M q I s) else (pX10_notEmpty n q (nI (2416 + 513 * k) + (212 : Int32)) (100 : Int32) (M q I s)).bind fun z14 => some (z14, M q I s)) = some o → pX10_since n q (nI k) y (M q I s) = some o := by
        intro I q hI o ho
        unfold pX10_since
        rw [Mt hI, lt_b, r_node, bn_s, if_b, if_pos c, r_inb, bn_s, if_b, if_pos (show inb y (0 : Int32) (6 : Int32) = true from d), r_nodeAt, bn_s, r_logLast k7 (by omega), bn_s]
        exact ho
      obtain ⟨j, -, hj, rfl⟩ := inb_e d (by omega) (by omega)
      have hj' : j = 0 ∨ j = 1 ∨ j = 2 ∨ j = 3 ∨ j = 4 ∨ j = 5 ∨ j = 6 := by omega
      rcases hj' with rfl | rfl | rfl | rfl | rfl | rfl | rfl
      · refine PQ_0 (ans := nI (s (2416 + 513 * k + 1) + 1) - nI (s (16 + s (2416 + 513 * k + 12 + s (2416 + 513 * k + 8))))) (fun I z => ?_) (fun I q hI => eM I q hI _ ?_)
        · refine (eC I z).trans ?_
          unfold pX6_distance
          rw [c_last k7 (by omega), bn_s, if_pos (show nI 0 = (0 : Int32) from rfl)]
          rw [ck_in (by omega) (by omega), nI_clamp (by omega), cg_view (by omega), cg_mview k7, bn_s]
        · rw [if_pos (show nI 0 = (0 : Int32) from rfl)]
          rw [r_viewOf k7, bn_s]
          simp (disch := omega) only [li, nI_add, ck_in, nI_clamp, M_get]
      · refine PQ_0 (ans := nI (s (516 + s (2416 + 513 * k + 5))) - nI (s (516 + s (2416 + 513 * k + 12 + s (2416 + 513 * k + 8))))) (fun I z => ?_) (fun I q hI => eM I q hI _ ?_)
        · refine (eC I z).trans ?_
          unfold pX6_distance
          rw [c_last k7 (by omega), bn_s, if_neg (show ¬ nI 1 = (0 : Int32) by decide), if_pos (show nI 1 = (1 : Int32) from rfl)]
          rw [cg_high k7, ck_in (by omega) (by omega), ck_in (by omega) (by omega), nI_clamp (by omega), nI_clamp (by omega), cg_height (by omega), cg_height (by omega), bn_s]
        · rw [if_neg (show ¬ nI 1 = (0 : Int32) by decide), if_pos (show nI 1 = (1 : Int32) from rfl)]
          simp (disch := omega) only [li, nI_add, ck_in, nI_clamp, M_get]
      · refine PQ_0 (ans := nI (if ext s (s (2416 + 513 * k + 5)) (s (2416 + 513 * k + 6)) = true then 1 else 0)) (fun I z => ?_) (fun I q hI => eM I q hI _ ?_)
        · refine (eC I z).trans ?_
          unfold pX6_distance
          rw [c_last k7 (by omega), bn_s, if_neg (show ¬ nI 2 = (0 : Int32) by decide), if_neg (show ¬ nI 2 = (1 : Int32) by decide), if_pos (show nI 2 = (2 : Int32) from rfl)]
          rw [cg_high k7, cg_lock k7, c_reaches hs.1 f5 f6 (by omega), bn_s, fl_if, bn_s, bn_s]
        · rw [if_neg (show ¬ nI 2 = (0 : Int32) by decide), if_neg (show ¬ nI 2 = (1 : Int32) by decide), if_pos (show nI 2 = (2 : Int32) from rfl)]
          rw [show (5 : Int32) = nI 5 from rfl, show (6 : Int32) = nI 6 from rfl, nI_add, nI_add, ck_in (by omega) (by omega), ck_in (by omega) (by omega), nI_clamp (by omega), nI_clamp (by omega), M_get, M_get, r_ext hs.1 f5 f6 (by omega), bn_s, if_n01]
          split <;> rfl
      · refine PQ_0 (ans := nI (if ext s (s (2416 + 513 * k + 6)) (s (2416 + 513 * k + 12 + s (2416 + 513 * k + 8))) = true then 1 else 0)) (fun I z => ?_) (fun I q hI => eM I q hI _ ?_)
        · refine (eC I z).trans ?_
          unfold pX6_distance
          rw [c_last k7 (by omega), bn_s, if_neg (show ¬ nI 3 = (0 : Int32) by decide), if_neg (show ¬ nI 3 = (1 : Int32) by decide), if_neg (show ¬ nI 3 = (2 : Int32) by decide), if_pos (show nI 3 = (3 : Int32) from rfl)]
          rw [cg_lock k7, c_reaches hs.1 f6 l1 (by omega), bn_s, fl_if, bn_s, bn_s]
        · rw [if_neg (show ¬ nI 3 = (0 : Int32) by decide), if_neg (show ¬ nI 3 = (1 : Int32) by decide), if_neg (show ¬ nI 3 = (2 : Int32) by decide), if_pos (show nI 3 = (3 : Int32) from rfl)]
          rw [show (6 : Int32) = nI 6 from rfl, nI_add, ck_in (by omega) (by omega), nI_clamp (by omega), M_get, r_ext hs.1 f6 l1 (by omega), bn_s, if_n01]
          split <;> rfl
      · refine PQ_0 (ans := nI (s (2416 + 513 * k + 10))) (fun I z => ?_) (fun I q hI => eM I q hI _ ?_)
        · refine (eC I z).trans ?_
          unfold pX6_distance
          rw [c_last k7 (by omega), bn_s, if_neg (show ¬ nI 4 = (0 : Int32) by decide), if_neg (show ¬ nI 4 = (1 : Int32) by decide), if_neg (show ¬ nI 4 = (2 : Int32) by decide), if_neg (show ¬ nI 4 = (3 : Int32) by decide), if_pos (show nI 4 = (4 : Int32) from rfl)]
          rw [cg_seenn k7, bn_s]
        · rw [if_neg (show ¬ nI 4 = (0 : Int32) by decide), if_neg (show ¬ nI 4 = (1 : Int32) by decide), if_neg (show ¬ nI 4 = (2 : Int32) by decide), if_neg (show ¬ nI 4 = (3 : Int32) by decide), if_pos (show nI 4 = (4 : Int32) from rfl)]
          simp (disch := omega) only [li, nI_add, ck_in, nI_clamp, M_get]
      · refine PQ_0 (ans := nI (0 + neN s (2416 + 513 * k + 312) 201 0)) (fun I z => ?_) (fun I q hI => eM I q hI _ ?_)
        · refine (eC I z).trans ?_
          unfold pX6_distance
          rw [c_last k7 (by omega), bn_s, if_neg (show ¬ nI 5 = (0 : Int32) by decide), if_neg (show ¬ nI 5 = (1 : Int32) by decide), if_neg (show ¬ nI 5 = (2 : Int32) by decide), if_neg (show ¬ nI 5 = (3 : Int32) by decide), if_neg (show ¬ nI 5 = (4 : Int32) by decide), if_pos (show nI 5 = (5 : Int32) from rfl)]
          unfold pX6_countFilled
          rw [show (201 : Int32) = nI 201 from rfl, show (0 : Int32) = nI 0 from rfl, c_neL (s := s) (base := 2416 + 513 * k + 312) (by omega) (by omega) (fun i hi => cg_timers k7 hi) (fun i hi => f10 i (by omega)) 201 0 0 n (by omega) (by omega), bn_s, bn_s]
        · rw [if_neg (show ¬ nI 5 = (0 : Int32) by decide), if_neg (show ¬ nI 5 = (1 : Int32) by decide), if_neg (show ¬ nI 5 = (2 : Int32) by decide), if_neg (show ¬ nI 5 = (3 : Int32) by decide), if_neg (show ¬ nI 5 = (4 : Int32) by decide), if_pos (show nI 5 = (5 : Int32) from rfl)]
          unfold pX10_notEmpty
          rw [show (312 : Int32) = nI 312 from rfl, show (201 : Int32) = nI 201 from rfl, show (0 : Int32) = nI 0 from rfl, nI_add, r_neL (by omega) (fun i hi => f10 i (by omega)) 201 0 0 n (by omega) (by omega), bn_s]
      · refine PQ_0 (ans := nI (0 + neN s (2416 + 513 * k + 212) (s 3 + 1) 0)) (fun I z => ?_) (fun I q hI => eM I q hI _ ?_)
        · refine (eC I z).trans ?_
          unfold pX6_distance
          rw [c_last k7 (by omega), bn_s, if_neg (show ¬ nI 6 = (0 : Int32) by decide), if_neg (show ¬ nI 6 = (1 : Int32) by decide), if_neg (show ¬ nI 6 = (2 : Int32) by decide), if_neg (show ¬ nI 6 = (3 : Int32) by decide), if_neg (show ¬ nI 6 = (4 : Int32) by decide), if_neg (show ¬ nI 6 = (5 : Int32) by decide), if_pos (show nI 6 = (6 : Int32) from rfl)]
          unfold pX6_countFilled
          rw [cg_count, show (0 : Int32) = nI 0 from rfl, c_neL (s := s) (base := 2416 + 513 * k + 212) (by omega) (by omega) (fun i hi => cg_markers k7 (by omega)) (fun i hi => f9 i (by omega)) (s 3 + 1) 0 0 n (by omega) (by omega), bn_s, bn_s]
        · rw [if_neg (show ¬ nI 6 = (0 : Int32) by decide), if_neg (show ¬ nI 6 = (1 : Int32) by decide), if_neg (show ¬ nI 6 = (2 : Int32) by decide), if_neg (show ¬ nI 6 = (3 : Int32) by decide), if_neg (show ¬ nI 6 = (4 : Int32) by decide), if_neg (show ¬ nI 6 = (5 : Int32) by decide)]
          unfold pX10_notEmpty
          rw [show (212 : Int32) = nI 212 from rfl, show (100 : Int32) = nI 100 from rfl, show (0 : Int32) = nI 0 from rfl, nI_add, r_neL (by omega) (fun i hi => f9 i (by omega)) 100 0 0 n (by omega) (by omega), bn_s]
          rw [show (100 : Nat) = (s 3 + 1) + (99 - s 3) by omega, ne_sk (s 3 + 1) (99 - s 3) 0 (fun j h1 h2 => hx.1 k k7 j (by omega) (by omega))]
    · refine PQ_0 (ans := -100000) (fun I z => ?_) (fun I q hI => ?_)
      · refine (eC I z).trans ?_
        unfold pX6_distance
        rw [c_last k7 (by omega), bn_s, if_neg (show ¬ y = (0 : Int32) from inb_ne d (j := 0) (by omega) (by omega)), if_neg (show ¬ y = (1 : Int32) from inb_ne d (j := 1) (by omega) (by omega)), if_neg (show ¬ y = (2 : Int32) from inb_ne d (j := 2) (by omega) (by omega)), if_neg (show ¬ y = (3 : Int32) from inb_ne d (j := 3) (by omega) (by omega)), if_neg (show ¬ y = (4 : Int32) from inb_ne d (j := 4) (by omega) (by omega)), if_neg (show ¬ y = (5 : Int32) from inb_ne d (j := 5) (by omega) (by omega)), if_neg (show ¬ y = (6 : Int32) from inb_ne d (j := 6) (by omega) (by omega)), bn_s]
      · show pX10_since n q _ _ _ = _
        unfold pX10_since
        rw [Mt hI, lt_b, r_node, bn_s, if_b, if_pos c, r_inb, bn_s, if_b, if_neg (show ¬ inb y (0 : Int32) (6 : Int32) = true from d)]
  · refine PQ_0 (ans := -100000) (fun I z => ?_) (fun I q hI => ?_)
    · show pX9_since n z _ _ _ = _
      unfold pX9_since
      rw [c_node, bn_s, if_b, if_neg c]
    · show pX10_since n q _ _ _ = _
      unfold pX10_since
      rw [Mt hI, lt_b, r_node, bn_s, if_b, if_neg c]

/-- would -/
def lkA (s : Nat → Nat) (k c : Nat) : Nat := if s (16 + s (216 + c)) ≤ s (16 + s (2416 + 513 * k + 6)) then s (2416 + 513 * k + 6) else s (216 + c)
theorem sLk_6 (hs : okS s) {k c : Nat} (hk : k < 7) (hc : c ≤ s 3) : sLk (sHi s k c) k c (2416 + 513 * k + 6) = lkA s k c := by
  have h3 := hs.b3
  have f6 := (hs.2.2.2.1 k hk).1.2.2.2.2.2.2.1
  have j1 := hs.just hc
  have e : ∀ j, j ≠ 2416 + 513 * k + 5 → sHi s k c j = s j := fun j hj => sHi_o hj
  unfold sLk lkA
  rw [e (216 + c) (by omega), e (2416 + 513 * k + 6) (by omega), e (16 + s (216 + c)) (by omega), e (16 + s (2416 + 513 * k + 6)) (by omega)]
  by_cases d : s (16 + s (216 + c)) ≤ s (16 + s (2416 + 513 * k + 6))
  · rw [if_pos d, if_pos d, e _ (by omega)]
  · rw [if_neg d, if_neg d, up_s]
theorem sLearn_6 (hs : okS s) {k c : Nat} (hk : k < 7) (hc : c ≤ s 3) : sLearn s k c (2416 + 513 * k + 6) = lkA s k c := by
  unfold sLearn
  by_cases d : cmb s c = 0
  · rw [if_pos d, sLk_6 hs hk hc]
  · have o1 := ok_hi hs hk hc (k := k)
    have e3 : sHi s k c 3 = s 3 := sHi_o (by omega)
    have o2 := ok_lk o1 hk (c := c) (k := k) (by omega)
    have e4 : sLk (sHi s k c) k c 3 = s 3 := (sLk_o (by omega)).trans e3
    have := cmb_le hs hc
    rw [if_neg d, sCommit_o o2 hk (by omega) (by omega), sLk_6 hs hk hc]
theorem lkA_le (hs : okS s) {k c : Nat} (hk : k < 7) (hc : c ≤ s 3) : lkA s k c ≤ s 3 := by
  have f6 := (hs.2.2.2.1 k hk).1.2.2.2.2.2.2.1
  have j1 := hs.just hc
  unfold lkA
  split <;> omega
theorem vA_learn (hs : okS s) {k b c : Nat} (hk : k < 7) (hb : b ≤ s 3) (hc : c ≤ s 3) : vA (sLearn s k c) k b = vA s k b := by
  have h3 := hs.b3
  have j1 := hs.just hb
  have e : ∀ j, 11 ≤ j → j < 816 → sLearn s k c j = s j := fun j h1 h2 => sLearn_o hs hk hc (by omega)
  unfold vA
  rw [e (16 + b) (by omega) (by omega), e (216 + b) (by omega) (by omega), e (616 + b) (by omega) (by omega), e (16 + s (216 + b)) (by omega) (by omega), sLearn_o hs hk hc (j := 2416 + 513 * k + 1) (by omega), sLearn_o hs hk hc (j := 2416 + 513 * k + 7) (by omega)]
theorem pq_would (hs : okS s) {x y : Int32} (hn : 6200 ≤ n) : PQt (fun z => pX9_would n z x y) (fun q => pX10_would n q x y) s h r := by
  have h0 := hs.2.2.1.1
  have h3 := hs.b3
  by_cases c : (gd x (s 0 + 4) && gd y (s 3 + 1)) = true
  · obtain ⟨k, b, hk, hb, rfl, rfl, c1, c2⟩ := mk_hd hs c
    have k7 : k < 7 := by omega
    by_cases b0 : b = 0
    · subst b0
      refine PQ_0 (ans := -1) (fun I z => ?_) (fun I q hI => ?_)
      · show pX9_would n z _ _ _ = _
        unfold pX9_would
        rw [c_both, bn_s, if_b, if_pos c, if_pos (show nI 0 = (0 : Int32) from rfl)]
      · show pX10_would n q _ _ _ = _
        unfold pX10_would
        rw [Mt hI, lt_b, r_node, bn_s, if_b, if_pos c1, if_pos (show nI 0 = (0 : Int32) from rfl)]
    · have hj := hs.just hb
      have f1 := (hs.2.2.2.1 k k7).1.1
      have fv := (hs.2.2.2.1 k k7).1.2.1
      have hv := vA_b (s := s) (k := k) (b := b) (by omega) (hs.view hb)
      have hl := lkA_le hs k7 hj (k := k)
      refine ⟨nI (if s (2416 + 513 * k) = 1 then 0 else b01 (due s k b (vA s k b) && safe s b (lkA s k (s (216 + b))))), fun I z => ?_, fun I q hI => ?_⟩
      · show pX9_would n z _ _ _ = _
        unfold pX9_would pX8_wouldVote
        rw [c_both, bn_s, if_b, if_pos c, if_neg (nI_ne0 (by omega) (by omega)), ck_in (by omega) (by omega), nI_clamp (by omega), ck_in (by omega) (by omega), nI_clamp (by omega), cg_justify (by omega), c_lockAfter hs k7 hj, bn_s, cg_mode k7]
        by_cases d : s (2416 + 513 * k) = 1
        · rw [d, if_pos (show nI 1 = (1 : Int32) from rfl), if_pos rfl, bn_s]
          rfl
        · rw [if_neg (show ¬ nI (s (2416 + 513 * k)) = (1 : Int32) from fun e => d ((nI_eq (b := 1) (by omega) (by omega)).mp e)), if_neg d, c_viewAfter hs k7 (by omega) hb, bn_s, c_isDue hs k7 hb (by omega), bn_s, if_n01]
          by_cases d1 : due s k b (vA s k b) = true
          · rw [if_pos d1, show (if s (16 + s (216 + s (216 + b))) ≤ s (16 + s (2416 + 513 * k + 6)) then s (2416 + 513 * k + 6) else s (216 + s (216 + b))) = lkA s k (s (216 + b)) from rfl, c_safe hs hb hl (by omega), bn_s, if_n01, d1]
            by_cases d2 : safe s b (lkA s k (s (216 + b))) = true
            · rw [if_pos d2, d2]; rfl
            · rw [if_neg d2, Bool.eq_false_iff.mpr d2]; rfl
          · rw [if_neg d1, Bool.eq_false_iff.mpr d1]; rfl
      · have l1 := ok_learn hs k7 hj (k := k)
        have e3 : sLearn s k (s (216 + b)) 3 = s 3 := sLearn_o hs k7 hj (by omega)
        have t1 := ok_come l1 (k := k) (b := b) k7 (by omega)
        have et : ∀ j, j ≠ 2416 + 513 * k + 1 → sCome (sLearn s k (s (216 + b))) k b j = sLearn s k (s (216 + b)) j := fun j hj => up_o hj
        have e1 : ∀ j, 11 ≤ j → j < 816 → sCome (sLearn s k (s (216 + b))) k b j = s j := fun j h1 h2 => (et j (by omega)).trans (sLearn_o hs k7 hj (by omega))
        have ev : sCome (sLearn s k (s (216 + b))) k b (2416 + 513 * k + 1) + 1 = vA s k b := by
          unfold sCome
          rw [up_s, vA_learn hs k7 hb hj]
          omega
        have eD : due (sCome (sLearn s k (s (216 + b))) k b) k b (sCome (sLearn s k (s (216 + b))) k b (2416 + 513 * k + 1) + 1) = due s k b (vA s k b) := by
          rw [ev]
          unfold due
          rw [e1 (16 + b) (by omega) (by omega), e1 (116 + b) (by omega) (by omega), e1 (216 + b) (by omega) (by omega), et (2416 + 513 * k + 2) (by omega), sLearn_o hs k7 hj (by omega)]
        have e6 : sCome (sLearn s k (s (216 + b))) k b (2416 + 513 * k + 6) = lkA s k (s (216 + b)) := (et _ (by omega)).trans (sLearn_6 hs k7 hj)
        have eS : safe (sCome (sLearn s k (s (216 + b))) k b) b (sCome (sLearn s k (s (216 + b))) k b (2416 + 513 * k + 6)) = safe s b (lkA s k (s (216 + b))) := by
          rw [e6]
          unfold safe
          rw [ext_e hs.1 e1 hb hl, e1 (16 + _) (by omega) (by omega), e1 (216 + b) (by omega) (by omega), e1 (16 + _) (by omega) (by omega)]
        have e3t : b ≤ sCome (sLearn s k (s (216 + b))) k b 3 := by rw [et 3 (by omega), e3]; exact hb
        by_cases d : s (2416 + 513 * k) = 1
        · refine ⟨I, ?_, Sc_r⟩
          show pX10_would n q _ _ _ = _
          unfold pX10_would
          rw [Mt hI, lt_b, r_node, bn_s, if_b, if_pos c1, if_neg (nI_ne0 (by omega) (by omega)), r_blk, bn_s, if_b, if_pos c2, r_isSilent k7 (by omega), bn_s, if_n01, if_pos d, if_pos d]
          rfl
        · refine ⟨Wt q I s 6010, ?_, Wt_Sc⟩
          show pX10_would n q _ _ _ = _
          unfold pX10_would cX10_would_84 cX10_would_85
          rw [Mt hI, lt_b, r_node, bn_s, if_b, if_pos c1, if_neg (nI_ne0 (by omega) (by omega)), r_blk, bn_s, if_b, if_pos c2, r_isSilent k7 (by omega), bn_s, if_n01, if_neg d, if_neg d, r_think (by omega), bn_s, show (216 : Int32) = nI 216 from rfl, nI_add, ck_in (by omega) (by omega), nI_clamp (by omega), M_get, r_learns hs k7 hj (by omega), bn_s, r_come l1 k7 (by omega) (by omega), bn_s, r_could t1 k7 e3t, bn_s, if_n01, eD, r_safe t1 k7 e3t (by omega), bn_s, if_n01, eS]
          rw [r_ends (s := s) (fun j hj => Wt_g hj) (fun j hj6 => (et j (by omega)).trans (sLearn_o hs k7 hj (by omega))) (by omega), bn_s, bn_s]
          by_cases d1 : due s k b (vA s k b) = true
          · by_cases d2 : safe s b (lkA s k (s (216 + b))) = true
            · rw [if_pos d1, if_pos d2, d1, d2]; rfl
            · rw [if_pos d1, if_neg d2, d1, Bool.eq_false_iff.mpr d2]; rfl
          · rw [if_neg d1, Bool.eq_false_iff.mpr d1]; rfl
  · refine PQ_0 (ans := -1) (fun I z => ?_) (fun I q hI => ?_)
    · show pX9_would n z _ _ _ = _
      unfold pX9_would
      rw [c_both, bn_s, if_b, if_neg c]
    · show pX10_would n q _ _ _ = _
      unfold pX10_would
      rw [Mt hI, lt_b, r_node, bn_s, if_b, r_blk, bn_s, if_b]
      by_cases a : gd x (s 0 + 4) = true
      · by_cases b : gd y (s 3 + 1) = true
        · exact absurd (by rw [a, b]; rfl) c
        · rw [if_pos a, if_neg b]
          split <;> rfl
      · rw [if_neg a]
/-- two -/
theorem r_two (hs : okS s) {b : Nat} (hb : b ≤ s 3) : ∀ (m x n : Nat), x ≤ s 3 → x ≤ m → m + 200 < n → lX10_two_55 q n (nI b) (nI x) (M q I s) = some (nI (cmA s b m x), M q I s) := by
  have h3 := hs.b3
  intro m
  induction m with
  | zero =>
    intro x n hx hm hn
    obtain ⟨n, rfl⟩ : ∃ k, n = k + 1 := ⟨n - 1, by omega⟩
    have e : x = 0 := by omega
    subst e
    show cX10_two_55 q _ n _ _ _ = _
    unfold cX10_two_55
    rw [r_ext hs.1 hb hx (by omega), bn_s, if_n01, if_pos (ext_0 hs.1 b hb)]
    rfl
  | succ m ih =>
    intro x n hx hm hn
    obtain ⟨n, rfl⟩ : ∃ k, n = k + 1 := ⟨n - 1, by omega⟩
    show cX10_two_55 q _ n _ _ _ = _
    unfold cX10_two_55
    rw [r_ext hs.1 hb hx (by omega), bn_s, if_n01]
    show _ = some (nI (if ext s b x = true then x else cmA s b m (s (116 + x) - 1)), _)
    by_cases c : ext s b x = true
    · rw [if_pos c, if_pos c]
    · rw [if_neg c, if_neg c]
      have h0 : x ≠ 0 := fun e => c (by rw [e]; exact ext_0 hs.1 b hb)
      obtain ⟨a, d, e⟩ := hs.1.2.2.2 x (by omega) hx
      rw [r_parentOf (by omega) a, bn_s]
      exact ih _ n (by omega) (by omega) (by omega)
theorem c_two (hs : okS s) : ∀ (m x y st n : Nat), x ≤ s 3 → y ≤ s 3 → x + y ≤ m → st + m ≤ 200 → m < n → lX1_commonOf_8 (w + 1) n (nI x) (nI y) (nI st) (C w I s h r) = some (nI (cmA s y 100 x)) := by
  have h3 := hs.b3
  have hB := hs.1
  intro m
  induction m with
  | zero =>
    intro x y st n hx hy hm hst hn
    obtain ⟨n, rfl⟩ : ∃ k, n = k + 1 := ⟨n - 1, by omega⟩
    have e : x = y := by omega
    subst e
    show cX1_commonOf_8 (w + 1) _ n _ _ _ _ = _
    unfold cX1_commonOf_8
    rw [if_pos (show nI x = nI x from rfl), show cmA s x 100 x = x from if_pos ext_rf]
    split <;> rfl
  | succ m ih =>
    intro x y st n hx hy hm hst hn
    obtain ⟨n, rfl⟩ : ∃ k, n = k + 1 := ⟨n - 1, by omega⟩
    show cX1_commonOf_8 (w + 1) _ n _ _ _ _ = _
    unfold cX1_commonOf_8 cX1_commonOf_47
    rw [if_neg (show ¬ (200 : Int32) ≤ nI st from nI_ge (b := 200) (by omega) (by omega))]
    by_cases c : x = y
    · subst c
      rw [if_pos (show nI x = nI x from rfl), show cmA s x 100 x = x from if_pos ext_rf]
    · rw [if_neg (fun e => c ((nI_eq (by omega) (by omega)).mp e))]
      by_cases d : x ≤ y
      · obtain ⟨a, b, e⟩ := hB.2.2.2 y (by omega) hy
        rw [if_pos (nI_le d (by omega)), ck_in (by omega) (by omega), nI_clamp (by omega), cg_parent (by omega) a, lt_b, lt_b, nI_1, ih _ _ _ n hx (by omega) (by omega) (by omega) (by omega), cm_y hB hy 100 x (by omega)]
      · obtain ⟨a, b, e⟩ := hB.2.2.2 x (by omega) hx
        rw [if_neg (nI_ge (by omega) (by omega)), ck_in (by omega) (by omega), nI_clamp (by omega), cg_parent (by omega) a, lt_b, lt_b, nI_1, ih _ _ _ n (by omega) hy (by omega) (by omega) (by omega)]
        have f : ¬ ext s y x = true := fun h => by have := ext_le hB hy h; omega
        rw [show cmA s y 100 x = cmA s y 99 (s (116 + x) - 1) from if_neg f, cm_st hB hy 99 _ (by omega) (by omega)]
theorem pq_two (hs : okS s) {x y v : Int32} (hn : 500 ≤ n) : PQt (fun z => pX9_two n z x y v) (fun q => pX10_two n q x y v) s h r := by
  have h3 := hs.b3
  by_cases c1 : gd x (s 3 + 1) = true
  · by_cases c2 : gd y (s 3 + 1) = true
    · obtain ⟨a, ha, rfl⟩ := gd_e c1 (by omega)
      obtain ⟨b, hb, rfl⟩ := gd_e c2 (by omega)
      by_cases d : inb v (nI 0) (nI 1) = true
      · obtain ⟨j, -, hj, rfl⟩ := inb_e d (by omega) (by omega)
        have hj' : j = 0 ∨ j = 1 := by omega
        rcases hj' with rfl | rfl
        · refine PQ_0 (ans := nI (if ext s a b = true then 1 else 0)) (fun I z => ?_) (fun I q hI => ?_)
          · show pX9_two n z _ _ _ _ = _
            unfold pX9_two
            rw [c_blk, bn_s, if_b, if_pos c1, c_blk, bn_s, if_b, if_pos c2, if_pos (show nI 0 = (0 : Int32) from rfl), c_reaches hs.1 (by omega) (by omega) (by omega), bn_s, fl_if, bn_s]
          · show pX10_two n q _ _ _ _ = _
            unfold pX10_two
            rw [Mt hI, lt_b, r_blk, bn_s, if_b, if_pos c1, r_blk, bn_s, if_b, if_pos c2, r_inb, bn_s, if_b, if_pos (show inb (nI 0) (0 : Int32) (1 : Int32) = true from d), if_pos (show nI 0 = (0 : Int32) from rfl), r_ext hs.1 (by omega) (by omega) (by omega), bn_s, if_n01]
            split <;> rfl
        · refine PQ_0 (ans := nI (cmA s b 100 a)) (fun I z => ?_) (fun I q hI => ?_)
          · show pX9_two n z _ _ _ _ = _
            unfold pX9_two pX1_commonOf
            rw [c_blk, bn_s, if_b, if_pos c1, c_blk, bn_s, if_b, if_pos c2, if_neg (show ¬ nI 1 = (0 : Int32) by decide), if_pos (show nI 1 = (1 : Int32) from rfl), show (0 : Int32) = nI 0 from rfl, c_two hs 200 a b 0 n (by omega) (by omega) (by omega) (by omega) (by omega), bn_s]
          · show pX10_two n q _ _ _ _ = _
            unfold pX10_two
            rw [Mt hI, lt_b, r_blk, bn_s, if_b, if_pos c1, r_blk, bn_s, if_b, if_pos c2, r_inb, bn_s, if_b, if_pos (show inb (nI 1) (0 : Int32) (1 : Int32) = true from d), if_neg (show ¬ nI 1 = (0 : Int32) by decide), r_two hs (by omega) 100 a n (by omega) (by omega) (by omega)]
      · refine PQ_0 (ans := -1) (fun I z => ?_) (fun I q hI => ?_)
        · show pX9_two n z _ _ _ _ = _
          unfold pX9_two
          rw [c_blk, bn_s, if_b, if_pos c1, c_blk, bn_s, if_b, if_pos c2, if_neg (show ¬ v = (0 : Int32) from inb_ne d (j := 0) (by omega) (by omega)), if_neg (show ¬ v = (1 : Int32) from inb_ne d (j := 1) (by omega) (by omega))]
        · show pX10_two n q _ _ _ _ = _
          unfold pX10_two
          rw [Mt hI, lt_b, r_blk, bn_s, if_b, if_pos c1, r_blk, bn_s, if_b, if_pos c2, r_inb, bn_s, if_b, if_neg (show ¬ inb v (0 : Int32) (1 : Int32) = true from d)]
    · refine PQ_0 (ans := -1) (fun I z => ?_) (fun I q hI => ?_)
      · show pX9_two n z _ _ _ _ = _
        unfold pX9_two
        rw [c_blk, bn_s, if_b, if_pos c1, c_blk, bn_s, if_b, if_neg c2]
      · show pX10_two n q _ _ _ _ = _
        unfold pX10_two
        rw [Mt hI, lt_b, r_blk, bn_s, if_b, if_pos c1, r_blk, bn_s, if_b, if_neg c2]
  · refine PQ_0 (ans := -1) (fun I z => ?_) (fun I q hI => ?_)
    · show pX9_two n z _ _ _ _ = _
      unfold pX9_two
      rw [c_blk, bn_s, if_b, if_neg c1]
    · show pX10_two n q _ _ _ _ = _
      unfold pX10_two
      rw [Mt hI, lt_b, r_blk, bn_s, if_b, if_neg c1]
/-- chain -/
theorem r_plL (hs : okS s) : ∀ (m x c n : Nat), x ≤ s 3 → x < m → m + 2 < n → lX10_payloads_4 q n (nI c) (nI x) (M q I s) = some (nI (c + plS s m x)) := by
  have h3 := hs.b3
  intro m
  induction m with
  | zero => intro x c n hx hm; omega
  | succ m ih =>
    intro x c n hx hm hn
    obtain ⟨n, rfl⟩ : ∃ k, n = k + 2 := ⟨n - 2, by omega⟩
    show cX10_payloads_4 q _ (n + 1) _ _ _ = _
    unfold cX10_payloads_4
    rw [if_neg (nI_m1 (by omega)), show (316 : Int32) = nI 316 from rfl, nI_add, ck_in (by omega) (by omega), nI_clamp (by omega), M_get, nI_add, lt_b]
    show _ = some (nI (c + (s (316 + x) + (if x = 0 then 0 else plS s m (s (116 + x) - 1)))))
    by_cases c0 : x = 0
    · subst c0
      rw [r_parentN (by omega), bn_s, show s (116 + 0) = 0 from hs.1.2.2.1, if_pos rfl, Nat.add_zero]
      show cX10_payloads_4 q _ n _ _ _ = _
      unfold cX10_payloads_4
      rw [if_pos (show nI 0 - nI 1 = (-1 : Int32) by decide)]
      rfl
    · obtain ⟨a, b, e⟩ := hs.1.2.2.2 x (by omega) hx
      rw [r_parentOf (by omega) a, bn_s, if_neg c0, ih _ _ (n + 1) (by omega) (by omega) (by omega), Nat.add_assoc]
theorem c_plL (hs : okS s) : ∀ (m x c st n : Nat), x ≤ s 3 → x ≤ m → st + m ≤ 100 → m < n → lX6_payloadsOf_12 (w + 1) n (nI c) (nI x) (nI st) (C w I s h r) = some (nI (c + (if x = 0 then 0 else plS s m (s (116 + x) - 1)))) := by
  have h3 := hs.b3
  intro m
  induction m with
  | zero =>
    intro x c st n hx hm hst hn
    obtain ⟨n, rfl⟩ : ∃ k, n = k + 1 := ⟨n - 1, by omega⟩
    have e : x = 0 := by omega
    subst e
    show cX6_payloadsOf_12 (w + 1) _ n _ _ _ _ = _
    unfold cX6_payloadsOf_12
    rw [if_pos (show nI 0 ≤ (0 : Int32) by decide), if_pos rfl, Nat.add_zero]
    split <;> rfl
  | succ m ih =>
    intro x c st n hx hm hst hn
    obtain ⟨n, rfl⟩ : ∃ k, n = k + 1 := ⟨n - 1, by omega⟩
    show cX6_payloadsOf_12 (w + 1) _ n _ _ _ _ = _
    unfold cX6_payloadsOf_12
    rw [if_neg (show ¬ (100 : Int32) ≤ nI st from nI_ge (b := 100) (by omega) (by omega))]
    by_cases c0 : x = 0
    · subst c0
      rw [if_pos (show nI 0 ≤ (0 : Int32) by decide), if_pos rfl, Nat.add_zero]
    · obtain ⟨a, b, e⟩ := hs.1.2.2.2 x (by omega) hx
      rw [if_neg (nI_nle (by omega) (by omega)), ck_in (by omega) (by omega), nI_clamp (by omega), cg_parent (by omega) a, lt_b, ck_in (by omega) (by omega), nI_clamp (by omega), cg_payload (by omega), nI_add, lt_b, lt_b, nI_1, if_neg c0, ih _ _ _ n (by omega) (by omega) (by omega) (by omega)]
      rw [Nat.add_assoc]
      rfl
theorem r_vrL (hs : okS s) : ∀ (m x c n : Nat), x ≤ s 3 → x ≤ m → m < n → lX10_inRow_4 q n (nI c) (nI x) (M q I s) = some (nI (c + vrS s m x)) := by
  have h3 := hs.b3
  intro m
  induction m with
  | zero =>
    intro x c n hx hm hn
    obtain ⟨n, rfl⟩ : ∃ k, n = k + 1 := ⟨n - 1, by omega⟩
    have e : x = 0 := by omega
    subst e
    show cX10_inRow_4 q _ n _ _ _ = _
    unfold cX10_inRow_4
    rw [if_pos (show nI 0 = (0 : Int32) from rfl)]
    rfl
  | succ m ih =>
    intro x c n hx hm hn
    obtain ⟨n, rfl⟩ : ∃ k, n = k + 1 := ⟨n - 1, by omega⟩
    show cX10_inRow_4 q _ n _ _ _ = _
    unfold cX10_inRow_4
    show _ = some (nI (c + (if x ≠ 0 ∧ s (16 + x) = s (16 + (s (116 + x) - 1)) + 1 then 1 + vrS s m (s (116 + x) - 1) else 0)))
    by_cases c0 : x = 0
    · subst c0
      rw [if_pos (show nI 0 = (0 : Int32) from rfl), if_neg (by omega)]
      rfl
    · obtain ⟨a, b, e⟩ := hs.1.2.2.2 x (by omega) hx
      have v1 := hs.view hx
      have v2 := hs.view (c := s (116 + x) - 1) (by omega)
      rw [if_neg (nI_ne0 (by omega) (by omega)), r_parentOf (by omega) a, bn_s, show (16 : Int32) = nI 16 from rfl, nI_add, nI_add, ck_in (by omega) (by omega), ck_in (by omega) (by omega), nI_clamp (by omega), nI_clamp (by omega), M_get, M_get, lt_b, bn_s, nI_1]
      by_cases d : s (16 + x) = s (16 + (s (116 + x) - 1)) + 1
      · rw [if_pos (show nI (s (16 + (s (116 + x) - 1))) = nI (s (16 + x)) - 1 by rw [d, nI_pred]), if_pos ⟨c0, d⟩, ih _ _ n (by omega) (by omega) (by omega), Nat.add_assoc]
      · rw [if_neg (fun q => d ((sb1_eq (by omega) (by omega)).mp q.symm)), if_neg (fun q => d q.2)]
        rfl
theorem c_vrL (hs : okS s) : ∀ (m x c st n : Nat), x ≤ s 3 → x ≤ m → st + m ≤ 100 → m < n → lX1_viewsInARow_7 (w + 1) n (nI x) (nI c) (nI st) (C w I s h r) = some (nI (c + vrS s m x)) := by
  have h3 := hs.b3
  intro m
  induction m with
  | zero =>
    intro x c st n hx hm hst hn
    obtain ⟨n, rfl⟩ : ∃ k, n = k + 1 := ⟨n - 1, by omega⟩
    have e : x = 0 := by omega
    subst e
    show cX1_viewsInARow_7 (w + 1) _ n _ _ _ _ = _
    unfold cX1_viewsInARow_7
    rw [if_pos (show nI 0 ≤ (0 : Int32) by decide)]
    split <;> rfl
  | succ m ih =>
    intro x c st n hx hm hst hn
    obtain ⟨n, rfl⟩ : ∃ k, n = k + 1 := ⟨n - 1, by omega⟩
    show cX1_viewsInARow_7 (w + 1) _ n _ _ _ _ = _
    unfold cX1_viewsInARow_7
    rw [if_neg (show ¬ (100 : Int32) ≤ nI st from nI_ge (b := 100) (by omega) (by omega))]
    show _ = some (nI (c + (if x ≠ 0 ∧ s (16 + x) = s (16 + (s (116 + x) - 1)) + 1 then 1 + vrS s m (s (116 + x) - 1) else 0)))
    by_cases c0 : x = 0
    · subst c0
      rw [if_pos (show nI 0 ≤ (0 : Int32) by decide), if_neg (by omega)]
      rfl
    · obtain ⟨a, b, e⟩ := hs.1.2.2.2 x (by omega) hx
      have v1 := hs.view hx
      have v2 := hs.view (c := s (116 + x) - 1) (by omega)
      rw [if_neg (nI_nle (by omega) (by omega)), ck_in (by omega) (by omega), ck_in (by omega) (by omega), nI_clamp (by omega), cg_parent (by omega) a, ck_in (by omega) (by omega), nI_clamp (by omega), cg_view (by omega), cg_view (by omega), nI_1, ck_in (by omega) (by omega), lt_b, lt_b, lt_b, nI_1, nI_1]
      by_cases d : s (16 + x) = s (16 + (s (116 + x) - 1)) + 1
      · rw [if_pos (congrArg nI d), if_pos ⟨c0, d⟩, ih _ _ _ n (by omega) (by omega) (by omega) (by omega), Nat.add_assoc]
      · rw [if_neg (fun q => d ((nI_eq (by omega) (by omega)).mp q)), if_neg (fun q => d q.2)]
        rfl
theorem mx_n {x y : Nat} (hx : x < 2 ^ 30) (hy : y < 2 ^ 30) : (if nI x < nI y then nI y else nI x) = nI (mxn x y) := by
  unfold mxn
  by_cases q : x < y
  · rw [if_pos (nI_lt q (by omega)), if_pos (by omega)]
  · rw [if_neg (nI_nlt (by omega) (by omega))]
    by_cases q2 : x = y
    · rw [if_pos (by omega), q2]
    · rw [if_neg (by omega)]
theorem r_mx {x y : Nat} (hx : x < 2 ^ 30) (hy : y < 2 ^ 30) : pX10_greater n q (nI x) (nI y) I = some (nI (mxn x y)) := by
  unfold pX10_greater mxn
  by_cases c : x ≤ y
  · rw [if_pos (nI_le c (by omega)), if_pos c]
  · rw [if_neg (nI_ge (by omega) (by omega)), if_neg c]
theorem r_chL (hs : okS s) {b j : Nat} (hb : b ≤ s 3) (hj : j < 10) : ∀ (m i c t n : Nat), i + m = s 3 + 1 → t < 1000 → m + 200 < n → lX10_chain_83 q n (nI b) (nI j) (nI c) (nI t) (nI i) (M q I s) = some (if j = 2 then nI (c + chN s b m i) else nI (chM s b m i t), M q I s) := by
  have h3 := hs.b3
  intro m
  induction m with
  | zero =>
    intro i c t n hi ht hn
    obtain ⟨n, rfl⟩ : ∃ k, n = k + 1 := ⟨n - 1, by omega⟩
    show cX10_chain_83 q _ n _ _ _ _ _ _ = _
    unfold cX10_chain_83
    rw [r_blockMany, bn_s, if_pos (nI_le (by omega) (by omega))]
    by_cases d : j = 2
    · subst d
      rw [if_pos (show nI 2 = (2 : Int32) from rfl), if_pos rfl]
      rfl
    · rw [if_neg (show ¬ nI j = (2 : Int32) from fun e => d ((nI_eq (b := 2) (by omega) (by omega)).mp e)), if_neg d]
      rfl
  | succ m ih =>
    intro i c t n hi ht hn
    obtain ⟨n, rfl⟩ : ∃ k, n = k + 1 := ⟨n - 1, by omega⟩
    have e1 := hs.1.ht i (by omega)
    show cX10_chain_83 q _ n _ _ _ _ _ _ = _
    unfold cX10_chain_83 cX10_chain_128
    rw [r_blockMany, bn_s, if_neg (nI_ge (by omega) (by omega)), r_ext hs.1 (by omega) hb (by omega), bn_s, if_n01]
    show _ = some (if j = 2 then nI (c + ((if ext s i b = true then 1 else 0) + chN s b m (i + 1))) else nI (chM s b m (i + 1) (if ext s i b = true then mxn t (s (516 + i)) else t)), M q I s)
    by_cases d : ext s i b = true
    · have hx := mxn_b (a := t) (b := s (516 + i)) (N := 999) (by omega) (by omega)
      rw [if_pos d, if_pos d, if_pos d, lt_b, show (516 : Int32) = nI 516 from rfl, nI_add, ck_in (by omega) (by omega), nI_clamp (by omega), M_get, r_mx (by omega) (by omega), bn_s, lt_b, nI_1, nI_1, ih _ _ _ n (by omega) (by omega) (by omega), Nat.add_assoc]
    · rw [if_neg d, if_neg d, if_neg d, lt_b, nI_1, ih _ _ _ n (by omega) (by omega) (by omega), Nat.zero_add]
theorem c_chL (hs : okS s) {b j : Nat} (hb : b ≤ s 3) (hj : j < 10) : ∀ (m i c t n : Nat), i + m = s 3 + 1 → t < 1000 → m + 200 < n → lX6_childrenOf_8 (w + 1) n (nI b) (nI j) (nI c) (nI t) (nI i) (C w I s h r) = some (if j = 0 then nI (c + chN s b m i) else nI (chM s b m i t)) := by
  have h3 := hs.b3
  intro m
  induction m with
  | zero =>
    intro i c t n hi ht hn
    obtain ⟨n, rfl⟩ : ∃ k, n = k + 1 := ⟨n - 1, by omega⟩
    show cX6_childrenOf_8 (w + 1) _ n _ _ _ _ _ _ = _
    unfold cX6_childrenOf_8
    rw [cg_count, if_pos (nI_le (by omega) (by omega))]
    by_cases d : j = 0
    · subst d
      rw [if_pos (show nI 0 = (0 : Int32) from rfl), if_pos rfl]
      rfl
    · rw [if_neg (nI_ne0 (by omega) (by omega)), if_neg d]
      rfl
  | succ m ih =>
    intro i c t n hi ht hn
    obtain ⟨n, rfl⟩ : ∃ k, n = k + 1 := ⟨n - 1, by omega⟩
    have e1 := hs.1.ht i (by omega)
    show cX6_childrenOf_8 (w + 1) _ n _ _ _ _ _ _ = _
    unfold cX6_childrenOf_8 cX6_childrenOf_44
    rw [cg_count, if_neg (nI_ge (by omega) (by omega)), c_reaches hs.1 (by omega) hb (by omega), bn_s, if_n01]
    show _ = some (if j = 0 then nI (c + ((if ext s i b = true then 1 else 0) + chN s b m (i + 1))) else nI (chM s b m (i + 1) (if ext s i b = true then mxn t (s (516 + i)) else t)))
    by_cases d : ext s i b = true
    · have hx := mxn_b (a := t) (b := s (516 + i)) (N := 999) (by omega) (by omega)
      rw [if_pos d, if_pos d, if_pos d, lt_b, ck_in (by omega) (by omega), nI_clamp (by omega), cg_height (by omega), mx_n (by omega) (by omega), lt_b, lt_b, nI_1, nI_1, ih _ _ _ n (by omega) (by omega) (by omega), Nat.add_assoc]
    · rw [if_neg d, if_neg d, if_neg d, lt_b, nI_1, ih _ _ _ n (by omega) (by omega) (by omega), Nat.zero_add]
def hld (s : Nat → Nat) (b k : Nat) : Bool := !decide (s (2416 + 513 * k) = 1) && ext s (s (2416 + 513 * k + 6)) b
theorem b01_add {a : Bool} {c : Nat} : nI c + nI (b01 a) = nI (c + b01 a) := nI_add _ _
theorem r_chK (hs : okS s) {b j : Nat} (hb : b ≤ s 3) (hj : j = 4 ∨ j = 6) : ∀ (m i c n : Nat), i + m = s 0 + 4 → m + 200 < n → lX10_chain_149 q n (nI b) (nI j) (nI c) (nI i) (M q I s) = some (nI (c + ctN (fun k => if j = 4 then inl s k b else hld s b k) m i), M q I s) := by
  have h3 := hs.b3
  have h0 := hs.2.2.1.1
  intro m
  induction m with
  | zero =>
    intro i c n hi hn
    obtain ⟨n, rfl⟩ : ∃ k, n = k + 1 := ⟨n - 1, by omega⟩
    show cX10_chain_149 q _ n _ _ _ _ _ = _
    unfold cX10_chain_149
    rw [r_nodeMany, bn_s, if_pos (nI_le (by omega) (by omega))]
    rfl
  | succ m ih =>
    intro i c n hi hn
    obtain ⟨n, rfl⟩ : ∃ k, n = k + 1 := ⟨n - 1, by omega⟩
    have f0 := (hs.2.2.2.1 i (by omega)).1.1
    have f6 := (hs.2.2.2.1 i (by omega)).1.2.2.2.2.2.2.1
    have e209 : ∀ a : Bool, cX10_chain_209 q (lX10_chain_149 q n) n (nI b) (nI j) (nI c) (nI i) (nI (b01 a)) (M q I s) = some (nI (c + (b01 a + ctN (fun k => if j = 4 then inl s k b else hld s b k) m (i + 1))), M q I s) := by
      intro a
      unfold cX10_chain_209 cX10_chain_220
      rw [if_b, lt_b, lt_b, lt_b, nI_1, nI_1]
      cases a with
      | false => rw [if_neg (by decide), ih _ _ n (by omega) (by omega)]; simp [b01]
      | true => rw [if_pos rfl, ih _ _ n (by omega) (by omega)]; simp [b01, Nat.add_assoc]
    show cX10_chain_149 q _ n _ _ _ _ _ = _
    unfold cX10_chain_149 cX10_chain_208
    rw [r_nodeMany, bn_s, if_neg (nI_ge (by omega) (by omega))]
    show _ = some (nI (c + (b01 (if j = 4 then inl s i b else hld s b i) + ctN (fun k => if j = 4 then inl s k b else hld s b k) m (i + 1))), M q I s)
    rcases hj with rfl | rfl
    · rw [if_pos (show nI 4 = (4 : Int32) from rfl), r_isInLog hs (by omega) hb (by omega), bn_s, e209, if_pos rfl]
    · rw [if_neg (show ¬ nI 6 = (4 : Int32) by decide), r_isSilent (by omega) (by omega), bn_s, if_n01, if_neg (show ¬ (6 : Nat) = 4 by decide)]
      have h00 : (0 : Int32) = nI (b01 false) := rfl
      have h11 : (1 : Int32) = nI (b01 true) := rfl
      by_cases d : s (2416 + 513 * i) = 1
      · rw [if_pos d, h00, e209, show hld s b i = false by unfold hld; simp [d]]
      · rw [if_neg d, r_nodeAt, bn_s, show (6 : Int32) = nI 6 from rfl, nI_add, ck_in (by omega) (by omega), nI_clamp (by omega), M_get, r_ext hs.1 f6 hb (by omega), bn_s, if_n01]
        by_cases e : ext s (s (2416 + 513 * i + 6)) b = true
        · rw [if_pos e, h11, e209, show hld s b i = true by unfold hld; simp [d, e]]
        · rw [if_neg e, h00, e209, show hld s b i = false by unfold hld; simp [e]]
theorem c_cmK (hs : okS s) {b : Nat} (hb : b ≤ s 3) : ∀ (m i c n : Nat), i + m = s 0 + 4 → m < n → lX6_committersOf_4 w n (nI b) (nI c) (nI i) (C w I s h r) = some (nI (c + ctN (fun k => inl s k b) m i)) := by
  have h0 := hs.2.2.1.1
  intro m
  induction m with
  | zero =>
    intro i c n hi hn
    obtain ⟨n, rfl⟩ : ∃ k, n = k + 1 := ⟨n - 1, by omega⟩
    show cX6_committersOf_4 w _ n _ _ _ _ = _
    unfold cX6_committersOf_4
    rw [cg_size, if_pos (nI_le (by omega) (by omega))]
    rfl
  | succ m ih =>
    intro i c n hi hn
    obtain ⟨n, rfl⟩ : ∃ k, n = k + 1 := ⟨n - 1, by omega⟩
    show cX6_committersOf_4 w _ n _ _ _ _ = _
    unfold cX6_committersOf_4
    rw [cg_size, if_neg (nI_ge (by omega) (by omega)), ck_in (by omega) (by omega), nI_clamp (by omega), c_hasLogged hs (by omega) hb, bn_s, fl_b, bn_s, lt_b, lt_b, nI_1, nI_add, ih _ _ n (by omega) (by omega), Nat.add_assoc]
    rfl
theorem c_hdK (hs : okS s) {b : Nat} (hb : b ≤ s 3) : ∀ (m i c n : Nat), i + m = s 0 + 4 → m + 200 < n → lX6_holdersOf_4 w n (nI b) (nI c) (nI i) (C w I s h r) = some (nI (c + ctN (fun k => hld s b k) m i)) := by
  have h0 := hs.2.2.1.1
  intro m
  induction m with
  | zero =>
    intro i c n hi hn
    obtain ⟨n, rfl⟩ : ∃ k, n = k + 1 := ⟨n - 1, by omega⟩
    show cX6_holdersOf_4 w _ n _ _ _ _ = _
    unfold cX6_holdersOf_4
    rw [cg_size, if_pos (nI_le (by omega) (by omega))]
    rfl
  | succ m ih =>
    intro i c n hi hn
    obtain ⟨n, rfl⟩ : ∃ k, n = k + 1 := ⟨n - 1, by omega⟩
    have f0 := (hs.2.2.2.1 i (by omega)).1.1
    have f6 := (hs.2.2.2.1 i (by omega)).1.2.2.2.2.2.2.1
    have e46 : ∀ a : Bool, cX6_holdersOf_46 w (lX6_holdersOf_4 w n) n (nI b) (nI i) (nI c) (nI (b01 a)) (C w I s h r) = some (nI (c + (b01 a + ctN (fun k => hld s b k) m (i + 1)))) := by
      intro a
      unfold cX6_holdersOf_46
      rw [fl_b, bn_s, lt_b, lt_b, nI_1, nI_add, ih _ _ n (by omega) (by omega), Nat.add_assoc]
    show cX6_holdersOf_4 w _ n _ _ _ _ = _
    unfold cX6_holdersOf_4 cX6_holdersOf_45
    rw [cg_size, if_neg (nI_ge (by omega) (by omega)), c_isAwake (by omega) h0 (by omega), bn_s]
    show _ = some (nI (c + (b01 (hld s b i) + ctN (fun k => hld s b k) m (i + 1))))
    have h00 : (0 : Int32) = nI (b01 false) := rfl
    have h11 : (1 : Int32) = nI (b01 true) := rfl
    by_cases d : s (2416 + 513 * i) = 1
    · rw [if_pos d, if_pos (show nI 0 = (0 : Int32) from rfl), h00, e46, show hld s b i = false by unfold hld; simp [d]]
    · rw [if_neg d, if_neg (show ¬ nI 1 = (0 : Int32) by decide), ck_in (by omega) (by omega), nI_clamp (by omega), cg_lock (by omega), c_reaches hs.1 f6 hb (by omega), bn_s, if_n01]
      by_cases e : ext s (s (2416 + 513 * i + 6)) b = true
      · rw [if_pos e, h11, e46, show hld s b i = true by unfold hld; simp [d, e]]
      · rw [if_neg e, h00, e46, show hld s b i = false by unfold hld; simp [e]]
theorem pq_chain (hs : okS s) {x y : Int32} (hn : 500 ≤ n) : PQt (fun z => pX9_chain n z x y) (fun q => pX10_chain n q x y) s h r := by
  have h3 := hs.b3
  have h0 := hs.2.2.1.1
  by_cases c : gd x (s 3 + 1) = true
  · obtain ⟨b, hb', rfl⟩ := gd_e c (by omega)
    have hb : b ≤ s 3 := by omega
    have ht := hs.1.ht b hb
    have eC : ∀ (I : ev_I) z, pX9_chain n z (nI b) y (C (z + 1) I s h r) = (pX6_ofChain n (z + 1) (nI b) y (C (z + 1) I s h r)).bind fun z4 => some z4 := by
      intro I z
      unfold pX9_chain
      rw [c_blk, bn_s, if_b, if_pos c]
    by_cases d : inb y (nI 0) (nI 6) = true
    · have eM : ∀ (I : ev_I) q, I q 0 = 0 → ∀ o, (if y = 0 then ev_ck (ev_in ((516 : Int32) + nI b) 6010) <| some (((M q I s (q + 1) ((516 : Int32) + nI b).toNatClampNeg) + (1 : Int32)), M q I s) else if y = (1 : Int32) then (pX10_payloads n q (nI b) (M q I s)).bind fun z34 => some (z34, M q I s) else if y = (5 : Int32) then (pX10_inRow n q (nI b) (M q I s)).bind fun z33 => some (z33, M q I s) else if y = (2 : Int32) then cX10_chain_80 q n (nI b) y (0 : Int32) (0 : Int32) (M q I s) else if y = (3 : Int32) then cX10_chain_80 q n (nI b) y (0 : Int32) (0 : Int32) (M q I s) else lX10_chain_149 q n (nI b) y (0 : Int32) (0 : Int32) (M q I s)) = some o → pX10_chain n q (nI b) y (M q I s) = some o := by
        intro I q hI o ho
        unfold pX10_chain
        rw [Mt hI, lt_b, r_blk, bn_s, if_b, if_pos c, r_inb, bn_s, if_b, if_pos (show inb y (0 : Int32) (6 : Int32) = true from d)]
        exact ho
      obtain ⟨j, -, hj, rfl⟩ := inb_e d (by omega) (by omega)
      have hj' : j = 0 ∨ j = 1 ∨ j = 2 ∨ j = 3 ∨ j = 4 ∨ j = 5 ∨ j = 6 := by omega
      rcases hj' with rfl | rfl | rfl | rfl | rfl | rfl | rfl
      · refine PQ_0 (ans := nI (s (516 + b) + 1)) (fun I z => ?_) (fun I q hI => eM I q hI _ ?_)
        · refine (eC I z).trans ?_
          unfold pX6_ofChain
          rw [if_pos (show nI 0 = (0 : Int32) from rfl)]
          rw [ck_in (by omega) (by omega), nI_clamp (by omega), cg_height (by omega), nI_1, bn_s]
        · rw [if_pos (show nI 0 = (0 : Int32) from rfl)]
          rw [show (516 : Int32) = nI 516 from rfl, nI_add, ck_in (by omega) (by omega), nI_clamp (by omega), M_get, nI_1]
      · refine PQ_0 (ans := nI (0 + plS s 100 b)) (fun I z => ?_) (fun I q hI => eM I q hI _ ?_)
        · refine (eC I z).trans ?_
          unfold pX6_ofChain
          rw [if_neg (show ¬ nI 1 = (0 : Int32) by decide), if_pos (show nI 1 = (1 : Int32) from rfl)]
          unfold pX6_payloadsOf
          rw [ck_in (by omega) (by omega), nI_clamp (by omega), cg_payload (by omega), lt_b, show (0 : Int32) = nI 0 from rfl, c_plL hs 99 b _ 0 n hb (by omega) (by omega) (by omega), bn_s, bn_s, Nat.zero_add]
          rfl
        · rw [if_neg (show ¬ nI 1 = (0 : Int32) by decide), if_pos (show nI 1 = (1 : Int32) from rfl)]
          unfold pX10_payloads
          rw [show (0 : Int32) = nI 0 from rfl, r_plL hs 100 b 0 n hb (by omega) (by omega), bn_s]
      · refine PQ_0 (ans := nI (0 + chN s b (s 3 + 1 - b) b)) (fun I z => ?_) (fun I q hI => eM I q hI _ ?_)
        · refine (eC I z).trans ?_
          unfold pX6_ofChain
          rw [if_neg (show ¬ nI 2 = (0 : Int32) by decide), if_neg (show ¬ nI 2 = (1 : Int32) by decide), if_pos (show nI 2 = (2 : Int32) from rfl)]
          unfold pX6_childrenOf
          rw [show (0 : Int32) = nI 0 from rfl, c_chL hs hb (by omega) (s 3 + 1 - b) b 0 0 n (by omega) (by omega) (by omega), bn_s, bn_s, if_pos rfl]
        · rw [if_neg (show ¬ nI 2 = (0 : Int32) by decide), if_neg (show ¬ nI 2 = (1 : Int32) by decide), if_neg (show ¬ nI 2 = (5 : Int32) by decide), if_pos (show nI 2 = (2 : Int32) from rfl)]
          unfold cX10_chain_80
          rw [show (0 : Int32) = nI 0 from rfl, r_chL hs hb (by omega) (s 3 + 1) 0 0 0 n (by omega) (by omega) (by omega), if_pos rfl]
          rw [show s 3 + 1 = b + (s 3 + 1 - b) by omega, (ch_sk hs.1 b (s 3 + 1 - b) 0 0 (by omega) hb).1, show b + (s 3 + 1 - b) - b = s 3 + 1 - b by omega]
      · refine PQ_0 (ans := nI (chM s b (s 3 + 1 - b) b 0)) (fun I z => ?_) (fun I q hI => eM I q hI _ ?_)
        · refine (eC I z).trans ?_
          unfold pX6_ofChain
          rw [if_neg (show ¬ nI 3 = (0 : Int32) by decide), if_neg (show ¬ nI 3 = (1 : Int32) by decide), if_neg (show ¬ nI 3 = (2 : Int32) by decide), if_pos (show nI 3 = (3 : Int32) from rfl)]
          unfold pX6_childrenOf
          rw [show (0 : Int32) = nI 0 from rfl, show (1 : Int32) = nI 1 from rfl, c_chL hs hb (by omega) (s 3 + 1 - b) b 0 0 n (by omega) (by omega) (by omega), bn_s, bn_s, if_neg (by omega)]
        · rw [if_neg (show ¬ nI 3 = (0 : Int32) by decide), if_neg (show ¬ nI 3 = (1 : Int32) by decide), if_neg (show ¬ nI 3 = (5 : Int32) by decide), if_neg (show ¬ nI 3 = (2 : Int32) by decide), if_pos (show nI 3 = (3 : Int32) from rfl)]
          unfold cX10_chain_80
          rw [show (0 : Int32) = nI 0 from rfl, r_chL hs hb (by omega) (s 3 + 1) 0 0 0 n (by omega) (by omega) (by omega), if_neg (by omega)]
          rw [show s 3 + 1 = b + (s 3 + 1 - b) by omega, (ch_sk hs.1 b (s 3 + 1 - b) 0 0 (by omega) hb).2, show b + (s 3 + 1 - b) - b = s 3 + 1 - b by omega]
      · refine PQ_0 (ans := nI (0 + ctN (fun k => inl s k b) (s 0 + 4) 0)) (fun I z => ?_) (fun I q hI => eM I q hI _ ?_)
        · refine (eC I z).trans ?_
          unfold pX6_ofChain
          rw [if_neg (show ¬ nI 4 = (0 : Int32) by decide), if_neg (show ¬ nI 4 = (1 : Int32) by decide), if_neg (show ¬ nI 4 = (2 : Int32) by decide), if_neg (show ¬ nI 4 = (3 : Int32) by decide), if_pos (show nI 4 = (4 : Int32) from rfl)]
          unfold pX6_committersOf
          rw [show (0 : Int32) = nI 0 from rfl, c_cmK hs hb (s 0 + 4) 0 0 n (by omega) (by omega), bn_s, bn_s]
        · rw [if_neg (show ¬ nI 4 = (0 : Int32) by decide), if_neg (show ¬ nI 4 = (1 : Int32) by decide), if_neg (show ¬ nI 4 = (5 : Int32) by decide), if_neg (show ¬ nI 4 = (2 : Int32) by decide), if_neg (show ¬ nI 4 = (3 : Int32) by decide)]
          rw [show (0 : Int32) = nI 0 from rfl]
          exact r_chK hs hb (j := 4) (Or.inl rfl) (s 0 + 4) 0 0 n (by omega) (by omega)
      · refine PQ_0 (ans := nI (1 + vrS s 100 b)) (fun I z => ?_) (fun I q hI => eM I q hI _ ?_)
        · refine (eC I z).trans ?_
          unfold pX6_ofChain
          rw [if_neg (show ¬ nI 5 = (0 : Int32) by decide), if_neg (show ¬ nI 5 = (1 : Int32) by decide), if_neg (show ¬ nI 5 = (2 : Int32) by decide), if_neg (show ¬ nI 5 = (3 : Int32) by decide), if_neg (show ¬ nI 5 = (4 : Int32) by decide), if_pos (show nI 5 = (5 : Int32) from rfl)]
          unfold pX1_viewsInARow
          rw [show (0 : Int32) = nI 0 from rfl, show (1 : Int32) = nI 1 from rfl, c_vrL hs 100 b 1 0 n hb (by omega) (by omega) (by omega), bn_s, bn_s]
        · rw [if_neg (show ¬ nI 5 = (0 : Int32) by decide), if_neg (show ¬ nI 5 = (1 : Int32) by decide), if_pos (show nI 5 = (5 : Int32) from rfl)]
          unfold pX10_inRow
          rw [show (1 : Int32) = nI 1 from rfl, r_vrL hs 100 b 1 n hb (by omega) (by omega), bn_s]
      · refine PQ_0 (ans := nI (0 + ctN (fun k => hld s b k) (s 0 + 4) 0)) (fun I z => ?_) (fun I q hI => eM I q hI _ ?_)
        · refine (eC I z).trans ?_
          unfold pX6_ofChain
          rw [if_neg (show ¬ nI 6 = (0 : Int32) by decide), if_neg (show ¬ nI 6 = (1 : Int32) by decide), if_neg (show ¬ nI 6 = (2 : Int32) by decide), if_neg (show ¬ nI 6 = (3 : Int32) by decide), if_neg (show ¬ nI 6 = (4 : Int32) by decide), if_neg (show ¬ nI 6 = (5 : Int32) by decide), if_pos (show nI 6 = (6 : Int32) from rfl)]
          unfold pX6_holdersOf
          rw [show (0 : Int32) = nI 0 from rfl, c_hdK hs hb (s 0 + 4) 0 0 n (by omega) (by omega), bn_s, bn_s]
        · rw [if_neg (show ¬ nI 6 = (0 : Int32) by decide), if_neg (show ¬ nI 6 = (1 : Int32) by decide), if_neg (show ¬ nI 6 = (5 : Int32) by decide), if_neg (show ¬ nI 6 = (2 : Int32) by decide), if_neg (show ¬ nI 6 = (3 : Int32) by decide)]
          rw [show (0 : Int32) = nI 0 from rfl]
          exact r_chK hs hb (j := 6) (Or.inr rfl) (s 0 + 4) 0 0 n (by omega) (by omega)
    · refine PQ_0 (ans := -1) (fun I z => ?_) (fun I q hI => ?_)
      · refine (eC I z).trans ?_
        unfold pX6_ofChain
        rw [if_neg (show ¬ y = (0 : Int32) from inb_ne d (j := 0) (by omega) (by omega)), if_neg (show ¬ y = (1 : Int32) from inb_ne d (j := 1) (by omega) (by omega)), if_neg (show ¬ y = (2 : Int32) from inb_ne d (j := 2) (by omega) (by omega)), if_neg (show ¬ y = (3 : Int32) from inb_ne d (j := 3) (by omega) (by omega)), if_neg (show ¬ y = (4 : Int32) from inb_ne d (j := 4) (by omega) (by omega)), if_neg (show ¬ y = (5 : Int32) from inb_ne d (j := 5) (by omega) (by omega)), if_neg (show ¬ y = (6 : Int32) from inb_ne d (j := 6) (by omega) (by omega)), bn_s]
      · show pX10_chain n q _ _ _ = _
        unfold pX10_chain
        rw [Mt hI, lt_b, r_blk, bn_s, if_b, if_pos c, r_inb, bn_s, if_b, if_neg (show ¬ inb y (0 : Int32) (6 : Int32) = true from d)]
  · refine PQ_0 (ans := -1) (fun I z => ?_) (fun I q hI => ?_)
    · show pX9_chain n z _ _ _ = _
      unfold pX9_chain
      rw [c_blk, bn_s, if_b, if_neg c]
    · show pX10_chain n q _ _ _ = _
      unfold pX10_chain
      rw [Mt hI, lt_b, r_blk, bn_s, if_b, if_neg c]
end F6
