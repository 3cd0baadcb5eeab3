/-! WHAT ONLY ASKS, third: audit -/
def crt (s : Nat → Nat) (x : Nat) : Bool := decide (x = 0 ∨ s (716 + x) = 1)
def tw (s : Nat → Nat) (a b : Nat) : Bool := crt s a && crt s b && (s (16 + a) == s (16 + b))
theorem tw_sym {s : Nat → Nat} {a b : Nat} : tw s a b = tw s b a := by
  unfold tw
  rw [Bool.and_comm (crt s a), show (s (16 + a) == s (16 + b)) = (s (16 + b) == s (16 + a)) from by rw [Bool.eq_iff_iff, beq_iff_eq, beq_iff_eq]; exact eq_comm]
theorem ct_snoc {p : Nat → Bool} : ∀ (m i : Nat), ctN p (m + 1) i = ctN p m i + b01 (p (i + m))
  | 0, i => by show b01 (p i) + 0 = 0 + b01 (p (i + 0)); rw [Nat.add_zero, Nat.add_zero, Nat.zero_add]
  | m + 1, i => by
    show b01 (p i) + ctN p (m + 1) (i + 1) = b01 (p i) + ctN p m (i + 1) + b01 (p (i + (m + 1)))
    rw [ct_snoc m (i + 1), show i + 1 + m = i + (m + 1) by omega, Nat.add_assoc]
theorem ct_cg {p p' : Nat → Bool} : ∀ (m i : Nat), (∀ j, i ≤ j → j < i + m → p j = p' j) → ctN p m i = ctN p' m i
  | 0, i, h => rfl
  | m + 1, i, h => by
    show b01 (p i) + ctN p m (i + 1) = b01 (p' i) + ctN p' m (i + 1)
    rw [h i (by omega) (by omega), ct_cg m (i + 1) (fun j h1 h2 => h j (by omega) (by omega))]
theorem ct_0 {p : Nat → Bool} : ∀ (m i : Nat), (∀ j, p j = false) → ctN p m i = 0
  | 0, i, h => rfl
  | m + 1, i, h => by
    show b01 (p i) + ctN p m (i + 1) = 0
    rw [h i, ct_0 m (i + 1) h]
    rfl
def vS (p : Nat → Nat → Bool) : Nat → Nat → Nat
  | 0, _ => 0
  | m + 1, a => ctN (p a) m (a + 1) + vS p m (a + 1)
theorem vS_snoc {p : Nat → Nat → Bool} : ∀ (m a : Nat), vS p (m + 1) a = vS p m a + ctN (fun i => p i (a + m)) m a
  | 0, a => rfl
  | m + 1, a => by
    show ctN (p a) (m + 1) (a + 1) + vS p (m + 1) (a + 1) = ctN (p a) m (a + 1) + vS p m (a + 1) + (b01 (p a (a + (m + 1))) + ctN (fun i => p i (a + (m + 1))) m (a + 1))
    rw [ct_snoc, vS_snoc m (a + 1), show a + 1 + m = a + (m + 1) by omega]
    omega
def acF (s : Nat → Nat) : Nat → Nat → Nat → Nat
  | 0, _, t => t
  | m + 1, i, t => acF s m (i + 1) (t ||| 2 ^ s (1816 + 5 * i + 1))
def dnL (s : Nat → Nat) (k : Nat) : Nat → Nat → Nat
  | 0, x => x
  | m + 1, x => if inl s k x = true then x else dnL s k m (s (116 + x) - 1)
def cmF (s : Nat → Nat) : Nat → Nat → Option Nat → Option Nat
  | 0, _, o => o
  | m + 1, i, o => cmF s m (i + 1) (if s (2416 + 513 * i) = 1 then o else some (dnL s i 100 (o.getD (s (2416 + 513 * i + 12 + s (2416 + 513 * i + 8))))))
def cmE (s : Nat → Nat) (o : Option Nat) : Int32 := match o with
  | none => nI 0
  | some x => nI (s (516 + x) + 1)
theorem ht_0 {s : Nat → Nat} (hB : okB s) {b : Nat} (hb : b ≤ s 3) (h : s (516 + b) = 0) : b = 0 := by
  by_cases c : b = 0
  · exact c
  · have := (hB.2.2.2 b (by omega) hb).2.2
    omega
theorem inl_0 {s : Nat → Nat} (hs : okS s) {k : Nat} (hk : k < 7) : inl s k 0 = true := by
  have l := (hs.2.2.2.1 k hk).2.1.2.1 0 (Nat.zero_le _)
  have e := ht_0 hs.1 l.1 l.2
  unfold inl
  rw [decide_eq_true_eq, show s (516 + 0) = 0 from hs.1.2.1]
  exact ⟨Nat.zero_le _, e⟩
theorem anc_self {s : Nat → Nat} {x : Nat} : anc s 100 x (s (516 + x)) = x := by
  show (if s (516 + x) ≤ s (516 + x) then x else _) = x
  rw [if_pos (Nat.le_refl _)]
theorem dn_spec {s : Nat → Nat} (hs : okS s) {k : Nat} (hk : k < 7) : ∀ (m x : Nat), x ≤ s 3 → x ≤ m → dnL s k m x ≤ s 3 ∧ inl s k (dnL s k m x) = true ∧ s (516 + dnL s k m x) ≤ s (516 + x) ∧ anc s 100 x (s (516 + dnL s k m x)) = dnL s k m x ∧ ∀ h, s (516 + dnL s k m x) < h → h ≤ s (516 + x) → inl s k (anc s 100 x h) = false
  | 0, x, hx, hm => by
    have e : x = 0 := by omega
    subst e
    exact ⟨hx, inl_0 hs hk, Nat.le_refl _, anc_self, fun h h1 h2 => by
      have : dnL s k 0 0 = 0 := rfl
      rw [this] at h1
      omega⟩
  | m + 1, x, hx, hm => by
    by_cases c : inl s k x = true
    · have E : dnL s k (m + 1) x = x := if_pos c
      rw [E]
      exact ⟨hx, c, Nat.le_refl _, anc_self, fun h h1 h2 => by omega⟩
    · have E : dnL s k (m + 1) x = dnL s k m (s (116 + x) - 1) := if_neg c
      have h0 : x ≠ 0 := fun e => c (by rw [e]; exact inl_0 hs hk)
      obtain ⟨a, b, d⟩ := hs.1.2.2.2 x (by omega) hx
      obtain ⟨e1, e2, e3, e4, e5⟩ := dn_spec hs hk m (s (116 + x) - 1) (by omega) (by omega)
      rw [E]
      refine ⟨e1, e2, by omega, ?_, fun h h1 h2 => ?_⟩
      · rw [anc_100 hs.1 hx (by omega) (by omega)]
        exact e4
      · by_cases ch : s (516 + x) ≤ h
        · rw [show h = s (516 + x) by omega, anc_self]
          exact Bool.eq_false_iff.mpr c
        · rw [anc_100 hs.1 hx (by omega) ch]
          exact e5 h h1 (by omega)
theorem log_anc {s : Nat → Nat} (hs : okS s) {k y i : Nat} (hk : k < 7) (hy : y ≤ s 3) (h : inl s k y = true) (hi : i ≤ s (516 + y)) : s (2416 + 513 * k + 12 + i) = anc s 100 y i := by
  have h3 := hs.b3
  have ht := hs.1.ht y hy
  unfold inl at h
  rw [decide_eq_true_eq] at h
  have e := log_pw (hs.2.2.2.1 k hk).2.1 (s (516 + y) - i) (s (516 + y)) h.1 (by omega)
  rw [h.2, show s (516 + y) - (s (516 + y) - i) = i by omega] at e
  rw [← e, anc_pw hs.1 100 y i hy (by omega) hi]
theorem inl_le {s : Nat → Nat} {k y : Nat} (h : inl s k y = true) : s (516 + y) ≤ s (2416 + 513 * k + 8) ∧ s (2416 + 513 * k + 12 + s (516 + y)) = y := by
  unfold inl at h
  exact of_decide_eq_true h
def lgX (s : Nat → Nat) : Nat → Nat → Nat → Nat
  | 0, _, t => t
  | m + 1, i, t => lgX s m (i + 1) (mxn t (s (2416 + 513 * i + 8) + 1))
def sty (s : Nat → Nat) (b : Nat) : Nat → Nat → Bool
  | 0, _ => true
  | m + 1, i => if (inl s i b || ext s b (s (2416 + 513 * i + 12 + s (2416 + 513 * i + 8)))) = true then false else sty s b m (i + 1)
section F7
variable {n q w z : Nat} {I : ev_I} {s : Nat → Nat} {h : Nat} {r : Nat → Int32}
theorem if_b1 {α : Type} {a : Bool} {x y : α} : (if nI (b01 a) = (1 : Int32) then x else y) = if a = true then x else y := by cases a <;> rfl
theorem r_crt (hs : okS s) {b : Nat} (hb : b ≤ s 3) : pX10_isCertified n q (nI b) (M q I s) = some (nI (b01 (crt s b))) := by
  have h3 := hs.b3
  have f := hs.2.1.2.2.2.2.2.1 b hb
  rw [r_isCertified (by omega) (by omega)]
  unfold crt b01
  simp only [decide_eq_true_eq]
theorem cg_crt (hs : okS s) {b : Nat} (hb : b ≤ s 3) : C w I s h r (w + 1 + 8) b = nI (b01 (crt s b)) := by
  have h3 := hs.b3
  have f := hs.2.1.2.2.2.2.2.1 b hb
  by_cases c : b = 0
  · subst c
    rw [cg_cert0]
    rfl
  · rw [cg_cert (by omega) c]
    unfold crt b01
    simp only [decide_eq_true_eq]
    by_cases d : s (716 + b) = 1
    · rw [if_pos (Or.inr d), d]
    · rw [if_neg (by omega), show s (716 + b) = 0 by omega]
theorem r_twI (hs : okS s) {a : Nat} (ha : a ≤ s 3) {K : Int32 → Int32 → ev_I → Option Int32} : ∀ (m b c n : Nat), b + m = a → m < n → lX10_twins_14 q K n (nI c) (nI a) (nI b) (M q I s) = K (nI (c + ctN (tw s a) m b)) (nI (a + 1)) (M q I s) := by
  have h3 := hs.b3
  intro m
  induction m with
  | zero =>
    intro b c n hb hn
    obtain ⟨n, rfl⟩ : ∃ k, n = k + 1 := ⟨n - 1, by omega⟩
    show cX10_twins_14 q K _ n _ _ _ _ = _
    unfold cX10_twins_14
    rw [if_pos (nI_le (by omega) (by omega)), lt_b, nI_1]
    rfl
  | succ m ih =>
    intro b c n hb hn
    obtain ⟨n, rfl⟩ : ∃ k, n = k + 1 := ⟨n - 1, by omega⟩
    have v1 := hs.view ha
    have v2 := hs.view (c := b) (by omega)
    show cX10_twins_14 q K _ n _ _ _ _ = _
    unfold cX10_twins_14 cX10_twins_60
    rw [if_neg (nI_ge (by omega) (by omega)), r_crt hs ha, bn_s, if_b, r_crt hs (by omega), bn_s, if_b, show (16 : Int32) = nI 16 from rfl, nI_add, nI_add, ck_in (by omega) (by omega), ck_in (by omega) (by omega), nI_clamp (by omega), nI_clamp (by omega), M_get, M_get, lt_b, lt_b, lt_b, nI_1, nI_1]
    show _ = K (nI (c + (b01 (tw s a b) + ctN (tw s a) m (b + 1)))) _ _
    by_cases d1 : crt s a = true
    · by_cases d2 : crt s b = true
      · by_cases d3 : s (16 + a) = s (16 + b)
        · rw [if_pos d1, if_pos d2, if_pos (congrArg nI d3), ih _ _ n (by omega) (by omega), show tw s a b = true by unfold tw; rw [d1, d2, d3]; simp, Nat.add_assoc]
          rfl
        · rw [if_pos d1, if_pos d2, if_neg (fun e => d3 ((nI_eq (by omega) (by omega)).mp e)), ih _ _ n (by omega) (by omega), show tw s a b = false by unfold tw; rw [d1, d2]; simp [d3]]
          rw [show b01 false = 0 from rfl, Nat.zero_add]
      · rw [if_pos d1, if_neg d2, ih _ _ n (by omega) (by omega), show tw s a b = false by unfold tw; simp [d2]]
        rw [show b01 false = 0 from rfl, Nat.zero_add]
    · rw [if_neg d1, ih _ _ n (by omega) (by omega), show tw s a b = false by unfold tw; simp [d1]]
      rw [show b01 false = 0 from rfl, Nat.zero_add]
theorem r_twO (hs : okS s) : ∀ (m a n : Nat), a + m = s 3 + 1 → m + 200 < n → lX10_twins_4 q n (nI (vS (tw s) a 0)) (nI a) (M q I s) = some (nI (vS (tw s) (s 3 + 1) 0)) := by
  have h3 := hs.b3
  intro m
  induction m with
  | zero =>
    intro a n ha hn
    obtain ⟨n, rfl⟩ : ∃ k, n = k + 1 := ⟨n - 1, by omega⟩
    show cX10_twins_4 q _ n _ _ _ = _
    unfold cX10_twins_4
    rw [r_blockMany, bn_s, if_pos (nI_le (by omega) (by omega)), show a = s 3 + 1 by omega]
  | succ m ih =>
    intro a n ha hn
    obtain ⟨n, rfl⟩ : ∃ k, n = k + 1 := ⟨n - 1, by omega⟩
    show cX10_twins_4 q _ n _ _ _ = _
    unfold cX10_twins_4
    rw [r_blockMany, bn_s, if_neg (nI_ge (by omega) (by omega)), show (0 : Int32) = nI 0 from rfl, r_twI hs (by omega) a 0 _ n (by omega) (by omega)]
    have e : vS (tw s) (a + 1) 0 = vS (tw s) a 0 + ctN (tw s a) a 0 := by
      rw [vS_snoc]
      congr 1
      refine ct_cg a 0 (fun j _ _ => ?_)
      show tw s j (0 + a) = tw s a j
      rw [Nat.zero_add]
      exact tw_sym
    rw [← e]
    exact ih (a + 1) n (by omega) (by omega)
theorem c_twI (hs : okS s) {a : Nat} (ha : a ≤ s 3) {K : Int32 → Int32 → ev_I → Option Int32} : ∀ (m b c n : Nat), b + m = s 3 + 1 → m < n → lX6_rivalCertificates_16 (w + 1) K n (nI c) (nI a) (nI b) (C w I s h r) = K (nI (c + ctN (tw s a) m b)) (nI (a + 1)) (C w I s h r) := by
  have h3 := hs.b3
  intro m
  induction m with
  | zero =>
    intro b c n hb hn
    obtain ⟨n, rfl⟩ : ∃ k, n = k + 1 := ⟨n - 1, by omega⟩
    show cX6_rivalCertificates_16 (w + 1) K _ n _ _ _ _ = _
    unfold cX6_rivalCertificates_16 cX6_rivalCertificates_76
    rw [cg_count, if_pos (nI_le (by omega) (by omega)), lt_b, nI_1]
    rfl
  | succ m ih =>
    intro b c n hb hn
    obtain ⟨n, rfl⟩ : ∃ k, n = k + 1 := ⟨n - 1, by omega⟩
    have v1 := hs.view ha
    have v2 := hs.view (c := b) (by omega)
    have e65 : ∀ t : Bool, cX6_rivalCertificates_65 (w + 1) K (lX6_rivalCertificates_16 (w + 1) K n) n (nI a) (nI b) (nI c) (nI (b01 t)) (C w I s h r) = K (nI (c + (b01 t + ctN (tw s a) m (b + 1)))) (nI (a + 1)) (C w I s h r) := by
      intro t
      unfold cX6_rivalCertificates_65
      rw [fl_b, bn_s, lt_b, lt_b, nI_1, nI_add, ih _ _ n (by omega) (by omega), Nat.add_assoc]
    show cX6_rivalCertificates_16 (w + 1) K _ n _ _ _ _ = _
    unfold cX6_rivalCertificates_16 cX6_rivalCertificates_76 cX6_rivalCertificates_64
    rw [cg_count, if_neg (nI_ge (by omega) (by omega)), ck_in (by omega) (by omega), nI_clamp (by omega), cg_crt hs ha, if_b1, ck_in (by omega) (by omega), nI_clamp (by omega), cg_crt hs (by omega), if_b1, ck_in (by omega) (by omega), ck_in (by omega) (by omega), cg_view (by omega), cg_view (by omega), lt_b, nI_1]
    have h00 : (0 : Int32) = nI (b01 false) := rfl
    have h11 : (1 : Int32) = nI (b01 true) := rfl
    show _ = K (nI (c + (b01 (tw s a b) + ctN (tw s a) m (b + 1)))) _ _
    by_cases d1 : crt s a = true
    · by_cases d2 : crt s b = true
      · by_cases d3 : s (16 + a) = s (16 + b)
        · rw [if_pos d1, if_pos d2, if_pos (congrArg nI d3), h11, e65, show tw s a b = true by unfold tw; rw [d1, d2, d3]; simp]
        · rw [if_pos d1, if_pos d2, if_neg (fun e => d3 ((nI_eq (by omega) (by omega)).mp e)), h00, e65, show tw s a b = false by unfold tw; rw [d1, d2]; simp [d3]]
      · rw [if_pos d1, if_neg d2, h00, e65, show tw s a b = false by unfold tw; simp [d2]]
    · rw [if_neg d1, show b01 (tw s a b) + ctN (tw s a) m (b + 1) = 0 from ct_0 (m + 1) b (fun j => by unfold tw; simp [d1])]
      rfl
theorem c_twO (hs : okS s) : ∀ (m a c n : Nat), a + m = s 3 + 1 → m + 200 < n → lX6_rivalCertificates_4 (w + 1) n (nI c) (nI a) (C w I s h r) = some (nI (c + vS (tw s) m a)) := by
  have h3 := hs.b3
  intro m
  induction m with
  | zero =>
    intro a c n ha hn
    obtain ⟨n, rfl⟩ : ∃ k, n = k + 1 := ⟨n - 1, by omega⟩
    show cX6_rivalCertificates_4 (w + 1) _ n _ _ _ = _
    unfold cX6_rivalCertificates_4
    rw [cg_count, if_pos (nI_le (by omega) (by omega))]
    rfl
  | succ m ih =>
    intro a c n ha hn
    obtain ⟨n, rfl⟩ : ∃ k, n = k + 1 := ⟨n - 1, by omega⟩
    show cX6_rivalCertificates_4 (w + 1) _ n _ _ _ = _
    unfold cX6_rivalCertificates_4
    rw [cg_count, if_neg (nI_ge (by omega) (by omega)), lt_b, nI_1, c_twI hs (by omega) m (a + 1) c n (by omega) (by omega), ih _ _ n (by omega) (by omega), Nat.add_assoc]
    rfl
theorem c_e14 (hs : okS s) {i : Nat} (hi : i < s 7) : pX2_at n (w + 14) 300 (nI i) (1 : Int32) (5 : Int32) (C w I s h r) = some (nI (s (1816 + 5 * i + 1))) := by
  have h7 := hs.2.2.2.2.2.1
  unfold pX2_at
  rw [if_neg (nI_pos (by omega)), cg_evc, if_neg (nI_ge (by omega) (by omega)), if_neg (show ¬ (1 : Int32) < 0 by decide), if_pos (show (1 : Int32) < 5 by decide), show (5 : Int32) = nI 5 from rfl, show (1 : Int32) = nI 1 from rfl, pk_mul, nI_add, ck_in (by omega) (by omega), nI_clamp (by omega), cg_ev (by omega), ← Nat.add_assoc]
theorem r_acL (hs : okS s) (hx : okX s) : ∀ (m i t n : Nat), i + m = s 7 → t < 128 → m + 20 < n → lX10_accused_4 q n (nI t) (nI i) (M q I s) = some (nI (pcn (acF s m i t))) := by
  have h7 := hs.2.2.2.2.2.1
  intro m
  induction m with
  | zero =>
    intro i t n hi ht hn
    obtain ⟨n, rfl⟩ : ∃ k, n = k + 1 := ⟨n - 1, by omega⟩
    show cX10_accused_4 q _ n _ _ _ = _
    unfold cX10_accused_4
    rw [show (7 : Int32).toNatClampNeg = 7 from rfl, M_get, if_pos (nI_le (by omega) (by omega)), r_onesOf ht (by omega), bn_s]
    rfl
  | succ m ih =>
    intro i t n hi ht hn
    obtain ⟨n, rfl⟩ : ∃ k, n = k + 1 := ⟨n - 1, by omega⟩
    have f := hx.2 i (by omega)
    show cX10_accused_4 q _ n _ _ _ = _
    unfold cX10_accused_4
    rw [show (7 : Int32).toNatClampNeg = 7 from rfl, M_get, if_neg (nI_ge (by omega) (by omega)), show (1816 : Int32) = nI 1816 from rfl, show (5 : Int32) = nI 5 from rfl, show (1 : Int32) = nI 1 from rfl, show (31 : Int32) = nI 31 from rfl, pk_mul, nI_add, nI_add, ck_in (by omega) (by omega), nI_clamp (by omega), M_get, or_n _ ht _ f, lt_b, lt_b, nI_add]
    exact ih (i + 1) _ n (by omega) (or_b _ ht _ f) (by omega)
theorem c_acL (hs : okS s) (hx : okX s) : ∀ (m i t n : Nat), i + m = s 7 → t < 128 → m < n → lX6_accusedNodes_4 w n (nI t) (nI i) (C w I s h r) = some (nI (pcn (acF s m i t))) := by
  have h7 := hs.2.2.2.2.2.1
  intro m
  induction m with
  | zero =>
    intro i t n hi ht hn
    obtain ⟨n, rfl⟩ : ∃ k, n = k + 1 := ⟨n - 1, by omega⟩
    show cX6_accusedNodes_4 w _ n _ _ _ = _
    unfold cX6_accusedNodes_4
    rw [cg_evc, if_pos (nI_le (by omega) (by omega)), c_bc ht, bn_s]
    rfl
  | succ m ih =>
    intro i t n hi ht hn
    obtain ⟨n, rfl⟩ : ∃ k, n = k + 1 := ⟨n - 1, by omega⟩
    have f := hx.2 i (by omega)
    show cX6_accusedNodes_4 w _ n _ _ _ = _
    unfold cX6_accusedNodes_4
    rw [cg_evc, if_neg (nI_ge (by omega) (by omega)), c_e14 hs (by omega), bn_s, show (1 : Int32) = nI 1 from rfl, show (31 : Int32) = nI 31 from rfl, or_n _ ht _ f, lt_b, lt_b, nI_add]
    exact ih (i + 1) _ n (by omega) (or_b _ ht _ f) (by omega)
/-- in common -/
theorem r_dnL (hs : okS s) {k : Nat} (hk : k < 7) {K : Int32 → Int32 → ev_I → Option Int32} : ∀ (m x n : Nat), x ≤ s 3 → x ≤ m → m + 200 < n → lX10_inCommon_34 q K n (nI x) (nI k) (M q I s) = K (nI (dnL s k m x)) (nI (k + 1)) (M q I s) := by
  have h3 := hs.b3
  intro m
  induction m with
  | zero =>
    intro x n hx hm hn
    obtain ⟨n, rfl⟩ : ∃ k, n = k + 1 := ⟨n - 1, by omega⟩
    have e : x = 0 := by omega
    subst e
    show cX10_inCommon_34 q K _ n _ _ _ = _
    unfold cX10_inCommon_34 cX10_inCommon_52
    rw [r_isInLog hs hk hx (by omega), bn_s, if_b, if_pos (inl_0 hs hk), lt_b, nI_1]
    rfl
  | succ m ih =>
    intro x n hx hm hn
    obtain ⟨n, rfl⟩ : ∃ k, n = k + 1 := ⟨n - 1, by omega⟩
    show cX10_inCommon_34 q K _ n _ _ _ = _
    unfold cX10_inCommon_34 cX10_inCommon_52
    rw [r_isInLog hs hk hx (by omega), bn_s, if_b]
    by_cases c : inl s k x = true
    · rw [if_pos c, lt_b, nI_1, show dnL s k (m + 1) x = x from if_pos c]
    · have h0 : x ≠ 0 := fun e => c (by rw [e]; exact inl_0 hs hk)
      obtain ⟨a, b, d⟩ := hs.1.2.2.2 x (by omega) hx
      rw [if_neg c, r_parentOf (by omega) a, bn_s, ih _ n (by omega) (by omega) (by omega), show dnL s k (m + 1) x = dnL s k m (s (116 + x) - 1) from if_neg c]
theorem dn_lst (hs : okS s) {k : Nat} (hk : k < 7) : inl s k (s (2416 + 513 * k + 12 + s (2416 + 513 * k + 8))) = true := by
  obtain ⟨l1, l2, l3⟩ := hs.lst hk
  unfold inl
  rw [decide_eq_true_eq, l2]
  exact ⟨Nat.le_refl _, rfl⟩
theorem r_cmL (hs : okS s) : ∀ (m i n : Nat) (o : Option Nat), i + m = s 0 + 4 → m + 400 < n → (∀ x, o = some x → x ≤ s 3) → lX10_inCommon_4 q n (match o with | none => -1 | some x => nI x) (nI i) (M q I s) = some (cmE s (cmF s m i o)) := by
  have h3 := hs.b3
  have h0 := hs.2.2.1.1
  intro m
  induction m with
  | zero =>
    intro i n o hi hn ho
    obtain ⟨n, rfl⟩ : ∃ k, n = k + 1 := ⟨n - 1, by omega⟩
    show cX10_inCommon_4 q _ n _ _ _ = some (cmE s o)
    unfold cX10_inCommon_4
    rw [r_nodeMany, bn_s, if_pos (nI_le (by omega) (by omega))]
    cases o with
    | none => rw [if_pos rfl]; rfl
    | some x =>
      have := ho x rfl
      have := hs.1.ht x this
      show (if nI x = -1 then _ else _) = _
      rw [if_neg (nI_m1 (by omega)), show (516 : Int32) = nI 516 from rfl, nI_add, ck_in (by omega) (by omega), nI_clamp (by omega), M_get, nI_1]
      rfl
  | succ m ih =>
    intro i n o hi hn ho
    obtain ⟨n, rfl⟩ : ∃ k, n = k + 1 := ⟨n - 1, by omega⟩
    have f0 := (hs.2.2.2.1 i (by omega)).1.1
    obtain ⟨l1, l2, l3⟩ := hs.lst (k := i) (by omega)
    show cX10_inCommon_4 q _ n _ _ _ = some (cmE s (cmF s m (i + 1) (if s (2416 + 513 * i) = 1 then o else some (dnL s i 100 (o.getD (s (2416 + 513 * i + 12 + s (2416 + 513 * i + 8))))))))
    unfold cX10_inCommon_4 cX10_inCommon_52
    rw [r_nodeMany, bn_s, if_neg (nI_ge (by omega) (by omega)), r_isSilent (by omega) (by omega), bn_s, if_n01]
    by_cases c : s (2416 + 513 * i) = 1
    · rw [if_pos c, if_pos c, lt_b, nI_1]
      exact ih (i + 1) n o (by omega) (by omega) ho
    · rw [if_neg c, if_neg c]
      cases o with
      | none =>
        rw [if_pos rfl, r_logLast (by omega) (by omega), bn_s, r_dnL hs (by omega) 100 _ n l1 (by omega) (by omega)]
        exact ih (i + 1) n (some _) (by omega) (by omega) (fun x hx => by injection hx with hx; rw [← hx]; exact (dn_spec hs (by omega) 100 _ l1 (by omega)).1)
      | some x =>
        have hx := ho x rfl
        show (if nI x = -1 then _ else _) = _
        rw [if_neg (nI_m1 (by omega)), r_dnL hs (by omega) 100 _ n hx (by omega) (by omega)]
        exact ih (i + 1) n (some _) (by omega) (by omega) (fun x' hx' => by injection hx' with hx'; rw [← hx']; exact (dn_spec hs (by omega) 100 _ hx (by omega)).1)
theorem mn_n {a b : Nat} (ha : a < 2 ^ 30) (hb : b < 2 ^ 30) : (if nI a < nI b then nI a else nI b) = nI (min a b) := by
  by_cases c : a < b
  · rw [if_pos (nI_lt c (by omega)), show min a b = a by omega]
  · rw [if_neg (nI_nlt (by omega) (by omega)), show min a b = b by omega]
theorem c_shL (hs : okS s) {k i t L : Nat} (hk : k < 7) (hi : i < 7) (hL : L ≤ 100) (h1 : L ≤ s (2416 + 513 * k + 8) + 1) (h2 : L ≤ s (2416 + 513 * i + 8) + 1) (ht : t ≤ L) (he : ∀ j, j < t → s (2416 + 513 * k + 12 + j) = s (2416 + 513 * i + 12 + j)) (hd : t = L ∨ s (2416 + 513 * k + 12 + t) ≠ s (2416 + 513 * i + 12 + t)) : ∀ (m j n : Nat), j + m = t → m < n → lX6_sharedLog_19 (w + (23 + 5 * k)) (w + (23 + 5 * i)) n (nI L) (nI j) (C w I s h r) = some (nI t) := by
  have h3 := hs.b3
  have bd : ∀ k, k < 7 → ∀ j, j ≤ s (2416 + 513 * k + 8) → s (2416 + 513 * k + 12 + j) < 100 := fun k hk j hj => by
    have := ((hs.2.2.2.1 k hk).2.1.2.1 j hj).1
    omega
  intro m
  induction m with
  | zero =>
    intro j n hj hn
    obtain ⟨n, rfl⟩ : ∃ k, n = k + 1 := ⟨n - 1, by omega⟩
    have e : j = t := by omega
    subst e
    show cX6_sharedLog_19 _ _ _ n _ _ _ = _
    unfold cX6_sharedLog_19
    rcases hd with hd | hd
    · rw [if_pos (nI_le (by omega) (by omega)), hd]
    · by_cases c : L ≤ j
      · rw [if_pos (nI_le c (by omega)), show L = j by omega]
      · have b1 := bd k hk j (by omega)
        have b2 := bd i hi j (by omega)
        rw [if_neg (nI_ge (by omega) (by omega)), ck_in (by omega) (by omega), ck_in (by omega) (by omega), nI_clamp (by omega), cg_logged hk (by omega), cg_logged hi (by omega), if_neg (fun e => hd ((nI_eq (by omega) (by omega)).mp e))]
  | succ m ih =>
    intro j n hj hn
    obtain ⟨n, rfl⟩ : ∃ k, n = k + 1 := ⟨n - 1, by omega⟩
    show cX6_sharedLog_19 _ _ _ n _ _ _ = _
    unfold cX6_sharedLog_19
    rw [if_neg (nI_ge (by omega) (by omega)), ck_in (by omega) (by omega), ck_in (by omega) (by omega), nI_clamp (by omega), cg_logged hk (by omega), cg_logged hi (by omega), if_pos (congrArg nI (he j (by omega))), lt_b, nI_1]
    exact ih (j + 1) n (by omega) (by omega)
theorem c_share (hs : okS s) {k i x : Nat} (hk : k < 7) (hi : i < 7) (hx : x ≤ s 3) (hl : inl s k x = true) (hn : 200 ≤ n) : pX6_sharedLog n (w + (23 + 5 * k)) (w + (23 + 5 * i)) (nI (s (516 + x) + 1)) (C w I s h r) = some (nI (s (516 + dnL s i 100 x) + 1)) := by
  have h3 := hs.b3
  obtain ⟨l1, l2, l3⟩ := hs.lst hk
  obtain ⟨m1, m2, m3⟩ := hs.lst hi
  obtain ⟨e1, e2, e3, e4, e5⟩ := dn_spec hs hi 100 x hx (by omega)
  have f1 := inl_le hl
  have f2 := inl_le e2
  have ht := hs.1.ht x hx
  unfold pX6_sharedLog
  rw [cg_logn hk, cg_logn hi, mn_n (by omega) (by omega), mn_n (by omega) (by omega), lt_b, show (0 : Int32) = nI 0 from rfl]
  refine c_shL hs hk hi (t := s (516 + dnL s i 100 x) + 1) (by omega) (by omega) (by omega) (by omega) (fun j hj => ?_) ?_ (s (516 + dnL s i 100 x) + 1) 0 n (by omega) (by omega)
  · rw [log_anc hs hi e1 e2 (by omega), log_anc hs hk hx hl (by omega)]
    have a1 := anc_pw hs.1 100 x j hx (by omega) (by omega)
    have a2 := anc_pw hs.1 100 (dnL s i 100 x) j e1 (by omega) (by omega)
    have a3 := anc_pw hs.1 100 x (s (516 + dnL s i 100 x)) hx (by omega) (by omega)
    rw [e4] at a3
    rw [a1, a2]
    have pw_add : ∀ (a b y : Nat), pw s (a + b) y = pw s b (pw s a y) := by
      intro a
      induction a with
      | zero => intro b y; rw [Nat.zero_add]; rfl
      | succ a ih => intro b y; rw [show a + 1 + b = (a + b) + 1 by omega]; exact ih b _
    rw [show s (516 + x) - j = (s (516 + x) - s (516 + dnL s i 100 x)) + (s (516 + dnL s i 100 x) - j) by omega, pw_add, ← a3]
  · by_cases c : s (516 + dnL s i 100 x) + 1 = min (min (s (2416 + 513 * i + 8) + 1) (s (2416 + 513 * k + 8) + 1)) (s (516 + x) + 1)
    · exact Or.inl c
    · right
      intro e
      have g1 := e5 (s (516 + dnL s i 100 x) + 1) (by omega) (by omega)
      have g2 := log_anc hs hk hx hl (i := s (516 + dnL s i 100 x) + 1) (by omega)
      have g3 := (hs.2.2.2.1 i hi).2.1.2.1 (s (516 + dnL s i 100 x) + 1) (by omega)
      rw [← g2, e] at g1
      have : inl s i (s (2416 + 513 * i + 12 + (s (516 + dnL s i 100 x) + 1))) = true := by
        unfold inl
        rw [decide_eq_true_eq, g3.2]
        exact ⟨by omega, rfl⟩
      rw [this] at g1
      cases g1
theorem c_cmL (hs : okS s) : ∀ (m i n : Nat) (y1 y2 : Int32) (o : Option Nat), i + m = s 0 + 4 → m + 400 < n → (match o with | none => y1 = -1 ∧ y2 = nI 0 | some x => ∃ k, k < 7 ∧ y1 = nI k ∧ y2 = nI (s (516 + x) + 1) ∧ x ≤ s 3 ∧ inl s k x = true) → lX6_commonLog_6 w n y1 y2 (nI i) (C w I s h r) = some (cmE s (cmF s m i o)) := by
  have h3 := hs.b3
  have h0 := hs.2.2.1.1
  intro m
  induction m with
  | zero =>
    intro i n y1 y2 o hi hn ho
    obtain ⟨n, rfl⟩ : ∃ k, n = k + 1 := ⟨n - 1, by omega⟩
    show cX6_commonLog_6 w _ n _ _ _ _ = some (cmE s o)
    unfold cX6_commonLog_6
    rw [cg_size, if_pos (nI_le (by omega) (by omega))]
    cases o with
    | none => rw [ho.2]; rfl
    | some x =>
      obtain ⟨k, -, -, e, -⟩ := ho
      rw [e]
      rfl
  | succ m ih =>
    intro i n y1 y2 o hi hn ho
    obtain ⟨n, rfl⟩ : ∃ k, n = k + 1 := ⟨n - 1, by omega⟩
    have f0 := (hs.2.2.2.1 i (by omega)).1.1
    obtain ⟨l1, l2, l3⟩ := hs.lst (k := i) (by omega)
    show cX6_commonLog_6 w _ n _ _ _ _ = some (cmE s (cmF s m (i + 1) (if s (2416 + 513 * i) = 1 then o else some (dnL s i 100 (o.getD (s (2416 + 513 * i + 12 + s (2416 + 513 * i + 8))))))))
    unfold cX6_commonLog_6 cX6_commonLog_55 cX6_commonLog_58
    rw [cg_size, if_neg (nI_ge (by omega) (by omega)), c_isAwake (by omega) h0 (by omega), bn_s]
    by_cases c : s (2416 + 513 * i) = 1
    · rw [if_pos c, if_pos c, if_pos (show nI 0 = (0 : Int32) from rfl), lt_b, nI_1]
      exact ih (i + 1) n y1 y2 o (by omega) (by omega) ho
    · rw [if_neg c, if_neg c, if_neg (show ¬ nI 1 = (0 : Int32) by decide)]
      cases o with
      | none =>
        obtain ⟨rfl, rfl⟩ := ho
        rw [if_pos rfl, ck_in (by omega) (by omega), nI_clamp (by omega), cg_logn (by omega), lt_b, nI_1]
        have e : dnL s i 100 (s (2416 + 513 * i + 12 + s (2416 + 513 * i + 8))) = s (2416 + 513 * i + 12 + s (2416 + 513 * i + 8)) := if_pos (dn_lst hs (by omega))
        show _ = some (cmE s (cmF s m (i + 1) (some (dnL s i 100 (s (2416 + 513 * i + 12 + s (2416 + 513 * i + 8)))))))
        rw [e]
        exact ih (i + 1) n _ _ (some _) (by omega) (by omega) ⟨i, by omega, rfl, by rw [l2], l1, dn_lst hs (by omega)⟩
      | some x =>
        obtain ⟨k, hk, rfl, rfl, hx, hl⟩ := ho
        obtain ⟨e1, e2, e3, e4, e5⟩ := dn_spec hs (k := i) (by omega) 100 x hx (by omega)
        rw [if_neg (nI_m1 (by omega)), ck_in (by omega) (by omega), ck_in (by omega) (by omega), nI_clamp (by omega), nI_clamp (by omega), c_share hs hk (by omega) hx hl (by omega), bn_s, lt_b, nI_1]
        exact ih (i + 1) n _ _ (some _) (by omega) (by omega) ⟨i, by omega, rfl, rfl, e1, e2⟩
theorem r_lgX (hs : okS s) : ∀ (m i t n : Nat), i + m = s 0 + 4 → t < 1000 → m < n → lX10_longest_4 q n (nI t) (nI i) (M q I s) = some (nI (lgX s m i t)) := by
  have h3 := hs.b3
  have h0 := hs.2.2.1.1
  intro m
  induction m with
  | zero =>
    intro i t n hi ht hn
    obtain ⟨n, rfl⟩ : ∃ k, n = k + 1 := ⟨n - 1, by omega⟩
    show cX10_longest_4 q _ n _ _ _ = _
    unfold cX10_longest_4
    rw [r_nodeMany, bn_s, if_pos (nI_le (by omega) (by omega))]
    rfl
  | succ m ih =>
    intro i t n hi ht hn
    obtain ⟨n, rfl⟩ : ∃ k, n = k + 1 := ⟨n - 1, by omega⟩
    obtain ⟨l1, l2, l3⟩ := hs.lst (k := i) (by omega)
    show cX10_longest_4 q _ n _ _ _ = _
    unfold cX10_longest_4
    rw [r_nodeMany, bn_s, if_neg (nI_ge (by omega) (by omega)), r_logMany (by omega), bn_s, r_mx (by omega) (by omega), bn_s, lt_b, nI_1]
    exact ih (i + 1) _ n (by omega) (Nat.lt_of_le_of_lt (mxn_b (N := 999) (by omega) (by omega)) (by omega)) (by omega)
theorem c_lgX (hs : okS s) : ∀ (m i t n : Nat), i + m = s 0 + 4 → t < 1000 → m < n → lX6_longestLog_4 w n (nI t) (nI i) (C w I s h r) = some (nI (lgX s m i t)) := by
  have h3 := hs.b3
  have h0 := hs.2.2.1.1
  intro m
  induction m with
  | zero =>
    intro i t n hi ht hn
    obtain ⟨n, rfl⟩ : ∃ k, n = k + 1 := ⟨n - 1, by omega⟩
    show cX6_longestLog_4 w _ n _ _ _ = _
    unfold cX6_longestLog_4
    rw [cg_size, if_pos (nI_le (by omega) (by omega))]
    rfl
  | succ m ih =>
    intro i t n hi ht hn
    obtain ⟨n, rfl⟩ : ∃ k, n = k + 1 := ⟨n - 1, by omega⟩
    obtain ⟨l1, l2, l3⟩ := hs.lst (k := i) (by omega)
    show cX6_longestLog_4 w _ n _ _ _ = _
    unfold cX6_longestLog_4
    rw [cg_size, if_neg (nI_ge (by omega) (by omega)), ck_in (by omega) (by omega), nI_clamp (by omega), cg_logn (by omega), mx_n (by omega) (by omega), lt_b, lt_b, nI_1]
    exact ih (i + 1) _ n (by omega) (Nat.lt_of_le_of_lt (mxn_b (N := 999) (by omega) (by omega)) (by omega)) (by omega)
theorem c_sty (hs : okS s) {b : Nat} (hb : b ≤ s 3) : ∀ (m i n : Nat), i + m = s 0 + 4 → m + 200 < n → lX6_isStray_2 w n (nI b) (nI i) (C w I s h r) = some (nI (b01 (sty s b m i))) := by
  have h3 := hs.b3
  have h0 := hs.2.2.1.1
  intro m
  induction m with
  | zero =>
    intro i n hi hn
    obtain ⟨n, rfl⟩ : ∃ k, n = k + 1 := ⟨n - 1, by omega⟩
    show cX6_isStray_2 w _ n _ _ _ = _
    unfold cX6_isStray_2
    rw [cg_size, if_pos (nI_le (by omega) (by omega))]
    rfl
  | succ m ih =>
    intro i n hi hn
    obtain ⟨n, rfl⟩ : ∃ k, n = k + 1 := ⟨n - 1, by omega⟩
    obtain ⟨l1, l2, l3⟩ := hs.lst (k := i) (by omega)
    show cX6_isStray_2 w _ n _ _ _ = _
    unfold cX6_isStray_2
    rw [cg_size, if_neg (nI_ge (by omega) (by omega)), ck_in (by omega) (by omega), nI_clamp (by omega), c_hasLogged hs (by omega) hb, bn_s, if_b, c_last (by omega) (by omega), bn_s, c_reaches hs.1 hb l1 (by omega), bn_s, if_n01, lt_b, nI_1]
    show _ = some (nI (b01 (if (inl s i b || ext s b (s (2416 + 513 * i + 12 + s (2416 + 513 * i + 8)))) = true then false else sty s b m (i + 1))))
    by_cases c : inl s i b = true
    · rw [if_pos c, if_pos (by rw [c]; rfl)]
      rfl
    · rw [if_neg c]
      by_cases d : ext s b (s (2416 + 513 * i + 12 + s (2416 + 513 * i + 8))) = true
      · rw [if_pos d, if_pos (by rw [d, Bool.or_true])]
        rfl
      · rw [if_neg d, if_neg (by rw [Bool.eq_false_iff.mpr c, Bool.eq_false_iff.mpr d]; decide)]
        exact ih (i + 1) n (by omega) (by omega)
theorem c_stB (hs : okS s) : ∀ (m b c n : Nat), b + m = s 3 + 1 → m + 400 < n → lX6_strayBlocks_4 w n (nI c) (nI b) (C w I s h r) = some (nI (c + ctN (fun b => sty s b (s 0 + 4) 0) m b)) := by
  have h3 := hs.b3
  have h0 := hs.2.2.1.1
  intro m
  induction m with
  | zero =>
    intro b c n hb hn
    obtain ⟨n, rfl⟩ : ∃ k, n = k + 1 := ⟨n - 1, by omega⟩
    show cX6_strayBlocks_4 w _ n _ _ _ = _
    unfold cX6_strayBlocks_4
    rw [cg_count, if_pos (nI_le (by omega) (by omega))]
    rfl
  | succ m ih =>
    intro b c n hb hn
    obtain ⟨n, rfl⟩ : ∃ k, n = k + 1 := ⟨n - 1, by omega⟩
    show cX6_strayBlocks_4 w _ n _ _ _ = _
    unfold cX6_strayBlocks_4 pX6_isStray
    rw [cg_count, if_neg (nI_ge (by omega) (by omega)), show (0 : Int32) = nI 0 from rfl, c_sty hs (by omega) (s 0 + 4) 0 n (by omega) (by omega), bn_s, fl_b, bn_s, lt_b, lt_b, nI_1, nI_add, ih _ _ n (by omega) (by omega), Nat.add_assoc]
    rfl
theorem r_sty (hs : okS s) {b : Nat} (hb : b ≤ s 3) {K : Int32 → Int32 → ev_I → Option Int32} : ∀ (m i c n : Nat) (f : Bool), i + m = s 0 + 4 → m + 200 < n → lX10_strays_17 q K n (nI c) (nI b) (nI (b01 f)) (nI i) (M q I s) = K (nI (c + b01 (f && sty s b m i))) (nI (b + 1)) (M q I s) := by
  have h3 := hs.b3
  have h0 := hs.2.2.1.1
  intro m
  induction m with
  | zero =>
    intro i c n f hi hn
    obtain ⟨n, rfl⟩ : ∃ k, n = k + 1 := ⟨n - 1, by omega⟩
    show cX10_strays_17 q K _ n _ _ _ _ _ = _
    unfold cX10_strays_17 cX10_strays_66
    rw [r_nodeMany, bn_s, if_pos (nI_le (by omega) (by omega)), if_b, lt_b, lt_b, lt_b, nI_1, nI_1]
    cases f with
    | false => rw [if_neg (by decide)]; rfl
    | true => rw [if_pos rfl]; rfl
  | succ m ih =>
    intro i c n f hi hn
    obtain ⟨n, rfl⟩ : ∃ k, n = k + 1 := ⟨n - 1, by omega⟩
    obtain ⟨l1, l2, l3⟩ := hs.lst (k := i) (by omega)
    show cX10_strays_17 q K _ n _ _ _ _ _ = _
    unfold cX10_strays_17 cX10_strays_50 cX10_strays_52
    rw [r_nodeMany, bn_s, if_neg (nI_ge (by omega) (by omega)), r_isInLog hs (by omega) hb (by omega), bn_s, if_b, r_logLast (by omega) (by omega), bn_s, r_ext hs.1 hb l1 (by omega), bn_s, if_n01, lt_b, lt_b, nI_1]
    show _ = K (nI (c + b01 (f && (if (inl s i b || ext s b (s (2416 + 513 * i + 12 + s (2416 + 513 * i + 8)))) = true then false else sty s b m (i + 1))))) _ _
    by_cases d1 : inl s i b = true
    · rw [if_pos d1, if_pos (by rw [d1]; rfl), Bool.and_false]
      exact (ih (i + 1) c n false (by omega) (by omega)).trans rfl
    · rw [if_neg d1]
      by_cases d : ext s b (s (2416 + 513 * i + 12 + s (2416 + 513 * i + 8))) = true
      · rw [if_pos d, if_pos (by rw [d, Bool.or_true]), Bool.and_false]
        exact (ih (i + 1) c n false (by omega) (by omega)).trans rfl
      · rw [if_neg d, if_neg (by rw [Bool.eq_false_iff.mpr d1, Bool.eq_false_iff.mpr d]; decide)]
        exact ih (i + 1) c n f (by omega) (by omega)
theorem r_stB (hs : okS s) : ∀ (m b c n : Nat), b + m = s 3 + 1 → m + 400 < n → lX10_strays_4 q n (nI c) (nI b) (M q I s) = some (nI (c + ctN (fun b => sty s b (s 0 + 4) 0) m b)) := by
  have h3 := hs.b3
  have h0 := hs.2.2.1.1
  intro m
  induction m with
  | zero =>
    intro b c n hb hn
    obtain ⟨n, rfl⟩ : ∃ k, n = k + 1 := ⟨n - 1, by omega⟩
    show cX10_strays_4 q _ n _ _ _ = _
    unfold cX10_strays_4
    rw [r_blockMany, bn_s, if_pos (nI_le (by omega) (by omega))]
    rfl
  | succ m ih =>
    intro b c n hb hn
    obtain ⟨n, rfl⟩ : ∃ k, n = k + 1 := ⟨n - 1, by omega⟩
    show cX10_strays_4 q _ n _ _ _ = _
    unfold cX10_strays_4
    rw [r_blockMany, bn_s, if_neg (nI_ge (by omega) (by omega))]
    refine (r_sty (q := q) (I := I) (K := lX10_strays_4 q n) hs (b := b) (by omega) (s 0 + 4) 0 c n true (by omega) (by omega)).trans ?_
    rw [ih _ _ n (by omega) (by omega), Nat.add_assoc, Bool.true_and]
    rfl
theorem pq_audit (hs : okS s) (hx : okX s) {x : Int32} (hn : 1000 ≤ n) : PQt (fun z => pX9_audit n z x) (fun q => pX10_audit n q x) s h r := by
  have h3 := hs.b3
  have h0 := hs.2.2.1.1
  have h7 := hs.2.2.2.2.2.1
  by_cases d : inb x (nI 0) (nI 4) = true
  · obtain ⟨j, -, hj, rfl⟩ := inb_e d (by omega) (by omega)
    have hj' : j = 0 ∨ j = 1 ∨ j = 2 ∨ j = 3 ∨ j = 4 := by omega
    rcases hj' with rfl | rfl | rfl | rfl | rfl
    · refine PQ_0 (ans := nI (vS (tw s) (s 3 + 1) 0)) (fun I z => ?_) (fun I q hI => ?_)
      · show pX9_audit n z _ _ = _
        unfold pX9_audit
        rw [if_pos (show nI 0 = (0 : Int32) from rfl)]
        unfold pX6_rivalCertificates
        rw [show (0 : Int32) = nI 0 from rfl, c_twO hs (s 3 + 1) 0 0 n (by omega) (by omega), bn_s, Nat.zero_add]
      · show pX10_audit n q _ _ = _
        unfold pX10_audit
        rw [Mt hI, lt_b, if_pos (show nI 0 = (0 : Int32) from rfl)]
        unfold pX10_twins
        refine Eq.trans (congrArg (fun o => Option.bind o _) (r_twO (q := q) (I := I) hs (s 3 + 1) 0 n (by omega) (by omega))) ?_
        rfl
    · refine PQ_0 (ans := nI (pcn (acF s (s 7) 0 0))) (fun I z => ?_) (fun I q hI => ?_)
      · show pX9_audit n z _ _ = _
        unfold pX9_audit
        rw [if_neg (show ¬ nI 1 = (0 : Int32) by decide), if_pos (show nI 1 = (1 : Int32) from rfl)]
        unfold pX6_accusedNodes
        rw [show (0 : Int32) = nI 0 from rfl, c_acL hs hx (s 7) 0 0 n (by omega) (by omega) (by omega), bn_s]
      · show pX10_audit n q _ _ = _
        unfold pX10_audit
        rw [Mt hI, lt_b, if_neg (show ¬ nI 1 = (0 : Int32) by decide), if_pos (show nI 1 = (1 : Int32) from rfl)]
        unfold pX10_accused
        rw [show (0 : Int32) = nI 0 from rfl, r_acL hs hx (s 7) 0 0 n (by omega) (by omega) (by omega), bn_s]
    · refine PQ_0 (ans := cmE s (cmF s (s 0 + 4) 0 none)) (fun I z => ?_) (fun I q hI => ?_)
      · show pX9_audit n z _ _ = _
        unfold pX9_audit
        rw [if_neg (show ¬ nI 2 = (0 : Int32) by decide), if_neg (show ¬ nI 2 = (1 : Int32) by decide), if_pos (show nI 2 = (2 : Int32) from rfl)]
        unfold pX6_commonLog
        rw [show (0 : Int32) = nI 0 from rfl, c_cmL hs (s 0 + 4) 0 n (-1) (nI 0) none (by omega) (by omega) ⟨rfl, rfl⟩, bn_s]
      · show pX10_audit n q _ _ = _
        unfold pX10_audit
        rw [Mt hI, lt_b, if_neg (show ¬ nI 2 = (0 : Int32) by decide), if_neg (show ¬ nI 2 = (1 : Int32) by decide), if_pos (show nI 2 = (2 : Int32) from rfl)]
        unfold pX10_inCommon
        refine Eq.trans (congrArg (fun o => Option.bind o _) (r_cmL (q := q) (I := I) hs (s 0 + 4) 0 n none (by omega) (by omega) (fun x hx => by cases hx))) ?_
        rfl
    · refine PQ_0 (ans := nI (lgX s (s 0 + 4) 0 0)) (fun I z => ?_) (fun I q hI => ?_)
      · show pX9_audit n z _ _ = _
        unfold pX9_audit
        rw [if_neg (show ¬ nI 3 = (0 : Int32) by decide), if_neg (show ¬ nI 3 = (1 : Int32) by decide), if_neg (show ¬ nI 3 = (2 : Int32) by decide), if_pos (show nI 3 = (3 : Int32) from rfl)]
        unfold pX6_longestLog
        rw [show (0 : Int32) = nI 0 from rfl, c_lgX hs (s 0 + 4) 0 0 n (by omega) (by omega) (by omega), bn_s]
      · show pX10_audit n q _ _ = _
        unfold pX10_audit
        rw [Mt hI, lt_b, if_neg (show ¬ nI 3 = (0 : Int32) by decide), if_neg (show ¬ nI 3 = (1 : Int32) by decide), if_neg (show ¬ nI 3 = (2 : Int32) by decide), if_pos (show nI 3 = (3 : Int32) from rfl)]
        unfold pX10_longest
        rw [show (0 : Int32) = nI 0 from rfl, r_lgX hs (s 0 + 4) 0 0 n (by omega) (by omega) (by omega), bn_s]
    · refine PQ_0 (ans := nI (0 + ctN (fun b => sty s b (s 0 + 4) 0) (s 3 + 1) 0)) (fun I z => ?_) (fun I q hI => ?_)
      · show pX9_audit n z _ _ = _
        unfold pX9_audit
        rw [if_neg (show ¬ nI 4 = (0 : Int32) by decide), if_neg (show ¬ nI 4 = (1 : Int32) by decide), if_neg (show ¬ nI 4 = (2 : Int32) by decide), if_neg (show ¬ nI 4 = (3 : Int32) by decide), if_pos (show nI 4 = (4 : Int32) from rfl)]
        unfold pX6_strayBlocks
        rw [show (0 : Int32) = nI 0 from rfl, c_stB hs (s 3 + 1) 0 0 n (by omega) (by omega), bn_s]
      · show pX10_audit n q _ _ = _
        unfold pX10_audit
        rw [Mt hI, lt_b, if_neg (show ¬ nI 4 = (0 : Int32) by decide), if_neg (show ¬ nI 4 = (1 : Int32) by decide), if_neg (show ¬ nI 4 = (2 : Int32) by decide), if_neg (show ¬ nI 4 = (3 : Int32) by decide), if_pos (show nI 4 = (4 : Int32) from rfl)]
        unfold pX10_strays
        rw [show (0 : Int32) = nI 0 from rfl, r_stB hs (s 3 + 1) 0 0 n (by omega) (by omega), bn_s]
  · refine PQ_0 (ans := -1) (fun I z => ?_) (fun I q hI => ?_)
    · show pX9_audit n z _ _ = _
      unfold pX9_audit
      rw [if_neg (show ¬ x = (0 : Int32) from inb_ne d (j := 0) (by omega) (by omega)), if_neg (show ¬ x = (1 : Int32) from inb_ne d (j := 1) (by omega) (by omega)), if_neg (show ¬ x = (2 : Int32) from inb_ne d (j := 2) (by omega) (by omega)), if_neg (show ¬ x = (3 : Int32) from inb_ne d (j := 3) (by omega) (by omega)), if_neg (show ¬ x = (4 : Int32) from inb_ne d (j := 4) (by omega) (by omega))]
    · show pX10_audit n q _ _ = _
      unfold pX10_audit
      rw [Mt hI, lt_b, if_neg (show ¬ x = (0 : Int32) from inb_ne d (j := 0) (by omega) (by omega)), if_neg (show ¬ x = (1 : Int32) from inb_ne d (j := 1) (by omega) (by omega)), if_neg (show ¬ x = (2 : Int32) from inb_ne d (j := 2) (by omega) (by omega)), if_neg (show ¬ x = (3 : Int32) from inb_ne d (j := 3) (by omega) (by omega)), if_neg (show ¬ x = (4 : Int32) from inb_ne d (j := 4) (by omega) (by omega))]
end F7
