/-! PAIRS OF CALLS: ledger -/
def mv5 (f t : Nat) (x : Int32) (A : Nat → Int32) : Nat → Int32 := ev_u1 (ev_u1 A f (A f - x)) t (ev_u1 A f (A f - x) t + x)
def ap (p : Nat) (A : Nat → Int32) : Nat → Int32 :=
  if p / 250 = 0 then ev_u1 A (p / 50 % 5) (A (p / 50 % 5) + nI (p % 50))
  else if p / 250 = 1 then ev_u1 A (p / 50 % 5) (if (0 : Int32) < A (p / 50 % 5) - nI (p % 50) then A (p / 50 % 5) - nI (p % 50) else 0)
  else if p / 250 = 2 then mv5 (p / 50 % 5) ((p / 50 % 5 + 1) % 5) (if A (p / 50 % 5) < nI (p % 50) then A (p / 50 % 5) else nI (p % 50)) A
  else mv5 ((p / 50 % 5 + 1) % 5) (p / 50 % 5) (A ((p / 50 % 5 + 1) % 5)) A
theorem u1_cg {A B : Nat → Int32} {k : Nat} {v : Int32} (h : ∀ j, j < 5 → A j = B j) : ∀ j, j < 5 → ev_u1 A k v j = ev_u1 B k v j := fun j hj => by
  unfold ev_u1
  rw [h j hj]
theorem mv5_cg {A B : Nat → Int32} {f t : Nat} {x : Int32} (h : ∀ j, j < 5 → A j = B j) (hf : f < 5) (ht : t < 5) : ∀ j, j < 5 → mv5 f t x A j = mv5 f t x B j := fun j hj => by
  unfold mv5
  rw [h f hf, u1_cg (k := f) (v := B f - x) h t ht]
  exact u1_cg (u1_cg h) j hj
theorem ap_cg {A B : Nat → Int32} {p : Nat} (h : ∀ j, j < 5 → A j = B j) : ∀ j, j < 5 → ap p A j = ap p B j := fun j hj => by
  have e1 := h (p / 50 % 5) (by omega)
  have e2 := h ((p / 50 % 5 + 1) % 5) (by omega)
  unfold ap
  rw [e1, e2]
  by_cases c0 : p / 250 = 0
  · rw [if_pos c0, if_pos c0]; exact u1_cg h j hj
  · rw [if_neg c0, if_neg c0]
    by_cases c1 : p / 250 = 1
    · rw [if_pos c1, if_pos c1]; exact u1_cg h j hj
    · rw [if_neg c1, if_neg c1]
      by_cases c2 : p / 250 = 2
      · rw [if_pos c2, if_pos c2]; exact mv5_cg h (by omega) (by omega) j hj
      · rw [if_neg c2, if_neg c2]; exact mv5_cg h (by omega) (by omega) j hj
def ldF (s : Nat → Nat) (b : Nat) : Nat → Nat → (Nat → Int32) → (Nat → Int32)
  | 0, _, A => A
  | m + 1, i, A => ldF s b m (i + 1) (ap (s (316 + anc s 100 b i)) A)
theorem ldF_cg {s : Nat → Nat} {b : Nat} : ∀ (m i : Nat) (A B : Nat → Int32), (∀ j, j < 5 → A j = B j) → ∀ j, j < 5 → ldF s b m i A j = ldF s b m i B j
  | 0, i, A, B, h => h
  | m + 1, i, A, B, h => ldF_cg m (i + 1) _ _ (ap_cg h)
theorem u21 {J : ev_I} {a k : Nat} {A : Nat → Int32} {v : Int32} : ev_u2 (ev_u1 J a A) a k v = ev_u1 J a (ev_u1 A k v) := by
  funext b j
  unfold ev_u2 ev_u1
  by_cases c : b = a
  · by_cases d : j = k
    · simp [c, d]
    · simp [c, d]
  · simp [c]
theorem u1_g {J : ev_I} {a : Nat} {A : Nat → Int32} {k : Nat} : ev_u1 J a A a k = A k := by
  unfold ev_u1
  rw [if_pos rfl]
theorem u1_o {J : ev_I} {a b : Nat} {A : Nat → Int32} (h : b ≠ a) : ev_u1 J a A b = J b := by
  unfold ev_u1
  rw [if_neg h]
theorem rem5 {x d : Nat} (hx : x < 2 ^ 30) (h0 : 0 < d) (hd : d < 2 ^ 30) : nI x - nI x / nI d * nI d = nI (x % d) := pk_rem (by omega) h0 (by omega)
section F9
variable {n q w z : Nat} {I : ev_I} {s : Nat → Nat} {h : Nat} {r : Nat → Int32}
theorem c_mv5 {J : ev_I} {a f t : Nat} {x : Int32} {A : Nat → Int32} (hf : f < 5) (ht : t < 5) : pX0_move n a (nI f) (nI t) x (ev_u1 J (a + 1) A) = some (ev_u1 J (a + 1) (mv5 f t x A)) := by
  unfold pX0_move mv5
  rw [ck_in hf (by omega), ck_in hf (by omega), nI_clamp (by omega), u1_g, u21, lt_b, ck_in ht (by omega), ck_in ht (by omega), nI_clamp (by omega), u1_g, u21, lt_b]
theorem c_apply {J : ev_I} {a p : Nat} {A : Nat → Int32} (hp : p ≤ 999) : pX0_apply n a (nI p) (ev_u1 J (a + 1) A) = some (ev_u1 J (a + 1) (ap p A)) := by
  unfold pX0_apply
  rw [show (50 : Int32) = nI 50 from rfl, show (5 : Int32) = nI 5 from rfl, show (250 : Int32) = nI 250 from rfl, pk_div (by omega) (by omega) (by omega), rem5 (by omega) (by omega) (by omega), lt_b, nI_1, rem5 (by omega) (by omega) (by omega), lt_b]
  rw [show nI p - nI (p / 50) * nI 50 = nI (p % 50) by rw [← pk_div (by omega) (by omega) (by omega), rem5 (by omega) (by omega) (by omega)], lt_b, pk_div (by omega) (by omega) (by omega), lt_b]
  have k4 : p / 250 < 4 := by omega
  unfold ap
  by_cases c0 : p / 250 = 0
  · rw [if_pos c0, c0, if_pos (show nI 0 = (0 : Int32) from rfl), ck_in (by omega) (by omega), ck_in (by omega) (by omega), nI_clamp (by omega), u1_g, u21, lt_b]
  · rw [if_neg c0, if_neg (nI_ne0 (by omega) (by omega))]
    by_cases c1 : p / 250 = 1
    · rw [if_pos c1, c1, if_pos (show nI 1 = (1 : Int32) from rfl), ck_in (by omega) (by omega), ck_in (by omega) (by omega), nI_clamp (by omega), u1_g, u21, lt_b]
    · rw [if_neg c1, if_neg (show ¬ nI (p / 250) = (1 : Int32) from fun e => c1 ((nI_eq (b := 1) (by omega) (by omega)).mp e))]
      by_cases c2 : p / 250 = 2
      · rw [if_pos c2, c2, if_pos (show nI 2 = (2 : Int32) from rfl), ck_in (by omega) (by omega), nI_clamp (by omega), u1_g, c_mv5 (by omega) (by omega), bn_s]
      · rw [if_neg c2, if_neg (show ¬ nI (p / 250) = (2 : Int32) from fun e => c2 ((nI_eq (b := 2) (by omega) (by omega)).mp e)), ck_in (by omega) (by omega), nI_clamp (by omega), u1_g, c_mv5 (by omega) (by omega), bn_s]
theorem r_mv5 {J : ev_I} {f t : Nat} {x : Int32} {A : Nat → Int32} (hf : f < 5) (ht : t < 5) : cX10_means_130 q n (nI f) (nI t) x (ev_u1 J (q + 6) A) = some (ev_u1 J (q + 6) (mv5 f t x A)) := by
  unfold cX10_means_130 mv5
  rw [ck_in hf (by omega), ck_in hf (by omega), nI_clamp (by omega), u1_g, u21, lt_b, ck_in ht (by omega), ck_in ht (by omega), nI_clamp (by omega), u1_g, u21, lt_b]
theorem gr_z0 {x : Int32} {J : ev_I} : pX10_greater n q (0 : Int32) x J = some (if (0 : Int32) < x then x else 0) := by
  unfold pX10_greater
  by_cases c : (0 : Int32) ≤ x
  · rw [if_pos c]
    by_cases d : (0 : Int32) < x
    · rw [if_pos d]
    · rw [if_neg d]
      congr 1
      rw [Int32.le_iff_toInt_le] at c
      rw [Int32.lt_iff_toInt_lt] at d
      exact Int32.toInt_inj.mp (by omega)
  · rw [if_neg c, if_neg (fun d => c (by rw [Int32.le_iff_toInt_le]; rw [Int32.lt_iff_toInt_lt] at d; omega))]
theorem ls_n {x y : Int32} {J : ev_I} : pX10_lesser n q y x J = some (if x < y then x else y) := by
  unfold pX10_lesser
  by_cases c : x ≤ y
  · rw [if_pos c]
    by_cases d : x < y
    · rw [if_pos d]
    · rw [if_neg d]
      congr 1
      rw [Int32.le_iff_toInt_le] at c
      rw [Int32.lt_iff_toInt_lt] at d
      exact Int32.toInt_inj.mp (by omega)
  · rw [if_neg c, if_neg (fun d => c (by rw [Int32.le_iff_toInt_le]; rw [Int32.lt_iff_toInt_lt] at d; omega))]
theorem r_means {J : ev_I} {p : Nat} {A : Nat → Int32} (hp : p ≤ 999) : pX10_means n q (nI p) (ev_u1 J (q + 6) A) = some (ev_u1 J (q + 6) (ap p A)) := by
  unfold pX10_means
  rw [show (50 : Int32) = nI 50 from rfl, show (5 : Int32) = nI 5 from rfl, show (250 : Int32) = nI 250 from rfl, pk_div (a := p) (d := 250) (by omega) (by omega) (by omega), lt_b, pk_div (a := p) (d := 50) (by omega) (by omega) (by omega), rem5 (by omega) (by omega) (by omega), lt_b, nI_1, rem5 (by omega) (by omega) (by omega), lt_b]
  rw [show nI p - nI (p / 50) * nI 50 = nI (p % 50) by rw [← pk_div (by omega) (by omega) (by omega), rem5 (by omega) (by omega) (by omega)], lt_b]
  have k4 : p / 250 < 4 := by omega
  unfold ap
  by_cases c0 : p / 250 = 0
  · rw [if_pos c0, c0, if_pos (show nI 0 = (0 : Int32) from rfl), ck_in (by omega) (by omega), ck_in (by omega) (by omega), nI_clamp (by omega), u1_g, u21, lt_b]
    unfold cX10_means_45 cX10_means_70
    rw [if_neg (show ¬ nI 0 = (1 : Int32) by decide), if_neg (show ¬ (2 : Int32) ≤ nI 0 by decide)]
  · rw [if_neg c0, if_neg (nI_ne0 (by omega) (by omega))]
    unfold cX10_means_45
    by_cases c1 : p / 250 = 1
    · rw [if_pos c1, c1, if_pos (show nI 1 = (1 : Int32) from rfl), ck_in (by omega) (by omega), nI_clamp (by omega), u1_g, gr_z0, bn_s, ck_in (by omega) (by omega), u21, lt_b]
      unfold cX10_means_70
      rw [if_neg (show ¬ (2 : Int32) ≤ nI 1 by decide)]
    · rw [if_neg c1, if_neg (show ¬ nI (p / 250) = (1 : Int32) from fun e => c1 ((nI_eq (b := 1) (by omega) (by omega)).mp e))]
      unfold cX10_means_70 cX10_means_87 cX10_means_100
      rw [if_pos (show (2 : Int32) ≤ nI (p / 250) from nI_le (a := 2) (by omega) (by omega))]
      by_cases c2 : p / 250 = 2
      · rw [if_pos c2, c2]
        simp only [if_pos (show nI 2 = (2 : Int32) from rfl)]
        rw [ck_in (by omega) (by omega), nI_clamp (by omega), u1_g, ls_n, bn_s, r_mv5 (by omega) (by omega)]
      · rw [if_neg c2]
        simp only [if_neg (show ¬ nI (p / 250) = (2 : Int32) from fun e => c2 ((nI_eq (b := 2) (by omega) (by omega)).mp e))]
        rw [ck_in (by omega) (by omega), nI_clamp (by omega), u1_g, r_mv5 (by omega) (by omega)]
theorem M_u1 {J : ev_I} {A : Nat → Int32} : M q (ev_u1 J (q + 6) A) s = ev_u1 (M q J s) (q + 6) A := by
  funext a
  unfold M ev_u1
  by_cases c : a = q + 1
  · rw [if_pos c, if_neg (by omega), if_pos c]
  · rw [if_neg c]
    by_cases d : a = q + 6
    · rw [if_pos d, if_pos d]
    · rw [if_neg d, if_neg d, if_neg c]
theorem r_ldL (hs : okS s) {b c : Nat} (hb : b ≤ s 3) (hc : c < 5) : ∀ (m i n : Nat) (A : Nat → Int32), i + m = s (516 + b) + 1 → m + 200 < n → ∃ J, lX10_ledger_82 q n (nI c) (nI b) (nI i) (M q (ev_u1 I (q + 6) A) s) = some (ldF s b m i A c, M q J s) ∧ Sc q I J := by
  have h3 := hs.b3
  have ht := hs.1.ht b hb
  intro m
  induction m with
  | zero =>
    intro i n A hi hn
    obtain ⟨n, rfl⟩ : ∃ k, n = k + 1 := ⟨n - 1, by omega⟩
    refine ⟨ev_u1 I (q + 6) A, ?_, fun a j ha => by rw [u1_o (by omega)]⟩
    show cX10_ledger_82 q _ n _ _ _ _ = _
    unfold cX10_ledger_82
    rw [show (516 : Int32) = nI 516 from rfl, nI_add, ck_in (by omega) (by omega), nI_clamp (by omega), M_get, if_pos (nI_lt (by omega) (by omega)), ck_in hc (by omega), nI_clamp (by omega), M_oth (by omega), u1_g]
    rfl
  | succ m ih =>
    intro i n A hi hn
    obtain ⟨n, rfl⟩ : ∃ k, n = k + 1 := ⟨n - 1, by omega⟩
    have al := anc_le hs.1 100 b i hb
    have pl := (hs.2.1.2.2.2.2.2.1 _ al).2.2.1
    obtain ⟨J, e, hJ⟩ := ih (i + 1) n (ap (s (316 + anc s 100 b i)) A) (by omega) (by omega)
    refine ⟨J, ?_, hJ⟩
    show cX10_ledger_82 q _ n _ _ _ _ = _
    unfold cX10_ledger_82
    rw [show (516 : Int32) = nI 516 from rfl, show (316 : Int32) = nI 316 from rfl, nI_add, ck_in (by omega) (by omega), nI_clamp (by omega), M_get, if_neg (nI_nlt (by omega) (by omega)), r_at hs.1 hb (by omega) (by omega), bn_s, nI_add, ck_in (by omega) (by omega), nI_clamp (by omega), M_get, M_u1, r_means pl, bn_s, lt_b, nI_1, ← M_u1]
    exact e
theorem r_ld0 {b x c : Int32} : ∀ (m i n : Nat) (J : ev_I), i + m = 5 → m < n → ∃ n' A, n ≤ n' + m + 1 ∧ (∀ j, j < 5 → A j = if i ≤ j then (10 : Int32) else J (q + 6) j) ∧ lX10_ledger_43 q n b x c (nI i) (M q J s) = (if x = 0 then (pX10_logLast n' q b (M q (ev_u1 J (q + 6) A) s)).bind fun z10 => lX10_ledger_82 q n' c z10 (0 : Int32) (M q (ev_u1 J (q + 6) A) s) else lX10_ledger_82 q n' c b (0 : Int32) (M q (ev_u1 J (q + 6) A) s)) := by
  intro m
  induction m with
  | zero =>
    intro i n J hi hn
    obtain ⟨n, rfl⟩ : ∃ k, n = k + 1 := ⟨n - 1, by omega⟩
    refine ⟨n, J (q + 6), by omega, fun j hj => by rw [if_neg (by omega)], ?_⟩
    rw [show ev_u1 J (q + 6) (J (q + 6)) = J from funext (fun a => by unfold ev_u1; by_cases e : a = q + 6; · rw [if_pos e, e]
                                                                      · rw [if_neg e])]
    show cX10_ledger_43 q _ n _ _ _ _ _ = _
    unfold cX10_ledger_43 cX10_ledger_77
    rw [show nI i = nI 5 by rw [show i = 5 by omega], if_pos (show (5 : Int32) ≤ nI 5 by decide)]
  | succ m ih =>
    intro i n J hi hn
    obtain ⟨n, rfl⟩ : ∃ k, n = k + 1 := ⟨n - 1, by omega⟩
    obtain ⟨n', A, h1, h2, h4⟩ := ih (i + 1) n (ev_u2 J (q + 6) i (10 : Int32)) (by omega) (by omega)
    have ee : ev_u1 (ev_u2 J (q + 6) i (10 : Int32)) (q + 6) A = ev_u1 J (q + 6) A := by
      funext a
      unfold ev_u1
      by_cases e : a = q + 6
      · rw [if_pos e, if_pos e]
      · rw [if_neg e, if_neg e]
        funext j
        unfold ev_u2
        rw [if_neg (fun h => e h.1)]
    rw [ee] at h4
    refine ⟨n', A, by omega, fun j hj => ?_, ?_⟩
    · rw [h2 j hj]
      unfold ev_u2
      by_cases c1 : i + 1 ≤ j
      · rw [if_pos c1, if_pos (by omega)]
      · rw [if_neg c1]
        by_cases c2 : j = i
        · rw [if_pos ⟨rfl, c2⟩, if_pos (by omega)]
        · rw [if_neg (fun e => c2 e.2), if_neg (by omega)]
    · show cX10_ledger_43 q _ n _ _ _ _ _ = _
      unfold cX10_ledger_43
      rw [if_neg (show ¬ (5 : Int32) ≤ nI i from nI_ge (b := 5) (by omega) (by omega)), ck_in (by omega) (by omega), nI_clamp (by omega), M_pd (by omega), lt_b, lt_b, nI_1]
      exact h4
theorem anc_step (hs : okS s) {b j : Nat} (hb : b ≤ s 3) (hj : j + 1 ≤ s (516 + b)) : s (116 + anc s 100 b (j + 1)) = anc s 100 b j + 1 ∧ s (516 + anc s 100 b (j + 1)) = j + 1 ∧ anc s 100 b (j + 1) ≤ s 3 := by
  have h3 := hs.b3
  have ht := hs.1.ht b hb
  have a1 := anc_pw hs.1 100 b (j + 1) hb (by omega) hj
  have a2 := anc_pw hs.1 100 b j hb (by omega) (by omega)
  have p1 := pw_s hs.1 (s (516 + b) - (j + 1)) b hb (by omega)
  have p2 := pw_ok hs.1 (s (516 + b) - (j + 1)) b hb (by omega)
  rw [show s (516 + b) - (j + 1) + 1 = s (516 + b) - j by omega] at p1
  rw [a1, a2]
  exact ⟨p1.symm, by omega, p2.1⟩
/-- memories that differ from the class's world in the rows of the accounts alone -/
def Rd (z : Nat) (I : ev_I) (s : Nat → Nat) (h : Nat) (r : Nat → Int32) (D : ev_I) : Prop := ∀ a, a ≠ z + 66 + 1 → a ≠ z + 66 + 2 → D a = C (z + 1) I s h r a
theorem Rd_C {D : ev_I} (hD : Rd z I s h r D) : ∃ I', D = C (z + 1) I' s h r ∧ ∀ a, a ≠ z + 67 → a ≠ z + 68 → I' a = I a := by
  refine ⟨fun a => if a = z + 67 ∨ a = z + 68 then D a else I a, ?_, fun a h1 h2 => if_neg (by omega)⟩
  funext a
  by_cases c : a = z + 67 ∨ a = z + 68
  · funext j
    rw [C_out (by omega)]
    rw [if_pos c]
  · have ec : (fun a => if a = z + 67 ∨ a = z + 68 then D a else I a) a = I a := if_neg c
    rw [hD a (by omega) (by omega)]
    funext j
    unfold C
    by_cases d : z + 1 ≤ a ∧ a < z + 1 + 58
    · rw [if_pos d, if_pos d]
      cases src (a - (z + 1)) j with
      | some k => rfl
      | none => rw [ec]
    · rw [if_neg d, if_neg d, ec]
theorem c_ldL (hs : okS s) {b c : Nat} (hb : b ≤ s 3) (hc : c < 5) : ∀ (m i n : Nat) (A : Nat → Int32) (D : ev_I), Rd z I s h r D → (∀ j, j ≤ s (516 + b) → D (z + 66 + 2) j = nI (anc s 100 b j)) → i + m = s (516 + b) + 1 → m + 200 < n → ∃ D', lX0_behind_61 (z + 66) (z + 1 + 1) n (nI b) (nI c) (nI i) (ev_u1 D (z + 66 + 1) A) = some (ldF s b m i A c, D') ∧ Rd z I s h r D' := by
  have h3 := hs.b3
  have ht := hs.1.ht b hb
  intro m
  induction m with
  | zero =>
    intro i n A D hD hw hi hn
    obtain ⟨n, rfl⟩ : ∃ k, n = k + 1 := ⟨n - 1, by omega⟩
    refine ⟨ev_u1 D (z + 66 + 1) A, ?_, fun a h1 h2 => by rw [u1_o h1]; exact hD a h1 h2⟩
    show cX0_behind_61 (z + 66) (z + 1 + 1) _ n _ _ _ _ = _
    unfold cX0_behind_61
    rw [ck_in (by omega) (by omega), nI_clamp (by omega), u1_o (by omega), hD _ (by omega) (by omega), cg_height (by omega), if_pos (nI_lt (by omega) (by omega)), ck_in hc (by omega), nI_clamp (by omega), u1_g]
    rfl
  | succ m ih =>
    intro i n A D hD hw hi hn
    obtain ⟨n, rfl⟩ : ∃ k, n = k + 1 := ⟨n - 1, by omega⟩
    have al := anc_le hs.1 100 b i hb
    have pl := (hs.2.1.2.2.2.2.2.1 _ al).2.2.1
    obtain ⟨D', e, hD'⟩ := ih (i + 1) n (ap (s (316 + anc s 100 b i)) A) D hD hw (by omega) (by omega)
    refine ⟨D', ?_, hD'⟩
    show cX0_behind_61 (z + 66) (z + 1 + 1) _ n _ _ _ _ = _
    unfold cX0_behind_61
    rw [ck_in (by omega) (by omega), nI_clamp (by omega), u1_o (show z + 1 + 1 + 6 ≠ z + 66 + 1 by omega), hD _ (by omega) (by omega), cg_height (by omega), if_neg (nI_nlt (by omega) (by omega)), ck_in (by omega) (by omega), nI_clamp (by omega), u1_o (show z + 66 + 2 ≠ z + 66 + 1 by omega), hw i (by omega), ck_in (by omega) (by omega), nI_clamp (by omega), u1_o (show z + 1 + 1 + 4 ≠ z + 66 + 1 by omega), hD _ (by omega) (by omega), cg_payload (by omega), c_apply pl, bn_s, lt_b, nI_1]
    exact e
theorem c_ldW (hs : okS s) {b c : Nat} (hb : b ≤ s 3) : ∀ (j n : Nat) (D : ev_I), j ≤ s (516 + b) → Rd z I s h r D → (∀ i, j < i → i ≤ s (516 + b) → D (z + 66 + 2) i = nI (anc s 100 b i)) → j + 3 < n → ∃ D' n', n ≤ n' + j + 2 ∧ Rd z I s h r D' ∧ (∀ i, i ≤ s (516 + b) → D' (z + 66 + 2) i = nI (anc s 100 b i)) ∧ lX0_behind_11 (z + 66) (z + 1 + 1) n (nI b) (nI c) (nI (anc s 100 b j)) (nI j) D = (pJ7_fill_53178 n' (z + 66 + 1) 5 (10 : Int32) D').bind fun z10 => lX0_behind_61 (z + 66) (z + 1 + 1) n' (nI b) (nI c) (0 : Int32) z10 := by
  have h3 := hs.b3
  have ht := hs.1.ht b hb
  intro j
  induction j with
  | zero =>
    intro n D hj hD hw hn
    obtain ⟨n, rfl⟩ : ∃ k, n = k + 2 := ⟨n - 2, by omega⟩
    refine ⟨ev_u2 D (z + 66 + 2) 0 (nI (anc s 100 b 0)), n, by omega, fun a h1 h2 => ?_, fun i hi => ?_, ?_⟩
    · funext i
      unfold ev_u2
      rw [if_neg (fun e => h2 e.1), hD a h1 h2]
    · unfold ev_u2
      by_cases e : i = 0
      · rw [if_pos ⟨rfl, e⟩, e]
      · rw [if_neg (fun q => e q.2)]
        exact hw i (by omega) hi
    · show cX0_behind_11 (z + 66) (z + 1 + 1) _ (n + 1) _ _ _ _ _ = _
      unfold cX0_behind_11 cX0_behind_41
      rw [if_neg (nI_pos (by omega)), ck_in (by omega) (by omega), nI_clamp (by omega), lt_b, if_pos (show nI 0 ≤ (0 : Int32) by decide), lt_b]
      show cX0_behind_11 (z + 66) (z + 1 + 1) _ n _ _ _ _ _ = _
      unfold cX0_behind_11
      rw [if_pos (show nI 0 + (-1 : Int32) < 0 by decide)]
  | succ j ih =>
    intro n D hj hD hw hn
    obtain ⟨n, rfl⟩ : ∃ k, n = k + 1 := ⟨n - 1, by omega⟩
    obtain ⟨p1, p2, p3⟩ := anc_step hs hb hj
    obtain ⟨D', n', e1, e2, e3, e4⟩ := ih n (ev_u2 D (z + 66 + 2) (j + 1) (nI (anc s 100 b (j + 1)))) (by omega) (fun a h1 h2 => by
      funext i
      unfold ev_u2
      rw [if_neg (fun e => h2 e.1), hD a h1 h2]) (fun i h1 h2 => by
      unfold ev_u2
      by_cases e : i = j + 1
      · rw [if_pos ⟨rfl, e⟩, e]
      · rw [if_neg (fun q => e q.2)]
        exact hw i (by omega) h2) (by omega)
    refine ⟨D', n', by omega, e2, e3, ?_⟩
    show cX0_behind_11 (z + 66) (z + 1 + 1) _ n _ _ _ _ _ = _
    unfold cX0_behind_11 cX0_behind_41
    rw [if_neg (nI_pos (by omega)), ck_in (by omega) (by omega), nI_clamp (by omega), lt_b, if_neg (nI_nle (by omega) (by omega)), ck_in (by omega) (by omega), nI_clamp (by omega), lt_b, pk_m1]
    rw [show ev_u2 D (z + 66 + 2) (j + 1) (nI (anc s 100 b (j + 1))) (z + 1 + 1 + 2) (anc s 100 b (j + 1)) = nI (anc s 100 b j) by
      unfold ev_u2
      rw [if_neg (by omega), hD _ (by omega) (by omega), cg_parent (by omega) (by omega), p1]
      rfl]
    exact e4
theorem c_behind (hs : okS s) {b c : Nat} (hb : b ≤ s 3) (hc : c < 5) (hn : 500 ≤ n) : ∃ D', pX0_behind n (z + 66) (z + 1 + 1) (nI b) (nI c) (C (z + 1) I s h r) = some (ldF s b (s (516 + b) + 1) 0 (fun _ => 10) c, D') ∧ Rd z I s h r D' := by
  have h3 := hs.b3
  have ht := hs.1.ht b hb
  obtain ⟨D1, n1, e1, e2, e3, e4⟩ := c_ldW (z := z) (I := I) (h := h) (r := r) hs (c := c) hb (s (516 + b)) n (C (z + 1) I s h r) (Nat.le_refl _) (fun a _ _ => rfl) (fun i h1 h2 => by omega) (by omega)
  obtain ⟨D', f1, f2⟩ := c_ldL hs hb hc (s (516 + b) + 1) 0 n1 (fun j => if j < 5 then (10 : Int32) else D1 (z + 66 + 1) j) D1 e2 e3 (by omega) (by omega)
  refine ⟨D', ?_, f2⟩
  unfold pX0_behind
  rw [ck_in (by omega) (by omega), nI_clamp (by omega), cg_height (by omega), lt_b]
  rw [anc_self] at e4
  rw [e4]
  unfold pJ7_fill_53178
  rw [lt_b]
  refine Eq.trans (congrArg (fun o => Option.bind o _) (fill_e (a := z + 66 + 1) (Z := 5) (v := 10) (by omega) 5 0 n1 D1 (by omega) (by omega))) ?_
  rw [bn_s]
  rw [show (fun b j => if b = z + 66 + 1 ∧ 0 ≤ j ∧ j < 5 then (10 : Int32) else D1 b j) = ev_u1 D1 (z + 66 + 1) (fun j => if j < 5 then (10 : Int32) else D1 (z + 66 + 1) j) from by
    funext b j
    unfold ev_u1
    by_cases c1 : b = z + 66 + 1
    · rw [if_pos c1]
      by_cases c2 : j < 5
      · rw [if_pos ⟨c1, by omega, c2⟩, if_pos c2]
      · rw [if_neg (fun e => c2 e.2.2), if_neg c2, c1]
    · rw [if_neg (fun e => c1 e.1), if_neg c1]]
  refine f1.trans ?_
  rw [ldF_cg (s := s) (b := b) _ 0 _ (fun _ => (10 : Int32)) (fun j hj => if_pos hj) c hc]
def PLt (f g : Nat → ev_I → Option (Int32 × ev_I)) (s : Nat → Nat) (h : Nat) (r : Nat → Int32) : Prop := ∃ ans, (∀ (I : ev_I) z, ∃ I', f z (C (z + 1) I s h r) = some (ans, C (z + 1) I' s h r) ∧ ∀ a, a ≠ z + 67 → a ≠ z + 68 → I' a = I a) ∧ ∀ (I : ev_I) q, I q 0 = 0 → ∃ J, g q (M q I s) = some (ans, M q J s) ∧ Sc q I J
theorem PL_0 {f g : Nat → ev_I → Option (Int32 × ev_I)} {ans : Int32} (hf : ∀ (I : ev_I) z, f z (C (z + 1) I s h r) = some (ans, C (z + 1) I s h r)) (hg : ∀ (I : ev_I) q, I q 0 = 0 → g q (M q I s) = some (ans, M q I s)) : PLt f g s h r := ⟨ans, fun I z => ⟨I, hf I z, fun _ _ _ => rfl⟩, fun I q hI => ⟨I, hg I q hI, Sc_r⟩⟩
theorem r_ledg (hs : okS s) {x y : Int32} {c b : Nat} (hb : b ≤ s 3) (hc : c < 5) (hn : 500 ≤ n) (hx : ∀ n' (J : ev_I), (if y = 0 then (pX10_logLast n' q x (M q J s)).bind fun z10 => lX10_ledger_82 q n' (nI c) z10 (0 : Int32) (M q J s) else lX10_ledger_82 q n' (nI c) x (0 : Int32) (M q J s)) = lX10_ledger_82 q n' (nI c) (nI b) (0 : Int32) (M q J s)) : ∃ J, cX10_ledger_40 q n x y (nI c) (M q I s) = some (ldF s b (s (516 + b) + 1) 0 (fun _ => 10) c, M q J s) ∧ Sc q I J := by
  have h3 := hs.b3
  have ht := hs.1.ht b hb
  obtain ⟨n', A, h1, h2, h4⟩ := r_ld0 (q := q) (s := s) (b := x) (x := y) (c := nI c) 5 0 n I (by omega) (by omega)
  rw [hx] at h4
  obtain ⟨J, e, hJ⟩ := r_ldL (q := q) (I := I) hs hb hc (s (516 + b) + 1) 0 n' A (by omega) (by omega)
  refine ⟨J, ?_, hJ⟩
  unfold cX10_ledger_40
  refine h4.trans ?_
  refine Eq.trans e ?_
  rw [ldF_cg (s := s) (b := b) _ 0 A (fun _ => (10 : Int32)) (fun j hj => by rw [h2 j hj, if_pos (by omega)]) c hc]
theorem pl_ledger (hs : okS s) {x y v : Int32} (hn : 1000 ≤ n) : PLt (fun z => pX9_ledger n z x y v) (fun q => pX10_ledger n q x y v) s h r := by
  have h3 := hs.b3
  have h0 := hs.2.2.1.1
  by_cases d : inb v (nI 0) (nI 4) = true
  · obtain ⟨c, -, hc, rfl⟩ := inb_e d (by omega) (by omega)
    have d' : inb (nI c) (0 : Int32) (4 : Int32) = true := d
    by_cases y0 : y = 0
    · by_cases e : gd x (s 0 + 4) = true
      · obtain ⟨k, hk, rfl⟩ := gd_e e (by omega)
        obtain ⟨l1, l2, l3⟩ := hs.lst (k := k) (by omega)
        refine ⟨ldF s (s (2416 + 513 * k + 12 + s (2416 + 513 * k + 8))) (s (516 + s (2416 + 513 * k + 12 + s (2416 + 513 * k + 8))) + 1) 0 (fun _ => 10) c, fun I z => ?_, fun I q hI => ?_⟩
        · obtain ⟨D', e1, e2⟩ := c_behind (z := z) (I := I) (h := h) (r := r) (n := n) hs l1 (c := c) (by omega) (by omega)
          obtain ⟨I', e3, e4⟩ := Rd_C e2
          refine ⟨I', ?_, e4⟩
          show pX9_ledger n z _ _ _ _ = _
          unfold pX9_ledger
          rw [if_neg (nI_pos (by omega)), if_pos (show nI c < (5 : Int32) from nI_lt (b := 5) (by omega) (by omega)), if_pos y0, c_node, bn_s, if_b, if_pos e, ck_in (by omega) (by omega), nI_clamp (by omega), c_last (by omega) (by omega), bn_s, e1, bn_s, ← e3]
        · obtain ⟨J, e1, e2⟩ := r_ledg (q := q) (I := I) (n := n) hs (x := nI k) (y := y) l1 (c := c) (by omega) (by omega) (fun n' J => by rw [if_pos y0, r_logLast (by omega) (by omega), bn_s])
          refine ⟨J, ?_, e2⟩
          show pX10_ledger n q _ _ _ _ = _
          unfold pX10_ledger
          rw [Mt hI, lt_b, r_inb, bn_s, if_b, if_pos d', if_pos y0, r_node, bn_s, if_b, if_pos e, e1]
      · refine PL_0 (ans := -1) (fun I z => ?_) (fun I q hI => ?_)
        · show pX9_ledger n z _ _ _ _ = _
          unfold pX9_ledger
          rw [if_neg (nI_pos (by omega)), if_pos (show nI c < (5 : Int32) from nI_lt (b := 5) (by omega) (by omega)), if_pos y0, c_node, bn_s, if_b, if_neg e]
        · show pX10_ledger n q _ _ _ _ = _
          unfold pX10_ledger
          rw [Mt hI, lt_b, r_inb, bn_s, if_b, if_pos d', if_pos y0, r_node, bn_s, if_b, if_neg e]
    · by_cases e : gd x (s 3 + 1) = true
      · obtain ⟨b, hb, rfl⟩ := gd_e e (by omega)
        refine ⟨ldF s b (s (516 + b) + 1) 0 (fun _ => 10) c, fun I z => ?_, fun I q hI => ?_⟩
        · obtain ⟨D', e1, e2⟩ := c_behind (z := z) (I := I) (h := h) (r := r) (n := n) hs (b := b) (by omega) (c := c) (by omega) (by omega)
          obtain ⟨I', e3, e4⟩ := Rd_C e2
          refine ⟨I', ?_, e4⟩
          show pX9_ledger n z _ _ _ _ = _
          unfold pX9_ledger
          rw [if_neg (nI_pos (by omega)), if_pos (show nI c < (5 : Int32) from nI_lt (b := 5) (by omega) (by omega)), if_neg y0, c_blk, bn_s, if_b, if_pos e, e1, bn_s, ← e3]
        · obtain ⟨J, e1, e2⟩ := r_ledg (q := q) (I := I) (n := n) hs (x := nI b) (y := y) (b := b) (by omega) (c := c) (by omega) (by omega) (fun n' J => by rw [if_neg y0])
          refine ⟨J, ?_, e2⟩
          show pX10_ledger n q _ _ _ _ = _
          unfold pX10_ledger
          rw [Mt hI, lt_b, r_inb, bn_s, if_b, if_pos d', if_neg y0, r_blk, bn_s, if_b, if_pos e, e1]
      · refine PL_0 (ans := -1) (fun I z => ?_) (fun I q hI => ?_)
        · show pX9_ledger n z _ _ _ _ = _
          unfold pX9_ledger
          rw [if_neg (nI_pos (by omega)), if_pos (show nI c < (5 : Int32) from nI_lt (b := 5) (by omega) (by omega)), if_neg y0, c_blk, bn_s, if_b, if_neg e]
        · show pX10_ledger n q _ _ _ _ = _
          unfold pX10_ledger
          rw [Mt hI, lt_b, r_inb, bn_s, if_b, if_pos d', if_neg y0, r_blk, bn_s, if_b, if_neg e]
  · refine PL_0 (ans := -1) (fun I z => ?_) (fun I q hI => ?_)
    · show pX9_ledger n z _ _ _ _ = _
      unfold pX9_ledger
      rcases inb_f d (by omega) (by omega) with e | ⟨j, hj, hj2, rfl⟩
      · rw [if_pos e]
      · rw [if_neg (nI_pos (by omega)), if_neg (show ¬ nI j < (5 : Int32) from nI_nlt (b := 5) (by omega) (by omega))]
    · show pX10_ledger n q _ _ _ _ = _
      unfold pX10_ledger
      rw [Mt hI, lt_b, r_inb, bn_s, if_b, if_neg (show ¬ inb v (0 : Int32) (4 : Int32) = true from d)]
end F9
