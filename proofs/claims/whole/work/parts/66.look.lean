/-! WHAT ONLY ASKS, fourth: best, look -/
def oI (o : Option Nat) : Int32 := match o with
  | none => -1
  | some x => nI x
/-- of two the better by a measure -/
def bet (sg : Bool) (m : Nat → Nat) (a b : Nat) : Nat := if (if sg = true then m a < m b else m b < m a) ∨ (m a = m b ∧ b < a) then b else a
def pick (f : Nat → Nat → Nat) (o : Option Nat) (b : Nat) : Nat := match o with
  | none => b
  | some a => f a b
def nfF (p : Nat → Bool) (g : Nat → Nat) (f : Nat → Nat → Nat) : Nat → Nat → Option Nat → Option Nat
  | 0, _, o => o
  | m + 1, i, o => nfF p g f m (i + 1) (if p i = true then some (pick f o (g i)) else o)
def awk (s : Nat → Nat) (i : Nat) : Bool := !decide (s (2416 + 513 * i) = 1)
theorem sub_pos_n {x y : Nat} (hx : x < 2 ^ 30) (hy : y < 2 ^ 30) : (0 : Int32) < nI x - nI y ↔ y < x := by
  rw [Int32.lt_iff_toInt_lt, pk_sub_toInt hx hy]
  have : (0 : Int32).toInt = 0 := by decide
  omega
theorem sub_0_n {x y : Nat} (hx : x < 2 ^ 30) (hy : y < 2 ^ 30) : nI x - nI y = (0 : Int32) ↔ x = y := by
  rw [← Int32.toInt_inj, pk_sub_toInt hx hy]
  have : (0 : Int32).toInt = 0 := by decide
  omega
theorem ng_ltn {x y : Nat} (hx : x < 2 ^ 30) (hy : y < 2 ^ 30) : -nI x < -nI y ↔ y < x := by
  rw [← Int32.zero_sub, ← Int32.zero_sub, show (0 : Int32) = nI 0 from rfl, Int32.lt_iff_toInt_lt, pk_sub_toInt (by omega) hx, pk_sub_toInt (by omega) hy]
  omega
theorem ng_eqn {x y : Nat} (hx : x < 2 ^ 30) (hy : y < 2 ^ 30) : -nI x = -nI y ↔ x = y := by
  rw [Int32.neg_inj, nI_eq (by omega) (by omega)]
section F8
variable {n q w z : Nat} {I : ev_I} {s : Nat → Nat} {h : Nat} {r : Nat → Int32}
theorem c_better {J : ev_I} {a0 : Nat} {sg : Bool} {sn : Int32} (hsn : sn = if sg = true then 1 else -1) {m : Nat → Nat} {o : Option Nat} {b : Nat} (hb : b < 100) (ho : ∀ a, o = some a → a < 100) (hJ : ∀ x, x < 100 → J a0 x = nI (m x)) (hm : ∀ x, x < 100 → (x = b ∨ o = some x) → m x < 1000) : pX6_better n a0 100 (oI o) (nI b) sn J = some (nI (pick (bet sg m) o b)) := by
  unfold pX6_better
  cases o with
  | none => rw [if_pos (show oI none = (-1 : Int32) from rfl)]; rfl
  | some a =>
    have ha := ho a rfl
    have h1 := hm a ha (Or.inr rfl)
    have h2 := hm b hb (Or.inl rfl)
    show (if nI a = -1 then _ else _) = some (nI (bet sg m a b))
    have e : sn * (nI (m b) - nI (m a)) = if sg = true then nI (m b) - nI (m a) else nI (m a) - nI (m b) := by
      cases sg with
      | true => rw [hsn, if_pos rfl, if_pos rfl, Int32.one_mul]
      | false => rw [hsn, if_neg (by decide), if_neg (by decide), ← Int32.neg_eq_neg_one_mul, Int32.neg_sub]
    rw [if_neg (nI_m1 (by omega)), ck_in hb (by omega), show oI (some a) = nI a from rfl, ck_in ha (by omega), nI_clamp (by omega), nI_clamp (by omega), hJ a ha, hJ b hb, lt_b, e]
    unfold bet
    cases sg with
    | true =>
      simp only [if_true]
      by_cases c : m a < m b
      · rw [if_pos ((sub_pos_n (by omega) (by omega)).mpr c), if_pos (Or.inl c)]
      · rw [if_neg (fun e => c ((sub_pos_n (by omega) (by omega)).mp e))]
        by_cases d : m a = m b
        · rw [if_pos ((sub_0_n (by omega) (by omega)).mpr d.symm)]
          by_cases f : a ≤ b
          · rw [if_pos (nI_le f (by omega)), if_neg (by omega)]
          · rw [if_neg (nI_ge (by omega) (by omega)), if_pos (Or.inr ⟨d, by omega⟩)]
        · rw [if_neg (fun e => d ((sub_0_n (by omega) (by omega)).mp e).symm), if_neg (by omega)]
    | false =>
      simp only [Bool.false_eq_true, if_false]
      by_cases c : m b < m a
      · rw [if_pos ((sub_pos_n (by omega) (by omega)).mpr c), if_pos (Or.inl c)]
      · rw [if_neg (fun e => c ((sub_pos_n (by omega) (by omega)).mp e))]
        by_cases d : m a = m b
        · rw [if_pos ((sub_0_n (by omega) (by omega)).mpr d)]
          by_cases f : a ≤ b
          · rw [if_pos (nI_le f (by omega)), if_neg (by omega)]
          · rw [if_neg (nI_ge (by omega) (by omega)), if_pos (Or.inr ⟨d, by omega⟩)]
        · rw [if_neg (fun e => d ((sub_0_n (by omega) (by omega)).mp e)), if_neg (by omega)]
theorem bet_r {sg : Bool} {m : Nat → Nat} {a b : Nat} : bet sg m a b = a ∨ bet sg m a b = b := by
  by_cases c : (if sg = true then m a < m b else m b < m a) ∨ (m a = m b ∧ b < a)
  · exact Or.inr (if_pos c)
  · exact Or.inl (if_neg c)
theorem pick_l {sg : Bool} {m : Nat → Nat} {o : Option Nat} {b N : Nat} (hb : b ≤ N) (ho : ∀ a, o = some a → a ≤ N) : pick (bet sg m) o b ≤ N := by
  cases o with
  | none => exact hb
  | some a =>
    show bet sg m a b ≤ N
    rcases bet_r (sg := sg) (m := m) (a := a) (b := b) with e | e
    · rw [e]; exact ho a rfl
    · rw [e]; exact hb

theorem c_highestLock (hs : okS s) : ∀ (m i n : Nat) (o : Option Nat), i + m = s 0 + 4 → (∀ a, o = some a → a ≤ s 3) → m < n → lX6_highestLock_4 w n (oI o) (nI i) (C w I s h r) = some (oI (nfF (awk s) (fun i => s (2416 + 513 * i + 6)) (bet true (fun x => s (16 + x))) m i o)) := by
  have h3 := hs.b3
  have h0 := hs.2.2.1.1
  intro m
  induction m with
  | zero =>
    intro i n o hi ho hn
    obtain ⟨n, rfl⟩ : ∃ k, n = k + 1 := ⟨n - 1, by omega⟩
    show cX6_highestLock_4 w _ n _ _ _ = _
    unfold cX6_highestLock_4
    rw [cg_size, if_pos (nI_le (by omega) (by omega))]
    rfl
  | succ m ih =>
    intro i n o hi ho hn
    obtain ⟨n, rfl⟩ : ∃ k, n = k + 1 := ⟨n - 1, by omega⟩
    have f0 := (hs.2.2.2.1 i (by omega)).1.1
    have g1 := (hs.2.2.2.1 i (by omega)).1.2.2.2.2.2.2.1
    show cX6_highestLock_4 w _ n _ _ _ = some (oI (nfF (awk s) (fun i => s (2416 + 513 * i + 6)) (bet true (fun x => s (16 + x))) m (i + 1) (if awk s i = true then some (pick (bet true (fun x => s (16 + x))) o ((fun i => s (2416 + 513 * i + 6)) i)) else o)))
    unfold cX6_highestLock_4 cX6_highestLock_42
    rw [cg_size, if_neg (nI_ge (by omega) (by omega)), c_isAwake (by omega) h0 (by omega), bn_s]
    by_cases c : s (2416 + 513 * i) = 1
    · rw [if_pos c, if_pos (show nI 0 = (0 : Int32) from rfl), lt_b, nI_1, show awk s i = false by unfold awk; simp [c], if_neg (by decide)]
      exact ih (i + 1) n o (by omega) ho (by omega)
    · have eb := c_better (n := n) (J := C w I s h r) (a0 := w + 1 + 1) (sg := true) (sn := (1 : Int32)) rfl (m := fun x => s (16 + x)) (o := o) (b := (fun i => s (2416 + 513 * i + 6)) i) (Nat.lt_of_le_of_lt g1 (by omega)) (fun a ha => by have := ho a ha; omega) (fun x hx => cg_view hx) (fun x hx hxo => by
        have hx3 : x ≤ s 3 := by
          rcases hxo with e | e
          · rw [e]; exact g1
          · exact ho x e
        have : s (16 + x) < 1000 := by have := hs.view (c := x) hx3; omega
        exact this)
      rw [if_neg c, if_neg (show ¬ nI 1 = (0 : Int32) by decide), ck_in (by omega) (by omega), nI_clamp (by omega), cg_lock (by omega), eb, bn_s, lt_b, nI_1, show awk s i = true by unfold awk; simp [c], if_pos rfl]
      exact ih (i + 1) n (some _) (by omega) (fun a ha => by injection ha with ha; rw [← ha]; exact pick_l g1 ho) (by omega)

theorem c_lowestHigh (hs : okS s) : ∀ (m i n : Nat) (o : Option Nat), i + m = s 0 + 4 → (∀ a, o = some a → a ≤ s 3) → m < n → lX6_lowestHigh_4 w n (oI o) (nI i) (C w I s h r) = some (oI (nfF (awk s) (fun i => s (2416 + 513 * i + 5)) (bet false (fun x => s (16 + x))) m i o)) := by
  have h3 := hs.b3
  have h0 := hs.2.2.1.1
  intro m
  induction m with
  | zero =>
    intro i n o hi ho hn
    obtain ⟨n, rfl⟩ : ∃ k, n = k + 1 := ⟨n - 1, by omega⟩
    show cX6_lowestHigh_4 w _ n _ _ _ = _
    unfold cX6_lowestHigh_4
    rw [cg_size, if_pos (nI_le (by omega) (by omega))]
    rfl
  | succ m ih =>
    intro i n o hi ho hn
    obtain ⟨n, rfl⟩ : ∃ k, n = k + 1 := ⟨n - 1, by omega⟩
    have f0 := (hs.2.2.2.1 i (by omega)).1.1
    have g1 := (hs.2.2.2.1 i (by omega)).1.2.2.2.2.2.1
    show cX6_lowestHigh_4 w _ n _ _ _ = some (oI (nfF (awk s) (fun i => s (2416 + 513 * i + 5)) (bet false (fun x => s (16 + x))) m (i + 1) (if awk s i = true then some (pick (bet false (fun x => s (16 + x))) o ((fun i => s (2416 + 513 * i + 5)) i)) else o)))
    unfold cX6_lowestHigh_4 cX6_lowestHigh_42
    rw [cg_size, if_neg (nI_ge (by omega) (by omega)), c_isAwake (by omega) h0 (by omega), bn_s]
    by_cases c : s (2416 + 513 * i) = 1
    · rw [if_pos c, if_pos (show nI 0 = (0 : Int32) from rfl), lt_b, nI_1, show awk s i = false by unfold awk; simp [c], if_neg (by decide)]
      exact ih (i + 1) n o (by omega) ho (by omega)
    · have eb := c_better (n := n) (J := C w I s h r) (a0 := w + 1 + 1) (sg := false) (sn := (-1 : Int32)) rfl (m := fun x => s (16 + x)) (o := o) (b := (fun i => s (2416 + 513 * i + 5)) i) (Nat.lt_of_le_of_lt g1 (by omega)) (fun a ha => by have := ho a ha; omega) (fun x hx => cg_view hx) (fun x hx hxo => by
        have hx3 : x ≤ s 3 := by
          rcases hxo with e | e
          · rw [e]; exact g1
          · exact ho x e
        have : s (16 + x) < 1000 := by have := hs.view (c := x) hx3; omega
        exact this)
      rw [if_neg c, if_neg (show ¬ nI 1 = (0 : Int32) by decide), ck_in (by omega) (by omega), nI_clamp (by omega), cg_high (by omega), eb, bn_s, lt_b, nI_1, show awk s i = true by unfold awk; simp [c], if_pos rfl]
      exact ih (i + 1) n (some _) (by omega) (fun a ha => by injection ha with ha; rw [← ha]; exact pick_l g1 ho) (by omega)

theorem c_highestLogged (hs : okS s) : ∀ (m i n : Nat) (o : Option Nat), i + m = s 0 + 4 → (∀ a, o = some a → a ≤ s 3) → m < n → lX6_highestLogged_4 w n (oI o) (nI i) (C w I s h r) = some (oI (nfF (awk s) (fun i => s (2416 + 513 * i + 12 + s (2416 + 513 * i + 8))) (bet true (fun x => s (516 + x))) m i o)) := by
  have h3 := hs.b3
  have h0 := hs.2.2.1.1
  intro m
  induction m with
  | zero =>
    intro i n o hi ho hn
    obtain ⟨n, rfl⟩ : ∃ k, n = k + 1 := ⟨n - 1, by omega⟩
    show cX6_highestLogged_4 w _ n _ _ _ = _
    unfold cX6_highestLogged_4
    rw [cg_size, if_pos (nI_le (by omega) (by omega))]
    rfl
  | succ m ih =>
    intro i n o hi ho hn
    obtain ⟨n, rfl⟩ : ∃ k, n = k + 1 := ⟨n - 1, by omega⟩
    have f0 := (hs.2.2.2.1 i (by omega)).1.1
    have g1 := (hs.lst (k := i) (by omega)).1
    show cX6_highestLogged_4 w _ n _ _ _ = some (oI (nfF (awk s) (fun i => s (2416 + 513 * i + 12 + s (2416 + 513 * i + 8))) (bet true (fun x => s (516 + x))) m (i + 1) (if awk s i = true then some (pick (bet true (fun x => s (516 + x))) o ((fun i => s (2416 + 513 * i + 12 + s (2416 + 513 * i + 8))) i)) else o)))
    unfold cX6_highestLogged_4 cX6_highestLogged_42
    rw [cg_size, if_neg (nI_ge (by omega) (by omega)), c_isAwake (by omega) h0 (by omega), bn_s]
    by_cases c : s (2416 + 513 * i) = 1
    · rw [if_pos c, if_pos (show nI 0 = (0 : Int32) from rfl), lt_b, nI_1, show awk s i = false by unfold awk; simp [c], if_neg (by decide)]
      exact ih (i + 1) n o (by omega) ho (by omega)
    · have eb := c_better (n := n) (J := C w I s h r) (a0 := w + 1 + 6) (sg := true) (sn := (1 : Int32)) rfl (m := fun x => s (516 + x)) (o := o) (b := (fun i => s (2416 + 513 * i + 12 + s (2416 + 513 * i + 8))) i) (Nat.lt_of_le_of_lt g1 (by omega)) (fun a ha => by have := ho a ha; omega) (fun x hx => cg_height hx) (fun x hx hxo => by
        have hx3 : x ≤ s 3 := by
          rcases hxo with e | e
          · rw [e]; exact g1
          · exact ho x e
        have : s (516 + x) < 1000 := by have := hs.1.ht x hx3; omega
        exact this)
      rw [if_neg c, if_neg (show ¬ nI 1 = (0 : Int32) by decide), ck_in (by omega) (by omega), nI_clamp (by omega), c_last (by omega) (by have := (hs.lst (k := i) (by omega)).2.2; omega), bn_s, eb, bn_s, lt_b, nI_1, show awk s i = true by unfold awk; simp [c], if_pos rfl]
      exact ih (i + 1) n (some _) (by omega) (fun a ha => by injection ha with ha; rw [← ha]; exact pick_l g1 ho) (by omega)

theorem c_hcL (hs : okS s) : ∀ (m i t n : Nat), i + m = s 3 + 1 → t < i → m < n → lX6_highestCertified_4 (w + 1) n (nI t) (nI i) (C w I s h r) = some (oI (nfF (crt s) (fun x => x) (bet true (fun x => s (16 + x))) m i (some t))) := by
  have h3 := hs.b3
  intro m
  induction m with
  | zero =>
    intro i t n hi ht hn
    obtain ⟨n, rfl⟩ : ∃ k, n = k + 1 := ⟨n - 1, by omega⟩
    show cX6_highestCertified_4 (w + 1) _ n _ _ _ = _
    unfold cX6_highestCertified_4
    rw [cg_count, if_pos (nI_le (by omega) (by omega))]
    rfl
  | succ m ih =>
    intro i t n hi ht hn
    obtain ⟨n, rfl⟩ : ∃ k, n = k + 1 := ⟨n - 1, by omega⟩
    have v1 := hs.view (c := i) (by omega)
    have v2 := hs.view (c := t) (by omega)
    show cX6_highestCertified_4 (w + 1) _ n _ _ _ = some (oI (nfF (crt s) (fun x => x) (bet true (fun x => s (16 + x))) m (i + 1) (if crt s i = true then some (bet true (fun x => s (16 + x)) t i) else some t)))
    have ec : (if i = 0 ∨ s (716 + i) = 1 then 1 else 0) = b01 (crt s i) := by unfold crt b01; simp only [decide_eq_true_eq]
    unfold cX6_highestCertified_4 cX6_highestCertified_37
    rw [cg_count, if_neg (nI_ge (by omega) (by omega)), c_isCert hs (by omega), bn_s, ec, if_b]
    by_cases c : crt s i = true
    · rw [if_pos c, if_pos c, ck_in (by omega) (by omega), ck_in (by omega) (by omega), nI_clamp (by omega), nI_clamp (by omega), cg_view (by omega), cg_view (by omega), lt_b, lt_b, nI_1]
      by_cases d : s (16 + i) ≤ s (16 + t)
      · rw [if_pos (nI_le d (by omega)), show bet true (fun x => s (16 + x)) t i = t by unfold bet; simp only [if_true]; exact if_neg (by omega)]
        exact ih (i + 1) t n (by omega) (by omega) (by omega)
      · rw [if_neg (nI_ge (by omega) (by omega)), show bet true (fun x => s (16 + x)) t i = i by unfold bet; simp only [if_true]; exact if_pos (by omega)]
        exact ih (i + 1) i n (by omega) (by omega) (by omega)
    · rw [if_neg c, if_neg c, lt_b, nI_1]
      exact ih (i + 1) t n (by omega) (by omega) (by omega)
def bsg (j : Nat) : Bool := !decide (j = 2)
def bms (s : Nat → Nat) (j : Nat) : Nat → Nat := if j = 3 then (fun x => s (516 + x)) else (fun x => s (16 + x))
theorem r_rank (hs : okS s) {j b : Nat} (hj : j ≤ 3) (hb : b ≤ s 3) : pX10_rankOf n q (nI b) (nI j) (M q I s) = some (if j = 2 then -nI (bms s j b) else nI (bms s j b)) := by
  have h3 := hs.b3
  unfold pX10_rankOf bms
  by_cases d : j = 2
  · subst d
    rw [if_pos (show nI 2 = (2 : Int32) from rfl), show (16 : Int32) = nI 16 from rfl, nI_add, ck_in (by omega) (by omega), nI_clamp (by omega), M_get]
    rfl
  · rw [if_neg (show ¬ nI j = (2 : Int32) from fun e => d ((nI_eq (b := 2) (by omega) (by omega)).mp e)), if_neg d]
    by_cases e : j = 3
    · subst e
      rw [if_pos (show nI 3 = (3 : Int32) from rfl), show (516 : Int32) = nI 516 from rfl, nI_add, ck_in (by omega) (by omega), nI_clamp (by omega), M_get]
      rfl
    · rw [if_neg (show ¬ nI j = (3 : Int32) from fun q => e ((nI_eq (b := 3) (by omega) (by omega)).mp q)), if_neg e, show (16 : Int32) = nI 16 from rfl, nI_add, ck_in (by omega) (by omega), nI_clamp (by omega), M_get]
theorem bms_l (hs : okS s) {j b : Nat} (hb : b ≤ s 3) : bms s j b < 1000 := by
  have h3 := hs.b3
  have v := hs.view hb
  have t := hs.1.ht b hb
  unfold bms
  by_cases e : j = 3
  · rw [if_pos e]
    show s (516 + b) < 1000
    omega
  · rw [if_neg e]
    show s (16 + b) < 1000
    omega
theorem r_b80 (hs : okS s) {K : Int32 → Int32 → Int32 → ev_I → Option (Int32 × ev_I)} {j b i : Nat} {o : Option Nat} (hj : j ≤ 3) (hb : b ≤ s 3) (ho : ∀ a, o = some a → a ≤ s 3) : cX10_best_80 q K n (nI j) (oI o) (nI i) (nI b) (M q I s) = K (nI j) (nI (pick (bet (bsg j) (bms s j)) o b)) (nI (i + 1)) (M q I s) := by
  have h3 := hs.b3
  unfold cX10_best_80 cX10_best_125 cX10_best_128
  simp only [lt_b, nI_1]
  cases o with
  | none => rw [if_pos (show oI none = (-1 : Int32) from rfl)]; rfl
  | some a =>
    have ha := ho a rfl
    have m1 := bms_l hs (j := j) ha
    have m2 := bms_l hs (j := j) hb
    show (if nI a = -1 then _ else _) = K (nI j) (nI (bet (bsg j) (bms s j) a b)) (nI (i + 1)) (M q I s)
    rw [if_neg (nI_m1 (by omega)), show oI (some a) = nI a from rfl, r_rank hs hj hb, bn_s, r_rank hs hj ha, bn_s, bn_s, bn_s]
    unfold bet bsg
    by_cases d : j = 2
    · simp only [d, decide_true, Bool.not_true, Bool.false_eq_true, if_true, if_false]
      rw [← d]
      by_cases c : bms s j b < bms s j a
      · rw [if_pos ((ng_ltn (by omega) (by omega)).mpr c), if_pos (Or.inl c)]
      · rw [if_neg (fun e => c ((ng_ltn (by omega) (by omega)).mp e))]
        by_cases f : bms s j a = bms s j b
        · rw [if_pos ((ng_eqn (by omega) (by omega)).mpr f.symm)]
          by_cases g : a ≤ b
          · rw [if_pos (nI_le g (by omega)), if_neg (by omega)]
          · rw [if_neg (nI_ge (by omega) (by omega)), if_pos (Or.inr ⟨f, by omega⟩)]
        · rw [if_neg (fun e => f ((ng_eqn (by omega) (by omega)).mp e).symm), if_neg (by omega)]
    · simp only [d, decide_false, Bool.not_false, if_true, if_false]
      by_cases c : bms s j a < bms s j b
      · rw [if_pos (nI_lt c (by omega)), if_pos (Or.inl c)]
      · rw [if_neg (nI_nlt (by omega) (by omega))]
        by_cases f : bms s j a = bms s j b
        · rw [if_pos (congrArg nI f.symm)]
          by_cases g : a ≤ b
          · rw [if_pos (nI_le g (by omega)), if_neg (by omega)]
          · rw [if_neg (nI_ge (by omega) (by omega)), if_pos (Or.inr ⟨f, by omega⟩)]
        · rw [if_neg (fun e => f ((nI_eq (by omega) (by omega)).mp e).symm), if_neg (by omega)]
def bgt (s : Nat → Nat) (j i : Nat) : Nat := if j = 1 then s (2416 + 513 * i + 6) else if j = 2 then s (2416 + 513 * i + 5) else s (2416 + 513 * i + 12 + s (2416 + 513 * i + 8))
theorem r_ofN (hs : okS s) {j i : Nat} (hj : 1 ≤ j ∧ j ≤ 3) (hi : i < 7) : pX10_ofNode n q (nI i) (nI j) (M q I s) = some (nI (bgt s j i)) ∧ bgt s j i ≤ s 3 := by
  have h3 := hs.b3
  obtain ⟨l1, l2, l3⟩ := hs.lst hi
  have f5 := (hs.2.2.2.1 i hi).1.2.2.2.2.2.1
  have f6 := (hs.2.2.2.1 i hi).1.2.2.2.2.2.2.1
  have hj' : j = 1 ∨ j = 2 ∨ j = 3 := by omega
  unfold pX10_ofNode bgt
  rcases hj' with rfl | rfl | rfl
  · rw [if_pos (show nI 1 = (1 : Int32) from rfl), if_pos rfl, r_nodeAt, bn_s, show (6 : Int32) = nI 6 from rfl, nI_add, ck_in (by omega) (by omega), nI_clamp (by omega), M_get]
    exact ⟨rfl, f6⟩
  · rw [if_neg (show ¬ nI 2 = (1 : Int32) by decide), if_pos (show nI 2 = (2 : Int32) from rfl), if_neg (by decide), if_pos rfl, r_nodeAt, bn_s, show (5 : Int32) = nI 5 from rfl, nI_add, ck_in (by omega) (by omega), nI_clamp (by omega), M_get]
    exact ⟨rfl, f5⟩
  · rw [if_neg (show ¬ nI 3 = (1 : Int32) by decide), if_neg (show ¬ nI 3 = (2 : Int32) by decide), if_neg (by decide), if_neg (by decide), r_logLast hi (by omega), bn_s]
    exact ⟨rfl, l1⟩
theorem r_bN (hs : okS s) {j : Nat} (hj : 1 ≤ j ∧ j ≤ 3) : ∀ (m i n : Nat) (o : Option Nat), i + m = s 0 + 4 → (∀ a, o = some a → a ≤ s 3) → m < n → lX10_best_21 q n (nI j) (oI o) (nI i) (M q I s) = some (oI (nfF (awk s) (bgt s j) (bet (bsg j) (bms s j)) m i o), M q I s) := by
  have h3 := hs.b3
  have h0 := hs.2.2.1.1
  have j0 : ¬ nI j = (0 : Int32) := nI_ne0 (by omega) (by omega)
  intro m
  induction m with
  | zero =>
    intro i n o hi ho hn
    obtain ⟨n, rfl⟩ : ∃ k, n = k + 1 := ⟨n - 1, by omega⟩
    show cX10_best_21 q _ n _ _ _ _ = _
    unfold cX10_best_21 cX10_best_37
    rw [if_neg j0, r_nodeMany, bn_s, if_pos (nI_le (by omega) (by omega))]
    rfl
  | succ m ih =>
    intro i n o hi ho hn
    obtain ⟨n, rfl⟩ : ∃ k, n = k + 1 := ⟨n - 1, by omega⟩
    have f0 := (hs.2.2.2.1 i (by omega)).1.1
    have g1 := fun n => r_ofN (n := n) (q := q) (I := I) hs hj (i := i) (by omega)
    show cX10_best_21 q _ n _ _ _ _ = some (oI (nfF (awk s) (bgt s j) (bet (bsg j) (bms s j)) m (i + 1) (if awk s i = true then some (pick (bet (bsg j) (bms s j)) o (bgt s j i)) else o)), M q I s)
    unfold cX10_best_21 cX10_best_37 cX10_best_66
    rw [if_neg j0, r_nodeMany, bn_s, if_neg (nI_ge (by omega) (by omega)), if_neg j0, if_neg j0, r_isSilent (by omega) (by omega), bn_s, if_n01]
    by_cases c : s (2416 + 513 * i) = 1
    · rw [if_pos c, show awk s i = false by unfold awk; simp [c], if_neg (by decide)]
      unfold cX10_best_128
      rw [lt_b, nI_1]
      exact ih (i + 1) n o (by omega) ho (by omega)
    · rw [if_neg c, (g1 n).1, bn_s, r_b80 hs hj.2 (g1 n).2 ho, show awk s i = true by unfold awk; simp [c], if_pos rfl]
      exact ih (i + 1) n (some _) (by omega) (fun a ha => by injection ha with ha; rw [← ha]; exact pick_l (g1 n).2 ho) (by omega)
theorem r_bB (hs : okS s) : ∀ (m i n : Nat) (o : Option Nat), i + m = s 3 + 1 → (∀ a, o = some a → a ≤ s 3) → m < n → lX10_best_21 q n (nI 0) (oI o) (nI i) (M q I s) = some (oI (nfF (crt s) (fun x => x) (bet (bsg 0) (bms s 0)) m i o), M q I s) := by
  have h3 := hs.b3
  intro m
  induction m with
  | zero =>
    intro i n o hi ho hn
    obtain ⟨n, rfl⟩ : ∃ k, n = k + 1 := ⟨n - 1, by omega⟩
    show cX10_best_21 q _ n _ _ _ _ = _
    unfold cX10_best_21 cX10_best_37
    rw [if_pos (show nI 0 = (0 : Int32) from rfl), r_blockMany, bn_s, if_pos (nI_le (by omega) (by omega))]
    rfl
  | succ m ih =>
    intro i n o hi ho hn
    obtain ⟨n, rfl⟩ : ∃ k, n = k + 1 := ⟨n - 1, by omega⟩
    show cX10_best_21 q _ n _ _ _ _ = some (oI (nfF (crt s) (fun x => x) (bet (bsg 0) (bms s 0)) m (i + 1) (if crt s i = true then some (pick (bet (bsg 0) (bms s 0)) o i) else o)), M q I s)
    unfold cX10_best_21 cX10_best_37 cX10_best_66
    rw [if_pos (show nI 0 = (0 : Int32) from rfl), r_blockMany, bn_s, if_neg (nI_ge (by omega) (by omega)), if_pos (show nI 0 = (0 : Int32) from rfl), if_pos (show nI 0 = (0 : Int32) from rfl), r_crt hs (by omega), bn_s, if_b]
    by_cases c : crt s i = true
    · rw [if_pos c, if_pos c, r_b80 hs (by omega) (by omega) ho]
      exact ih (i + 1) n (some _) (by omega) (fun a ha => by injection ha with ha; rw [← ha]; exact pick_l (by omega) ho) (by omega)
    · rw [if_neg c, if_neg c]
      unfold cX10_best_128
      rw [lt_b, nI_1]
      exact ih (i + 1) n o (by omega) ho (by omega)
theorem pq_best (hs : okS s) {x : Int32} (hn : 1000 ≤ n) : PQt (fun z => pX9_best n z x) (fun q => pX10_best n q x) s h r := by
  have h3 := hs.b3
  have h0 := hs.2.2.1.1
  by_cases d : inb x (nI 0) (nI 3) = true
  · have eM : ∀ (I : ev_I) q, I q 0 = 0 → ∀ o, lX10_best_21 q n x (oI none) (nI 0) (M q I s) = some o → pX10_best n q x (M q I s) = some o := by
      intro I q hI o ho
      unfold pX10_best
      rw [Mt hI, lt_b, r_inb, bn_s, if_b, if_pos (show inb x (0 : Int32) (3 : Int32) = true from d)]
      exact ho
    obtain ⟨j, -, hj, rfl⟩ := inb_e d (by omega) (by omega)
    have hj' : j = 0 ∨ j = 1 ∨ j = 2 ∨ j = 3 := by omega
    rcases hj' with rfl | rfl | rfl | rfl
    · refine PQ_0 (ans := oI (nfF (crt s) (fun x => x) (bet (bsg 0) (bms s 0)) (s 3 + 1) 0 none)) (fun I z => ?_) (fun I q hI => eM I q hI _ (r_bB hs (s 3 + 1) 0 n none (by omega) (fun a ha => by cases ha) (by omega)))
      show pX9_best n z _ _ = _
      unfold pX9_best pX6_highestCertified
      rw [if_pos (show nI 0 = (0 : Int32) from rfl), show (0 : Int32) = nI 0 from rfl, show (1 : Int32) = nI 1 from rfl, c_hcL hs (s 3) 1 0 n (by omega) (by omega) (by omega), bn_s]
      rfl
    · refine PQ_0 (ans := oI (nfF (awk s) (bgt s 1) (bet (bsg 1) (bms s 1)) (s 0 + 4) 0 none)) (fun I z => ?_) (fun I q hI => eM I q hI _ (r_bN hs (by omega) (s 0 + 4) 0 n none (by omega) (fun a ha => by cases ha) (by omega)))
      show pX9_best n z _ _ = _
      unfold pX9_best pX6_highestLock
      rw [if_neg (show ¬ nI 1 = (0 : Int32) by decide), if_pos (show nI 1 = (1 : Int32) from rfl)]
      refine Eq.trans (congrArg (fun o => Option.bind o _) (c_highestLock (w := z + 1) (I := I) (h := h) (r := r) hs (s 0 + 4) 0 n none (by omega) (fun a ha => by cases ha) (by omega))) ?_
      rfl
    · refine PQ_0 (ans := oI (nfF (awk s) (bgt s 2) (bet (bsg 2) (bms s 2)) (s 0 + 4) 0 none)) (fun I z => ?_) (fun I q hI => eM I q hI _ (r_bN hs (by omega) (s 0 + 4) 0 n none (by omega) (fun a ha => by cases ha) (by omega)))
      show pX9_best n z _ _ = _
      unfold pX9_best pX6_lowestHigh
      rw [if_neg (show ¬ nI 2 = (0 : Int32) by decide), if_neg (show ¬ nI 2 = (1 : Int32) by decide), if_pos (show nI 2 = (2 : Int32) from rfl)]
      refine Eq.trans (congrArg (fun o => Option.bind o _) (c_lowestHigh (w := z + 1) (I := I) (h := h) (r := r) hs (s 0 + 4) 0 n none (by omega) (fun a ha => by cases ha) (by omega))) ?_
      rfl
    · refine PQ_0 (ans := oI (nfF (awk s) (bgt s 3) (bet (bsg 3) (bms s 3)) (s 0 + 4) 0 none)) (fun I z => ?_) (fun I q hI => eM I q hI _ (r_bN hs (by omega) (s 0 + 4) 0 n none (by omega) (fun a ha => by cases ha) (by omega)))
      show pX9_best n z _ _ = _
      unfold pX9_best pX6_highestLogged
      rw [if_neg (show ¬ nI 3 = (0 : Int32) by decide), if_neg (show ¬ nI 3 = (1 : Int32) by decide), if_neg (show ¬ nI 3 = (2 : Int32) by decide), if_pos (show nI 3 = (3 : Int32) from rfl)]
      refine Eq.trans (congrArg (fun o => Option.bind o _) (c_highestLogged (w := z + 1) (I := I) (h := h) (r := r) hs (s 0 + 4) 0 n none (by omega) (fun a ha => by cases ha) (by omega))) ?_
      rfl
  · refine PQ_0 (ans := -1) (fun I z => ?_) (fun I q hI => ?_)
    · show pX9_best n z _ _ = _
      unfold pX9_best
      rw [if_neg (show ¬ x = (0 : Int32) from inb_ne d (j := 0) (by omega) (by omega)), if_neg (show ¬ x = (1 : Int32) from inb_ne d (j := 1) (by omega) (by omega)), if_neg (show ¬ x = (2 : Int32) from inb_ne d (j := 2) (by omega) (by omega)), if_neg (show ¬ x = (3 : Int32) from inb_ne d (j := 3) (by omega) (by omega))]
    · show pX10_best n q _ _ = _
      unfold pX10_best
      rw [Mt hI, lt_b, r_inb, bn_s, if_b, if_neg (show ¬ inb x (0 : Int32) (3 : Int32) = true from d)]
/-- look -/
def un (s : Nat → Nat) (i j : Nat) : Bool := awk s i && awk s j && (!ext s (s (2416 + 513 * i + 12 + s (2416 + 513 * i + 8))) (s (2416 + 513 * j + 12 + s (2416 + 513 * j + 8))) && !ext s (s (2416 + 513 * j + 12 + s (2416 + 513 * j + 8))) (s (2416 + 513 * i + 12 + s (2416 + 513 * i + 8))))
theorem un_sym {i j : Nat} : un s i j = un s j i := by
  unfold un
  rw [Bool.and_comm (awk s i), Bool.and_comm (!ext s (s (2416 + 513 * i + 12 + s (2416 + 513 * i + 8))) (s (2416 + 513 * j + 12 + s (2416 + 513 * j + 8))))]
theorem vS_mo {p : Nat → Nat → Bool} : ∀ (k m : Nat), vS p m 0 ≤ vS p (m + k) 0
  | 0, m => Nat.le_refl _
  | k + 1, m => by
    have := vS_mo (p := p) k m
    rw [show m + (k + 1) = (m + k) + 1 by omega, vS_snoc]
    omega
theorem c_unl (hs : okS s) {i j : Nat} (hi : i < 7) (hj : j < 7) (hn : 200 ≤ n) : pX6_areUnlike n w (nI i) (nI j) (C w I s h r) = some (nI (b01 (!ext s (s (2416 + 513 * i + 12 + s (2416 + 513 * i + 8))) (s (2416 + 513 * j + 12 + s (2416 + 513 * j + 8))) && !ext s (s (2416 + 513 * j + 12 + s (2416 + 513 * j + 8))) (s (2416 + 513 * i + 12 + s (2416 + 513 * i + 8)))))) := by
  have h3 := hs.b3
  obtain ⟨l1, l2, l3⟩ := hs.lst hi
  obtain ⟨m1, m2, m3⟩ := hs.lst hj
  unfold pX6_areUnlike
  rw [ck_in (by omega) (by omega), nI_clamp (by omega), c_last hi (by omega), bn_s, ck_in (by omega) (by omega), nI_clamp (by omega), c_last hj (by omega), bn_s, c_reaches hs.1 l1 m1 (by omega), bn_s, if_n01, c_reaches hs.1 m1 l1 (by omega), bn_s, if_n01]
  by_cases a : ext s (s (2416 + 513 * i + 12 + s (2416 + 513 * i + 8))) (s (2416 + 513 * j + 12 + s (2416 + 513 * j + 8))) = true
  · rw [if_pos a, a]; rfl
  · rw [if_neg a, Bool.eq_false_iff.mpr a]
    by_cases b : ext s (s (2416 + 513 * j + 12 + s (2416 + 513 * j + 8))) (s (2416 + 513 * i + 12 + s (2416 + 513 * i + 8))) = true
    · rw [if_pos b, b]; rfl
    · rw [if_neg b, Bool.eq_false_iff.mpr b]; rfl
theorem c_unI (hs : okS s) {i : Nat} (hi : i < s 0 + 4) {K : Int32 → ev_I → Option Int32} : ∀ (m j n : Nat), j + m = s 0 + 4 → m + 200 < n → lX6_hasUnlikeLogs_14 w K n (nI i) (nI j) (C w I s h r) = if ctN (un s i) m j = 0 then K (nI (i + 1)) (C w I s h r) else some 1 := by
  have h0 := hs.2.2.1.1
  intro m
  induction m with
  | zero =>
    intro j n hj hn
    obtain ⟨n, rfl⟩ : ∃ k, n = k + 1 := ⟨n - 1, by omega⟩
    show cX6_hasUnlikeLogs_14 w K _ n _ _ _ = _
    unfold cX6_hasUnlikeLogs_14
    rw [cg_size, if_pos (nI_le (by omega) (by omega)), lt_b, nI_1, if_pos (show ctN (un s i) 0 j = 0 from rfl)]
  | succ m ih =>
    intro j n hj hn
    obtain ⟨n, rfl⟩ : ∃ k, n = k + 1 := ⟨n - 1, by omega⟩
    have f0 := (hs.2.2.2.1 i (by omega)).1.1
    have f1 := (hs.2.2.2.1 j (by omega)).1.1
    show cX6_hasUnlikeLogs_14 w K _ n _ _ _ = if b01 (un s i j) + ctN (un s i) m (j + 1) = 0 then _ else _
    unfold cX6_hasUnlikeLogs_14 cX6_hasUnlikeLogs_49
    rw [cg_size, if_neg (nI_ge (by omega) (by omega)), c_isAwake hi h0 (by omega), bn_s, c_isAwake (by omega) h0 (by omega), bn_s, c_unl hs (by omega) (by omega) (by omega), bn_s, if_b, lt_b, nI_1, ih (j + 1) n (by omega) (by omega)]
    by_cases a : s (2416 + 513 * i) = 1
    · rw [if_pos a, if_pos (show nI 0 = (0 : Int32) from rfl), show un s i j = false by unfold un awk; simp [a], show b01 false = 0 from rfl, Nat.zero_add]
    · rw [if_neg a, if_neg (show ¬ nI 1 = (0 : Int32) by decide)]
      by_cases b : s (2416 + 513 * j) = 1
      · rw [if_pos b, if_pos (show nI 0 = (0 : Int32) from rfl), show un s i j = false by unfold un awk; simp [b], show b01 false = 0 from rfl, Nat.zero_add]
      · rw [if_neg b, if_neg (show ¬ nI 1 = (0 : Int32) by decide)]
        by_cases d : (!ext s (s (2416 + 513 * i + 12 + s (2416 + 513 * i + 8))) (s (2416 + 513 * j + 12 + s (2416 + 513 * j + 8))) && !ext s (s (2416 + 513 * j + 12 + s (2416 + 513 * j + 8))) (s (2416 + 513 * i + 12 + s (2416 + 513 * i + 8)))) = true
        · rw [if_pos d, show un s i j = true by unfold un; rw [d]; unfold awk; simp [a, b], show b01 true = 1 from rfl, if_neg (by omega)]
        · rw [if_neg d, show un s i j = false by unfold un; rw [Bool.eq_false_iff.mpr d, Bool.and_false], show b01 false = 0 from rfl, Nat.zero_add]
theorem c_unO (hs : okS s) : ∀ (m i n : Nat), i + m = s 0 + 4 → m + 400 < n → lX6_hasUnlikeLogs_2 w n (nI i) (C w I s h r) = some (nI (if vS (un s) m i = 0 then 0 else 1)) := by
  have h0 := hs.2.2.1.1
  intro m
  induction m with
  | zero =>
    intro i n hi hn
    obtain ⟨n, rfl⟩ : ∃ k, n = k + 1 := ⟨n - 1, by omega⟩
    show cX6_hasUnlikeLogs_2 w _ n _ _ = _
    unfold cX6_hasUnlikeLogs_2
    rw [cg_size, if_pos (nI_le (by omega) (by omega)), if_pos (show vS (un s) 0 i = 0 from rfl)]
    rfl
  | succ m ih =>
    intro i n hi hn
    obtain ⟨n, rfl⟩ : ∃ k, n = k + 1 := ⟨n - 1, by omega⟩
    show cX6_hasUnlikeLogs_2 w _ n _ _ = some (nI (if ctN (un s i) m (i + 1) + vS (un s) m (i + 1) = 0 then 0 else 1))
    unfold cX6_hasUnlikeLogs_2
    rw [cg_size, if_neg (nI_ge (by omega) (by omega)), lt_b, nI_1, c_unI hs (by omega) m (i + 1) n (by omega) (by omega)]
    by_cases c : ctN (un s i) m (i + 1) = 0
    · rw [if_pos c, ih (i + 1) n (by omega) (by omega), c, Nat.zero_add]
    · rw [if_neg c, if_neg (by omega)]
      rfl
theorem r_unI (hs : okS s) {a : Nat} (ha : a < s 0 + 4) {K : Int32 → ev_I → Option Int32} : ∀ (m b n : Nat), b + m = a → m + 200 < n → lX10_unlikeLogs_12 q K n (nI a) (nI b) (M q I s) = if ctN (un s a) m b = 0 then K (nI (a + 1)) (M q I s) else some 1 := by
  have h0 := hs.2.2.1.1
  have h3 := hs.b3
  intro m
  induction m with
  | zero =>
    intro b n hb hn
    obtain ⟨n, rfl⟩ : ∃ k, n = k + 1 := ⟨n - 1, by omega⟩
    show cX10_unlikeLogs_12 q K _ n _ _ _ = _
    unfold cX10_unlikeLogs_12
    rw [if_pos (nI_le (by omega) (by omega)), lt_b, nI_1, if_pos (show ctN (un s a) 0 b = 0 from rfl)]
  | succ m ih =>
    intro b n hb hn
    obtain ⟨n, rfl⟩ : ∃ k, n = k + 1 := ⟨n - 1, by omega⟩
    have f0 := (hs.2.2.2.1 a (by omega)).1.1
    have f1 := (hs.2.2.2.1 b (by omega)).1.1
    obtain ⟨l1, l2, l3⟩ := hs.lst (k := a) (by omega)
    obtain ⟨m1, m2, m3⟩ := hs.lst (k := b) (by omega)
    show cX10_unlikeLogs_12 q K _ n _ _ _ = if b01 (un s a b) + ctN (un s a) m (b + 1) = 0 then _ else _
    unfold cX10_unlikeLogs_12 cX10_unlikeLogs_72
    rw [if_neg (nI_ge (by omega) (by omega)), r_isSilent (by omega) (by omega), bn_s, if_n01, r_isSilent (by omega) (by omega), bn_s, if_n01, r_logLast (by omega) (by omega), bn_s, r_logLast (by omega) (by omega), bn_s, r_ext hs.1 l1 m1 (by omega), bn_s, if_n01, bn_s, bn_s, r_ext hs.1 m1 l1 (by omega), bn_s, if_n01, lt_b, nI_1, ih (b + 1) n (by omega) (by omega)]
    by_cases c1 : s (2416 + 513 * a) = 1
    · rw [if_pos c1, show un s a b = false by unfold un awk; simp [c1], show b01 false = 0 from rfl, Nat.zero_add]
    · rw [if_neg c1]
      by_cases c2 : s (2416 + 513 * b) = 1
      · rw [if_pos c2, show un s a b = false by unfold un awk; simp [c2], show b01 false = 0 from rfl, Nat.zero_add]
      · rw [if_neg c2]
        by_cases d1 : ext s (s (2416 + 513 * a + 12 + s (2416 + 513 * a + 8))) (s (2416 + 513 * b + 12 + s (2416 + 513 * b + 8))) = true
        · rw [if_pos d1, show un s a b = false by unfold un; simp [d1], show b01 false = 0 from rfl, Nat.zero_add]
        · rw [if_neg d1]
          by_cases d2 : ext s (s (2416 + 513 * b + 12 + s (2416 + 513 * b + 8))) (s (2416 + 513 * a + 12 + s (2416 + 513 * a + 8))) = true
          · rw [if_pos d2, show un s a b = false by unfold un; simp [d2], show b01 false = 0 from rfl, Nat.zero_add]
          · rw [if_neg d2, show un s a b = true by unfold un awk; simp [c1, c2, d1, d2], show b01 true = 1 from rfl, if_neg (by omega)]
theorem r_unO (hs : okS s) : ∀ (m a n : Nat), a + m = s 0 + 4 → m + 400 < n → vS (un s) a 0 = 0 → lX10_unlikeLogs_2 q n (nI a) (M q I s) = some (nI (if vS (un s) (s 0 + 4) 0 = 0 then 0 else 1)) := by
  have h0 := hs.2.2.1.1
  intro m
  induction m with
  | zero =>
    intro a n ha hn hv
    obtain ⟨n, rfl⟩ : ∃ k, n = k + 1 := ⟨n - 1, by omega⟩
    show cX10_unlikeLogs_2 q _ n _ _ = _
    unfold cX10_unlikeLogs_2
    rw [r_nodeMany, bn_s, if_pos (nI_le (by omega) (by omega)), show s 0 + 4 = a by omega, if_pos hv]
    rfl
  | succ m ih =>
    intro a n ha hn hv
    obtain ⟨n, rfl⟩ : ∃ k, n = k + 1 := ⟨n - 1, by omega⟩
    show cX10_unlikeLogs_2 q _ n _ _ = _
    unfold cX10_unlikeLogs_2
    rw [r_nodeMany, bn_s, if_neg (nI_ge (by omega) (by omega)), show (0 : Int32) = nI 0 from rfl, r_unI hs (by omega) a 0 n (by omega) (by omega)]
    have e : vS (un s) (a + 1) 0 = vS (un s) a 0 + ctN (un s a) a 0 := by
      rw [vS_snoc]
      congr 1
      refine ct_cg a 0 (fun j _ _ => ?_)
      show un s j (0 + a) = un s a j
      rw [Nat.zero_add]
      exact un_sym
    by_cases c : ctN (un s a) a 0 = 0
    · rw [if_pos c]
      exact ih (a + 1) n (by omega) (by omega) (by omega)
    · rw [if_neg c, if_neg]
      · rfl
      · have := vS_mo (p := un s) m (a + 1)
        rw [show a + 1 + m = s 0 + 4 by omega] at this
        omega
def fkF (s : Nat → Nat) : Nat → Nat → Nat
  | 0, _ => 0
  | m + 1, i => s (2416 + 513 * i + 9) + fkF s m (i + 1)
def gvF (s : Nat → Nat) : Nat → Nat → Nat → Nat
  | 0, _, t => t
  | m + 1, i, t => gvF s m (i + 1) (if s (2416 + 513 * i) = 1 then t else mxn t (s (2416 + 513 * i + 1) + 1))
def mdF (s : Nat → Nat) (d : Nat) : Nat → Nat → Nat → Nat
  | 0, _, t => t
  | m + 1, i, t => mdF s d m (i + 1) (if s (2416 + 513 * i) = d then t ||| 2 ^ i else t)
def ccF (s : Nat → Nat) : Nat → Nat → Nat
  | 0, _ => 0
  | m + 1, i => pcn (s (2416 + 513 * i + 11)) + ccF s m (i + 1)
theorem or_z : ∀ a, a < 128 → ∀ j, j < 7 → nI a ||| (nI 0 <<< (nI j &&& nI 31)) = nI a := by decide +kernel
theorem r_fk (hs : okS s) : ∀ (m i c n : Nat), i + m = s 0 + 4 → m < n → lX10_forks_4 q n (nI c) (nI i) (M q I s) = some (nI (c + fkF s m i)) := by
  have h3 := hs.b3
  have h0 := hs.2.2.1.1
  intro m
  induction m with
  | zero =>
    intro i c n hi hn
    obtain ⟨n, rfl⟩ : ∃ k, n = k + 1 := ⟨n - 1, by omega⟩
    show cX10_forks_4 q _ n _ _ _ = _
    unfold cX10_forks_4
    rw [r_nodeMany, bn_s, if_pos (nI_le (by omega) (by omega))]
    rfl
  | succ m ih =>
    intro i c n hi hn
    obtain ⟨n, rfl⟩ : ∃ k, n = k + 1 := ⟨n - 1, by omega⟩
    show cX10_forks_4 q _ n _ _ _ = some (nI (c + (s (2416 + 513 * i + 9) + fkF s m (i + 1))))
    unfold cX10_forks_4
    rw [r_nodeMany, bn_s, if_neg (nI_ge (by omega) (by omega)), r_nodeAt, bn_s, show (9 : Int32) = nI 9 from rfl, nI_add, ck_in (by omega) (by omega), nI_clamp (by omega), M_get, nI_add, lt_b, lt_b, nI_1, ih _ _ n (by omega) (by omega), Nat.add_assoc]
theorem r_gv (hs : okS s) : ∀ (m i t n : Nat), i + m = s 0 + 4 → t < 1000 → m < n → lX10_furthestView_4 q n (nI t) (nI i) (M q I s) = some (nI (gvF s m i t)) := by
  have h3 := hs.b3
  have h0 := hs.2.2.1.1
  intro m
  induction m with
  | zero =>
    intro i t n hi ht hn
    obtain ⟨n, rfl⟩ : ∃ k, n = k + 1 := ⟨n - 1, by omega⟩
    show cX10_furthestView_4 q _ n _ _ _ = _
    unfold cX10_furthestView_4
    rw [r_nodeMany, bn_s, if_pos (nI_le (by omega) (by omega))]
    rfl
  | succ m ih =>
    intro i t n hi ht hn
    obtain ⟨n, rfl⟩ : ∃ k, n = k + 1 := ⟨n - 1, by omega⟩
    have f0 := (hs.2.2.2.1 i (by omega)).1.1
    have f1 := (hs.2.2.2.1 i (by omega)).1.2.1
    show cX10_furthestView_4 q _ n _ _ _ = some (nI (gvF s m (i + 1) (if s (2416 + 513 * i) = 1 then t else mxn t (s (2416 + 513 * i + 1) + 1))))
    unfold cX10_furthestView_4 cX10_furthestView_31
    rw [r_nodeMany, bn_s, if_neg (nI_ge (by omega) (by omega)), r_isSilent (by omega) (by omega), bn_s, if_n01, r_viewOf (by omega), bn_s, r_mx (by omega) (by omega), bn_s, lt_b, lt_b, nI_1]
    by_cases c : s (2416 + 513 * i) = 1
    · rw [if_pos c, if_pos c]
      exact ih (i + 1) t n (by omega) ht (by omega)
    · rw [if_neg c, if_neg c]
      exact ih (i + 1) _ n (by omega) (Nat.lt_of_le_of_lt (mxn_b (N := 999) (by omega) (by omega)) (by omega)) (by omega)
theorem r_md (hs : okS s) {d : Nat} (hd : d < 3) : ∀ (m i t n : Nat), i + m = s 0 + 4 → t < 128 → m < n → lX10_modes_4 q n (nI d) (nI t) (nI i) (M q I s) = some (nI (mdF s d m i t)) := by
  have h3 := hs.b3
  have h0 := hs.2.2.1.1
  intro m
  induction m with
  | zero =>
    intro i t n hi ht hn
    obtain ⟨n, rfl⟩ : ∃ k, n = k + 1 := ⟨n - 1, by omega⟩
    show cX10_modes_4 q _ n _ _ _ _ = _
    unfold cX10_modes_4
    rw [r_nodeMany, bn_s, if_pos (nI_le (by omega) (by omega))]
    rfl
  | succ m ih =>
    intro i t n hi ht hn
    obtain ⟨n, rfl⟩ : ∃ k, n = k + 1 := ⟨n - 1, by omega⟩
    have f0 := (hs.2.2.2.1 i (by omega)).1.1
    show cX10_modes_4 q _ n _ _ _ _ = some (nI (mdF s d m (i + 1) (if s (2416 + 513 * i) = d then t ||| 2 ^ i else t)))
    unfold cX10_modes_4 cX10_modes_34
    have z0 : (nI (2416 + 513 * i) + (0 : Int32)) = nI (2416 + 513 * i) := by rw [show (0 : Int32) = nI 0 from rfl, nI_add, Nat.add_zero]
    rw [r_nodeMany, bn_s, if_neg (nI_ge (by omega) (by omega)), r_nodeAt, bn_s, z0, ck_in (by omega) (by omega), nI_clamp (by omega), M_get, lt_b, lt_b, lt_b, show (1 : Int32) = nI 1 from rfl, show (31 : Int32) = nI 31 from rfl, or_n _ ht _ (by omega), nI_add]
    by_cases c : s (2416 + 513 * i) = d
    · rw [if_pos (congrArg nI c), if_pos c]
      exact ih (i + 1) _ n (by omega) (or_b _ ht _ (by omega)) (by omega)
    · rw [if_neg (fun e => c ((nI_eq (by omega) (by omega)).mp e)), if_neg c]
      exact ih (i + 1) _ n (by omega) ht (by omega)
theorem r_cc (hs : okS s) : ∀ (m i c n : Nat), i + m = s 0 + 4 → c + 7 * m < 1000 → m + 20 < n → lX10_couplesCut_4 q n (nI c) (nI i) (M q I s) = some (nI ((c + ccF s m i) / 2)) := by
  have h3 := hs.b3
  have h0 := hs.2.2.1.1
  intro m
  induction m with
  | zero =>
    intro i c n hi hc hn
    obtain ⟨n, rfl⟩ : ∃ k, n = k + 1 := ⟨n - 1, by omega⟩
    show cX10_couplesCut_4 q _ n _ _ _ = _
    unfold cX10_couplesCut_4
    rw [r_nodeMany, bn_s, if_pos (nI_le (by omega) (by omega)), show (2 : Int32) = nI 2 from rfl, pk_div (by omega) (by omega) (by omega)]
    rfl
  | succ m ih =>
    intro i c n hi hc hn
    obtain ⟨n, rfl⟩ : ∃ k, n = k + 1 := ⟨n - 1, by omega⟩
    have f8 := (hs.2.2.2.1 i (by omega)).1.2.2.2.2.2.2.2.2.1
    have p8 := pc_b _ f8
    show cX10_couplesCut_4 q _ n _ _ _ = some (nI ((c + (pcn (s (2416 + 513 * i + 11)) + ccF s m (i + 1))) / 2))
    unfold cX10_couplesCut_4
    rw [r_nodeMany, bn_s, if_neg (nI_ge (by omega) (by omega)), r_nodeAt, bn_s, show (11 : Int32) = nI 11 from rfl, nI_add, ck_in (by omega) (by omega), nI_clamp (by omega), M_get, r_onesOf f8 (by omega), bn_s, lt_b, lt_b, nI_add, nI_1, ih _ _ n (by omega) (by omega) (by omega), Nat.add_assoc]
theorem c_fk (hs : okS s) : ∀ (m i c n : Nat), i + m = s 0 + 4 → m < n → lX6_forksOfAll_4 w n (nI c) (nI i) (C w I s h r) = some (nI (c + fkF s m i)) := by
  have h3 := hs.b3
  have h0 := hs.2.2.1.1
  intro m
  induction m with
  | zero =>
    intro i c n hi hn
    obtain ⟨n, rfl⟩ : ∃ k, n = k + 1 := ⟨n - 1, by omega⟩
    show cX6_forksOfAll_4 w _ n _ _ _ = _
    unfold cX6_forksOfAll_4
    rw [cg_size, if_pos (nI_le (by omega) (by omega))]
    rfl
  | succ m ih =>
    intro i c n hi hn
    obtain ⟨n, rfl⟩ : ∃ k, n = k + 1 := ⟨n - 1, by omega⟩
    show cX6_forksOfAll_4 w _ n _ _ _ = some (nI (c + (s (2416 + 513 * i + 9) + fkF s m (i + 1))))
    unfold cX6_forksOfAll_4
    rw [cg_size, if_neg (nI_ge (by omega) (by omega)), ck_in (by omega) (by omega), nI_clamp (by omega), cg_forks (by omega), nI_add, lt_b, lt_b, nI_1, ih _ _ n (by omega) (by omega), Nat.add_assoc]
theorem c_gv (hs : okS s) : ∀ (m i t n : Nat), i + m = s 0 + 4 → t < 1000 → m < n → lX6_greatestView_4 w n (nI t) (nI i) (C w I s h r) = some (nI (gvF s m i t)) := by
  have h3 := hs.b3
  have h0 := hs.2.2.1.1
  intro m
  induction m with
  | zero =>
    intro i t n hi ht hn
    obtain ⟨n, rfl⟩ : ∃ k, n = k + 1 := ⟨n - 1, by omega⟩
    show cX6_greatestView_4 w _ n _ _ _ = _
    unfold cX6_greatestView_4
    rw [cg_size, if_pos (nI_le (by omega) (by omega))]
    rfl
  | succ m ih =>
    intro i t n hi ht hn
    obtain ⟨n, rfl⟩ : ∃ k, n = k + 1 := ⟨n - 1, by omega⟩
    have f0 := (hs.2.2.2.1 i (by omega)).1.1
    have f1 := (hs.2.2.2.1 i (by omega)).1.2.1
    show cX6_greatestView_4 w _ n _ _ _ = some (nI (gvF s m (i + 1) (if s (2416 + 513 * i) = 1 then t else mxn t (s (2416 + 513 * i + 1) + 1))))
    unfold cX6_greatestView_4 cX6_greatestView_34
    rw [cg_size, if_neg (nI_ge (by omega) (by omega)), c_isAwake (by omega) h0 (by omega), bn_s]
    by_cases c : s (2416 + 513 * i) = 1
    · rw [if_pos c, if_pos c, if_pos (show nI 0 = (0 : Int32) from rfl), lt_b, nI_1]
      exact ih (i + 1) t n (by omega) ht (by omega)
    · rw [if_neg c, if_neg c, if_neg (show ¬ nI 1 = (0 : Int32) by decide), ck_in (by omega) (by omega), nI_clamp (by omega), cg_mview (by omega), mx_n (by omega) (by omega), lt_b, lt_b, nI_1]
      exact ih (i + 1) _ n (by omega) (Nat.lt_of_le_of_lt (mxn_b (N := 999) (by omega) (by omega)) (by omega)) (by omega)
theorem c_md (hs : okS s) {d : Nat} (hd : d < 3) : ∀ (m i t n : Nat), i + m = s 0 + 4 → t < 128 → m < n → lX6_nodesOfMode_4 w n (nI d) (nI t) (nI i) (C w I s h r) = some (nI (mdF s d m i t)) := by
  have h3 := hs.b3
  have h0 := hs.2.2.1.1
  intro m
  induction m with
  | zero =>
    intro i t n hi ht hn
    obtain ⟨n, rfl⟩ : ∃ k, n = k + 1 := ⟨n - 1, by omega⟩
    show cX6_nodesOfMode_4 w _ n _ _ _ _ = _
    unfold cX6_nodesOfMode_4
    rw [cg_size, if_pos (nI_le (by omega) (by omega))]
    rfl
  | succ m ih =>
    intro i t n hi ht hn
    obtain ⟨n, rfl⟩ : ∃ k, n = k + 1 := ⟨n - 1, by omega⟩
    have f0 := (hs.2.2.2.1 i (by omega)).1.1
    show cX6_nodesOfMode_4 w _ n _ _ _ _ = some (nI (mdF s d m (i + 1) (if s (2416 + 513 * i) = d then t ||| 2 ^ i else t)))
    unfold cX6_nodesOfMode_4 cX6_nodesOfMode_31
    rw [cg_size, if_neg (nI_ge (by omega) (by omega)), ck_in (by omega) (by omega), nI_clamp (by omega), cg_mode (by omega), show pX6_flag n (1 : Int32) (C w I s h r) = some (nI 1) from rfl, show pX6_flag n (0 : Int32) (C w I s h r) = some (nI 0) from rfl, bn_s, bn_s, lt_b, lt_b, lt_b, lt_b, show (31 : Int32) = nI 31 from rfl, or_n _ ht _ (by omega), or_z _ ht _ (by omega), nI_1]
    by_cases c : s (2416 + 513 * i) = d
    · rw [if_pos (congrArg nI c), if_pos c]
      exact ih (i + 1) _ n (by omega) (or_b _ ht _ (by omega)) (by omega)
    · rw [if_neg (fun e => c ((nI_eq (by omega) (by omega)).mp e)), if_neg c]
      exact ih (i + 1) _ n (by omega) ht (by omega)
theorem c_cc (hs : okS s) : ∀ (m i c n : Nat), i + m = s 0 + 4 → c + 7 * m < 1000 → m + 20 < n → lX6_cutCouples_4 w n (nI c) (nI i) (C w I s h r) = some (nI ((c + ccF s m i) / 2)) := by
  have h3 := hs.b3
  have h0 := hs.2.2.1.1
  intro m
  induction m with
  | zero =>
    intro i c n hi hc hn
    obtain ⟨n, rfl⟩ : ∃ k, n = k + 1 := ⟨n - 1, by omega⟩
    show cX6_cutCouples_4 w _ n _ _ _ = _
    unfold cX6_cutCouples_4
    rw [cg_size, if_pos (nI_le (by omega) (by omega)), show (2 : Int32) = nI 2 from rfl, pk_div (by omega) (by omega) (by omega)]
    rfl
  | succ m ih =>
    intro i c n hi hc hn
    obtain ⟨n, rfl⟩ : ∃ k, n = k + 1 := ⟨n - 1, by omega⟩
    have f8 := (hs.2.2.2.1 i (by omega)).1.2.2.2.2.2.2.2.2.1
    have p8 := pc_b _ f8
    show cX6_cutCouples_4 w _ n _ _ _ = some (nI ((c + (pcn (s (2416 + 513 * i + 11)) + ccF s m (i + 1))) / 2))
    unfold cX6_cutCouples_4
    rw [cg_size, if_neg (nI_ge (by omega) (by omega)), ck_in (by omega) (by omega), nI_clamp (by omega), cg_cuts (by omega), c_bc f8, bn_s, lt_b, lt_b, nI_add, nI_1, ih _ _ n (by omega) (by omega) (by omega), Nat.add_assoc]
theorem r_ce (hs : okS s) : ∀ (m i c n : Nat), i + m = s 3 + 1 → m < n → lX10_certifiedMany_4 q n (nI c) (nI i) (M q I s) = some (nI (c + ctN (crt s) m i)) := by
  have h3 := hs.b3
  intro m
  induction m with
  | zero =>
    intro i c n hi hn
    obtain ⟨n, rfl⟩ : ∃ k, n = k + 1 := ⟨n - 1, by omega⟩
    show cX10_certifiedMany_4 q _ n _ _ _ = _
    unfold cX10_certifiedMany_4
    rw [r_blockMany, bn_s, if_pos (nI_le (by omega) (by omega))]
    rfl
  | succ m ih =>
    intro i c n hi hn
    obtain ⟨n, rfl⟩ : ∃ k, n = k + 1 := ⟨n - 1, by omega⟩
    show cX10_certifiedMany_4 q _ n _ _ _ = some (nI (c + (b01 (crt s i) + ctN (crt s) m (i + 1))))
    unfold cX10_certifiedMany_4 cX10_certifiedMany_24
    rw [r_blockMany, bn_s, if_neg (nI_ge (by omega) (by omega)), r_crt hs (by omega), bn_s, if_b, lt_b, lt_b, lt_b, nI_1, nI_1]
    by_cases d : crt s i = true
    · rw [if_pos d, ih _ _ n (by omega) (by omega), d, Nat.add_assoc]
      rfl
    · rw [if_neg d, ih _ _ n (by omega) (by omega), Bool.eq_false_iff.mpr d, show b01 false = 0 from rfl, Nat.zero_add]
theorem c_ce (hs : okS s) : ∀ (m i c n : Nat), i + m = s 3 + 1 → m < n → lX6_certifiedBlocks_4 (w + 1) n (nI c) (nI i) (C w I s h r) = some (nI (c + ctN (crt s) m i)) := by
  have h3 := hs.b3
  intro m
  induction m with
  | zero =>
    intro i c n hi hn
    obtain ⟨n, rfl⟩ : ∃ k, n = k + 1 := ⟨n - 1, by omega⟩
    show cX6_certifiedBlocks_4 (w + 1) _ n _ _ _ = _
    unfold cX6_certifiedBlocks_4
    rw [cg_count, if_pos (nI_le (by omega) (by omega))]
    rfl
  | succ m ih =>
    intro i c n hi hn
    obtain ⟨n, rfl⟩ : ∃ k, n = k + 1 := ⟨n - 1, by omega⟩
    show cX6_certifiedBlocks_4 (w + 1) _ n _ _ _ = some (nI (c + (b01 (crt s i) + ctN (crt s) m (i + 1))))
    unfold cX6_certifiedBlocks_4
    rw [cg_count, if_neg (nI_ge (by omega) (by omega)), ck_in (by omega) (by omega), nI_clamp (by omega), cg_crt hs (by omega), nI_add, lt_b, lt_b, nI_1, ih _ _ n (by omega) (by omega), Nat.add_assoc]
theorem pq_look (hs : okS s) {x : Int32} (h9 : ¬ x = (9 : Int32)) (hn : 1000 ≤ n) : PQt (fun z => pX9_look n z x) (fun q => pX10_look n q x) s h r := by
  have h3 := hs.b3
  have h0 := hs.2.2.1.1
  by_cases d : inb x (nI 0) (nI 20) = true
  · obtain ⟨j, -, hj, rfl⟩ := inb_e d (by omega) (by omega)
    have hj' : j = 0 ∨ j = 1 ∨ j = 2 ∨ j = 3 ∨ j = 4 ∨ j = 5 ∨ j = 6 ∨ j = 7 ∨ j = 8 ∨ j = 9 ∨ j = 10 ∨ j = 11 ∨ j = 12 ∨ j = 13 ∨ j = 14 ∨ j = 15 ∨ j = 16 ∨ j = 17 ∨ j = 18 ∨ j = 19 ∨ j = 20 := by omega
    rcases hj' with rfl | rfl | rfl | rfl | rfl | rfl | rfl | rfl | rfl | rfl | rfl | rfl | rfl | rfl | rfl | rfl | rfl | rfl | rfl | rfl | rfl
    · refine PQ_0 (ans := nI (s 0 + 4)) (fun I z => ?_) (fun I q hI => ?_)
      · show pX9_look n z _ _ = _
        unfold pX9_look pX6_ofWorld
        rw [if_pos (show nI 0 = (0 : Int32) from rfl)]
        rw [cg_size, bn_s]
      · show pX10_look n q _ _ = _
        unfold pX10_look
        rw [Mt hI, lt_b, if_pos (show nI 0 = (0 : Int32) from rfl)]
        rw [r_nodeMany, bn_s]
    · refine PQ_0 (ans := nI ((s 0 + 3) / 3)) (fun I z => ?_) (fun I q hI => ?_)
      · show pX9_look n z _ _ = _
        unfold pX9_look pX6_ofWorld
        rw [if_neg (show ¬ nI 1 = (0 : Int32) by decide), if_pos (show nI 1 = (1 : Int32) from rfl)]
        rw [c_faults h0, bn_s, bn_s]
      · show pX10_look n q _ _ = _
        unfold pX10_look
        rw [Mt hI, lt_b, if_neg (show ¬ nI 1 = (0 : Int32) by decide), if_pos (show nI 1 = (1 : Int32) from rfl)]
        rw [r_nodeMany, bn_s, show (1 : Int32) = nI 1 from rfl, show (3 : Int32) = nI 3 from rfl, pk_sub (by omega), pk_div (by omega) (by omega) (by omega)]
        rfl
    · refine PQ_0 (ans := nI (quo s)) (fun I z => ?_) (fun I q hI => ?_)
      · show pX9_look n z _ _ = _
        unfold pX9_look pX6_ofWorld
        rw [if_neg (show ¬ nI 2 = (0 : Int32) by decide), if_neg (show ¬ nI 2 = (1 : Int32) by decide), if_pos (show nI 2 = (2 : Int32) from rfl)]
        rw [c_quo h0, bn_s, bn_s]
      · show pX10_look n q _ _ = _
        unfold pX10_look
        rw [Mt hI, lt_b, if_neg (show ¬ nI 2 = (0 : Int32) by decide), if_neg (show ¬ nI 2 = (1 : Int32) by decide), if_pos (show nI 2 = (2 : Int32) from rfl)]
        rw [r_quo h0, bn_s]
    · refine PQ_0 (ans := nI (s 3 + 1)) (fun I z => ?_) (fun I q hI => ?_)
      · show pX9_look n z _ _ = _
        unfold pX9_look pX6_ofWorld
        rw [if_neg (show ¬ nI 3 = (0 : Int32) by decide), if_neg (show ¬ nI 3 = (1 : Int32) by decide), if_neg (show ¬ nI 3 = (2 : Int32) by decide), if_pos (show nI 3 = (3 : Int32) from rfl)]
        rw [cg_count, bn_s]
      · show pX10_look n q _ _ = _
        unfold pX10_look
        rw [Mt hI, lt_b, if_neg (show ¬ nI 3 = (0 : Int32) by decide), if_neg (show ¬ nI 3 = (1 : Int32) by decide), if_neg (show ¬ nI 3 = (2 : Int32) by decide), if_pos (show nI 3 = (3 : Int32) from rfl)]
        rw [r_blockMany, bn_s]
    · refine PQ_0 (ans := nI (s 4)) (fun I z => ?_) (fun I q hI => ?_)
      · show pX9_look n z _ _ = _
        unfold pX9_look pX6_ofWorld
        rw [if_neg (show ¬ nI 4 = (0 : Int32) by decide), if_neg (show ¬ nI 4 = (1 : Int32) by decide), if_neg (show ¬ nI 4 = (2 : Int32) by decide), if_neg (show ¬ nI 4 = (3 : Int32) by decide), if_pos (show nI 4 = (4 : Int32) from rfl)]
        rw [cg_nc, bn_s]
      · show pX10_look n q _ _ = _
        unfold pX10_look
        rw [Mt hI, lt_b, if_neg (show ¬ nI 4 = (0 : Int32) by decide), if_neg (show ¬ nI 4 = (1 : Int32) by decide), if_neg (show ¬ nI 4 = (2 : Int32) by decide), if_neg (show ¬ nI 4 = (3 : Int32) by decide), if_pos (show nI 4 = (4 : Int32) from rfl)]
        rw [show (4 : Int32).toNatClampNeg = 4 from rfl, M_get]
    · refine PQ_0 (ans := nI (s 5)) (fun I z => ?_) (fun I q hI => ?_)
      · show pX9_look n z _ _ = _
        unfold pX9_look pX6_ofWorld
        rw [if_neg (show ¬ nI 5 = (0 : Int32) by decide), if_neg (show ¬ nI 5 = (1 : Int32) by decide), if_neg (show ¬ nI 5 = (2 : Int32) by decide), if_neg (show ¬ nI 5 = (3 : Int32) by decide), if_neg (show ¬ nI 5 = (4 : Int32) by decide), if_pos (show nI 5 = (5 : Int32) from rfl)]
        rw [cg_lost, bn_s]
      · show pX10_look n q _ _ = _
        unfold pX10_look
        rw [Mt hI, lt_b, if_neg (show ¬ nI 5 = (0 : Int32) by decide), if_neg (show ¬ nI 5 = (1 : Int32) by decide), if_neg (show ¬ nI 5 = (2 : Int32) by decide), if_neg (show ¬ nI 5 = (3 : Int32) by decide), if_neg (show ¬ nI 5 = (4 : Int32) by decide), if_pos (show nI 5 = (5 : Int32) from rfl)]
        rw [show (5 : Int32).toNatClampNeg = 5 from rfl, M_get]
    · refine PQ_0 (ans := nI (s 7)) (fun I z => ?_) (fun I q hI => ?_)
      · show pX9_look n z _ _ = _
        unfold pX9_look pX6_ofWorld
        rw [if_neg (show ¬ nI 6 = (0 : Int32) by decide), if_neg (show ¬ nI 6 = (1 : Int32) by decide), if_neg (show ¬ nI 6 = (2 : Int32) by decide), if_neg (show ¬ nI 6 = (3 : Int32) by decide), if_neg (show ¬ nI 6 = (4 : Int32) by decide), if_neg (show ¬ nI 6 = (5 : Int32) by decide), if_pos (show nI 6 = (6 : Int32) from rfl)]
        rw [cg_evc, bn_s]
      · show pX10_look n q _ _ = _
        unfold pX10_look
        rw [Mt hI, lt_b, if_neg (show ¬ nI 6 = (0 : Int32) by decide), if_neg (show ¬ nI 6 = (1 : Int32) by decide), if_neg (show ¬ nI 6 = (2 : Int32) by decide), if_neg (show ¬ nI 6 = (3 : Int32) by decide), if_neg (show ¬ nI 6 = (4 : Int32) by decide), if_neg (show ¬ nI 6 = (5 : Int32) by decide), if_pos (show nI 6 = (6 : Int32) from rfl)]
        rw [show (7 : Int32).toNatClampNeg = 7 from rfl, M_get]
    · refine PQ_0 (ans := nI (if vS (un s) (s 0 + 4) 0 = 0 then 0 else 1)) (fun I z => ?_) (fun I q hI => ?_)
      · show pX9_look n z _ _ = _
        unfold pX9_look pX6_ofWorld
        rw [if_neg (show ¬ nI 7 = (0 : Int32) by decide), if_neg (show ¬ nI 7 = (1 : Int32) by decide), if_neg (show ¬ nI 7 = (2 : Int32) by decide), if_neg (show ¬ nI 7 = (3 : Int32) by decide), if_neg (show ¬ nI 7 = (4 : Int32) by decide), if_neg (show ¬ nI 7 = (5 : Int32) by decide), if_neg (show ¬ nI 7 = (6 : Int32) by decide), if_pos (show nI 7 = (7 : Int32) from rfl)]
        unfold pX6_hasUnlikeLogs
        rw [show (0 : Int32) = nI 0 from rfl, c_unO hs (s 0 + 4) 0 n (by omega) (by omega), bn_s]
        by_cases c : vS (un s) (s 0 + 4) 0 = 0
        · rw [if_pos c]; rfl
        · rw [if_neg c]; rfl
      · show pX10_look n q _ _ = _
        unfold pX10_look
        rw [Mt hI, lt_b, if_neg (show ¬ nI 7 = (0 : Int32) by decide), if_neg (show ¬ nI 7 = (1 : Int32) by decide), if_neg (show ¬ nI 7 = (2 : Int32) by decide), if_neg (show ¬ nI 7 = (3 : Int32) by decide), if_neg (show ¬ nI 7 = (4 : Int32) by decide), if_neg (show ¬ nI 7 = (5 : Int32) by decide), if_neg (show ¬ nI 7 = (6 : Int32) by decide), if_pos (show nI 7 = (7 : Int32) from rfl)]
        unfold pX10_unlikeLogs
        rw [show (0 : Int32) = nI 0 from rfl, r_unO hs (s 0 + 4) 0 n (by omega) (by omega) rfl, bn_s]
    · refine PQ_0 (ans := nI (0 + fkF s (s 0 + 4) 0)) (fun I z => ?_) (fun I q hI => ?_)
      · show pX9_look n z _ _ = _
        unfold pX9_look pX6_ofWorld
        rw [if_neg (show ¬ nI 8 = (0 : Int32) by decide), if_neg (show ¬ nI 8 = (1 : Int32) by decide), if_neg (show ¬ nI 8 = (2 : Int32) by decide), if_neg (show ¬ nI 8 = (3 : Int32) by decide), if_neg (show ¬ nI 8 = (4 : Int32) by decide), if_neg (show ¬ nI 8 = (5 : Int32) by decide), if_neg (show ¬ nI 8 = (6 : Int32) by decide), if_neg (show ¬ nI 8 = (7 : Int32) by decide), if_pos (show nI 8 = (8 : Int32) from rfl)]
        unfold pX6_forksOfAll
        rw [show (0 : Int32) = nI 0 from rfl, c_fk hs (s 0 + 4) 0 0 n (by omega) (by omega), bn_s, bn_s]
      · show pX10_look n q _ _ = _
        unfold pX10_look
        rw [Mt hI, lt_b, if_neg (show ¬ nI 8 = (0 : Int32) by decide), if_neg (show ¬ nI 8 = (1 : Int32) by decide), if_neg (show ¬ nI 8 = (2 : Int32) by decide), if_neg (show ¬ nI 8 = (3 : Int32) by decide), if_neg (show ¬ nI 8 = (4 : Int32) by decide), if_neg (show ¬ nI 8 = (5 : Int32) by decide), if_neg (show ¬ nI 8 = (6 : Int32) by decide), if_neg (show ¬ nI 8 = (7 : Int32) by decide), if_pos (show nI 8 = (8 : Int32) from rfl)]
        unfold pX10_forks
        rw [show (0 : Int32) = nI 0 from rfl, r_fk hs (s 0 + 4) 0 0 n (by omega) (by omega), bn_s]
    · exact absurd rfl h9
    · refine PQ_0 (ans := nI (s 9)) (fun I z => ?_) (fun I q hI => ?_)
      · show pX9_look n z _ _ = _
        unfold pX9_look pX6_ofWorld
        rw [if_neg (show ¬ nI 10 = (0 : Int32) by decide), if_neg (show ¬ nI 10 = (1 : Int32) by decide), if_neg (show ¬ nI 10 = (2 : Int32) by decide), if_neg (show ¬ nI 10 = (3 : Int32) by decide), if_neg (show ¬ nI 10 = (4 : Int32) by decide), if_neg (show ¬ nI 10 = (5 : Int32) by decide), if_neg (show ¬ nI 10 = (6 : Int32) by decide), if_neg (show ¬ nI 10 = (7 : Int32) by decide), if_neg (show ¬ nI 10 = (8 : Int32) by decide), if_neg (show ¬ nI 10 = (9 : Int32) by decide), if_pos (show nI 10 = (10 : Int32) from rfl)]
        rw [cg_ran, bn_s]
      · show pX10_look n q _ _ = _
        unfold pX10_look
        rw [Mt hI, lt_b, if_neg (show ¬ nI 10 = (0 : Int32) by decide), if_neg (show ¬ nI 10 = (1 : Int32) by decide), if_neg (show ¬ nI 10 = (2 : Int32) by decide), if_neg (show ¬ nI 10 = (3 : Int32) by decide), if_neg (show ¬ nI 10 = (4 : Int32) by decide), if_neg (show ¬ nI 10 = (5 : Int32) by decide), if_neg (show ¬ nI 10 = (6 : Int32) by decide), if_neg (show ¬ nI 10 = (7 : Int32) by decide), if_neg (show ¬ nI 10 = (8 : Int32) by decide), if_neg (show ¬ nI 10 = (9 : Int32) by decide), if_pos (show nI 10 = (10 : Int32) from rfl)]
        rw [show (9 : Int32).toNatClampNeg = 9 from rfl, M_get]
    · refine PQ_0 (ans := nI (s 6)) (fun I z => ?_) (fun I q hI => ?_)
      · show pX9_look n z _ _ = _
        unfold pX9_look pX6_ofWorld
        rw [if_neg (show ¬ nI 11 = (0 : Int32) by decide), if_neg (show ¬ nI 11 = (1 : Int32) by decide), if_neg (show ¬ nI 11 = (2 : Int32) by decide), if_neg (show ¬ nI 11 = (3 : Int32) by decide), if_neg (show ¬ nI 11 = (4 : Int32) by decide), if_neg (show ¬ nI 11 = (5 : Int32) by decide), if_neg (show ¬ nI 11 = (6 : Int32) by decide), if_neg (show ¬ nI 11 = (7 : Int32) by decide), if_neg (show ¬ nI 11 = (8 : Int32) by decide), if_neg (show ¬ nI 11 = (9 : Int32) by decide), if_neg (show ¬ nI 11 = (10 : Int32) by decide), if_pos (show nI 11 = (11 : Int32) from rfl)]
        rw [cg_deliv, bn_s]
      · show pX10_look n q _ _ = _
        unfold pX10_look
        rw [Mt hI, lt_b, if_neg (show ¬ nI 11 = (0 : Int32) by decide), if_neg (show ¬ nI 11 = (1 : Int32) by decide), if_neg (show ¬ nI 11 = (2 : Int32) by decide), if_neg (show ¬ nI 11 = (3 : Int32) by decide), if_neg (show ¬ nI 11 = (4 : Int32) by decide), if_neg (show ¬ nI 11 = (5 : Int32) by decide), if_neg (show ¬ nI 11 = (6 : Int32) by decide), if_neg (show ¬ nI 11 = (7 : Int32) by decide), if_neg (show ¬ nI 11 = (8 : Int32) by decide), if_neg (show ¬ nI 11 = (9 : Int32) by decide), if_neg (show ¬ nI 11 = (10 : Int32) by decide), if_pos (show nI 11 = (11 : Int32) from rfl)]
        rw [show (6 : Int32).toNatClampNeg = 6 from rfl, M_get]
    · refine PQ_0 (ans := nI (gvF s (s 0 + 4) 0 0)) (fun I z => ?_) (fun I q hI => ?_)
      · show pX9_look n z _ _ = _
        unfold pX9_look pX6_ofWorld
        rw [if_neg (show ¬ nI 12 = (0 : Int32) by decide), if_neg (show ¬ nI 12 = (1 : Int32) by decide), if_neg (show ¬ nI 12 = (2 : Int32) by decide), if_neg (show ¬ nI 12 = (3 : Int32) by decide), if_neg (show ¬ nI 12 = (4 : Int32) by decide), if_neg (show ¬ nI 12 = (5 : Int32) by decide), if_neg (show ¬ nI 12 = (6 : Int32) by decide), if_neg (show ¬ nI 12 = (7 : Int32) by decide), if_neg (show ¬ nI 12 = (8 : Int32) by decide), if_neg (show ¬ nI 12 = (9 : Int32) by decide), if_neg (show ¬ nI 12 = (10 : Int32) by decide), if_neg (show ¬ nI 12 = (11 : Int32) by decide), if_pos (show nI 12 = (12 : Int32) from rfl)]
        unfold pX6_greatestView
        rw [show (0 : Int32) = nI 0 from rfl, c_gv hs (s 0 + 4) 0 0 n (by omega) (by omega) (by omega), bn_s, bn_s]
      · show pX10_look n q _ _ = _
        unfold pX10_look
        rw [Mt hI, lt_b, if_neg (show ¬ nI 12 = (0 : Int32) by decide), if_neg (show ¬ nI 12 = (1 : Int32) by decide), if_neg (show ¬ nI 12 = (2 : Int32) by decide), if_neg (show ¬ nI 12 = (3 : Int32) by decide), if_neg (show ¬ nI 12 = (4 : Int32) by decide), if_neg (show ¬ nI 12 = (5 : Int32) by decide), if_neg (show ¬ nI 12 = (6 : Int32) by decide), if_neg (show ¬ nI 12 = (7 : Int32) by decide), if_neg (show ¬ nI 12 = (8 : Int32) by decide), if_neg (show ¬ nI 12 = (9 : Int32) by decide), if_neg (show ¬ nI 12 = (10 : Int32) by decide), if_neg (show ¬ nI 12 = (11 : Int32) by decide), if_pos (show nI 12 = (12 : Int32) from rfl)]
        unfold pX10_furthestView
        rw [show (0 : Int32) = nI 0 from rfl, r_gv hs (s 0 + 4) 0 0 n (by omega) (by omega) (by omega), bn_s]
    · refine PQ_0 (ans := nI (0 + ctN (crt s) (s 3 + 1) 0)) (fun I z => ?_) (fun I q hI => ?_)
      · show pX9_look n z _ _ = _
        unfold pX9_look pX6_ofWorld
        rw [if_neg (show ¬ nI 13 = (0 : Int32) by decide), if_neg (show ¬ nI 13 = (1 : Int32) by decide), if_neg (show ¬ nI 13 = (2 : Int32) by decide), if_neg (show ¬ nI 13 = (3 : Int32) by decide), if_neg (show ¬ nI 13 = (4 : Int32) by decide), if_neg (show ¬ nI 13 = (5 : Int32) by decide), if_neg (show ¬ nI 13 = (6 : Int32) by decide), if_neg (show ¬ nI 13 = (7 : Int32) by decide), if_neg (show ¬ nI 13 = (8 : Int32) by decide), if_neg (show ¬ nI 13 = (9 : Int32) by decide), if_neg (show ¬ nI 13 = (10 : Int32) by decide), if_neg (show ¬ nI 13 = (11 : Int32) by decide), if_neg (show ¬ nI 13 = (12 : Int32) by decide), if_pos (show nI 13 = (13 : Int32) from rfl)]
        unfold pX6_certifiedBlocks
        rw [show (0 : Int32) = nI 0 from rfl, c_ce hs (s 3 + 1) 0 0 n (by omega) (by omega), bn_s, bn_s]
      · show pX10_look n q _ _ = _
        unfold pX10_look
        rw [Mt hI, lt_b, if_neg (show ¬ nI 13 = (0 : Int32) by decide), if_neg (show ¬ nI 13 = (1 : Int32) by decide), if_neg (show ¬ nI 13 = (2 : Int32) by decide), if_neg (show ¬ nI 13 = (3 : Int32) by decide), if_neg (show ¬ nI 13 = (4 : Int32) by decide), if_neg (show ¬ nI 13 = (5 : Int32) by decide), if_neg (show ¬ nI 13 = (6 : Int32) by decide), if_neg (show ¬ nI 13 = (7 : Int32) by decide), if_neg (show ¬ nI 13 = (8 : Int32) by decide), if_neg (show ¬ nI 13 = (9 : Int32) by decide), if_neg (show ¬ nI 13 = (10 : Int32) by decide), if_neg (show ¬ nI 13 = (11 : Int32) by decide), if_neg (show ¬ nI 13 = (12 : Int32) by decide), if_pos (show nI 13 = (13 : Int32) from rfl)]
        unfold pX10_certifiedMany
        rw [show (0 : Int32) = nI 0 from rfl, r_ce hs (s 3 + 1) 0 0 n (by omega) (by omega), bn_s]
    · refine PQ_0 (ans := nI (s 2)) (fun I z => ?_) (fun I q hI => ?_)
      · show pX9_look n z _ _ = _
        unfold pX9_look pX6_ofWorld
        rw [if_neg (show ¬ nI 14 = (0 : Int32) by decide), if_neg (show ¬ nI 14 = (1 : Int32) by decide), if_neg (show ¬ nI 14 = (2 : Int32) by decide), if_neg (show ¬ nI 14 = (3 : Int32) by decide), if_neg (show ¬ nI 14 = (4 : Int32) by decide), if_neg (show ¬ nI 14 = (5 : Int32) by decide), if_neg (show ¬ nI 14 = (6 : Int32) by decide), if_neg (show ¬ nI 14 = (7 : Int32) by decide), if_neg (show ¬ nI 14 = (8 : Int32) by decide), if_neg (show ¬ nI 14 = (9 : Int32) by decide), if_neg (show ¬ nI 14 = (10 : Int32) by decide), if_neg (show ¬ nI 14 = (11 : Int32) by decide), if_neg (show ¬ nI 14 = (12 : Int32) by decide), if_neg (show ¬ nI 14 = (13 : Int32) by decide), if_pos (show nI 14 = (14 : Int32) from rfl)]
        rw [cg_draws, bn_s]
      · show pX10_look n q _ _ = _
        unfold pX10_look
        rw [Mt hI, lt_b, if_neg (show ¬ nI 14 = (0 : Int32) by decide), if_neg (show ¬ nI 14 = (1 : Int32) by decide), if_neg (show ¬ nI 14 = (2 : Int32) by decide), if_neg (show ¬ nI 14 = (3 : Int32) by decide), if_neg (show ¬ nI 14 = (4 : Int32) by decide), if_neg (show ¬ nI 14 = (5 : Int32) by decide), if_neg (show ¬ nI 14 = (6 : Int32) by decide), if_neg (show ¬ nI 14 = (7 : Int32) by decide), if_neg (show ¬ nI 14 = (8 : Int32) by decide), if_neg (show ¬ nI 14 = (9 : Int32) by decide), if_neg (show ¬ nI 14 = (10 : Int32) by decide), if_neg (show ¬ nI 14 = (11 : Int32) by decide), if_neg (show ¬ nI 14 = (12 : Int32) by decide), if_neg (show ¬ nI 14 = (13 : Int32) by decide), if_pos (show nI 14 = (14 : Int32) from rfl)]
        rw [show (2 : Int32).toNatClampNeg = 2 from rfl, M_get]
    · refine PQ_0 (ans := nI (s 8)) (fun I z => ?_) (fun I q hI => ?_)
      · show pX9_look n z _ _ = _
        unfold pX9_look pX6_ofWorld
        rw [if_neg (show ¬ nI 15 = (0 : Int32) by decide), if_neg (show ¬ nI 15 = (1 : Int32) by decide), if_neg (show ¬ nI 15 = (2 : Int32) by decide), if_neg (show ¬ nI 15 = (3 : Int32) by decide), if_neg (show ¬ nI 15 = (4 : Int32) by decide), if_neg (show ¬ nI 15 = (5 : Int32) by decide), if_neg (show ¬ nI 15 = (6 : Int32) by decide), if_neg (show ¬ nI 15 = (7 : Int32) by decide), if_neg (show ¬ nI 15 = (8 : Int32) by decide), if_neg (show ¬ nI 15 = (9 : Int32) by decide), if_neg (show ¬ nI 15 = (10 : Int32) by decide), if_neg (show ¬ nI 15 = (11 : Int32) by decide), if_neg (show ¬ nI 15 = (12 : Int32) by decide), if_neg (show ¬ nI 15 = (13 : Int32) by decide), if_neg (show ¬ nI 15 = (14 : Int32) by decide), if_pos (show nI 15 = (15 : Int32) from rfl)]
        rw [cg_vnc, bn_s]
      · show pX10_look n q _ _ = _
        unfold pX10_look
        rw [Mt hI, lt_b, if_neg (show ¬ nI 15 = (0 : Int32) by decide), if_neg (show ¬ nI 15 = (1 : Int32) by decide), if_neg (show ¬ nI 15 = (2 : Int32) by decide), if_neg (show ¬ nI 15 = (3 : Int32) by decide), if_neg (show ¬ nI 15 = (4 : Int32) by decide), if_neg (show ¬ nI 15 = (5 : Int32) by decide), if_neg (show ¬ nI 15 = (6 : Int32) by decide), if_neg (show ¬ nI 15 = (7 : Int32) by decide), if_neg (show ¬ nI 15 = (8 : Int32) by decide), if_neg (show ¬ nI 15 = (9 : Int32) by decide), if_neg (show ¬ nI 15 = (10 : Int32) by decide), if_neg (show ¬ nI 15 = (11 : Int32) by decide), if_neg (show ¬ nI 15 = (12 : Int32) by decide), if_neg (show ¬ nI 15 = (13 : Int32) by decide), if_neg (show ¬ nI 15 = (14 : Int32) by decide), if_pos (show nI 15 = (15 : Int32) from rfl)]
        rw [show (8 : Int32).toNatClampNeg = 8 from rfl, M_get]
    · refine PQ_0 (ans := nI (s 1)) (fun I z => ?_) (fun I q hI => ?_)
      · show pX9_look n z _ _ = _
        unfold pX9_look pX6_ofWorld
        rw [if_neg (show ¬ nI 16 = (0 : Int32) by decide), if_neg (show ¬ nI 16 = (1 : Int32) by decide), if_neg (show ¬ nI 16 = (2 : Int32) by decide), if_neg (show ¬ nI 16 = (3 : Int32) by decide), if_neg (show ¬ nI 16 = (4 : Int32) by decide), if_neg (show ¬ nI 16 = (5 : Int32) by decide), if_neg (show ¬ nI 16 = (6 : Int32) by decide), if_neg (show ¬ nI 16 = (7 : Int32) by decide), if_neg (show ¬ nI 16 = (8 : Int32) by decide), if_neg (show ¬ nI 16 = (9 : Int32) by decide), if_neg (show ¬ nI 16 = (10 : Int32) by decide), if_neg (show ¬ nI 16 = (11 : Int32) by decide), if_neg (show ¬ nI 16 = (12 : Int32) by decide), if_neg (show ¬ nI 16 = (13 : Int32) by decide), if_neg (show ¬ nI 16 = (14 : Int32) by decide), if_neg (show ¬ nI 16 = (15 : Int32) by decide), if_pos (show nI 16 = (16 : Int32) from rfl)]
        rw [cg_rule, bn_s]
      · show pX10_look n q _ _ = _
        unfold pX10_look
        rw [Mt hI, lt_b, if_neg (show ¬ nI 16 = (0 : Int32) by decide), if_neg (show ¬ nI 16 = (1 : Int32) by decide), if_neg (show ¬ nI 16 = (2 : Int32) by decide), if_neg (show ¬ nI 16 = (3 : Int32) by decide), if_neg (show ¬ nI 16 = (4 : Int32) by decide), if_neg (show ¬ nI 16 = (5 : Int32) by decide), if_neg (show ¬ nI 16 = (6 : Int32) by decide), if_neg (show ¬ nI 16 = (7 : Int32) by decide), if_neg (show ¬ nI 16 = (8 : Int32) by decide), if_neg (show ¬ nI 16 = (9 : Int32) by decide), if_neg (show ¬ nI 16 = (10 : Int32) by decide), if_neg (show ¬ nI 16 = (11 : Int32) by decide), if_neg (show ¬ nI 16 = (12 : Int32) by decide), if_neg (show ¬ nI 16 = (13 : Int32) by decide), if_neg (show ¬ nI 16 = (14 : Int32) by decide), if_neg (show ¬ nI 16 = (15 : Int32) by decide), if_pos (show nI 16 = (16 : Int32) from rfl)]
        rw [show (1 : Int32).toNatClampNeg = 1 from rfl, M_get]
    · refine PQ_0 (ans := nI (mdF s 1 (s 0 + 4) 0 0)) (fun I z => ?_) (fun I q hI => ?_)
      · show pX9_look n z _ _ = _
        unfold pX9_look pX6_ofWorld
        rw [if_neg (show ¬ nI 17 = (0 : Int32) by decide), if_neg (show ¬ nI 17 = (1 : Int32) by decide), if_neg (show ¬ nI 17 = (2 : Int32) by decide), if_neg (show ¬ nI 17 = (3 : Int32) by decide), if_neg (show ¬ nI 17 = (4 : Int32) by decide), if_neg (show ¬ nI 17 = (5 : Int32) by decide), if_neg (show ¬ nI 17 = (6 : Int32) by decide), if_neg (show ¬ nI 17 = (7 : Int32) by decide), if_neg (show ¬ nI 17 = (8 : Int32) by decide), if_neg (show ¬ nI 17 = (9 : Int32) by decide), if_neg (show ¬ nI 17 = (10 : Int32) by decide), if_neg (show ¬ nI 17 = (11 : Int32) by decide), if_neg (show ¬ nI 17 = (12 : Int32) by decide), if_neg (show ¬ nI 17 = (13 : Int32) by decide), if_neg (show ¬ nI 17 = (14 : Int32) by decide), if_neg (show ¬ nI 17 = (15 : Int32) by decide), if_neg (show ¬ nI 17 = (16 : Int32) by decide), if_pos (show nI 17 = (17 : Int32) from rfl)]
        unfold pX6_nodesOfMode
        rw [show (0 : Int32) = nI 0 from rfl, show (1 : Int32) = nI 1 from rfl, c_md hs (by omega) (s 0 + 4) 0 0 n (by omega) (by omega) (by omega), bn_s, bn_s]
      · show pX10_look n q _ _ = _
        unfold pX10_look
        rw [Mt hI, lt_b, if_neg (show ¬ nI 17 = (0 : Int32) by decide), if_neg (show ¬ nI 17 = (1 : Int32) by decide), if_neg (show ¬ nI 17 = (2 : Int32) by decide), if_neg (show ¬ nI 17 = (3 : Int32) by decide), if_neg (show ¬ nI 17 = (4 : Int32) by decide), if_neg (show ¬ nI 17 = (5 : Int32) by decide), if_neg (show ¬ nI 17 = (6 : Int32) by decide), if_neg (show ¬ nI 17 = (7 : Int32) by decide), if_neg (show ¬ nI 17 = (8 : Int32) by decide), if_neg (show ¬ nI 17 = (9 : Int32) by decide), if_neg (show ¬ nI 17 = (10 : Int32) by decide), if_neg (show ¬ nI 17 = (11 : Int32) by decide), if_neg (show ¬ nI 17 = (12 : Int32) by decide), if_neg (show ¬ nI 17 = (13 : Int32) by decide), if_neg (show ¬ nI 17 = (14 : Int32) by decide), if_neg (show ¬ nI 17 = (15 : Int32) by decide), if_neg (show ¬ nI 17 = (16 : Int32) by decide), if_pos (show nI 17 = (17 : Int32) from rfl)]
        unfold pX10_modes
        rw [show (0 : Int32) = nI 0 from rfl, show (1 : Int32) = nI 1 from rfl, r_md hs (by omega) (s 0 + 4) 0 0 n (by omega) (by omega) (by omega), bn_s]
    · refine PQ_0 (ans := nI (mdF s 2 (s 0 + 4) 0 0)) (fun I z => ?_) (fun I q hI => ?_)
      · show pX9_look n z _ _ = _
        unfold pX9_look pX6_ofWorld
        rw [if_neg (show ¬ nI 18 = (0 : Int32) by decide), if_neg (show ¬ nI 18 = (1 : Int32) by decide), if_neg (show ¬ nI 18 = (2 : Int32) by decide), if_neg (show ¬ nI 18 = (3 : Int32) by decide), if_neg (show ¬ nI 18 = (4 : Int32) by decide), if_neg (show ¬ nI 18 = (5 : Int32) by decide), if_neg (show ¬ nI 18 = (6 : Int32) by decide), if_neg (show ¬ nI 18 = (7 : Int32) by decide), if_neg (show ¬ nI 18 = (8 : Int32) by decide), if_neg (show ¬ nI 18 = (9 : Int32) by decide), if_neg (show ¬ nI 18 = (10 : Int32) by decide), if_neg (show ¬ nI 18 = (11 : Int32) by decide), if_neg (show ¬ nI 18 = (12 : Int32) by decide), if_neg (show ¬ nI 18 = (13 : Int32) by decide), if_neg (show ¬ nI 18 = (14 : Int32) by decide), if_neg (show ¬ nI 18 = (15 : Int32) by decide), if_neg (show ¬ nI 18 = (16 : Int32) by decide), if_neg (show ¬ nI 18 = (17 : Int32) by decide), if_pos (show nI 18 = (18 : Int32) from rfl)]
        unfold pX6_nodesOfMode
        rw [show (0 : Int32) = nI 0 from rfl, show (2 : Int32) = nI 2 from rfl, c_md hs (by omega) (s 0 + 4) 0 0 n (by omega) (by omega) (by omega), bn_s, bn_s]
      · show pX10_look n q _ _ = _
        unfold pX10_look
        rw [Mt hI, lt_b, if_neg (show ¬ nI 18 = (0 : Int32) by decide), if_neg (show ¬ nI 18 = (1 : Int32) by decide), if_neg (show ¬ nI 18 = (2 : Int32) by decide), if_neg (show ¬ nI 18 = (3 : Int32) by decide), if_neg (show ¬ nI 18 = (4 : Int32) by decide), if_neg (show ¬ nI 18 = (5 : Int32) by decide), if_neg (show ¬ nI 18 = (6 : Int32) by decide), if_neg (show ¬ nI 18 = (7 : Int32) by decide), if_neg (show ¬ nI 18 = (8 : Int32) by decide), if_neg (show ¬ nI 18 = (9 : Int32) by decide), if_neg (show ¬ nI 18 = (10 : Int32) by decide), if_neg (show ¬ nI 18 = (11 : Int32) by decide), if_neg (show ¬ nI 18 = (12 : Int32) by decide), if_neg (show ¬ nI 18 = (13 : Int32) by decide), if_neg (show ¬ nI 18 = (14 : Int32) by decide), if_neg (show ¬ nI 18 = (15 : Int32) by decide), if_neg (show ¬ nI 18 = (16 : Int32) by decide), if_neg (show ¬ nI 18 = (17 : Int32) by decide), if_pos (show nI 18 = (18 : Int32) from rfl)]
        unfold pX10_modes
        rw [show (0 : Int32) = nI 0 from rfl, show (2 : Int32) = nI 2 from rfl, r_md hs (by omega) (s 0 + 4) 0 0 n (by omega) (by omega) (by omega), bn_s]
    · refine PQ_0 (ans := nI (s 10)) (fun I z => ?_) (fun I q hI => ?_)
      · show pX9_look n z _ _ = _
        unfold pX9_look pX6_ofWorld
        rw [if_neg (show ¬ nI 19 = (0 : Int32) by decide), if_neg (show ¬ nI 19 = (1 : Int32) by decide), if_neg (show ¬ nI 19 = (2 : Int32) by decide), if_neg (show ¬ nI 19 = (3 : Int32) by decide), if_neg (show ¬ nI 19 = (4 : Int32) by decide), if_neg (show ¬ nI 19 = (5 : Int32) by decide), if_neg (show ¬ nI 19 = (6 : Int32) by decide), if_neg (show ¬ nI 19 = (7 : Int32) by decide), if_neg (show ¬ nI 19 = (8 : Int32) by decide), if_neg (show ¬ nI 19 = (9 : Int32) by decide), if_neg (show ¬ nI 19 = (10 : Int32) by decide), if_neg (show ¬ nI 19 = (11 : Int32) by decide), if_neg (show ¬ nI 19 = (12 : Int32) by decide), if_neg (show ¬ nI 19 = (13 : Int32) by decide), if_neg (show ¬ nI 19 = (14 : Int32) by decide), if_neg (show ¬ nI 19 = (15 : Int32) by decide), if_neg (show ¬ nI 19 = (16 : Int32) by decide), if_neg (show ¬ nI 19 = (17 : Int32) by decide), if_neg (show ¬ nI 19 = (18 : Int32) by decide), if_pos (show nI 19 = (19 : Int32) from rfl)]
        rw [cg_coff, bn_s]
      · show pX10_look n q _ _ = _
        unfold pX10_look
        rw [Mt hI, lt_b, if_neg (show ¬ nI 19 = (0 : Int32) by decide), if_neg (show ¬ nI 19 = (1 : Int32) by decide), if_neg (show ¬ nI 19 = (2 : Int32) by decide), if_neg (show ¬ nI 19 = (3 : Int32) by decide), if_neg (show ¬ nI 19 = (4 : Int32) by decide), if_neg (show ¬ nI 19 = (5 : Int32) by decide), if_neg (show ¬ nI 19 = (6 : Int32) by decide), if_neg (show ¬ nI 19 = (7 : Int32) by decide), if_neg (show ¬ nI 19 = (8 : Int32) by decide), if_neg (show ¬ nI 19 = (9 : Int32) by decide), if_neg (show ¬ nI 19 = (10 : Int32) by decide), if_neg (show ¬ nI 19 = (11 : Int32) by decide), if_neg (show ¬ nI 19 = (12 : Int32) by decide), if_neg (show ¬ nI 19 = (13 : Int32) by decide), if_neg (show ¬ nI 19 = (14 : Int32) by decide), if_neg (show ¬ nI 19 = (15 : Int32) by decide), if_neg (show ¬ nI 19 = (16 : Int32) by decide), if_neg (show ¬ nI 19 = (17 : Int32) by decide), if_neg (show ¬ nI 19 = (18 : Int32) by decide), if_pos (show nI 19 = (19 : Int32) from rfl)]
        rw [show (10 : Int32).toNatClampNeg = 10 from rfl, M_get]
    · refine PQ_0 (ans := nI ((0 + ccF s (s 0 + 4) 0) / 2)) (fun I z => ?_) (fun I q hI => ?_)
      · show pX9_look n z _ _ = _
        unfold pX9_look pX6_ofWorld
        rw [if_neg (show ¬ nI 20 = (0 : Int32) by decide), if_neg (show ¬ nI 20 = (1 : Int32) by decide), if_neg (show ¬ nI 20 = (2 : Int32) by decide), if_neg (show ¬ nI 20 = (3 : Int32) by decide), if_neg (show ¬ nI 20 = (4 : Int32) by decide), if_neg (show ¬ nI 20 = (5 : Int32) by decide), if_neg (show ¬ nI 20 = (6 : Int32) by decide), if_neg (show ¬ nI 20 = (7 : Int32) by decide), if_neg (show ¬ nI 20 = (8 : Int32) by decide), if_neg (show ¬ nI 20 = (9 : Int32) by decide), if_neg (show ¬ nI 20 = (10 : Int32) by decide), if_neg (show ¬ nI 20 = (11 : Int32) by decide), if_neg (show ¬ nI 20 = (12 : Int32) by decide), if_neg (show ¬ nI 20 = (13 : Int32) by decide), if_neg (show ¬ nI 20 = (14 : Int32) by decide), if_neg (show ¬ nI 20 = (15 : Int32) by decide), if_neg (show ¬ nI 20 = (16 : Int32) by decide), if_neg (show ¬ nI 20 = (17 : Int32) by decide), if_neg (show ¬ nI 20 = (18 : Int32) by decide), if_neg (show ¬ nI 20 = (19 : Int32) by decide), if_pos (show nI 20 = (20 : Int32) from rfl)]
        unfold pX6_cutCouples
        rw [show (0 : Int32) = nI 0 from rfl, c_cc hs (s 0 + 4) 0 0 n (by omega) (by omega) (by omega), bn_s, bn_s]
      · show pX10_look n q _ _ = _
        unfold pX10_look
        rw [Mt hI, lt_b, if_neg (show ¬ nI 20 = (0 : Int32) by decide), if_neg (show ¬ nI 20 = (1 : Int32) by decide), if_neg (show ¬ nI 20 = (2 : Int32) by decide), if_neg (show ¬ nI 20 = (3 : Int32) by decide), if_neg (show ¬ nI 20 = (4 : Int32) by decide), if_neg (show ¬ nI 20 = (5 : Int32) by decide), if_neg (show ¬ nI 20 = (6 : Int32) by decide), if_neg (show ¬ nI 20 = (7 : Int32) by decide), if_neg (show ¬ nI 20 = (8 : Int32) by decide), if_neg (show ¬ nI 20 = (9 : Int32) by decide), if_neg (show ¬ nI 20 = (10 : Int32) by decide), if_neg (show ¬ nI 20 = (11 : Int32) by decide), if_neg (show ¬ nI 20 = (12 : Int32) by decide), if_neg (show ¬ nI 20 = (13 : Int32) by decide), if_neg (show ¬ nI 20 = (14 : Int32) by decide), if_neg (show ¬ nI 20 = (15 : Int32) by decide), if_neg (show ¬ nI 20 = (16 : Int32) by decide), if_neg (show ¬ nI 20 = (17 : Int32) by decide), if_neg (show ¬ nI 20 = (18 : Int32) by decide), if_neg (show ¬ nI 20 = (19 : Int32) by decide), if_pos (show nI 20 = (20 : Int32) from rfl)]
        unfold pX10_couplesCut
        rw [show (0 : Int32) = nI 0 from rfl, r_cc hs (s 0 + 4) 0 0 n (by omega) (by omega) (by omega), bn_s]
  · refine PQ_0 (ans := -100000) (fun I z => ?_) (fun I q hI => ?_)
    · show pX9_look n z _ _ = _
      unfold pX9_look pX6_ofWorld
      rw [if_neg (show ¬ x = (0 : Int32) from inb_ne d (j := 0) (by omega) (by omega)), if_neg (show ¬ x = (1 : Int32) from inb_ne d (j := 1) (by omega) (by omega)), if_neg (show ¬ x = (2 : Int32) from inb_ne d (j := 2) (by omega) (by omega)), if_neg (show ¬ x = (3 : Int32) from inb_ne d (j := 3) (by omega) (by omega)), if_neg (show ¬ x = (4 : Int32) from inb_ne d (j := 4) (by omega) (by omega)), if_neg (show ¬ x = (5 : Int32) from inb_ne d (j := 5) (by omega) (by omega)), if_neg (show ¬ x = (6 : Int32) from inb_ne d (j := 6) (by omega) (by omega)), if_neg (show ¬ x = (7 : Int32) from inb_ne d (j := 7) (by omega) (by omega)), if_neg (show ¬ x = (8 : Int32) from inb_ne d (j := 8) (by omega) (by omega)), if_neg (show ¬ x = (9 : Int32) from inb_ne d (j := 9) (by omega) (by omega)), if_neg (show ¬ x = (10 : Int32) from inb_ne d (j := 10) (by omega) (by omega)), if_neg (show ¬ x = (11 : Int32) from inb_ne d (j := 11) (by omega) (by omega)), if_neg (show ¬ x = (12 : Int32) from inb_ne d (j := 12) (by omega) (by omega)), if_neg (show ¬ x = (13 : Int32) from inb_ne d (j := 13) (by omega) (by omega)), if_neg (show ¬ x = (14 : Int32) from inb_ne d (j := 14) (by omega) (by omega)), if_neg (show ¬ x = (15 : Int32) from inb_ne d (j := 15) (by omega) (by omega)), if_neg (show ¬ x = (16 : Int32) from inb_ne d (j := 16) (by omega) (by omega)), if_neg (show ¬ x = (17 : Int32) from inb_ne d (j := 17) (by omega) (by omega)), if_neg (show ¬ x = (18 : Int32) from inb_ne d (j := 18) (by omega) (by omega)), if_neg (show ¬ x = (19 : Int32) from inb_ne d (j := 19) (by omega) (by omega)), if_neg (show ¬ x = (20 : Int32) from inb_ne d (j := 20) (by omega) (by omega)), bn_s]
    · show pX10_look n q _ _ = _
      unfold pX10_look
      rw [Mt hI, lt_b, if_neg (show ¬ x = (0 : Int32) from inb_ne d (j := 0) (by omega) (by omega)), if_neg (show ¬ x = (1 : Int32) from inb_ne d (j := 1) (by omega) (by omega)), if_neg (show ¬ x = (2 : Int32) from inb_ne d (j := 2) (by omega) (by omega)), if_neg (show ¬ x = (3 : Int32) from inb_ne d (j := 3) (by omega) (by omega)), if_neg (show ¬ x = (4 : Int32) from inb_ne d (j := 4) (by omega) (by omega)), if_neg (show ¬ x = (5 : Int32) from inb_ne d (j := 5) (by omega) (by omega)), if_neg (show ¬ x = (6 : Int32) from inb_ne d (j := 6) (by omega) (by omega)), if_neg (show ¬ x = (7 : Int32) from inb_ne d (j := 7) (by omega) (by omega)), if_neg (show ¬ x = (8 : Int32) from inb_ne d (j := 8) (by omega) (by omega)), if_neg (show ¬ x = (9 : Int32) from inb_ne d (j := 9) (by omega) (by omega)), if_neg (show ¬ x = (10 : Int32) from inb_ne d (j := 10) (by omega) (by omega)), if_neg (show ¬ x = (11 : Int32) from inb_ne d (j := 11) (by omega) (by omega)), if_neg (show ¬ x = (12 : Int32) from inb_ne d (j := 12) (by omega) (by omega)), if_neg (show ¬ x = (13 : Int32) from inb_ne d (j := 13) (by omega) (by omega)), if_neg (show ¬ x = (14 : Int32) from inb_ne d (j := 14) (by omega) (by omega)), if_neg (show ¬ x = (15 : Int32) from inb_ne d (j := 15) (by omega) (by omega)), if_neg (show ¬ x = (16 : Int32) from inb_ne d (j := 16) (by omega) (by omega)), if_neg (show ¬ x = (17 : Int32) from inb_ne d (j := 17) (by omega) (by omega)), if_neg (show ¬ x = (18 : Int32) from inb_ne d (j := 18) (by omega) (by omega)), if_neg (show ¬ x = (19 : Int32) from inb_ne d (j := 19) (by omega) (by omega)), if_neg (show ¬ x = (20 : Int32) from inb_ne d (j := 20) (by omega) (by omega))]
theorem look9 {I J : ev_I} {p : Nat} (hp : I (z + 19) 0 = nI p) (hq : J q 18 = nI p) (hJ : J q 0 = 0) : pX9_look n z (9 : Int32) (C (z + 1) I s h r) = some (nI p) ∧ pX10_look n q (9 : Int32) (M q J s) = some (nI p, M q J s) := by
  constructor
  · unfold pX9_look pX6_ofWorld
    rw [if_neg (show ¬ (9 : Int32) = (0 : Int32) by decide), if_neg (show ¬ (9 : Int32) = (1 : Int32) by decide), if_neg (show ¬ (9 : Int32) = (2 : Int32) by decide), if_neg (show ¬ (9 : Int32) = (3 : Int32) by decide), if_neg (show ¬ (9 : Int32) = (4 : Int32) by decide), if_neg (show ¬ (9 : Int32) = (5 : Int32) by decide), if_neg (show ¬ (9 : Int32) = (6 : Int32) by decide), if_neg (show ¬ (9 : Int32) = (7 : Int32) by decide), if_neg (show ¬ (9 : Int32) = (8 : Int32) by decide), if_pos rfl, cg_lines, bn_s]
    rw [show z + 1 + 18 = z + 19 by omega, hp]
  · unfold pX10_look
    rw [Mt hJ, lt_b, if_neg (show ¬ (9 : Int32) = (0 : Int32) by decide), if_neg (show ¬ (9 : Int32) = (1 : Int32) by decide), if_neg (show ¬ (9 : Int32) = (2 : Int32) by decide), if_neg (show ¬ (9 : Int32) = (3 : Int32) by decide), if_neg (show ¬ (9 : Int32) = (4 : Int32) by decide), if_neg (show ¬ (9 : Int32) = (5 : Int32) by decide), if_neg (show ¬ (9 : Int32) = (6 : Int32) by decide), if_neg (show ¬ (9 : Int32) = (7 : Int32) by decide), if_neg (show ¬ (9 : Int32) = (8 : Int32) by decide), if_pos rfl, M_0, hq]
end F8
