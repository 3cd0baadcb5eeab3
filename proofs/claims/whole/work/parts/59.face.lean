/-! PAIRS OF CALLS, first: what both answer and what becomes of the row -/
def PAt (f g : Nat → ev_I → Option (Int32 × ev_I)) (s : Nat → Nat) (h : Nat) (r : Nat → Int32) : Prop := ∃ ans s', (okS s' ∧ (okX s → okX s')) ∧ s' 9 = s 9 ∧ (∀ (I : ev_I) z, ∃ h' r', f z (C (z + 1) I s h r) = some (ans, C (z + 1) I s' h' r') ∧ okR s' h' r') ∧ ∀ (I : ev_I) q, I q 0 = 0 → ∃ J, g q (M q I s) = some (ans, M q J s') ∧ Sc q I J
/-- nothing becomes of the row -/
theorem PA_0 {f g : Nat → ev_I → Option (Int32 × ev_I)} {s : Nat → Nat} {h : Nat} {r : Nat → Int32} (hs : okS s) (hr : okR s h r) {ans : Int32} (hf : ∀ (I : ev_I) z, f z (C (z + 1) I s h r) = some (ans, C (z + 1) I s h r)) (hg : ∀ (I : ev_I) q, I q 0 = 0 → ∃ J, g q (M q I s) = some (ans, M q J s) ∧ Sc q I J) : PAt f g s h r := ⟨ans, s, ⟨hs, id⟩, rfl, fun I z => ⟨h, r, hf I z, hr⟩, hg⟩
theorem PA_1 {f g : Nat → ev_I → Option (Int32 × ev_I)} {s s' : Nat → Nat} {h : Nat} {r : Nat → Int32} (hs : okS s') (hx : okX s → okX s') (hr : okR s' h r) (h9 : s' 9 = s 9) {ans : Int32} (hf : ∀ (I : ev_I) z, f z (C (z + 1) I s h r) = some (ans, C (z + 1) I s' h r)) (hg : ∀ (I : ev_I) q, I q 0 = 0 → g q (M q I s) = some (ans, M q I s')) : PAt f g s h r := ⟨ans, s', ⟨hs, hx⟩, h9, fun I z => ⟨h, r, hf I z, hr⟩, fun I q hI => ⟨I, hg I q hI, Sc_r⟩⟩
theorem le_lt {x b : Int32} : x ≤ b ↔ ¬ b < x := by
  rw [Int32.le_iff_toInt_le, Int32.lt_iff_toInt_lt]
  omega
theorem Mt {q : Nat} {I : ev_I} {s : Nat → Nat} (h : I q 0 = 0) : ev_u2 (M q I s) q 0 (0 : Int32) = M q I s := u2_id (by rw [M_0]; exact h)
def gd (x : Int32) (N : Nat) : Bool := !decide (x < 0) && !decide (nI N ≤ x)
theorem gd_e {x : Int32} {N : Nat} (h : gd x N = true) (hN : N < 2 ^ 31) : ∃ k, k < N ∧ x = nI k := by
  unfold gd at h
  simp only [Bool.and_eq_true, Bool.not_eq_true', decide_eq_false_iff_not] at h
  rcases pk_ix x hN with a | a | a
  · exact absurd a h.1
  · exact absurd a h.2
  · exact a
theorem gd_n {k N : Nat} (hk : k < N) (hN : N < 2 ^ 31) : gd (nI k) N = true := by
  unfold gd
  simp only [Bool.and_eq_true, Bool.not_eq_true', decide_eq_false_iff_not]
  exact ⟨nI_pos (by omega), nI_ge hk hN⟩
theorem b01_0 {a : Bool} : nI (b01 a) = 0 ↔ a = false := by cases a <;> decide
def inb (x a b : Int32) : Bool := !decide (x < a) && !decide (b < x)
theorem inb_e {x : Int32} {a b : Nat} (h : inb x (nI a) (nI b) = true) (ha : a < 2 ^ 31) (hb : b < 2 ^ 31) : ∃ k, a ≤ k ∧ k ≤ b ∧ x = nI k := by
  unfold inb at h
  simp only [Bool.and_eq_true, Bool.not_eq_true', decide_eq_false_iff_not] at h
  obtain ⟨h1, h2⟩ := h
  have h0 : ¬ x < 0 := fun q => by
    apply h1
    rw [Int32.lt_iff_toInt_lt] at q ⊢
    rw [nI_toInt ha]
    have : (0 : Int32).toInt = 0 := by decide
    omega
  obtain ⟨j, hj, rfl⟩ := nI_of h0
  rw [nI_ltI (by omega) (by omega)] at h1 h2
  exact ⟨j, by omega, by omega, rfl⟩
theorem inb_n {k a b : Nat} (h1 : a ≤ k) (h2 : k ≤ b) (hb : b < 2 ^ 31) : inb (nI k) (nI a) (nI b) = true := by
  unfold inb
  simp only [Bool.and_eq_true, Bool.not_eq_true', decide_eq_false_iff_not]
  exact ⟨nI_nlt h1 (by omega), nI_nlt h2 (by omega)⟩
theorem nI_bv (x : Int32) : nI x.toBitVec.toNat = x := by
  show Int32.ofNat _ = x
  apply Int32.toBitVec.inj
  simp [Int32.toBitVec_ofNat']
section Fc
variable {n q w z : Nat} {I : ev_I} {s : Nat → Nat} {h : Nat} {r : Nat → Int32}
theorem c_node {x : Int32} : pX8_hasNode n w x (C w I s h r) = some (nI (b01 (gd x (s 0 + 4)))) := by
  unfold pX8_hasNode gd
  rw [cg_size]
  by_cases a : x < 0
  · rw [if_pos a]; simp [a, b01]; rfl
  · rw [if_neg a]
    by_cases b : nI (s 0 + 4) ≤ x
    · rw [if_pos b]; simp [a, b, b01]; rfl
    · rw [if_neg b]; simp [a, b, b01]; rfl
theorem r_node {x : Int32} : pX10_isNode n q x (M q I s) = some (nI (b01 (gd x (s 0 + 4)))) := by
  unfold pX10_isNode gd
  rw [r_nodeMany, bn_s]
  by_cases a : x < 0
  · rw [if_pos a]; simp [a, b01]; rfl
  · rw [if_neg a]
    by_cases b : nI (s 0 + 4) ≤ x
    · rw [if_pos b]; simp [a, b, b01]; rfl
    · rw [if_neg b]; simp [a, b, b01]; rfl
theorem c_blk {x : Int32} : pX1_has n (w + 1) x (C w I s h r) = some (nI (b01 (gd x (s 3 + 1)))) := by
  unfold pX1_has gd
  rw [cg_count]
  by_cases a : x < 0
  · rw [if_pos a]; simp [a, b01]; rfl
  · rw [if_neg a]
    by_cases b : nI (s 3 + 1) ≤ x
    · rw [if_pos b]; simp [a, b, b01]; rfl
    · rw [if_neg b]; simp [a, b, b01]; rfl
theorem r_blk {x : Int32} : pX10_isBlock n q x (M q I s) = some (nI (b01 (gd x (s 3 + 1)))) := by
  unfold pX10_isBlock gd
  rw [r_blockMany, bn_s]
  by_cases a : x < 0
  · rw [if_pos a]; simp [a, b01]; rfl
  · rw [if_neg a]
    by_cases b : nI (s 3 + 1) ≤ x
    · rw [if_pos b]; simp [a, b, b01]; rfl
    · rw [if_neg b]; simp [a, b, b01]; rfl
theorem c_mes {x : Int32} : pX4_has n (w + 11) x (C w I s h r) = some (nI (b01 (gd x (s 4)))) := by
  unfold pX4_has gd
  rw [cg_nc]
  by_cases a : x < 0
  · rw [if_pos a]; simp [a, b01]; rfl
  · rw [if_neg a]
    by_cases b : nI (s 4) ≤ x
    · rw [if_pos b]; simp [a, b, b01]; rfl
    · rw [if_neg b]; simp [a, b, b01]; rfl
theorem r_mes {x : Int32} : pX10_isMessage n q x (M q I s) = some (nI (b01 (gd x (s 4)))) := by
  unfold pX10_isMessage gd
  rw [show M q I s (q + 1) (4 : Int32).toNatClampNeg = nI (s 4) from M_get]
  by_cases a : x < 0
  · rw [if_pos a]; simp [a, b01]; rfl
  · rw [if_neg a]
    by_cases b : nI (s 4) ≤ x
    · rw [if_pos b]; simp [a, b, b01]; rfl
    · rw [if_neg b]; simp [a, b, b01]; rfl
theorem r_inb {x a b : Int32} : pX10_isIn n q x a b I = some (nI (b01 (inb x a b))) := by
  unfold pX10_isIn inb
  by_cases c : x < a
  · rw [if_pos c]; simp [c, b01]; rfl
  · rw [if_neg c]
    by_cases d : b < x
    · rw [if_pos d]; simp [c, d, b01]; rfl
    · rw [if_neg d]; simp [c, d, b01]; rfl
theorem ck_1 {α : Type} {a : Bool} {x : Option α} : ev_ck (ev_01 (nI (b01 a))) x = x := by cases a <;> rfl
theorem if_b {α : Type} {a : Bool} {x y : α} : (if nI (b01 a) = 0 then x else y) = if a = true then y else x := by cases a <;> rfl
/-- mode -/
theorem pa_mode (hs : okS s) (hr : okR s h r) {x y : Int32} : PAt (fun z => pX9_mode n z x y) (fun q => pX10_mode n q x y) s h r := by
  have h0 := hs.2.2.1.1
  have eX : ∀ (I : ev_I) z, pX9_mode n z x y (C (z + 1) I s h r) = if gd x (s 0 + 4) = true ∧ inb y (nI 0) (nI 2) = true then (ev_ck (ev_in x 7) <| ev_lt (ev_u2 (C (z + 1) I s h r) (z + 1 + (23 + 5 * x.toNatClampNeg)) 0 y) fun I6 => some ((1 : Int32), I6)) else some (0, C (z + 1) I s h r) := by
    intro I z
    unfold pX9_mode inb
    rw [c_node, bn_s, if_b]
    by_cases a : gd x (s 0 + 4) = true
    · by_cases c : y < 0
      · simp [a, show y < nI 0 from c, c]
      · by_cases d : (2 : Int32) < y
        · simp [a, show ¬ y < nI 0 from c, c, show nI 2 < y from d, le_lt, d]
        · simp [a, show ¬ y < nI 0 from c, c, show ¬ nI 2 < y from d, le_lt, d]
    · simp [a]
  have eM : ∀ (I : ev_I) q, I q 0 = 0 → pX10_mode n q x y (M q I s) = if gd x (s 0 + 4) = true ∧ inb y (nI 0) (nI 2) = true then ((pX10_nodeAt n q x (M q I s)).bind fun z6 => ev_ck (ev_in (z6 + (0 : Int32)) 6010) <| ev_lt (ev_u2 (M q I s) (q + 1) (z6 + (0 : Int32)).toNatClampNeg y) fun I8 => some ((1 : Int32), I8)) else some (0, M q I s) := by
    intro I q hI
    unfold pX10_mode
    rw [Mt hI, lt_b, r_node, bn_s, r_inb, bn_s, if_b, if_b, show (0 : Int32) = nI 0 from rfl, show (2 : Int32) = nI 2 from rfl]
    by_cases a : gd x (s 0 + 4) = true
    · by_cases b : inb y (nI 0) (nI 2) = true
      · simp [a, b]
      · simp [a, b]
    · simp [a]
  by_cases c : gd x (s 0 + 4) = true ∧ inb y (nI 0) (nI 2) = true
  · obtain ⟨k, hk, rfl⟩ := gd_e c.1 (by omega)
    obtain ⟨m, -, hm, rfl⟩ := inb_e c.2 (by omega) (by omega)
    refine PA_1 (ans := 1) (s' := up s (2416 + 513 * k) m) (ok_nd hs (d := 0) (k := k) (by omega) (by omega)) (fun x => okX_nd hs x (d := 0) (by omega) (by omega)) (okR_up hr hs.2.2.1.2.2.1 (by omega) (by omega)) (up_o (by omega)) (fun I z => ?_) (fun I q hI => ?_)
    · refine (eX I z).trans ?_
      rw [if_pos c, ck_in (by omega) (by omega), nI_clamp (by omega), cp_mode (by omega)]
      rfl
    · refine (eM I q hI).trans ?_
      rw [if_pos c, r_nodeAt, bn_s]
      simp (disch := omega) only [li, nI_add, Nat.add_zero, ck_in, nI_clamp, M_put, lt_b]
  · refine PA_0 (ans := 0) hs hr (fun I z => ?_) (fun I q hI => ⟨I, ?_, Sc_r⟩)
    · exact (eX I z).trans (if_neg c)
    · exact (eM I q hI).trans (if_neg c)
/-- state -/
theorem ok_2 {v : Nat} (hs : okS s) : okS (up s 2 v) := by
  obtain ⟨hB, hC, hZ, hN, hM, hE⟩ := hs
  have h3 := hB.1
  have e0 : ∀ j, j ≠ 2 → up s 2 v j = s j := fun j hj => up_o hj
  refine ⟨?_, ?_, ⟨by rw [e0 0 (by omega)]; exact hZ.1, by rw [e0 1 (by omega)]; exact hZ.2.1, by rw [e0 4 (by omega)]; exact hZ.2.2.1, by rw [e0 8 (by omega)]; exact hZ.2.2.2⟩, ?_, okM_c hM hZ.2.2.1 (e0 3 (by omega)) (e0 4 (by omega)) (fun j h1 h2 => e0 j (by omega)), okE_c hE (e0 7 (by omega)) (fun j h1 h2 => e0 j (by omega))⟩
  · refine ⟨by rw [e0 3 (by omega)]; exact hB.1, by rw [e0 516 (by omega)]; exact hB.2.1, by rw [e0 116 (by omega)]; exact hB.2.2.1, fun b h1 h2 => ?_⟩
    rw [e0 3 (by omega)] at h2
    rw [e0 (116 + b) (by omega), e0 (516 + b) (by omega), e0 (516 + (s (116 + b) - 1)) (by omega)]
    exact hB.2.2.2 b h1 h2
  · obtain ⟨a1, a2, a3, a4, a5, a6, a7⟩ := hC
    refine ⟨by rw [e0 _ (by omega)]; exact a1, by rw [e0 _ (by omega)]; exact a2, by rw [e0 _ (by omega)]; exact a3, by rw [e0 _ (by omega)]; exact a4, by rw [e0 _ (by omega)]; exact a5, fun b hb => ?_, fun b h1 hb => ?_⟩
    · rw [e0 3 (by omega)] at hb
      rw [e0 (16 + b) (by omega), e0 (216 + b) (by omega), e0 (316 + b) (by omega), e0 (416 + b) (by omega), e0 (616 + b) (by omega), e0 (716 + b) (by omega)]
      exact a6 b hb
    · rw [e0 3 (by omega)] at hb
      rw [e0 (16 + b) (by omega), e0 (216 + b) (by omega), e0 (416 + b) (by omega)]
      exact a7 b h1 hb
  · intro k hk
    obtain ⟨⟨f1, f2, f3, f4, f5, f6, f7, f8, f9, f10, f11⟩, ⟨l1, l2, l3⟩, ⟨g1, g2, g3⟩⟩ := hN k hk
    have e3 := e0 3 (by omega)
    refine ⟨⟨?_, ?_, ?_, ?_, ?_, ?_, ?_, ?_, ?_, fun b hb => ?_, fun v hv => ?_⟩, ⟨?_, fun i hi => ?_, fun i hi => ?_⟩, ⟨?_, fun j hj => ?_, fun i j hij hj => ?_⟩⟩
    · rw [e0 _ (by omega)]; exact f1
    · rw [e0 _ (by omega)]; exact f2
    · rw [e0 _ (by omega)]; exact f3
    · rw [e0 _ (by omega)]; exact f4
    · rw [e0 _ (by omega)]; exact f5
    · rw [e0 _ (by omega), e3]; exact f6
    · rw [e0 _ (by omega), e3]; exact f7
    · rw [e0 _ (by omega)]; exact f8
    · rw [e0 _ (by omega)]; exact f9
    · rw [e0 _ (by omega)]; exact f10 _ hb
    · rw [e0 _ (by omega)]; exact f11 v hv
    · rw [e0 _ (by omega), e3]; exact l1
    · rw [e0 (2416 + 513 * k + 8) (by omega)] at hi
      rw [e0 (2416 + 513 * k + 12 + i) (by omega), e3, e0 (516 + _) (by omega)]
      exact l2 i hi
    · rw [e0 (2416 + 513 * k + 8) (by omega)] at hi
      rw [e0 (2416 + 513 * k + 12 + (i + 1)) (by omega), e0 (2416 + 513 * k + 12 + i) (by omega), e0 (116 + _) (by omega)]
      exact l3 i hi
    · rw [e0 _ (by omega), e3]; exact g1
    · rw [e0 (2416 + 513 * k + 10) (by omega)] at hj
      rw [e0 (2416 + 513 * k + 112 + j) (by omega), e3]
      exact g2 j hj
    · rw [e0 (2416 + 513 * k + 10) (by omega)] at hj
      rw [e0 (2416 + 513 * k + 112 + j) (by omega), e0 (2416 + 513 * k + 112 + i) (by omega)]
      exact g3 i j hij hj
theorem pa_state (hs : okS s) (hr : okR s h r) {x : Int32} : PAt (fun z => pX9_state n z x) (fun q => pX10_state n q x) s h r := by
  refine PA_1 (ans := nI (s 2)) (s' := up s 2 x.toBitVec.toNat) (ok_2 hs) (fun x => okX_up hs x (by omega) (fun _ _ _ _ _ => by omega)) (okR_up hr hs.2.2.1.2.2.1 (by omega) (by omega)) (up_o (by omega)) (fun I z => ?_) (fun I q hI => ?_)
  · show pX9_state n z x _ = _
    unfold pX9_state
    have := cp_draws (w := z + 1) (I := I) (s := s) (h := h) (r := r) (v := x.toBitVec.toNat)
    rw [nI_bv] at this
    rw [cg_draws, lt_b, this]
    rfl
  · show pX10_state n q x _ = _
    unfold pX10_state
    have := M_put (q := q) (I := I) (s := s) (k := 2) (v := x.toBitVec.toNat)
    rw [nI_bv] at this
    rw [Mt hI, lt_b, show M q I s (q + 1) (2 : Int32).toNatClampNeg = nI (s 2) from M_get, lt_b, show (2 : Int32).toNatClampNeg = 2 from rfl, this]
    rfl
theorem c_awN {x : Int32} (a : ¬ gd x (s 0 + 4) = true) : pX8_isAwake n w x (C w I s h r) = some 0 := by
  unfold pX8_isAwake
  rw [c_node, bn_s, if_b, if_neg a]
/-- propose -/
theorem pa_propose (hs : okS s) (hr : okR s h r) {x y : Int32} (hn : 100 ≤ n) : PAt (fun z => pX9_propose n z x y) (fun q => pX10_propose n q x y) s h r := by
  have h0 := hs.2.2.1.1
  have eM : ∀ (I : ev_I) q, I q 0 = 0 → pX10_propose n q x y (M q I s) = if gd x (s 0 + 4) = true ∧ inb y (nI 0) (nI 999) = true then ((pX10_canPropose n q x (M q I s)).bind fun z6 => if z6 = 0 then some ((-1 : Int32), M q I s) else (pX10_proposes n q x y (M q I s)).bind fun z8 => some (z8.1, z8.2)) else some (-1, M q I s) := by
    intro I q hI
    unfold pX10_propose
    rw [Mt hI, lt_b, r_node, bn_s, r_inb, bn_s, if_b, if_b, show (0 : Int32) = nI 0 from rfl, show (999 : Int32) = nI 999 from rfl]
    by_cases a : gd x (s 0 + 4) = true
    · by_cases b : inb y (nI 0) (nI 999) = true
      · simp [a, b]
      · simp [a, b]
    · simp [a]
  by_cases c : gd x (s 0 + 4) = true ∧ inb y (nI 0) (nI 999) = true
  · obtain ⟨k, hk, rfl⟩ := gd_e c.1 (by omega)
    obtain ⟨p, -, hp, rfl⟩ := inb_e c.2 (by omega) (by omega)
    refine ⟨if cP s k = true then nI (s 3 + 1) else -1, if cP s k = true then sPro s k p else s, ?_, ?_, fun I z => ?_, fun I q hI => ⟨I, ?_, Sc_r⟩⟩
    · split
      · rename_i d; exact ⟨ok_pro hs (by omega) d hp, fun x => okX_pro hs x (by omega) d hp⟩
      · exact ⟨hs, id⟩
    · split
      · rename_i d; exact (Mo_pro hs (by omega) d hp).2.2 9 (by omega)
      · rfl
    · obtain ⟨r', e, hr'⟩ := c_proposeBy (n := n) (w := z + 1) (I := I) (k := k) (p := p) hs hr hk hp (by omega)
      refine ⟨h, r', ?_, hr'⟩
      show pX9_propose n z _ _ _ = _
      unfold pX9_propose
      rw [e, bn_s]
    · refine (eM I q hI).trans ?_
      rw [if_pos c, r_canP hs (by omega), bn_s]
      by_cases d : cP s k = true
      · simp only [if_pos d]
        rw [if_neg (show ¬ nI 1 = 0 by decide), r_proposes hs (by omega) d hp (by omega), bn_s]
      · simp only [if_neg d]
        rw [if_pos (show nI 0 = 0 by decide)]
  · refine PA_0 (ans := -1) hs hr (fun I z => ?_) (fun I q hI => ⟨I, (eM I q hI).trans (if_neg c), Sc_r⟩)
    show pX9_propose n z x y _ = _
    unfold pX9_propose pX8_proposeBy
    by_cases d : y < 0
    · rw [if_pos d]; rfl
    · rw [if_neg d]
      by_cases e : (999 : Int32) < y
      · rw [if_pos e]; rfl
      · rw [if_neg e]
        have a : ¬ gd x (s 0 + 4) = true := fun a => c ⟨a, by unfold inb; simp [show ¬ y < nI 0 from d, show ¬ nI 999 < y from e]⟩
        unfold pX8_canPropose
        rw [c_awN a, bn_s, if_pos rfl, bn_s, if_pos rfl]
        rfl
/-- timeout -/
theorem pa_timeout (hs : okS s) (hr : okR s h r) {x : Int32} (hn : 100 ≤ n) : PAt (fun z => pX9_timeout n z x) (fun q => pX10_timeout n q x) s h r := by
  have h0 := hs.2.2.1.1
  by_cases c : gd x (s 0 + 4) = true
  · obtain ⟨k, hk, rfl⟩ := gd_e c (by omega)
    refine ⟨nI (if cT s k = true then 1 else 0), if cT s k = true then sTO s k else s, ?_, ?_, fun I z => ?_, fun I q hI => ⟨I, ?_, Sc_r⟩⟩
    · split
      · rename_i d; exact ⟨ok_TO hs (by omega) d, fun x => okX_TO hs x (by omega) d⟩
      · exact ⟨hs, id⟩
    · split
      · exact (Mo_TO hs (by omega)).2.2 9 (by omega)
      · rfl
    · obtain ⟨r', e, hr'⟩ := c_timeOutBy (n := n) (w := z + 1) (I := I) (k := k) hs hr hk (by omega)
      refine ⟨h, r', ?_, hr'⟩
      show pX9_timeout n z _ _ = _
      unfold pX9_timeout
      rw [e, bn_s]
      by_cases d : cT s k = true
      · simp only [if_pos d]; rfl
      · simp only [if_neg d]; rfl
    · show pX10_timeout n q _ _ = _
      unfold pX10_timeout
      rw [Mt hI, lt_b, r_node, bn_s, if_b, if_pos c, r_canT hs (by omega), bn_s]
      by_cases d : cT s k = true
      · simp only [if_pos d]
        rw [if_neg (show ¬ nI 1 = 0 by decide), r_TO hs (by omega) (by omega), bn_s]
        rfl
      · simp only [if_neg d]
        rw [if_pos (show nI 0 = 0 by decide)]
        rfl
  · refine PA_0 (ans := 0) hs hr (fun I z => ?_) (fun I q hI => ⟨I, ?_, Sc_r⟩)
    · show pX9_timeout n z x _ = _
      unfold pX9_timeout pX8_timeOutBy pX8_canTimeOut
      rw [c_awN c, bn_s, if_pos rfl, bn_s, if_pos rfl]
      rfl
    · show pX10_timeout n q _ _ = _
      unfold pX10_timeout
      rw [Mt hI, lt_b, r_node, bn_s, if_b, if_neg c]
/-- deliver, drop -/
theorem s9_del {k : Nat} (hs : okS s) (hk : k < s 4) : sDel s k 9 = s 9 := (Mo_del hs hk).2.2 9 (by omega)
theorem c_del1 (hs : okS s) (hr : okR s h r) {k d : Nat} (hk : k < s 4) (hn : 1100 ≤ n) : ∃ h' r', pX8_deliverSome n w (nI k) (1 : Int32) (C w I s h r) = some (nI 1, C w I (sDel s k) h' r') ∧ okR (sDel s k) h' r' := by
  obtain ⟨n, rfl⟩ : ∃ m, n = m + 2 := ⟨n - 2, by omega⟩
  have h4 := hs.2.2.1.2.2.1
  obtain ⟨h', r', hr', hst⟩ := c_step (w := w) (I := I) (n := n + 1) (k := k) (T := 1) (d := 0) (i := 0) hs hr hk (by omega) (by omega) (by omega)
  refine ⟨h', r', ?_, hr'⟩
  show cX8_deliverSome_5 w (lX8_deliverSome_5 w (n + 1)) (n + 1) _ (nI 1) (nI 0) (nI 0) _ = _
  rw [hst]
  show cX8_deliverSome_5 w (lX8_deliverSome_5 w n) n _ _ _ _ _ = _
  unfold cX8_deliverSome_5
  rw [if_pos (nI_le (by omega) (by omega))]
theorem pa_deliver (hs : okS s) (hr : okR s h r) {x : Int32} (hn : 1200 ≤ n) : PAt (fun z => pX9_deliver n z x) (fun q => pX10_deliver n q x) s h r := by
  have h4 := hs.2.2.1.2.2.1
  by_cases c : gd x (s 4) = true
  · obtain ⟨k, hk, rfl⟩ := gd_e c (by omega)
    refine ⟨nI (s (816 + 5 * k + 2)), sDel s k, ⟨ok_del hs hk, fun x => okX_del hs x hk⟩, s9_del hs hk, fun I z => ?_, fun I q hI => ⟨Tk q I (s (816 + 5 * k)) (s (816 + 5 * k + 1)) (s (816 + 5 * k + 2)) (s (816 + 5 * k + 3)) (s (816 + 5 * k + 4)), ?_, Sc_k⟩⟩
    · obtain ⟨h', r', e, hr'⟩ := c_del1 (n := n) (w := z + 1) (I := I) (d := 0) hs hr hk (by omega)
      refine ⟨h', r', ?_, hr'⟩
      show pX9_deliver n z _ _ = _
      unfold pX9_deliver
      rw [c_mes, bn_s, if_b, if_pos c, c_at hr.1 (by omega), bn_s, hr.2.1 k hk, (c_msg hs hk).2.2.1, bn_s, e, bn_s]
    · show pX10_deliver n q _ _ = _
      unfold pX10_deliver
      rw [Mt hI, lt_b, r_mes, bn_s, if_b, if_pos c]
      simp (disch := omega) only [li, pk_mul, nI_add, ck_in, nI_clamp, M_get, lt_b]
      have := r_del (n := n) (q := q) (I := I) hs hk (by omega)
      cases e1 : pX10_takesOut n q (nI k) (M q I s) with
      | none => rw [e1] at this; cases this
      | some y =>
        rw [e1, bn_s] at this
        rw [bn_s, this, bn_s]
  · refine PA_0 (ans := -1) hs hr (fun I z => ?_) (fun I q hI => ⟨I, ?_, Sc_r⟩)
    · show pX9_deliver n z _ _ = _
      unfold pX9_deliver
      rw [c_mes, bn_s, if_b, if_neg c]
    · show pX10_deliver n q _ _ = _
      unfold pX10_deliver
      rw [Mt hI, lt_b, r_mes, bn_s, if_b, if_neg c]
theorem pa_drop (hs : okS s) (hr : okR s h r) {x : Int32} (hn : 1200 ≤ n) : PAt (fun z => pX9_drop n z x) (fun q => pX10_drop n q x) s h r := by
  have h4 := hs.2.2.1.2.2.1
  by_cases c : gd x (s 4) = true
  · obtain ⟨k, hk, rfl⟩ := gd_e c (by omega)
    refine ⟨nI (s (816 + 5 * k + 2)), sTake s k, ⟨ok_take hs hk, fun x => okX_take hs x⟩, sTake_o h4 (by omega), fun I z => ?_, fun I q hI => ⟨Tk q I (s (816 + 5 * k)) (s (816 + 5 * k + 1)) (s (816 + 5 * k + 2)) (s (816 + 5 * k + 3)) (s (816 + 5 * k + 4)), ?_, Sc_k⟩⟩
    · obtain ⟨h', r', e, hr'⟩ := c_take (n := n) (w := z + 1) (I := I) hr h4 hk (by omega)
      refine ⟨h', r', ?_, hr'⟩
      show pX9_drop n z _ _ = _
      unfold pX9_drop
      rw [c_mes, bn_s, if_b, if_pos c, e, bn_s, (c_msg hs hk).2.2.1, bn_s]
    · show pX10_drop n q _ _ = _
      unfold pX10_drop
      rw [Mt hI, lt_b, r_mes, bn_s, if_b, if_pos c, r_takesOut h4 hk (by omega), bn_s, M_oth (by omega)]
      rw [show (2 : Int32).toNatClampNeg = 2 from rfl, Tk_g.2.2.1]
  · refine PA_0 (ans := -1) hs hr (fun I z => ?_) (fun I q hI => ⟨I, ?_, Sc_r⟩)
    · show pX9_drop n z _ _ = _
      unfold pX9_drop
      rw [c_mes, bn_s, if_b, if_neg c]
    · show pX10_drop n q _ _ = _
      unfold pX10_drop
      rw [Mt hI, lt_b, r_mes, bn_s, if_b, if_neg c]
/-- calm -/
theorem pa_calm (hs : okS s) (hr : okR s h r) {x : Int32} (hn : 1700 ≤ n) : PAt (fun z => pX9_calm n z x) (fun q => pX10_calm n q x) s h r := by
  have h0 := hs.2.2.1.1
  by_cases c : inb x (nI 1) (nI 20) = true
  · obtain ⟨R, h1, hR, rfl⟩ := inb_e c (by omega) (by omega)
    have a := ok_Rds R 0 s hs (by omega)
    refine ⟨nI (lgN (sDN 400 (sRds R 0 s)) (s 0 + 4)) - nI (lgN s (s 0 + 4)), sDN 400 (sRds R 0 s), ⟨ok_DN 400 _ a.1, fun x => okX_DN 400 _ a.1 (okX_Rds R 0 s hs x (by omega))⟩, (Mo_t a.2 (Mo_DN 400 _ a.1)).2.2 9 (by omega), fun I z => ?_, fun I q hI => ?_⟩
    · obtain ⟨h', r', e, hr'⟩ := c_calmL (w := z + 1) (I := I) hR (was := nI (lgN s (s 0 + 4))) R 0 n h r s hs hr (by omega) (by omega)
      refine ⟨h', r', ?_, hr'⟩
      show pX9_calm n z _ _ = _
      unfold pX9_calm pX8_calmRounds
      rw [if_neg (show ¬ nI R < (1 : Int32) from nI_nlt (b := 1) h1 (by omega)), if_pos (show nI R ≤ (20 : Int32) from nI_le (b := 20) hR (by omega)), c_lg hs (by omega), bn_s, show (0 : Int32) = nI 0 from rfl, e, bn_s]
    · obtain ⟨J, e, hJ⟩ := r_calmL (q := q) hR (was := nI (lgN s (s 0 + 4))) R 0 n I s hs (by omega) (by omega)
      refine ⟨J, ?_, Sk_c hJ⟩
      show pX10_calm n q _ _ = _
      unfold pX10_calm
      rw [Mt hI, lt_b, r_inb, bn_s, if_b, show (1 : Int32) = nI 1 from rfl, show (20 : Int32) = nI 20 from rfl, if_pos c, r_lg hs (by omega), bn_s]
      exact e
  · refine PA_0 (ans := -1) hs hr (fun I z => ?_) (fun I q hI => ⟨I, ?_, Sc_r⟩)
    · show pX9_calm n z _ _ = _
      unfold pX9_calm
      by_cases d : x < (1 : Int32)
      · rw [if_pos d]
      · rw [if_neg d, if_neg]
        intro e
        apply c
        unfold inb
        simp [show ¬ x < nI 1 from d, show ¬ nI 20 < x from le_lt.mp e]
    · show pX10_calm n q _ _ = _
      unfold pX10_calm
      rw [Mt hI, lt_b, r_inb, bn_s, if_b, show (1 : Int32) = nI 1 from rfl, show (20 : Int32) = nI 20 from rfl, if_neg c]
/-- leaders -/
theorem c_fresh (hs : okS s) : pX8_isUntouched n w (C w I s h r) = some (nI (b01 (decide (s 4 = 0 ∧ s 3 = 0)))) := by
  have h3 := hs.b3
  have h4 := hs.2.2.1.2.2.1
  unfold pX8_isUntouched
  rw [cg_nc, cg_count]
  simp (disch := omega) only [li, nI_eq]
  by_cases a : s 4 = 0
  · by_cases b : s 3 = 0
    · rw [if_pos a, if_pos (by omega)]; simp [a, b, b01]
    · rw [if_pos a, if_neg (by omega)]; simp [a, b, b01]
  · rw [if_neg a]; simp [a, b01]
theorem r_fresh (hs : okS s) : pX10_isFresh n q (M q I s) = some (nI (b01 (decide (s 4 = 0 ∧ s 3 = 0)))) := by
  rw [r_isFresh hs.2.2.1.2.2.1 hs.b3]
  unfold b01
  simp only [decide_eq_true_eq]
theorem ok_1 {v : Nat} (hv : v ≤ 2) (hs : okS s) : okS (up s 1 v) := by
  have k := ok_2 (v := 0) hs
  obtain ⟨hB, hC, hZ, hN, hM, hE⟩ := hs
  have e : ∀ j, j ≠ 1 → j ≠ 2 → up s 1 v j = up s 2 0 j := fun j h1 h2 => by rw [up_o h1, up_o h2]
  obtain ⟨hB, hC, hZ', hN, hM, hE⟩ := k
  have h3 := hB.1
  have e3 := e 3 (by omega) (by omega)
  refine ⟨?_, ?_, ⟨by rw [e 0 (by omega) (by omega)]; exact hZ'.1, by rw [up_s]; exact hv, by rw [e 4 (by omega) (by omega)]; exact hZ'.2.2.1, by rw [e 8 (by omega) (by omega)]; exact hZ'.2.2.2⟩, ?_, okM_c hM hZ'.2.2.1 e3 (e 4 (by omega) (by omega)) (fun j h1 h2 => e j (by omega) (by omega)), okE_c hE (e 7 (by omega) (by omega)) (fun j h1 h2 => e j (by omega) (by omega))⟩
  · refine ⟨by rw [e3]; exact hB.1, by rw [e 516 (by omega) (by omega)]; exact hB.2.1, by rw [e 116 (by omega) (by omega)]; exact hB.2.2.1, fun b h1 h2 => ?_⟩
    rw [e3] at h2
    rw [e (116 + b) (by omega) (by omega), e (516 + b) (by omega) (by omega), e (516 + (up s 2 0 (116 + b) - 1)) (by omega) (by omega)]
    exact hB.2.2.2 b h1 h2
  · obtain ⟨a1, a2, a3, a4, a5, a6, a7⟩ := hC
    refine ⟨by rw [e _ (by omega) (by omega)]; exact a1, by rw [e _ (by omega) (by omega)]; exact a2, by rw [e _ (by omega) (by omega)]; exact a3, by rw [e _ (by omega) (by omega)]; exact a4, by rw [e _ (by omega) (by omega)]; exact a5, fun b hb => ?_, fun b h1 hb => ?_⟩
    · rw [e3] at hb
      rw [e (16 + b) (by omega) (by omega), e (216 + b) (by omega) (by omega), e (316 + b) (by omega) (by omega), e (416 + b) (by omega) (by omega), e (616 + b) (by omega) (by omega), e (716 + b) (by omega) (by omega)]
      exact a6 b hb
    · rw [e3] at hb
      rw [e (16 + b) (by omega) (by omega), e (216 + b) (by omega) (by omega), e (416 + b) (by omega) (by omega)]
      exact a7 b h1 hb
  · intro k hk
    obtain ⟨⟨f1, f2, f3, f4, f5, f6, f7, f8, f9, f10, f11⟩, ⟨l1, l2, l3⟩, ⟨g1, g2, g3⟩⟩ := hN k hk
    refine ⟨⟨?_, ?_, ?_, ?_, ?_, ?_, ?_, ?_, ?_, fun b hb => ?_, fun v hv => ?_⟩, ⟨?_, fun i hi => ?_, fun i hi => ?_⟩, ⟨?_, fun j hj => ?_, fun i j hij hj => ?_⟩⟩
    · rw [e _ (by omega) (by omega)]; exact f1
    · rw [e _ (by omega) (by omega)]; exact f2
    · rw [e _ (by omega) (by omega)]; exact f3
    · rw [e _ (by omega) (by omega)]; exact f4
    · rw [e _ (by omega) (by omega)]; exact f5
    · rw [e _ (by omega) (by omega), e3]; exact f6
    · rw [e _ (by omega) (by omega), e3]; exact f7
    · rw [e _ (by omega) (by omega)]; exact f8
    · rw [e _ (by omega) (by omega)]; exact f9
    · rw [e _ (by omega) (by omega)]; exact f10 _ hb
    · rw [e _ (by omega) (by omega)]; exact f11 v hv
    · rw [e _ (by omega) (by omega), e3]; exact l1
    · rw [e (2416 + 513 * k + 8) (by omega) (by omega)] at hi
      rw [e (2416 + 513 * k + 12 + i) (by omega) (by omega), e3, e (516 + _) (by omega) (by omega)]
      exact l2 i hi
    · rw [e (2416 + 513 * k + 8) (by omega) (by omega)] at hi
      rw [e (2416 + 513 * k + 12 + (i + 1)) (by omega) (by omega), e (2416 + 513 * k + 12 + i) (by omega) (by omega), e (116 + _) (by omega) (by omega)]
      exact l3 i hi
    · rw [e _ (by omega) (by omega), e3]; exact g1
    · rw [e (2416 + 513 * k + 10) (by omega) (by omega)] at hj
      rw [e (2416 + 513 * k + 112 + j) (by omega) (by omega), e3]
      exact g2 j hj
    · rw [e (2416 + 513 * k + 10) (by omega) (by omega)] at hj
      rw [e (2416 + 513 * k + 112 + j) (by omega) (by omega), e (2416 + 513 * k + 112 + i) (by omega) (by omega)]
      exact g3 i j hij hj
theorem pa_leaders (hs : okS s) (hr : okR s h r) {x : Int32} : PAt (fun z => pX9_leaders n z x) (fun q => pX10_leaders n q x) s h r := by
  have eX : ∀ (I : ev_I) z, pX9_leaders n z x (C (z + 1) I s h r) = if inb x (nI 0) (nI 2) = true ∧ (s 4 = 0 ∧ s 3 = 0) then some (nI (s 1), ev_u2 (C (z + 1) I s h r) (z + 1) 1 x) else some (-1, C (z + 1) I s h r) := by
    intro I z
    unfold pX9_leaders inb
    rw [c_fresh hs, bn_s, if_b]
    by_cases c : x < 0
    · simp [show x < nI 0 from c, c]
    · by_cases d : (2 : Int32) < x
      · simp [show ¬ x < nI 0 from c, c, show nI 2 < x from d, d]
      · by_cases e : s 4 = 0 ∧ s 3 = 0
        · simp [show ¬ x < nI 0 from c, c, show ¬ nI 2 < x from d, d, e, cg_rule, lt_b]
        · simp [show ¬ x < nI 0 from c, c, show ¬ nI 2 < x from d, d, e]
  have eM : ∀ (I : ev_I) q, I q 0 = 0 → pX10_leaders n q x (M q I s) = if inb x (nI 0) (nI 2) = true ∧ (s 4 = 0 ∧ s 3 = 0) then some (nI (s 1), ev_u2 (M q I s) (q + 1) 1 x) else some (-1, M q I s) := by
    intro I q hI
    unfold pX10_leaders
    rw [Mt hI, lt_b, r_inb, bn_s, r_fresh hs, bn_s, if_b, if_b, show (0 : Int32) = nI 0 from rfl, show (2 : Int32) = nI 2 from rfl]
    by_cases c : inb x (nI 0) (nI 2) = true
    · by_cases e : s 4 = 0 ∧ s 3 = 0
      · simp only [c, e, decide_true, and_self, if_true]
        rw [show (1 : Int32).toNatClampNeg = 1 from rfl, M_get]
        rfl
      · simp [c, e]
    · simp [c]
  by_cases c : inb x (nI 0) (nI 2) = true ∧ (s 4 = 0 ∧ s 3 = 0)
  · obtain ⟨v, -, hv, rfl⟩ := inb_e c.1 (by omega) (by omega)
    refine PA_1 (ans := nI (s 1)) (s' := up s 1 v) (ok_1 hv hs) (fun x => okX_up hs x (by omega) (fun _ _ _ _ _ => by omega)) (okR_up hr hs.2.2.1.2.2.1 (by omega) (by omega)) (up_o (by omega)) (fun I z => ?_) (fun I q hI => ?_)
    · refine (eX I z).trans ?_
      rw [if_pos c, cp_rule]
    · refine (eM I q hI).trans ?_
      rw [if_pos c, M_put]
  · exact PA_0 (ans := -1) hs hr (fun I z => (eX I z).trans (if_neg c)) (fun I q hI => ⟨I, (eM I q hI).trans (if_neg c), Sc_r⟩)
end Fc
