/-! THE TAPE'S CALLS keep the invariant -/
section Tp
variable {E : ev_N} {I J : ev_I} {s : Nat → Nat} {h : Nat} {r : Nat → Int32} {p : Nat} {F : Nat → Nat × Nat × Nat × Nat} {L L' : Nat} {T T' : Nat → Nat} {k t : Option Nat}
theorem IG_t (w : WG I s h r p F L T) (hk : KG I k) (ht : TG I t) (h1 : okT L' T') (h2 : TpC 59 L' T' J) (h3 : TpR 69 L' T' J) (e : ∀ a j, ¬ (a = 59 ∧ j = 1) → a ≠ 60 → ¬ (a = 69 ∧ j = 8) → a ≠ 76 → J a j = I a j) : IG J k t := by
  have o : ∀ a, a ≠ 59 → a ≠ 60 → a ≠ 69 → a ≠ 76 → J a = I a := fun a g1 g2 g3 g4 => funext fun j => e a j (by omega) g2 (by omega) g4
  obtain ⟨w1, w2, w3, w4, ⟨w5, w6, w7⟩, w8, p1, p2, p3, p4, p5, p6⟩ := w
  refine ⟨⟨s, h, r, p, F, L', T', w1, CC_c w2 (fun x g1 g2 => o x (by omega) (by omega) (by omega) (by omega)), fun j => ?_, ?_, ⟨h1, h2, h3⟩, ?_, p1, p2, p3, CLn_c p4 ?_ (fun a j g1 g2 => ?_), ?_, ?_⟩, KG_c hk (fun a ha => o a (by omega) (by omega) (by omega) (by omega)) (o 79 (by omega) (by omega) (by omega) (by omega)) (e 69 20 (by omega) (by omega) (by omega) (by omega)), TG_c ht (fun a ha => o a (by omega) (by omega) (by omega) (by omega))⟩
  · rw [o 70 (by omega) (by omega) (by omega) (by omega)]; exact w3 j
  · rw [e 69 0 (by omega) (by omega) (by omega) (by omega)]; exact w4
  · rw [e 59 2 (by omega) (by omega) (by omega) (by omega), e 59 3 (by omega) (by omega) (by omega) (by omega), e 69 16 (by omega) (by omega) (by omega) (by omega), e 69 17 (by omega) (by omega) (by omega) (by omega)]; exact w8
  · rw [o 19 (by omega) (by omega) (by omega) (by omega)]
  · rw [o a (by omega) (by omega) (by omega) (by omega)]
  · rw [e 69 18 (by omega) (by omega) (by omega) (by omega)]; exact p5
  · rw [o 78 (by omega) (by omega) (by omega) (by omega)]; exact p6
theorem TpR_c (h : TpR 69 L T I) (e8 : J 69 8 = I 69 8) (e : ∀ a j, a = 76 ∨ a = 77 → J a j = I a j) : TpR 69 L T J := ⟨by rw [e8]; exact h.1, fun j hj => (e _ j (by omega)).trans (h.2.1 j hj), fun j hj => (e _ j (by omega)).trans (h.2.2 j hj)⟩
theorem TpC_c (h : TpC 59 L T I) (e8 : J 59 1 = I 59 1) (e : ∀ j, J 60 j = I 60 j) : TpC 59 L T J := ⟨by rw [e8]; exact h.1, fun j hj => (e j).trans (h.2 j hj)⟩
theorem lw_feed {x1 x2 x3 x4 x5 : Int32} : lw_s E Inv mX9_feed mX10_feed [.int x1, .int x2, .int x3, .int x4, .int x5] := lw_of fun I k t ⟨⟨s, h, r, p, F, L, T, w⟩, hk, ht⟩ => by
  obtain ⟨w5, w6, w7⟩ := w.2.2.2.2.1
  have a := c_feed (n := 7000) (z := 0) (x1 := x1) (x2 := x2) (x3 := x3) (x4 := x4) (x5 := x5) w5 w6 (by omega)
  by_cases c : L ≤ 380
  · obtain ⟨J, a1, a2, a3⟩ := a.1 c
    have tJ : TpR 69 L T J := TpR_c w7 (a3 _ _ (by omega) (by omega)) (fun x j g => a3 x j (by omega) (by omega))
    obtain ⟨K, b1, b2, b3⟩ := (r_feed (n := 7000) (q := 69) (x1 := x1) (x2 := x2) (x3 := x3) (x4 := x4) (x5 := x5) w5 tJ (by rw [a3 _ _ (by omega) (by omega)]; exact w.2.2.2.1) (by omega)).1 c
    refine ⟨nI (L + 20), J, K, fun σ gs => tX9_feed 7000 0 gs _ _ _ _ _ I _ a1, fun σ gs => tX10_feed 7000 69 gs _ _ _ _ _ J _ b1, IG_t w hk ht (okT_20 w5 c) (TpC_c a2 (b3 _ _ (by omega) (by omega)) (fun j => b3 _ _ (by omega) (by omega))) b2 (fun x j g1 g2 g3 g4 => (b3 x j (by omega) (by omega)).trans (a3 x j (by omega) (by omega)))⟩
  · have b1 := (r_feed (n := 7000) (q := 69) (x1 := x1) (x2 := x2) (x3 := x3) (x4 := x4) (x5 := x5) w5 w7 w.2.2.2.1 (by omega)).2 c
    exact ⟨-1, I, I, fun σ gs => tX9_feed 7000 0 gs _ _ _ _ _ I _ (a.2 c), fun σ gs => tX10_feed 7000 69 gs _ _ _ _ _ I _ b1, ⟨⟨s, h, r, p, F, L, T, w⟩, hk, ht⟩⟩
theorem lw_end {x : Int32} : lw_s E Inv mX9_end mX10_end [.int x] := lw_of fun I k t ⟨⟨s, h, r, p, F, L, T, w⟩, hk, ht⟩ => by
  obtain ⟨w5, w6, w7⟩ := w.2.2.2.2.1
  obtain ⟨ans, L', hl, hc, hg⟩ := pr_end (z := 0) (x := x) w5
  obtain ⟨J, a1, a2, a3⟩ := hc 7000 I w6
  have tJ : TpR 69 L T J := TpR_c w7 (a3 _ _ (by omega)) (fun x j g => a3 x j (by omega))
  obtain ⟨K, b1, b2, b3⟩ := hg 7000 69 J tJ (by rw [a3 _ _ (by omega)]; exact w.2.2.2.1)
  exact ⟨ans, J, K, fun σ gs => tX9_end 7000 0 gs _ I _ a1, fun σ gs => tX10_end 7000 69 gs _ J _ b1, IG_t w hk ht ⟨by have := w5.1; omega, fun j hj => w5.2 j (by omega)⟩ (TpC_c a2 (b3 _ _ (by omega)) (fun j => b3 _ _ (by omega))) b2 (fun x j g1 g2 g3 g4 => (b3 x j (by omega)).trans (a3 x j (by omega)))⟩
theorem lw_fault {x : Int32} : lw_s E Inv mX9_fault mX10_fault [.int x] := lw_of fun I k t ig => by
  obtain ⟨⟨s, h, r, p, F, L, T, w⟩, hk, ht⟩ := id ig
  have e0 : ev_u2 I 69 0 0 = I := by
    funext a j
    by_cases c : a = 69 ∧ j = 0
    · rw [c.1, c.2, u2_s, w.2.2.2.1]
    · rw [u2_o c]
  have e : ∃ ans, pX9_fault 7000 0 x I = some ans ∧ pX10_fault 7000 69 x I = some (ans, I) := by
    unfold pX9_fault pX10_fault
    rw [lt_b, e0]
    by_cases c : x = 0
    · rw [if_pos c, if_pos c]
      exact ⟨_, rfl, by rw [w.2.2.2.2.2.1.1]⟩
    · rw [if_neg c, if_neg c]
      by_cases d : x = 1
      · rw [if_pos d, if_pos d]
        exact ⟨_, rfl, by rw [w.2.2.2.2.2.1.2]⟩
      · rw [if_neg d, if_neg d]
        exact ⟨_, rfl, rfl⟩
  obtain ⟨ans, e1, e2⟩ := e
  exact ⟨ans, I, I, fun σ gs => tX9_fault 7000 0 gs x I _ e1, fun σ gs => tX10_fault 7000 69 gs x I _ e2, ig⟩
theorem C_18n {w j : Nat} (hj : j ≠ 1) : C w I s h r (w + 18) j = I (w + 18) j := by
  unfold C
  rw [if_pos (by omega), show w + 18 - w = 18 by omega, show src 18 j = none by show (if j = 1 then some 9 else none) = none; rw [if_neg hj]]
  show (if w + 18 = w + 11 ∧ j = 1 then _ else _) = _
  rw [if_neg (by omega), if_neg (by omega), if_neg (by omega), if_neg (by omega)]
/-- a new plan in the script -/
theorem CC_pl (hc : CC 1 I s h r) (h9 : J 19 1 = nI 0) (e : ∀ a j, (a < 19 ∨ 23 < a) → a < 59 → J a j = I a j) : CC 1 J (up s 9 0) h r := fun x j h1 h2 => by
  have ep : C 1 J (up s 9 0) h r = ev_u2 (C 1 J s h r) (1 + 18) 1 (nI 0) := (C_put (o := 18) (j := 1) (k := 9) (v := 0) (by omega) rfl (by omega) rfl).symm
  rw [ep]
  by_cases c : x = 19 ∧ j = 1
  · rw [c.1, c.2, u2_s]; exact h9
  · rw [u2_o c]
    by_cases d : x = 19
    · rw [d]
      exact (C_18n (w := 1) (by omega)).symm
    · by_cases g : 20 ≤ x ∧ x ≤ 23
      · exact (C_pl1 g.1 g.2).symm
      · have ex := e x j (by omega) (by omega)
        rw [C_loc ex, ex]
        exact hc x j h1 h2
theorem lw_plan : lw_s E Inv mX9_plan mX10_plan [] := lw_of fun I k t ⟨⟨s, h, r, p, F, L, T, w⟩, hk, ht⟩ => by
  obtain ⟨w1, w2, w3, w4, ⟨w5, w6, w7⟩, w8, p1, p2, p3, p4, p5, p6⟩ := w
  have z0 : okT 0 T := ⟨by omega, fun j hj => by omega⟩
  rcases c_plan (n := 7000) (z := 0) w5 w6 (by omega) with ⟨e, J, a0, ab, a1, a2, a3, a4, a5⟩ | ⟨p', F', J, a0, ap, aF, a1, a2, a3, a4, a6, a7, a5⟩
  · have tJ : TpR 69 L T J := TpR_c w7 (a5 _ _ (by omega)) (fun x j g => a5 x j (by omega))
    rcases r_plan (n := 7000) (q := 69) w5 tJ (by omega) with ⟨e', K, b0, b1, b2, b3, b4, b5, b6⟩ | ⟨p', F', K, b0, _⟩
    · rw [a0] at b0
      injection b0 with b0
      subst b0
      have o : ∀ a, a ≠ 69 → a ≠ 78 → (a < 59 ∨ 65 < a) → K a = I a := fun a g1 g2 g3 => funext fun j => (b6 a j (by omega) (by omega)).trans (a5 a j (by omega))
      have o9 : ∀ j, K 59 j = J 59 j := fun j => b6 _ _ (by omega) (by omega)
      have o78 : ∀ j, j < 120 → K 78 j = I 78 j := fun j hj => (b6 78 j (by omega) (by omega)).trans (a5 78 j (by omega))
      refine ⟨-1, J, K, fun σ gs => tX9_plan 7000 0 gs I _ a1, fun σ gs => tX10_plan 7000 69 gs J _ b1, ⟨s, h, r, p, F, 0, T, w1, CC_c w2 (fun x g1 g2 => o x (by omega) (by omega) (by omega)), fun j => ?_, b2, ⟨z0, ⟨?_, fun j hj => by omega⟩, ⟨b3, fun j hj => by omega, fun j hj => ?_⟩⟩, ⟨?_, ?_⟩, p1, p2, p3, CLn_c p4 ?_ (fun a j g1 g2 => ?_), ?_, fun i hi => LR_F (p6 i hi) (fun j g1 g2 => o78 j (by omega))⟩, KG_c hk (fun a ha => o a (by omega) (by omega) (by omega)) (o 79 (by omega) (by omega) (by omega)) ?_, TG_c ht (fun a ha => o a (by omega) (by omega) (by omega))⟩
      · rw [o 70 (by omega) (by omega) (by omega)]; exact w3 j
      · rw [o9]; exact a2
      · show K 77 j = _
        rw [o 77 (by omega) (by omega) (by omega)]; exact w7.2.2 j hj
      · rw [o9, b4]; exact a3
      · rw [o9, b5]; exact a4
      · rw [o 19 (by omega) (by omega) (by omega)]
      · rw [o a (by omega) (by omega) (by omega)]
      · rw [b6 69 18 (by omega) (by omega), a5 69 18 (by omega)]; exact p5
      · rw [b6 69 20 (by omega) (by omega), a5 69 20 (by omega)]
    · rw [a0] at b0; cases b0
  · have tJ : TpR 69 L T J := TpR_c w7 (a5 _ _ (by omega) (by omega)) (fun x j g => a5 x j (by omega) (by omega))
    rcases r_plan (n := 7000) (q := 69) w5 tJ (by omega) with ⟨e', K, b0, _⟩ | ⟨p2', F2, K, b0, bp, b1, b2, b3, b4, b5, b6, b7, b8, b9⟩
    · rw [a0] at b0; cases b0
    · rw [a0] at b0
      injection b0 with b0
      injection b0 with b01 b02
      subst b01; subst b02
      have o : ∀ a, a ≠ 69 → a ≠ 78 → a ≠ 70 → (a < 59 ∨ 65 < a) → (a < 19 ∨ 23 < a) → K a = I a := fun a g1 g2 g3 g4 g5 => funext fun j => (b9 a j (by omega) (by omega) (by omega)).trans (a5 a j (by omega) (by omega))
      have oJ : ∀ a j, a ≠ 69 → a ≠ 78 → a ≠ 70 → K a j = J a j := fun a j g1 g2 g3 => b9 a j (by omega) (by omega) (by omega)
      refine ⟨nI p', J, K, fun σ gs => tX9_plan 7000 0 gs I _ a1, fun σ gs => tX10_plan 7000 69 gs J _ b1, ⟨up s 9 0, h, r, p', F', 0, T, ⟨ok_9 w1.1, okX_9 w1.1 w1.2.1, okR_9 w1.1 w1.2.2⟩, CC_pl w2 ?_ (fun a j g1 g2 => by rw [o a (by omega) (by omega) (by omega) (by omega) (by omega)]), fun j => ?_, b2, ⟨z0, ⟨?_, fun j hj => by omega⟩, ⟨b3, fun j hj => by omega, fun j hj => ?_⟩⟩, ⟨?_, ?_⟩, ap, by rw [up_s]; omega, aF, CLn_c a6 (oJ _ _ (by omega) (by omega) (by omega)) (fun a j g1 g2 => oJ a j (by omega) (by omega) (by omega)), b6, b7⟩, KG_c hk (fun a ha => o a (by omega) (by omega) (by omega) (by omega) (by omega)) (o 79 (by omega) (by omega) (by omega) (by omega) (by omega)) ?_, TG_c ht (fun a ha => o a (by omega) (by omega) (by omega) (by omega) (by omega))⟩
      · rw [oJ 19 1 (by omega) (by omega) (by omega)]; exact a7
      · by_cases c : j = 9
        · rw [c, up_s]; exact b8
        · rw [b9 70 j (by omega) (by omega) (by omega), a5 70 j (by omega) (by omega), up_o c]; exact w3 j
      · rw [oJ 59 1 (by omega) (by omega) (by omega)]; exact a2
      · show K 77 j = _
        rw [o 77 (by omega) (by omega) (by omega) (by omega) (by omega)]; exact w7.2.2 j hj
      · rw [oJ 59 2 (by omega) (by omega) (by omega), b4]; exact a3
      · rw [oJ 59 3 (by omega) (by omega) (by omega), b5]; exact a4
      · rw [b9 69 20 (by omega) (by omega) (by omega), a5 69 20 (by omega) (by omega)]
end Tp
