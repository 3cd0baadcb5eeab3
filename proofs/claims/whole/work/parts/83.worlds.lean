/-! THE CALLS THAT MAKE WORLDS keep the invariant: image, soon, without -/
section Wd
variable {E : ev_N} {I J K : ev_I} {s : Nat → Nat} {h : Nat} {r : Nat → Int32} {p : Nat} {F : Nat → Nat × Nat × Nat × Nat} {L : Nat} {T : Nat → Nat} {k t : Option Nat} {σ τ : ev_H}
theorem WG_d (w : WG I s h r p F L T) (e : ∀ a j, a < 79 → ¬ (71 ≤ a ∧ a ≤ 75) → ¬ (a = 69 ∧ j = 20) → J a j = I a j) : WG J s h r p F L T := by
  obtain ⟨w1, w2, w3, w4, ⟨w5, w6, w7⟩, w8, p1, p2, p3, p4, p5, p6⟩ := w
  refine ⟨w1, CC_c w2 (fun x g1 g2 => funext fun j => e x j (by omega) (by omega) (by omega)), fun j => (e _ _ (by omega) (by omega) (by omega)).trans (w3 j), (e _ _ (by omega) (by omega) (by omega)).trans w4, ⟨w5, ⟨(e _ _ (by omega) (by omega) (by omega)).trans w6.1, fun j hj => (e _ _ (by omega) (by omega) (by omega)).trans (w6.2 j hj)⟩, ⟨(e _ _ (by omega) (by omega) (by omega)).trans w7.1, fun j hj => (e _ _ (by omega) (by omega) (by omega)).trans (w7.2.1 j hj), fun j hj => (e _ _ (by omega) (by omega) (by omega)).trans (w7.2.2 j hj)⟩⟩, ⟨?_, ?_⟩, p1, p2, p3, CLn_c p4 (e _ _ (by omega) (by omega) (by omega)) (fun a j g1 g2 => e a j (by omega) (by omega) (by omega)), (e _ _ (by omega) (by omega) (by omega)).trans p5, fun i hi => LR_F (p6 i hi) (fun j g1 g2 => e _ _ (by omega) (by omega) (by omega))⟩
  · rw [e 59 2 (by omega) (by omega) (by omega), e 69 16 (by omega) (by omega) (by omega)]; exact w8.1
  · rw [e 59 3 (by omega) (by omega) (by omega), e 69 17 (by omega) (by omega) (by omega)]; exact w8.2
theorem KG_d (hk : KG I k) (e : ∀ a, k = some a → ∀ x, a ≤ x → x < a + 58 → J x = I x) (e79 : ∀ j, J 79 j = I 79 j) (e20 : J 69 20 = I 69 20) : KG J k := by
  cases k with
  | none => exact e20.trans hk
  | some a =>
    have e := e a rfl
    have e79 : J 79 = I 79 := funext e79
    obtain ⟨ha, h20, s, hh, r, p, F, ok, hc, h79, p1, p2, p3, p4, p5, p6⟩ := hk
    refine ⟨ha, by rw [e20]; exact h20, s, hh, r, p, F, ok, CC_c hc (fun x h1 h2 => e x h1 h2), by rw [e79]; exact h79, p1, p2, p3, CLn_c p4 (by rw [e _ (by omega) (by omega)]) (fun x j h1 h2 => by rw [e x (by omega) (by omega)]), by rw [e79]; exact p5, by rw [e79]; exact p6⟩
theorem TG_d (ht : TG I t) (e : ∀ a, t = some a → ∀ x, a ≤ x → x < a + 58 → J x = I x) : TG J t := by
  cases t with
  | none => trivial
  | some b => exact ⟨ht.1, by rw [e b rfl _ (by omega) (by omega)]; exact ht.2.1, by rw [e b rfl _ (by omega) (by omega)]; exact ht.2.2⟩
theorem KG_80 {a : Nat} (h : KG I (some a)) : 80 ≤ a := h.1
theorem TG_80 {a : Nat} (h : TG I (some a)) : 80 ≤ a := h.1
theorem LR_s {x : Nat × Nat × Nat × Nat} {P Q : Nat → Int32} {k k' : Nat} (h : LR x P k) (e : ∀ d, d < 5 → Q (k' + d) = P (k + d)) : LR x Q k' := by
  have e0 := e 0 (by omega)
  rw [Nat.add_zero, Nat.add_zero] at e0
  unfold LR at h ⊢
  rw [e0, e 1 (by omega), e 2 (by omega), e 3 (by omega), e 4 (by omega)]
  exact h
theorem gw_lim {q j : Nat} (G : gw σ τ q j) : h_i τ (h_n σ + 14) 0 = nI 60 ∧ h_i τ (h_n σ + 16) 0 = nI 100 := by
  have e1 := G.2.2.2.2.2.2 14 _ rfl
  have e2 := G.2.2.2.2.2.2 16 _ rfl
  exact ⟨by rw [e1]; rfl, by rw [e2]; rfl⟩
theorem gw_8 {j : Nat} (hj : j = 3 ∨ j = 4) (G : gw σ τ 0 j) (hs : shp tb8 σ 0) : shp tb8 τ 0 := gw_s G hs (fun k t z rs e => by
  by_cases h0 : k = 0
  · subst h0
    right; right
    have : tb8[0]? = some (8, 0, [some 1, some 59, some 66, none, none]) := rfl
    rw [this] at e
    cases e
    rcases hj with rfl | rfl <;> rfl
  · left; omega)
theorem SG_k (sg : SG σ none t) (tg : TG I t) (G : gw σ τ 0 3) : SG τ (some (h_n σ)) t := by
  obtain ⟨s1, s2, s3, s4, s5, s6, s7, s8, s9, s10⟩ := sg
  have rr : ∀ j, h_r τ 0 j = if j = 3 then some (h_n σ) else h_r σ 0 j := fun j => by rw [G.2.2.2.2.1]; rfl
  refine ⟨gw_8 (Or.inl rfl) G s1, gw_s G s2 (fun k t z rs e => Or.inl (by omega)), by rw [rr, if_pos rfl], by rw [rr, if_neg (by omega)]; exact s4, fun a e => ?_, fun b e => ?_, fun a b e1 e2 => ?_, by rw [G.1]; omega, ?_, ?_⟩
  · cases e
    exact ⟨G.2.2.2.2.2.1, by rw [G.1]; omega⟩
  · subst e
    have := TG_80 tg
    obtain ⟨g1, g2⟩ := s6 b rfl
    exact ⟨gw_s G g1 (fun k t z rs e => Or.inl (by omega)), by rw [G.1]; omega⟩
  · cases e1
    have := s6 b e2
    omega
  · rw [G.1]
    rw [if_pos rfl] at s9
    rw [if_neg (by simp)]
    omega
  · rw [G.2.1]
    rw [if_pos rfl] at s10
    rw [if_neg (by simp)]
    omega
theorem SG_t (sg : SG σ k none) (kg : KG I k) (G : gw σ τ 0 4) : SG τ k (some (h_n σ)) := by
  obtain ⟨s1, s2, s3, s4, s5, s6, s7, s8, s9, s10⟩ := sg
  have rr : ∀ j, h_r τ 0 j = if j = 4 then some (h_n σ) else h_r σ 0 j := fun j => by rw [G.2.2.2.2.1]; rfl
  refine ⟨gw_8 (Or.inr rfl) G s1, gw_s G s2 (fun k t z rs e => Or.inl (by omega)), by rw [rr, if_neg (by omega)]; exact s3, by rw [rr, if_pos rfl], fun b e => ?_, fun a e => ?_, fun b a e2 e1 => ?_, by rw [G.1]; omega, ?_, ?_⟩
  · subst e
    have := KG_80 kg
    obtain ⟨g1, g2⟩ := s5 b rfl
    exact ⟨gw_s G g1 (fun k t z rs e => Or.inl (by omega)), by rw [G.1]; omega⟩
  · cases e
    exact ⟨G.2.2.2.2.2.1, by rw [G.1]; omega⟩
  · cases e1
    have := s5 b e2
    omega
  · rw [G.1]
    rw [if_pos (show (none : Option Nat) = none from rfl)] at s9
    rw [if_neg (show ¬ some (h_n σ) = none by simp)]
    omega
  · rw [G.2.1]
    rw [if_pos (show (none : Option Nat) = none from rfl)] at s10
    rw [if_neg (show ¬ some (h_n σ) = none by simp)]
    omega
/-- a new world changes nothing that was there -/
theorem IG_gw {j : Nat} (sg : SG σ k t) (ig : IG (h_i σ) k t) (G : gw σ τ 0 j) : IG (h_i τ) k t := by
  obtain ⟨⟨s, h, r, p, F, L, T, w⟩, hk, ht⟩ := ig
  have e : ∀ a, a < h_n σ → h_i τ a = h_i σ a := fun a ha => (G.2.2.1 a ha).2.2
  have h8 := sg.2.2.2.2.2.2.2.1
  refine ⟨⟨s, h, r, p, F, L, T, WG_d w (fun a j h1 _ _ => by rw [e a (by omega)])⟩, KG_d hk (fun a ea x h1 h2 => e x (by have := (sg.2.2.2.2.1 a ea).2; omega)) (fun j => by rw [e 79 (by omega)]) (by rw [e 69 (by omega)]), TG_d ht (fun a ea x h1 h2 => e x (by have := (sg.2.2.2.2.2.1 a ea).2; omega))⟩
theorem CLn_p {a b : Nat} (hc : Cp a b PG I J) (h : CLn (b + 18) p F I) (hp : p ≤ 24) : CLn (a + 18) p F J := by
  have c0 : J (a + 18) 0 = I (b + 18) 0 := hc.1 18 0 (by omega) (Or.inl (Or.inr ⟨rfl, by omega⟩))
  have c1 : ∀ d i, 1 ≤ d → d ≤ 4 → i < p → J (a + 18 + d) i = I (b + 18 + d) i := fun d i h1 h2 h3 => by
    have := hc.1 (18 + d) i (by omega) (Or.inr ⟨by omega, by omega, by omega⟩)
    rw [← Nat.add_assoc, ← Nat.add_assoc] at this
    exact this
  refine ⟨by rw [c0]; exact h.1, fun i hi => ?_⟩
  rw [c1 1 i (by omega) (by omega) hi, c1 2 i (by omega) (by omega) hi, c1 3 i (by omega) (by omega) hi, c1 4 i (by omega) (by omega) hi]
  exact h.2 i hi
/-- an image is taken into the world at a -/
theorem IG_img {a : Nat} (w : WG I s h r p F L T) (ha : 80 ≤ a) (hc : Cp a 1 PG I J) (l1 : I (a + 14) 0 = nI 60) (l2 : I (a + 16) 0 = nI 100) (ht : TG I t) (hd : ∀ b, t = some b → a + 58 ≤ b ∨ b + 58 ≤ a) (k1 : ∀ x, x ≠ 69 → x ≠ 79 → K x = J x) (k2 : ∀ f, f ≠ 20 → K 69 f = J 69 f) (k3 : K 69 20 = 1) (k4 : ∀ j, j < 6010 → K 79 j = nI (s j)) (k5 : ∀ j, j < 120 → K 79 (6010 + j) = J 78 j) (k6 : K 79 6130 = J 69 18) : IG (M 69 K s) (some a) t := by
  have oJ : ∀ x, x < a ∨ a + 58 ≤ x → J x = I x := hc.2.2
  have o : ∀ x, x ≠ 69 → x ≠ 70 → x ≠ 79 → M 69 K s x = J x := fun x h1 h2 h3 => (M_oth h2).trans (k1 x h1 h3)
  have w' : WG (M 69 K s) s h r p F L T := WG_d w (fun x j h1 h2 h3 => by
    by_cases c : x = 70
    · rw [c, M_get]; exact (w.2.2.1 j).symm
    · by_cases d : x = 69
      · rw [d, M_oth (by omega), k2 j (by omega), oJ 69 (by omega)]
      · rw [o x d c (by omega), oJ x (by omega)])
  refine ⟨⟨s, h, r, p, F, L, T, w'⟩, ⟨ha, by rw [M_oth (by omega), k3]; decide, s, h, r, p, F, w.1, CC_c (cp_CC w.2.1 hc l1 l2) (fun x h1 h2 => o x (by omega) (by omega) (by omega)), fun j hj => by rw [M_oth (by omega)]; exact k4 j hj, ?_⟩, TG_d ht (fun b eb x h1 h2 => ?_)⟩
  · obtain ⟨p1, p2, p3, p4, p5, p6⟩ := w.2.2.2.2.2.2
    refine ⟨p1, p2, p3, CLn_c (CLn_p hc p4 p1) (by rw [o _ (by omega) (by omega) (by omega)]) (fun x j h1 h2 => by rw [o x (by omega) (by omega) (by omega)]), fun i hi => LR_s (p6 i hi) (fun d hd => ?_), ?_⟩
    · rw [M_oth (by omega), Nat.add_assoc, k5 _ (by omega), oJ 78 (by omega), Nat.zero_add]
    · rw [M_oth (by omega), k6, oJ 69 (by omega)]; exact p5
  · subst eb
    have := TG_80 ht
    have := hd b rfl
    rw [o x (by omega) (by omega) (by omega), oJ x (by omega)]
theorem lw_img1 : lw_s E Inv mX9_image mX10_image [.int (1 : Int32)] := fun σ ⟨k, t, sg, ig⟩ => by
  have h8 := sg.2.2.2.2.2.2.2.1
  cases k with
  | none =>
    obtain ⟨τ, G, hT⟩ := x_imageN (E := E) sg.1 sg.2.2.1 (x := 1) (by decide)
    obtain ⟨⟨s, h, r, p, F, L, T, w⟩, hk, ht⟩ := IG_gw sg ig G
    obtain ⟨J, cJ, hc⟩ := cp_all (a := h_n σ) (b := 1) (I := h_i τ) (n := 7000) (by omega) (by omega)
    have eJ : ∀ x, x < h_n σ → J x = h_i τ x := fun x hx => hc.2.2 x (by omega)
    obtain ⟨K, e, k1, k2, k3, k4, k5, k6⟩ := r_imgT (n := 7000) (q := 69) (I := J) (s := s) (x := 1) (by decide) (by rw [eJ 69 (by omega)]; exact w.2.2.2.1) (by omega)
    rw [← M_id (q := 69) (I := J) (fun j => by rw [eJ (69 + 1) (by omega)]; exact w.2.2.1 j)] at e
    have sg' := SG_k sg ht G
    obtain ⟨l1, l2⟩ := gw_lim G
    refine ⟨1, h_w τ J, h_w τ (M 69 K s), hT 7000 J cJ, tX10_image 7000 69 sg'.2.1 1 J _ e, ⟨some (h_n σ), t, sg', IG_img w h8 hc l1 l2 ht (fun b eb => by have := (sg.2.2.2.2.2.1 b eb).2; omega) k1 k2 k3 k4 k5 k6⟩, shp_n sg'.2.1 0 rfl, shp_t sg'.2.1 0 rfl⟩
  | some a =>
    obtain ⟨⟨s, h, r, p, F, L, T, w⟩, hk, ht⟩ := ig
    have ha := KG_80 hk
    obtain ⟨g1, g2⟩ := sg.2.2.2.2.1 a rfl
    obtain ⟨_, _, s2, h2, r2, p2, F2, _, hc2, _⟩ := id hk
    obtain ⟨l1, l2⟩ := CC_60 hc2
    obtain ⟨J, cJ, hc⟩ := cp_all (a := a) (b := 1) (I := h_i σ) (n := 7000) (by omega) (by omega)
    have eJ : ∀ x, x < 80 → J x = h_i σ x := fun x hx => hc.2.2 x (by omega)
    obtain ⟨K, e, k1, k2, k3, k4, k5, k6⟩ := r_imgT (n := 7000) (q := 69) (I := J) (s := s) (x := 1) (by decide) (by rw [eJ 69 (by omega)]; exact w.2.2.2.1) (by omega)
    rw [← M_id (q := 69) (I := J) (fun j => by rw [eJ (69 + 1) (by omega)]; exact w.2.2.1 j)] at e
    exact ⟨1, h_w σ J, h_w σ (M 69 K s), x_imageS (E := E) sg.1 sg.2.2.1 g1 (by decide) 7000 (h_i σ) J cJ, tX10_image (σ := σ) 7000 69 sg.2.1 1 J _ e, ⟨some a, t, sg, IG_img w ha hc l1 l2 ht (fun b eb => sg.2.2.2.2.2.2.1 a b rfl eb) k1 k2 k3 k4 k5 k6⟩, shp_n sg.2.1 0 rfl, shp_t sg.2.1 0 rfl⟩
theorem lw_img0 : lw_s E Inv mX9_image mX10_image [.int (0 : Int32)] := fun σ ⟨k, t, sg, ig⟩ => by
  have h8 := sg.2.2.2.2.2.2.2.1
  cases k with
  | none =>
    obtain ⟨⟨s, h, r, p, F, L, T, w⟩, hk, ht⟩ := id ig
    have e := r_img0 (n := 7000) (q := 69) (I := h_i σ) (s := s) w.2.2.2.1 hk
    rw [← M_id w.2.2.1] at e
    exact ⟨0, σ, σ, x_imageF0 (E := E) sg.1 sg.2.2.1 (h_i σ), tX10_image (σ := σ) 7000 69 sg.2.1 0 (h_i σ) _ e, ⟨none, t, sg, ig⟩, shp_n sg.2.1 0 rfl, shp_t sg.2.1 0 rfl⟩
  | some a =>
    obtain ⟨⟨s, h, r, p, F, L, T, w⟩, hk, ht⟩ := ig
    have ha := KG_80 hk
    obtain ⟨g1, g2⟩ := sg.2.2.2.2.1 a rfl
    obtain ⟨_, h20, s2, h2, r2, p2, F2, ok2, hc2, h79, q1, q2, q3, q4, q5, q6⟩ := id hk
    obtain ⟨l1, l2⟩ := CC_60 w.2.1
    obtain ⟨J, cJ, hc⟩ := cp_all (a := 1) (b := a) (I := h_i σ) (n := 7000) (by omega) (by omega)
    have eJ : ∀ x, 59 ≤ x → J x = h_i σ x := fun x hx => hc.2.2 x (by omega)
    obtain ⟨K, e, k1, k2, k3, k4, k5⟩ := r_imgF (n := 7000) (q := 69) (I := J) (s := s) (t := s2) (fun j hj => by rw [eJ _ (by omega)]; exact h79 j hj) (by rw [eJ 69 (by omega)]; exact w.2.2.2.1) (by rw [eJ 69 (by omega)]; exact h20) (by omega)
    rw [← M_id (q := 69) (I := J) (fun j => by rw [eJ (69 + 1) (by omega)]; exact w.2.2.1 j)] at e
    have ee : ∀ j, j < 6007 → (fun j => if j < 6010 then s2 j else s j) j = s2 j := fun j hj => if_pos (by omega)
    have o : ∀ x, x ≠ 69 → x ≠ 70 → x ≠ 78 → M 69 K (fun j => if j < 6010 then s2 j else s j) x = J x := fun x h1 h2 h3 => (M_oth h2).trans (k1 x h1 h3)
    have o69 : ∀ f, f ≠ 20 → f ≠ 18 → M 69 K (fun j => if j < 6010 then s2 j else s j) 69 f = h_i σ 69 f := fun f h1 h2 => by rw [M_oth (by omega), k2 f h1 h2, eJ 69 (by omega)]
    have cc : CC 1 J (fun j => if j < 6010 then s2 j else s j) h2 r2 := fun x j h1 h3 => by
      rw [C_c2 ee]
      exact cp_CC hc2 hc l1 l2 x j h1 h3
    obtain ⟨w1, w2, w3, w4, ⟨w5, w6, w7⟩, w8, p1, p2', p3, p4, p5, p6⟩ := w
    have ig2 : IG (M 69 K (fun j => if j < 6010 then s2 j else s j)) (some a) t := by
      refine ⟨⟨fun j => if j < 6010 then s2 j else s j, h2, r2, p2, F2, L, T, ⟨okS_b ok2.1 ee, okX_b ok2.1 ok2.2.1 ee, okR_b ok2.1 ok2.2.2 ee⟩, CC_c cc (fun x h1 h3 => o x (by omega) (by omega) (by omega)), fun j => M_get (q := 69), (o69 0 (by omega) (by omega)).trans w4, ⟨w5, ⟨?_, fun j hj => ?_⟩, ⟨(o69 8 (by omega) (by omega)).trans w7.1, fun j hj => ?_, fun j hj => ?_⟩⟩, ⟨?_, ?_⟩, q1, ?_, q3, CLn_c (CLn_p hc q4 q1) ?_ (fun x j h1 h3 => ?_), ?_, fun i hi => LR_s (q5 i hi) (fun d hd => ?_)⟩, ⟨ha, ?_, s2, h2, r2, p2, F2, ok2, CC_c hc2 (fun x h1 h3 => ?_), fun j hj => ?_, q1, q2, q3, CLn_c q4 ?_ (fun x j h1 h3 => ?_), ?_, ?_⟩, TG_d ht (fun b eb x h1 h3 => ?_)⟩
      · rw [o 59 (by omega) (by omega) (by omega), eJ 59 (by omega)]; exact w6.1
      · rw [o _ (by omega) (by omega) (by omega), eJ _ (by omega)]; exact w6.2 j hj
      · rw [o _ (by omega) (by omega) (by omega), eJ _ (by omega)]; exact w7.2.1 j hj
      · rw [o _ (by omega) (by omega) (by omega), eJ _ (by omega)]; exact w7.2.2 j hj
      · rw [o 59 (by omega) (by omega) (by omega), eJ 59 (by omega), o69 16 (by omega) (by omega)]; exact w8.1
      · rw [o 59 (by omega) (by omega) (by omega), eJ 59 (by omega), o69 17 (by omega) (by omega)]; exact w8.2
      · show (if 9 < 6010 then s2 9 else s 9) ≤ p2
        rw [if_pos (by omega)]; exact q2
      · rw [o _ (by omega) (by omega) (by omega)]
      · rw [o x (by omega) (by omega) (by omega)]
      · rw [M_oth (by omega), k5, eJ _ (by omega)]; exact q6
      · rw [M_oth (show (78 : Nat) ≠ 69 + 1 by omega), Nat.zero_add]
        have q := k4 (5 * i + d) (by omega)
        rw [eJ (69 + 10) (by omega), ← Nat.add_assoc] at q
        exact q
      · rw [M_oth (by omega), k3]; decide
      · rw [o x (by omega) (by omega) (by omega), eJ x (by omega)]
      · rw [o 79 (by omega) (by omega) (by omega), eJ 79 (by omega)]; exact h79 j hj
      · rw [o _ (by omega) (by omega) (by omega), eJ _ (by omega)]
      · rw [o x (by omega) (by omega) (by omega), eJ x (by omega)]
      · rw [o 79 (by omega) (by omega) (by omega), eJ 79 (by omega)]; exact q5
      · rw [o 79 (by omega) (by omega) (by omega), eJ 79 (by omega)]; exact q6
      · subst eb
        have := TG_80 ht
        rw [o x (by omega) (by omega) (by omega), eJ x (by omega)]
    exact ⟨1, h_w σ J, h_w σ (M 69 K (fun j => if j < 6010 then s2 j else s j)), x_imageF1 (E := E) sg.1 sg.2.2.1 g1 7000 (h_i σ) J cJ, tX10_image (σ := σ) 7000 69 sg.2.1 0 J _ e, ⟨some a, t, sg, ig2⟩, shp_n sg.2.1 0 rfl, shp_t sg.2.1 0 rfl⟩
/-- a world is thought -/
theorem imag (sg : SG σ k t) (w : WG (h_i σ) s h r p F L T) (hk : KG (h_i σ) k) (ht : TG (h_i σ) t) : ∃ (τ : ev_H) (a : Nat) (J : ev_I), ev_T E mX9_imagine [.ref 0] σ (some (.ref a), h_w τ J) ∧ SG τ k (some a) ∧ 80 ≤ a ∧ WG J s h r p F L T ∧ KG J k ∧ CC a J s h r := by
  have h8 := sg.2.2.2.2.2.2.2.1
  cases t with
  | none =>
    obtain ⟨τ, G, hT⟩ := x_imagineN (E := E) sg.1 sg.2.2.2.1
    have e : ∀ a, a < h_n σ → h_i τ a = h_i σ a := fun a ha => (G.2.2.1 a ha).2.2
    have w' : WG (h_i τ) s h r p F L T := WG_d w (fun a j h1 _ _ => by rw [e a (by omega)])
    obtain ⟨J, cJ, hc⟩ := cp_all (a := h_n σ) (b := 1) (I := h_i τ) (n := 7000) (by omega) (by omega)
    have eJ : ∀ x, x < h_n σ → J x = h_i σ x := fun x hx => (hc.2.2 x (by omega)).trans (e x hx)
    obtain ⟨l1, l2⟩ := gw_lim G
    exact ⟨τ, h_n σ, J, hT 7000 J cJ, SG_t sg hk G, h8, WG_d w (fun a j h1 _ _ => by rw [eJ a (by omega)]), KG_d hk (fun a ea x h1 h2 => eJ x (by have := (sg.2.2.2.2.1 a ea).2; omega)) (fun j => by rw [eJ 79 (by omega)]) (by rw [eJ 69 (by omega)]), cp_CC w'.2.1 hc l1 l2⟩
  | some a =>
    have ha := TG_80 ht
    obtain ⟨g1, g2⟩ := sg.2.2.2.2.2.1 a rfl
    obtain ⟨J, cJ, hc⟩ := cp_all (a := a) (b := 1) (I := h_i σ) (n := 7000) (by omega) (by omega)
    have eJ : ∀ x, x < a ∨ a + 58 ≤ x → J x = h_i σ x := fun x hx => hc.2.2 x (by omega)
    refine ⟨σ, a, J, x_imagineS (E := E) sg.1 sg.2.2.2.1 g1 7000 (h_i σ) J cJ, sg, ha, WG_d w (fun x j h1 _ _ => by rw [eJ x (by omega)]), KG_d hk (fun b eb x h1 h2 => eJ x (by have := sg.2.2.2.2.2.2.1 b a eb rfl; omega)) (fun j => by rw [eJ 79 (by omega)]) (by rw [eJ 69 (by omega)]), cp_CC w.2.1 hc ht.2.1 ht.2.2⟩
theorem IG_so {a : Nat} {I1 J2 : ev_I} (ha : 80 ≤ a) (w : WG J s h r p F L T) (hk : KG J k) (hd : ∀ b, k = some b → b + 58 ≤ a ∨ a + 58 ≤ b) (e : ∀ x, x < a ∨ a + 58 ≤ x → I1 x = J x) (l : I1 (a + 14) 0 = nI 60 ∧ I1 (a + 16) 0 = nI 100) (hJ : Sc 69 I1 J2) : IG (M 69 J2 s) k (some a) := by
  have o : ∀ x, x ≠ 70 → ¬ (71 ≤ x ∧ x ≤ 75) → M 69 J2 s x = I1 x := fun x h1 h2 => by
    funext j
    rw [M_oth h1]
    exact hJ x j (by omega)
  refine ⟨⟨s, h, r, p, F, L, T, WG_d w (fun x j h1 h2 h3 => ?_)⟩, KG_d hk (fun b eb x h1 h2 => ?_) (fun j => ?_) ?_, ⟨ha, ?_, ?_⟩⟩
  · by_cases c : x = 70
    · rw [c, show (70 : Nat) = 69 + 1 from rfl, M_get]; exact (w.2.2.1 j).symm
    · rw [o x c h2, e x (by omega)]
  · subst eb
    have := KG_80 hk
    have := hd b rfl
    rw [o x (by omega) (by omega), e x (by omega)]
  · rw [o 79 (by omega) (by omega), e 79 (by omega)]
  · rw [o 69 (by omega) (by omega), e 69 (by omega)]
  · rw [o _ (by omega) (by omega)]; exact l.1
  · rw [o _ (by omega) (by omega)]; exact l.2
theorem lw_soon : lw_s E Inv mX9_soon mX10_soon [] := fun σ ⟨k, t, sg, ig⟩ => by
  obtain ⟨⟨s, h, r, p, F, L, T, w⟩, hk, ht⟩ := ig
  obtain ⟨τ, a, J, hT, sg', ha, w', hk', hc⟩ := imag (E := E) sg w hk ht
  obtain ⟨h', r', t', e⟩ := c_soon (n := 7000) (w := a) (I := J) w.1.1 w.1.2.2 (by omega)
  rw [← CC_e hc] at e
  have e1 : ∀ x, x < a ∨ a + 58 ≤ x → C a J t' h' r' x = J x := fun x hx => funext fun j => C_out hx
  obtain ⟨J2, e2, hJ⟩ := r_soon (n := 7000) (q := 69) (I := C a J t' h' r') w.1.1 (by rw [e1 69 (by omega)]; exact w'.2.2.2.1) (by omega)
  rw [← M_id (q := 69) (I := C a J t' h' r') (fun j => by rw [e1 (69 + 1) (by omega)]; exact w'.2.2.1 j)] at e2
  exact ⟨_, h_w τ (C a J t' h' r'), h_w τ (M 69 J2 s), x_soon (E := E) sg.1 hT (sg'.2.2.2.2.2.1 a rfl).1 7000 _ e, tX10_soon (σ := τ) 7000 69 sg'.2.1 _ _ e2, ⟨k, some a, sg', IG_so ha w' hk' (fun b eb => sg'.2.2.2.2.2.2.1 b a eb rfl) e1 (CC_60 CC_C) hJ⟩, shp_n sg'.2.1 0 rfl, shp_t sg'.2.1 0 rfl⟩
theorem src_md : ∀ i, i < 7 → src (23 + 5 * i) 0 = some (2416 + 513 * i) ∧ vl (23 + 5 * i) 0 1 = 1 := by decide +kernel
theorem lw_without {x : Int32} : lw_s E Inv mX9_without mX10_without [.int x] := fun σ ⟨k, t, sg, ig⟩ => by
  obtain ⟨⟨s, h, r, p, F, L, T, w⟩, hk, ht⟩ := id ig
  have h0 := w.1.1.2.2.1.1
  have h4 := w.1.1.2.2.1.2.2.1
  have hn := c_node (n := 7000) (w := 0 + 1) (I := h_i σ) (s := s) (h := h) (r := r) (x := x)
  rw [← CC_e w.2.1] at hn
  by_cases c : gd x (s 0 + 4) = true
  · obtain ⟨i, hi, rfl⟩ := gd_e c (by omega)
    rw [c] at hn
    obtain ⟨τ, a, J, hT, sg', ha, w', hk', hc⟩ := imag (E := E) sg w hk ht
    have hu : okS (up s (2416 + 513 * i) 1) := ok_nd w.1.1 (d := 0) (k := i) (by omega) (by omega)
    have hur : okR (up s (2416 + 513 * i) 1) h r := okR_c w.1.2.2 h4 (up_o (by omega)) (up_o (by omega)) (fun j _ _ => up_o (by omega))
    obtain ⟨h', r', t', e⟩ := c_soon (n := 7000) (w := a) (I := J) hu hur (by omega)
    have eu : ev_u2 J (a + (23 + 5 * (nI i).toNatClampNeg)) 0 1 = C a J (up s (2416 + 513 * i) 1) h r := by
      rw [nI_clamp (by omega)]
      have q := C_put (w := a) (I := J) (s := s) (h := h) (r := r) (o := 23 + 5 * i) (j := 0) (k := 2416 + 513 * i) (v := 1) (x := 1) (by omega) (src_md i (by omega)).1 (by omega) (src_md i (by omega)).2
      rw [← CC_e hc] at q
      exact q
    rw [← eu] at e
    have e1 : ∀ x, x < a ∨ a + 58 ≤ x → C a J t' h' r' x = J x := fun x hx => funext fun j => C_out hx
    obtain ⟨J2, e2, hJ⟩ := r_without (n := 7000) (q := 69) (I := C a J t' h' r') (k := i) w.1.1 hi (by rw [e1 69 (by omega)]; exact w'.2.2.2.1) (by omega)
    rw [← M_id (q := 69) (I := C a J t' h' r') (fun j => by rw [e1 (69 + 1) (by omega)]; exact w'.2.2.1 j)] at e2
    exact ⟨_, h_w τ (C a J t' h' r'), h_w τ (M 69 J2 s), x_withoutT (E := E) sg.1 7000 (nI i) (h_i σ) hn hT (sg'.2.2.2.2.2.1 a rfl).1 (ev_inN (by omega) (by omega)) _ e, tX10_without (σ := τ) 7000 69 sg'.2.1 _ _ _ e2, ⟨k, some a, sg', IG_so ha w' hk' (fun b eb => sg'.2.2.2.2.2.2.1 b a eb rfl) e1 (CC_60 CC_C) hJ⟩, shp_n sg'.2.1 0 rfl, shp_t sg'.2.1 0 rfl⟩
  · rw [Bool.eq_false_iff.mpr c] at hn
    have e := r_withoutN (n := 7000) (q := 69) (I := h_i σ) c w.2.2.2.1
    rw [← M_id w.2.2.1] at e
    exact ⟨-1, σ, σ, x_withoutF (E := E) sg.1 7000 x (h_i σ) hn, tX10_without (σ := σ) 7000 69 sg.2.1 x (h_i σ) _ e, ⟨k, t, sg, ig⟩, shp_n sg.2.1 0 rfl, shp_t sg.2.1 0 rfl⟩
end Wd
