/-! THE INVARIANT, and the calls that make no world -/
def SG (σ : ev_H) (k t : Option Nat) : Prop := shp tb8 σ 0 ∧ shp tb9 σ 69 ∧ h_r σ 0 3 = k ∧ h_r σ 0 4 = t ∧ (∀ a, k = some a → shp tb7 σ a ∧ a + 58 ≤ h_n σ) ∧ (∀ a, t = some a → shp tb7 σ a ∧ a + 58 ≤ h_n σ) ∧ (∀ a b, k = some a → t = some b → a + 58 ≤ b ∨ b + 58 ≤ a) ∧ 80 ≤ h_n σ ∧ h_n σ ≤ 80 + (if k = none then 0 else 58) + (if t = none then 0 else 58) ∧ h_s σ ≤ 26071 + (if k = none then 0 else 5559) + (if t = none then 0 else 5559)
def KG (I : ev_I) : Option Nat → Prop
  | none => I 69 20 = 0
  | some a => 80 ≤ a ∧ ¬ I 69 20 = 0 ∧ ∃ s h r p F, (okS s ∧ okX s ∧ okR s h r) ∧ CC a I s h r ∧ (∀ j, j < 6010 → I 79 j = nI (s j)) ∧ (p ≤ 24 ∧ s 9 ≤ p ∧ (∀ i, i < p → okLn (F i)) ∧ CLn (a + 18) p F I ∧ RLn 6010 p F (I 79) ∧ I 79 6130 = nI p)
def TG (I : ev_I) : Option Nat → Prop
  | none => True
  | some b => 80 ≤ b ∧ I (b + 14) 0 = nI 60 ∧ I (b + 16) 0 = nI 100
def WG (I : ev_I) (s : Nat → Nat) (h : Nat) (r : Nat → Int32) (p : Nat) (F : Nat → Nat × Nat × Nat × Nat) (L : Nat) (T : Nat → Nat) : Prop := (okS s ∧ okX s ∧ okR s h r) ∧ CC 1 I s h r ∧ (∀ j, I 70 j = nI (s j)) ∧ I 69 0 = 0 ∧ (okT L T ∧ TpC 59 L T I ∧ TpR 69 L T I) ∧ (I 59 2 = I 69 16 ∧ I 59 3 = I 69 17) ∧ (p ≤ 24 ∧ s 9 ≤ p ∧ (∀ i, i < p → okLn (F i)) ∧ CLn 19 p F I ∧ I 69 18 = nI p ∧ RLn 0 p F (I 78))
def IG (I : ev_I) (k t : Option Nat) : Prop := (∃ s h r p F L T, WG I s h r p F L T) ∧ KG I k ∧ TG I t
def Inv (σ : ev_H) : Prop := ∃ k t, SG σ k t ∧ IG (h_i σ) k t
theorem inv_0 : lw_0 Inv := fun σ ⟨k, t, sg, _⟩ => ⟨shp_n sg.1 0 rfl, shp_t sg.1 0 rfl⟩
theorem inv_B (τ : ev_H) (h : Inv τ) : h_n τ ≤ 125830 ∧ h_s τ ≤ 8724760 := by
  obtain ⟨k, t, sg, _⟩ := h
  obtain ⟨_, _, _, _, _, _, _, _, h1, h2⟩ := sg
  cases k <;> cases t <;> simp at h1 h2 <;> omega
theorem CLn_c {w p : Nat} {F : Nat → Nat × Nat × Nat × Nat} {I J : ev_I} (h : CLn w p F I) (e0 : J w 0 = I w 0) (e : ∀ a j, w + 1 ≤ a → a ≤ w + 4 → J a j = I a j) : CLn w p F J := ⟨by rw [e0]; exact h.1, fun i hi => by
  rw [e (w + 1) i (by omega) (by omega), e (w + 2) i (by omega) (by omega), e (w + 3) i (by omega) (by omega), e (w + 4) i (by omega) (by omega)]
  exact h.2 i hi⟩
theorem KG_c {I J : ev_I} {k : Option Nat} (h : KG I k) (e : ∀ a, 80 ≤ a → J a = I a) (e79 : J 79 = I 79) (e20 : J 69 20 = I 69 20) : KG J k := by
  cases k with
  | none => exact e20.trans h
  | some a =>
    obtain ⟨ha, h20, s, hh, r, p, F, ok, hc, h79, p1, p2, p3, p4, p5, p6⟩ := h
    refine ⟨ha, by rw [e20]; exact h20, s, hh, r, p, F, ok, CC_c hc (fun x h1 _ => e x (by omega)), by rw [e79]; exact h79, p1, p2, p3, CLn_c p4 (by rw [e _ (by omega)]) (fun x j h1 _ => by rw [e x (by omega)]), by rw [e79]; exact p5, by rw [e79]; exact p6⟩
theorem TG_c {I J : ev_I} {t : Option Nat} (h : TG I t) (e : ∀ a, 80 ≤ a → J a = I a) : TG J t := by
  cases t with
  | none => trivial
  | some b => exact ⟨h.1, by rw [e _ (by have := h.1; omega)]; exact h.2.1, by rw [e _ (by have := h.1; omega)]; exact h.2.2⟩
theorem lw_of {E : ev_N} {Y Z : ev_M} {As : List Value} (H : ∀ I k t, IG I k t → ∃ ans I1 I2, (∀ σ, shp tb8 σ 0 → ev_T E Y (.ref 0 :: As) (h_w σ I) (some (.int ans), h_w σ I1)) ∧ (∀ σ, shp tb9 σ 69 → ev_T E Z (.ref 69 :: As) (h_w σ I1) (some (.int ans), h_w σ I2)) ∧ IG I2 k t) : lw_s E Inv Y Z As := fun σ ⟨k, t, sg, ig⟩ => by
  obtain ⟨ans, I1, I2, h1, h2, h3⟩ := H (h_i σ) k t ig
  exact ⟨ans, h_w σ I1, h_w σ I2, h1 σ sg.1, h2 σ sg.2.1, ⟨k, t, sg, h3⟩, shp_n sg.2.1 0 rfl, shp_t sg.2.1 0 rfl⟩
theorem M_id {q : Nat} {I : ev_I} {s : Nat → Nat} (e : ∀ j, I (q + 1) j = nI (s j)) : I = M q I s := by
  funext a j
  by_cases c : a = q + 1
  · rw [c, M_get]; exact e j
  · rw [M_oth c]
theorem WG_c {I J : ev_I} {s s' : Nat → Nat} {h h' : Nat} {r r' : Nat → Int32} {p : Nat} {F : Nat → Nat × Nat × Nat × Nat} {L : Nat} {T : Nat → Nat} (w : WG I s h r p F L T) (ok : okS s' ∧ okX s' ∧ okR s' h' r') (h9 : s' 9 ≤ p) (hc : CC 1 J s' h' r') (h70 : ∀ j, J 70 j = nI (s' j)) (e : ∀ a, (a = 59 ∨ a = 60) ∨ a = 69 ∨ (76 ≤ a ∧ a ≤ 79) → J a = I a) (e19 : J 19 0 = I 19 0) (e20 : ∀ a j, 20 ≤ a → a ≤ 23 → J a j = I a j) : WG J s' h' r' p F L T := by
  obtain ⟨w1, w2, w3, w4, ⟨w5, w6, w7⟩, w8, p1, p2, p3, p4, p5, p6⟩ := w
  have e59 := e 59 (by omega)
  have e60 := e 60 (by omega)
  have e69 := e 69 (by omega)
  have e76 := e 76 (by omega)
  have e77 := e 77 (by omega)
  have e78 := e 78 (by omega)
  refine ⟨ok, hc, h70, by rw [e69]; exact w4, ⟨w5, ⟨by rw [e59]; exact w6.1, fun j hj => ?_⟩, ⟨by rw [e69]; exact w7.1, fun j hj => ?_, fun j hj => ?_⟩⟩, by rw [e59, e69]; exact w8, p1, h9, p3, CLn_c p4 e19 (fun a j h1 h2 => e20 a j h1 h2), by rw [e69]; exact p5, by rw [e78]; exact p6⟩
  · show J 60 j = _
    rw [e60]; exact w6.2 j hj
  · show J 76 j = _
    rw [e76]; exact w7.2.1 j hj
  · show J 77 j = _
    rw [e77]; exact w7.2.2 j hj
theorem C_pl1 {I : ev_I} {s : Nat → Nat} {h : Nat} {r : Nat → Int32} {a j : Nat} (h1 : 20 ≤ a) (h2 : a ≤ 23) : C 1 I s h r a j = I a j := by
  have := C_pl (w := 1) (I := I) (s := s) (h := h) (r := r) (i := a - 19) (j := j) (by omega)
  rw [show 1 + 18 + (a - 19) = a by omega] at this
  exact this
theorem C_o1 {I : ev_I} {s : Nat → Nat} {h : Nat} {r : Nat → Int32} {a : Nat} (h1 : 59 ≤ a) : C 1 I s h r a = I a := by
  funext j
  exact C_out (by omega)
/-- after both sides: from the class's memory I1 and the reference's last -/
theorem IG_2 {I I1 J : ev_I} {s s' : Nat → Nat} {h h' : Nat} {r r' : Nat → Int32} {p : Nat} {F : Nat → Nat × Nat × Nat × Nat} {L : Nat} {T : Nat → Nat} {k t : Option Nat} (w : WG I s h r p F L T) (hk : KG I k) (ht : TG I t) (ok : okS s' ∧ okX s' ∧ okR s' h' r') (h9 : s' 9 ≤ p) (hc : CC 1 I1 s' h' r') (eo : ∀ a, (a = 59 ∨ a = 60) ∨ 69 ≤ a → I1 a = I a) (e19 : I1 19 0 = I 19 0) (e20 : ∀ a j, 20 ≤ a → a ≤ 23 → I1 a j = I a j) (hJ : Sc 69 I1 J) : IG (M 69 J s') k t := by
  have o : ∀ a, a ≠ 70 → ¬ (71 ≤ a ∧ a ≤ 75) → M 69 J s' a = I1 a := fun a h1 h2 => by
    funext j
    rw [M_oth h1]
    exact hJ a j (by omega)
  refine ⟨⟨s', h', r', p, F, L, T, WG_c w ok h9 (CC_c hc (fun x h1 h2 => o x (by omega) (by omega))) (fun j => M_get) (fun a ha => by rw [o a (by omega) (by omega)]; exact eo a (by omega)) (by rw [o 19 (by omega) (by omega)]; exact e19) (fun a j h1 h2 => by rw [o a (by omega) (by omega)]; exact e20 a j h1 h2)⟩, KG_c hk (fun a ha => by rw [o a (by omega) (by omega)]; exact eo a (by omega)) (by rw [o 79 (by omega) (by omega)]; exact eo 79 (by omega)) (by rw [o 69 (by omega) (by omega), eo 69 (by omega)]), TG_c ht (fun a ha => by rw [o a (by omega) (by omega)]; exact eo a (by omega))⟩
section Lw
variable {E : ev_N} {Y Z : ev_M} {As : List Value}
theorem lw_pa {f g : Nat → ev_I → Option (Int32 × ev_I)} (H : ∀ s h r, okS s → okR s h r → PAt f g s h r) (tf : ∀ σ I o, shp tb8 σ 0 → f 0 I = some o → ev_T E Y (.ref 0 :: As) (h_w σ I) (some (.int o.1), h_w σ o.2)) (tg : ∀ σ I o, shp tb9 σ 69 → g 69 I = some o → ev_T E Z (.ref 69 :: As) (h_w σ I) (some (.int o.1), h_w σ o.2)) : lw_s E Inv Y Z As := lw_of fun I k t ⟨⟨s, h, r, p, F, L, T, w⟩, hk, ht⟩ => by
  obtain ⟨ans, s', ⟨o1, o2⟩, h9, hc, hg⟩ := H s h r w.1.1 w.1.2.2
  obtain ⟨h', r', e, hr'⟩ := hc I 0
  rw [← CC_e w.2.1] at e
  have e70 : ∀ j, C 1 I s' h' r' 70 j = nI (s j) := fun j => by rw [C_o1 (by omega)]; exact w.2.2.1 j
  obtain ⟨J, e2, hJ⟩ := hg (C 1 I s' h' r') 69 (by rw [C_o1 (by omega)]; exact w.2.2.2.1)
  rw [← M_id e70] at e2
  exact ⟨ans, C 1 I s' h' r', M 69 J s', fun σ gs => tf σ I _ gs e, fun σ gs => tg σ _ _ gs e2, IG_2 w hk ht ⟨o1, o2 w.1.2.1, hr'⟩ (by rw [h9]; exact w.2.2.2.2.2.2.2.1) CC_C (fun a ha => C_o1 (by omega)) C_180 (fun a j h1 h2 => C_pl1 h1 h2) hJ⟩
theorem lw_pq {f : Nat → ev_I → Option Int32} {g : Nat → ev_I → Option (Int32 × ev_I)} (H : ∀ s h r, okS s → okX s → okR s h r → PQt f g s h r) (tf : ∀ σ I o, shp tb8 σ 0 → f 0 I = some o → ev_T E Y (.ref 0 :: As) (h_w σ I) (some (.int o), h_w σ I)) (tg : ∀ σ I o, shp tb9 σ 69 → g 69 I = some o → ev_T E Z (.ref 69 :: As) (h_w σ I) (some (.int o.1), h_w σ o.2)) : lw_s E Inv Y Z As := lw_of fun I k t ⟨⟨s, h, r, p, F, L, T, w⟩, hk, ht⟩ => by
  obtain ⟨ans, hc, hg⟩ := H s h r w.1.1 w.1.2.1 w.1.2.2
  have e := hc I 0
  rw [← CC_e w.2.1] at e
  obtain ⟨J, e2, hJ⟩ := hg I 69 w.2.2.2.1
  rw [← M_id w.2.2.1] at e2
  exact ⟨ans, I, M 69 J s, fun σ gs => tf σ I _ gs e, fun σ gs => tg σ _ _ gs e2, IG_2 w hk ht w.1 w.2.2.2.2.2.2.2.1 w.2.1 (fun a ha => rfl) rfl (fun a j h1 h2 => rfl) hJ⟩
theorem lw_pl {f g : Nat → ev_I → Option (Int32 × ev_I)} (H : ∀ s h r, okS s → PLt f g s h r) (tf : ∀ σ I o, shp tb8 σ 0 → f 0 I = some o → ev_T E Y (.ref 0 :: As) (h_w σ I) (some (.int o.1), h_w σ o.2)) (tg : ∀ σ I o, shp tb9 σ 69 → g 69 I = some o → ev_T E Z (.ref 69 :: As) (h_w σ I) (some (.int o.1), h_w σ o.2)) : lw_s E Inv Y Z As := lw_of fun I k t ⟨⟨s, h, r, p, F, L, T, w⟩, hk, ht⟩ => by
  obtain ⟨ans, hc, hg⟩ := H s h r w.1.1
  obtain ⟨I', e, hI'⟩ := hc I 0
  rw [← CC_e w.2.1] at e
  have o : ∀ a, 59 ≤ a → a ≠ 67 → a ≠ 68 → C 1 I' s h r a = I a := fun a h1 h2 h3 => by rw [C_o1 h1]; exact hI' a (by omega) (by omega)
  obtain ⟨J, e2, hJ⟩ := hg (C 1 I' s h r) 69 (by rw [o 69 (by omega) (by omega) (by omega)]; exact w.2.2.2.1)
  rw [← M_id (q := 69) (I := C 1 I' s h r) (fun j => by rw [o (69 + 1) (by omega) (by omega) (by omega)]; exact w.2.2.1 j)] at e2
  exact ⟨ans, C 1 I' s h r, M 69 J s, fun σ gs => tf σ I _ gs e, fun σ gs => tg σ _ _ gs e2, IG_2 w hk ht w.1 w.2.2.2.2.2.2.2.1 CC_C (fun a ha => o a (by omega) (by omega) (by omega)) (by rw [show C 1 I' s h r 19 0 = I' 19 0 from C_180, hI' 19 (by omega) (by omega)]) (fun a j h1 h2 => by rw [C_pl1 h1 h2, hI' a (by omega) (by omega)]) hJ⟩
theorem lw_run {x : Int32} : lw_s E Inv mX9_run mX10_run [.int x] := lw_of fun I k t ⟨⟨s, h, r, p, F, L, T, w⟩, hk, ht⟩ => by
  obtain ⟨p1, p2, p3, p4, p5, p6⟩ := w.2.2.2.2.2.2
  obtain ⟨ans, s', h', r', a1, a2, a3, a4, e, hg⟩ := pr_run (n := 7100) (z := 0) (x := x) w.1.1 w.1.2.1 w.1.2.2 p1 p2 p3 p4 (by omega)
  rw [← CC_e w.2.1] at e
  have e70 : ∀ j, C 1 I s' h' r' 70 j = nI (s j) := fun j => by rw [C_o1 (by omega)]; exact w.2.2.1 j
  obtain ⟨J, e2, hJ⟩ := hg 69 (C 1 I s' h' r') (by rw [C_o1 (by omega)]; exact p6) (by rw [C_o1 (by omega)]; exact p5) (by rw [C_o1 (by omega)]; exact w.2.2.2.1)
  rw [← M_id e70] at e2
  exact ⟨ans, C 1 I s' h' r', M 69 J s', fun σ gs => tX9_run 7100 0 gs x I _ e, fun σ gs => tX10_run 7100 69 gs x _ _ e2, IG_2 w hk ht ⟨a1, a2, a3⟩ a4 CC_C (fun a ha => C_o1 (by omega)) C_180 (fun a j h1 h2 => C_pl1 h1 h2) hJ⟩
theorem lw_look {x : Int32} : lw_s E Inv mX9_look mX10_look [.int x] := by
  by_cases c : x = (9 : Int32)
  · subst c
    refine lw_of fun I k t ⟨⟨s, h, r, p, F, L, T, w⟩, hk, ht⟩ => ?_
    obtain ⟨p1, p2, p3, p4, p5, p6⟩ := w.2.2.2.2.2.2
    obtain ⟨e1, e2⟩ := look9 (n := 7000) (z := 0) (q := 69) (s := s) (h := h) (r := r) (I := I) (J := I) p4.1 p5 w.2.2.2.1
    rw [← CC_e w.2.1] at e1
    rw [← M_id w.2.2.1] at e2
    exact ⟨nI p, I, I, fun σ gs => tX9_look 7000 0 gs _ I _ e1, fun σ gs => tX10_look 7000 69 gs _ I _ e2, ⟨⟨s, h, r, p, F, L, T, w⟩, hk, ht⟩⟩
  · exact lw_pq (fun s h r hs hx hr => pq_look (n := 7000) hs c (by omega)) (fun σ I o gs e => tX9_look 7000 0 gs x I o e) (fun σ I o gs e => tX10_look 7000 69 gs x I o e)
end Lw
