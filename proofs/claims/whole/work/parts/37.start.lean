/-! FROM THE LAW'S ENTRY: everything but 'each pair of calls answers alike' -/
abbrev gvL : List Cond := flatC (Jvm.Cond.and given_1 narrow_1)
def tmS (i : Nat) : Term := .string "ChainVotes$Tape" (ev_tx.getD i (0, "", 0)).1
theorem gv1 : ∀ i, i < 19 → Cond.exactly (tmS i) "java/lang/String" ∈ gvL := by decide +kernel
theorem gv2 : ∀ i, i < 19 → Cond.eq (.field (tmS i) "java/lang/String" "coder" "B") (.int 0) ∈ gvL := by decide +kernel
theorem gv3 : ∀ i, i < 19 → Cond.arrayOf (.field (tmS i) "java/lang/String" "value" "[B") .byte ∈ gvL := by decide +kernel
theorem gv4 : ∀ i, i < 19 → Cond.eq (.length (.field (tmS i) "java/lang/String" "value" "[B")) (.int (Int32.ofNat (ev_ln.getD i 0))) ∈ gvL := by decide +kernel
theorem gv5 : ∀ i, i < 19 → ∀ j, j < ev_ln.getD i 0 → Cond.eq (.elem (.field (tmS i) "java/lang/String" "value" "[B") (.int (Int32.ofNat j))) (.int ((ev_by.getD i []).getD j 0)) ∈ gvL := by decide +kernel
def gvP : List (Nat × Nat × Nat) := [(31, 0, 1), (40, 0, 2), (41, 1, 2), (50, 0, 3), (51, 1, 3), (52, 2, 3), (61, 0, 4), (62, 1, 4), (63, 2, 4), (64, 3, 4), (76, 0, 5), (77, 1, 5), (78, 2, 5), (79, 3, 5), (80, 4, 5), (89, 0, 6), (90, 1, 6), (91, 2, 6), (92, 3, 6), (93, 4, 6), (94, 5, 6), (102, 0, 7), (103, 1, 7), (104, 2, 7), (105, 3, 7), (106, 4, 7), (107, 5, 7), (108, 6, 7), (117, 0, 8), (118, 1, 8), (119, 2, 8), (120, 3, 8), (121, 4, 8), (122, 5, 8), (123, 6, 8), (124, 7, 8), (134, 0, 9), (135, 1, 9), (136, 2, 9), (137, 3, 9), (138, 4, 9), (139, 5, 9), (140, 6, 9), (141, 7, 9), (142, 8, 9), (147, 0, 10), (148, 1, 10), (149, 2, 10), (150, 3, 10), (151, 4, 10), (152, 5, 10), (153, 6, 10), (154, 7, 10), (155, 8, 10), (156, 9, 10), (163, 0, 11), (164, 1, 11), (165, 2, 11), (166, 3, 11), (167, 4, 11), (168, 5, 11), (169, 6, 11), (170, 7, 11), (171, 8, 11), (172, 9, 11), (173, 10, 11), (179, 0, 12), (180, 1, 12), (181, 2, 12), (182, 3, 12), (183, 4, 12), (184, 5, 12), (185, 6, 12), (186, 7, 12), (187, 8, 12), (188, 9, 12), (189, 10, 12), (190, 11, 12), (196, 0, 13), (197, 1, 13), (198, 2, 13), (199, 3, 13), (200, 4, 13), (201, 5, 13), (202, 6, 13), (203, 7, 13), (204, 8, 13), (205, 9, 13), (206, 10, 13), (207, 11, 13), (208, 12, 13), (214, 0, 14), (215, 1, 14), (216, 2, 14), (217, 3, 14), (218, 4, 14), (219, 5, 14), (220, 6, 14), (221, 7, 14), (222, 8, 14), (223, 9, 14), (224, 10, 14), (225, 11, 14), (226, 12, 14), (227, 13, 14), (233, 0, 15), (234, 1, 15), (235, 2, 15), (236, 3, 15), (237, 4, 15), (238, 5, 15), (239, 6, 15), (240, 7, 15), (241, 8, 15), (242, 9, 15), (243, 10, 15), (244, 11, 15), (245, 12, 15), (246, 13, 15), (247, 14, 15), (254, 0, 16), (255, 1, 16), (256, 2, 16), (257, 3, 16), (258, 4, 16), (259, 5, 16), (260, 6, 16), (261, 7, 16), (262, 8, 16), (263, 9, 16), (264, 10, 16), (265, 11, 16), (266, 12, 16), (267, 13, 16), (268, 14, 16), (269, 15, 16), (277, 0, 17), (278, 1, 17), (279, 2, 17), (280, 3, 17), (281, 4, 17), (282, 5, 17), (283, 6, 17), (284, 7, 17), (285, 8, 17), (286, 9, 17), (287, 10, 17), (288, 11, 17), (289, 12, 17), (290, 13, 17), (291, 14, 17), (292, 15, 17), (293, 16, 17), (300, 0, 18), (301, 1, 18), (302, 2, 18), (303, 3, 18), (304, 4, 18), (305, 5, 18), (306, 6, 18), (307, 7, 18), (308, 8, 18), (309, 9, 18), (310, 10, 18), (311, 11, 18), (312, 12, 18), (313, 13, 18), (314, 14, 18), (315, 15, 18), (316, 16, 18), (317, 17, 18)]
theorem gv6a : gvP.all (fun q => decide (gvL[q.1]? = some (Cond.not (Cond.eq (tmS q.2.1) (tmS q.2.2))))) = true := by decide +kernel
theorem gv6b : ∀ i, i < 19 → ∀ j, j < 19 → i ≠ j → (gvP.any (fun q => (q.2.1 == i && q.2.2 == j) || (q.2.1 == j && q.2.2 == i))) = true := by decide +kernel
theorem gv6 : ∀ i, i < 19 → ∀ j, j < 19 → i ≠ j → (Cond.not (Cond.eq (tmS i) (tmS j)) ∈ gvL ∨ Cond.not (Cond.eq (tmS j) (tmS i)) ∈ gvL) := by
  intro i hi j hj hij
  obtain ⟨q, hq, h⟩ := List.any_eq_true.mp (gv6b i hi j hj hij)
  have h1 := List.all_eq_true.mp gv6a q hq
  simp only [decide_eq_true_eq] at h1
  have h2 := List.mem_of_getElem? h1
  simp only [Bool.or_eq_true, Bool.and_eq_true, beq_iff_eq] at h
  rcases h with ⟨e1, e2⟩ | ⟨e1, e2⟩
  · rw [e1, e2] at h2; exact Or.inl h2
  · rw [e1, e2] at h2; exact Or.inr h2
theorem gv7 : Cond.eq (.static "java/lang/String" "COMPACT_STRINGS" "Z") (.int 1) ∈ gvL := by decide +kernel
theorem gv8 : Cond.isRef (.static "jdk/internal/util/Preconditions" "SIOOBE_FORMATTER" "Ljava/util/function/BiFunction;") ∈ gvL := by decide +kernel
theorem gw1 : ∀ i, i < 19 → (ev_tx.getD i (0, "", 0)).2.2 = i ∧ Cond.stringRef "ChainVotes$Tape" (ev_tx.getD i (0, "", 0)).1 (ev_tx.getD i (0, "", 0)).2.1 ∈ tables_1 := by decide +kernel
theorem gw2 : Cond.laysStatic "java/lang/String" "COMPACT_STRINGS" "Z" ∈ tables_1 ∧ Cond.laysStatic "jdk/internal/util/Preconditions" "SIOOBE_FORMATTER" "Ljava/util/function/BiFunction;" ∈ tables_1 ∧ Cond.initialized "java/lang/String" ∈ tables_1 ∧ Cond.initialized "jdk/internal/util/Preconditions" ∈ tables_1 ∧ Cond.arrayOver (.object "ChainVotes$Member") ∈ tables_1 := by decide +kernel
theorem gw3 : ∀ q ∈ ev_nw, Cond.methodLinkNest q.1 q.2.1 q.2.2 "ChainVotes" ∈ tables_1 := by decide +kernel
theorem k_ins : ∀ ci, ci < 10 → Cond.instantiable (k_C ci) (k_N ci) ∈ ev_G := k_case zX0.1 zX1.1 zX2.1 zX3.1 zX4.1 zX5.1 zX7.1 zX8.1 zX9.1 zX10.1
def e0 : ev_H := (0, 0, fun _ => 0, fun _ => 0, fun _ _ => 0, fun _ _ => none)
/-- the walk of the law, over any invariant that the pairs of calls keep -/
theorem law_walk {E : ev_N} {P : Option Value × ev_H → Prop} {Inv : ev_H → Prop} (hL : n_sl E ≤ 3072) (h0 : lw_0 Inv) (hA : lw_all E Inv) (hI : ∀ τ, rg e0 0 26071 (csX9 0 ++ csX10 69) τ → Inv τ) (hP : ∀ τ, Inv τ → P (some (.int 1), τ)) : EX E mL_law 0 (ev_en mL_law [.float 0]) [] e0 P := by
  have R : rg e0 0 0 [] e0 := rg_nil e0
  refine ex_up (fun _ k => ev_L0 (L' := [some (.float 0), none, none, none]) rfl k) ?_
  refine en_new (ci := 8) R dL_law_0 (by decide) qL_7 zX9 (fun τ R => ?_)
  have R : rg e0 0 5 ([] ++ [nc 8 0]) τ := R
  show EX _ _ _ _ [.ref 0] _ _
  refine ex_up (fun _ k => ev_dup dL_law_3 k) ?_
  refine en_ctor (C1 := []) (Y := mX9_init) (ci := 8) (As := []) (rest := [.ref 0]) (cs := csX9) R dL_law_4 kL_9 oX9_init rfl ⟨Nat.le_of_ble_eq_true rfl, Nat.le_of_ble_eq_true rfl⟩ rfl (Nat.le_of_ble_eq_true rfl) (mkX9 E) rfl (fun τ R => ?_)
  have R : rg e0 0 6181 (csX9 0) τ := R
  refine ex_up (fun _ k => ew_astn (L' := [some (.float 0), some (.ref 0), none, none]) dL_law_7 (Nat.le_of_ble_eq_true rfl) (fun _ e => by cases e) rfl k) ?_
  refine en_new (ci := 9) R dL_law_8 (by decide) qL_10 zX10 (fun τ R => ?_)
  have R : rg e0 0 6203 (csX9 0 ++ [nc 9 0]) τ := R
  show EX _ _ _ _ [.ref 69] _ _
  refine ex_up (fun _ k => ev_dup dL_law_11 k) ?_
  refine en_ctor (C1 := csX9 0) (Y := mX10_init) (ci := 9) (As := []) (rest := [.ref 69]) (cs := csX10) R dL_law_12 kL_12 oX10_init rfl ⟨Nat.le_of_ble_eq_true rfl, Nat.le_of_ble_eq_true rfl⟩ rfl (Nat.le_of_ble_eq_true rfl) (mkX10 E) rfl (fun τ R => ?_)
  have R : rg e0 0 26071 (csX9 0 ++ csX10 69) τ := R
  refine ex_up (fun _ k => ew_astn (L' := [some (.float 0), some (.ref 0), some (.ref 69), none]) dL_law_15 (Nat.le_of_ble_eq_true rfl) (fun _ e => by cases e) rfl k) ?_
  refine ex_up (fun _ k => ev_iconst (v := nI 0) dL_law_16 (by decide) k) ?_
  refine ex_up (fun _ k => ew_istn (L' := LSL 0) dL_law_17 (Nat.le_of_ble_eq_true rfl) rfl k) ?_
  exact law_loop hL h0 hA hP (n_sl E + 6) 0 τ (by omega) (by omega) (hI τ R)
set_option maxHeartbeats 4000000 in
set_option maxRecDepth 100000 in
theorem start_of {Inv : ev_H → Prop} (h0 : lw_0 Inv) (hA : ∀ E : ev_N, n_sl E ≤ 3072 → lw_all E Inv) (hI : ∀ τ, rg e0 0 26071 (csX9 0 ++ csX10 69) τ → Inv τ) (hB : ∀ τ, Inv τ → h_n τ ≤ 125830 ∧ h_s τ ≤ 8724760)
    {p : Program} {e : Env} {s : State} {m : MethodId} {below : List Frame} {meth : Method} {c : Code} (l : Launch) {b L : Nat} {xs : Nat → Int32} (hL : L ≤ 3072) (C0 : lw_At p s m meth c b L xs) : W p l e room_1 s m #[Value.ref b] below meth c s.heap [] 0 0 (lw_Z below #[Value.ref b] s) (entryFrame m ([Value.ref b] : List Value).toArray 4) := by
  obtain ⟨hx, hb, hr, hml, hown, hts, hX, hbl, hlocks, hgv⟩ := id C0
  have hf := flat_of_before _ hgv
  have hT : ∀ w ∈ tables_1, w.before #[Value.ref b] s = true := fun w hw => hts w (List.mem_append_right _ hw)
  have hG : ∀ w ∈ ev_G, w.before #[Value.ref b] s = true := fun w hw => hts w (ev_Gin hw)
  have hK1 : ∀ k, ∃ (cC : ClassId) (iS : Nat → Nat), k < 10 → u_Kn s (k_C k) (k_T k) (k_N k) cC iS := fun k => by
    by_cases hk : k < 10
    · obtain ⟨cC, iS, h⟩ := u_known (C := k_C k) (T := k_T k) (N := k_N k) hG (k_in k hk) (hG _ (k_ins k hk))
      exact ⟨cC, iS, fun _ => h⟩
    · exact ⟨0, fun _ => 0, fun h => absurd h hk⟩
  obtain ⟨cI, kI, compI, fI1, fI2, fI3⟩ := Cond.arrayClass_spec (hG _ zI)
  obtain ⟨cB, kB, compB, fB1, fB2, fB3⟩ := Cond.arrayClass_spec (hG _ zB)
  obtain ⟨compM, cM, kM, fM1, fM2, fM3, fM4, fM5⟩ := Cond.arrayOver_spec (hT _ gw2.2.2.2.2)
  have hnA : ∀ a : Nat, a < s.heap.size → ¬ (fun q : Nat => s.heap.size ≤ q) a := fun a h => Nat.not_le.mpr h
  obtain ⟨adK, adV, hS1, hS2⟩ := vk_Sof (args := #[Value.ref b]) (s := s) (N := 19) (tm := tmS) (len := ev_ln) (byt := ev_by) (A := fun q : Nat => s.heap.size ≤ q) (fun i hi => Nat.lt_trans (ev_lnB i hi) (by decide)) (fun i hi => hf _ (gv1 i hi)) (fun i hi => hf _ (gv2 i hi)) (fun i hi => hf _ (gv3 i hi)) (fun i hi => hf _ (gv4 i hi)) (fun i hi j hj => hf _ (gv5 i hi j hj)) (fun i j hi hj hij => (gv6 i hi j hj hij).imp (hf _) (hf _)) hnA
  obtain ⟨E, hE⟩ : ∃ E : ev_N, E = (l, (fun k => Classical.choose (hK1 k), fun k => Classical.choose (Classical.choose_spec (hK1 k))), (cI, cB, cM), s.heap.size, (b, L, xs), adK, adV) := ⟨_, rfl⟩
  have E1 : n_l E = l := by rw [hE]; rfl
  have E2 : n_b E = s.heap.size := by rw [hE]; rfl
  have E3 : n_sb E = b := by rw [hE]; rfl
  have E4 : n_sl E = L := by rw [hE]; rfl
  have E5 : n_sx E = xs := by rw [hE]; rfl
  have E6 : n_aK E = adK := by rw [hE]; rfl
  have E7 : n_aV E = adV := by rw [hE]; rfl
  have E8 : n_A E = fun q : Nat => s.heap.size ≤ q := by unfold n_A; rw [E2]
  have hK : va_K (n_D E) vwCl (ev_ty E) s := by
    refine ⟨fun k q hq => ?_, fun k q hq => ?_⟩
    · have hk : k < 10 := (List.getElem?_eq_some_iff.mp hq).1
      have e := k_cl k hk
      rw [hq] at e
      cases e
      rw [hE]
      exact Classical.choose_spec (Classical.choose_spec (hK1 k)) hk
    · have e3 : ev_ty E = [(cI, .int), (cB, .byte), (cM, .object "ChainVotes$Member")] := by rw [hE]; rfl
      rw [e3] at hq
      match k, hq with
      | 0, hq => cases hq; exact ⟨fun n z => ⟨fun k h => (by cases h), kI, fI2, compI, fI3⟩, fI1⟩
      | 1, hq => cases hq; exact ⟨fun n z => ⟨fun k h => (by cases h), kB, fB2, compB, fB3⟩, fB1⟩
      | 2, hq => cases hq; exact ⟨fun n z => ⟨fun k h => (by cases h), kM, fM3, compM, fM4⟩, kM, compM, fM3, fM4, fM1, fM5⟩
      | k + 3, hq => simp at hq
  have hXX : ev_X E s := by
    refine ⟨⟨by rw [E3, E4, E5]; exact hX, by rw [E3, E2]; exact hbl, by rw [E2]; exact Nat.le_refl _⟩, va_AO.of (hT _ gw2.2.2.2.2), fun q hq => va_Nw.of rfl (hT _ (gw3 q hq)), fun q hq => ?_, by rw [E6, E7, E8]; exact hS1, by rw [E8]; exact va_Zof (hT _ gw2.1) (hT _ gw2.2.2.1) (va_eqi (hf _ gv7)) hnA, by rw [E8]; exact va_Zqof (hT _ gw2.2.1) (hT _ gw2.2.2.2.1) (hf _ gv8) hnA⟩
    obtain ⟨i, hi⟩ := List.getElem?_of_mem hq
    have hl : i < 19 := (List.getElem?_eq_some_iff.mp hi).1
    have eq : ev_tx.getD i (0, "", 0) = q := by rw [List.getD_eq_getElem?_getD, hi]; rfl
    obtain ⟨w1, w2⟩ := gw1 i hl
    have w3 := hS2 i hl
    unfold tmS at w3
    rw [eq] at w1 w2 w3
    rw [E6, w1]
    exact vk_R.of (hT _ w2) w3
  have hC : ev_C E mL_law p room_1 s m #[Value.ref b] meth c := ⟨hx, hb, hr, hml, hown, hG, hlocks, fun h => absurd h (by decide), hK, hXX, rfl, rfl⟩
  · obtain ⟨o, ⟨ho, hInv⟩, k⟩ := law_walk (E := E) (P := fun o => o.1 = some (.int 1) ∧ Inv o.2) (by rw [E4]; exact hL) h0 (hA E (by rw [E4]; exact hL)) hI (fun τ hτ => ⟨rfl, hτ⟩)
    obtain ⟨v, τ⟩ := o
    have ho : v = some (.int 1) := ho
    subst ho
    obtain ⟨b1, b2⟩ := hB τ hInv
    rw [lg_entry_eq]
    have en := ev_entry (E := E) (X := mL_law) (As := [.float 0]) (Nat.le_of_ble_eq_true rfl)
    have e9 : ([Value.float 0].map (ev_v E)) = [Value.ref b] := by show [Value.ref (n_sb E)] = _; rw [E3]
    rw [e9] at en
    have K := k.2 p e room_1 s m #[Value.ref b] below meth c (lw_Z below #[Value.ref b] s) 0 0 hC ⟨Nat.zero_le _, Nat.zero_le _, b1, b2⟩ ?_ s.heap [] _ ⟨by rw [E2]; rfl, fun k hk => absurd hk (Nat.not_lt_zero k)⟩ va_S.rf en
    · rw [E1] at K
      exact K
    · intro H locs pc ls hR' hS' hok hd
      refine va_forget (fun q hq => by have := hS'.2.2 q hq; rw [E8] at this; exact this) ?_
      refine W.widen (k := 125830) (n := 8724760) b1 b2 ?_
      exact lw_ret hx hb hr hlocks hd
