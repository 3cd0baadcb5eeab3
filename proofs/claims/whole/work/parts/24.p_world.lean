-- ChainVotes$World copyFrom(LChainVotes$World;)V
def cX8_copyFrom_37 (q0 : Nat) (q1 : Nat) (K37 : Int32 → ev_I → Option (ev_I)) (n : Nat) (y2 : Int32) (I : ev_I) : Option (ev_I) :=
  if (7 : Int32) ≤ y2 then
    (pX4_copyFrom n (q0 + 11) (q1 + 11)  I).bind fun z2 =>
    (pX2_copyFrom n (q0 + 14) 300 (q1 + 14) 300  z2).bind fun z3 =>
    (pX2_copyFrom n (q0 + 16) 500 (q1 + 16) 500  z3).bind fun z4 =>
    (pX5_copyFrom n (q0 + 18) (q1 + 18)  z4).bind fun z5 =>
    some z5
  else
    ev_ck (ev_in y2 7) <|
    ev_ck (ev_in y2 7) <|
    (pX3_copyFrom n (q0 + (23 + 5 * y2.toNatClampNeg)) (q1 + (23 + 5 * y2.toNatClampNeg))  I).bind fun z8 =>
    ev_lt (y2 + (1 : Int32)) fun v9 =>
    K37 v9 z8
def lX8_copyFrom_37 (q0 : Nat) (q1 : Nat) : Nat → Int32 → ev_I → Option (ev_I)
  | 0, _, _ => none
  | n + 1, y2, I => cX8_copyFrom_37 q0 q1 (lX8_copyFrom_37 q0 q1 n) n y2 I
def pX8_copyFrom (n : Nat) (q0 : Nat) (q1 : Nat) (I : ev_I) : Option (ev_I) :=
  ev_lt (ev_u2 I q0 0 (I q1 0)) fun I10 =>
  ev_lt (ev_u2 I10 q0 1 (I10 q1 1)) fun I11 =>
  ev_lt (ev_u2 I11 q0 2 (I11 q1 2)) fun I12 =>
  (pX1_copyFrom n (q0 + 1) (q1 + 1)  I12).bind fun z13 =>
  lX8_copyFrom_37 q0 q1 n (0 : Int32) z13
set_option maxRecDepth 100000 in
set_option maxHeartbeats 4000000 in
theorem tX8_copyFrom_37 {E : ev_N} {σ : ev_H} (q0 : Nat) (q1 : Nat) (g0 : shp tb7 σ q0) (g1 : shp tb7 σ q1) (K37 : Int32 → ev_I → Option (ev_I)) (k37 : ∀ (y2 : Int32) (I : ev_I) (o : ev_I), K37 y2 I = some o → EV E mX8_copyFrom 37 [some (.ref q0), some (.ref q1), some (.int y2)] [] (h_w σ I) (Option.none, h_w σ o)) (n : Nat) (y2 : Int32) (I : ev_I) (o : ev_I) : cX8_copyFrom_37 q0 q1 K37 n y2 I = some o → EV E mX8_copyFrom 37 [some (.ref q0), some (.ref q1), some (.int y2)] [] (h_w σ I) (Option.none, h_w σ o) := by
  intro h
  unfold cX8_copyFrom_37 at h
  refine ev_iload_n dX8_copyFrom_37 rfl ?_
  refine ev_bipush (v := (7 : Int32)) dX8_copyFrom_38 (by decide) ?_
  refine ev_icmp_ge (tgt := 64) dX8_copyFrom_40 (by decide) (fun c1 => ?_) (fun c1 => ?_)
  · have h := ev_ifT h c1
    refine ev_aload_n dX8_copyFrom_64 rfl (fun _ e => by cases e) ?_
    refine ew_getr0 dX8_copyFrom_65 fX8_27 g0 rfl rfl rfl rfl ?_
    refine ev_aload_n dX8_copyFrom_68 rfl (fun _ e => by cases e) ?_
    refine ew_getr0 dX8_copyFrom_69 fX8_27 g1 rfl rfl rfl rfl ?_
    obtain ⟨z2, hz2, h⟩ := ev_bnE h
    refine ec_Vv (Y := mX4_copyFrom) (ci := 4) (As := [.ref (q1 + 11)]) (rest := []) dX8_copyFrom_72 kX8_68 oX4_copyFrom ⟨Nat.le_of_ble_eq_true rfl, Nat.le_of_ble_eq_true rfl⟩ (by decide) rfl (shp_n (s74 g0) 0 rfl) (shp_t (s74 g0) 0 rfl) rfl (Nat.le_of_ble_eq_true rfl) (tX4_copyFrom n (q0 + 11) (q1 + 11) (s74 g0) (s74 g1)  I z2 hz2) rfl ?_
    refine ev_aload_n dX8_copyFrom_75 rfl (fun _ e => by cases e) ?_
    refine ew_getr0 dX8_copyFrom_76 fX8_36 g0 rfl rfl rfl rfl ?_
    refine ev_aload_n dX8_copyFrom_79 rfl (fun _ e => by cases e) ?_
    refine ew_getr0 dX8_copyFrom_80 fX8_36 g1 rfl rfl rfl rfl ?_
    obtain ⟨z3, hz3, h⟩ := ev_bnE h
    refine ec_Vv (Y := mX2_copyFrom) (ci := 2) (As := [.ref (q1 + 14)]) (rest := []) dX8_copyFrom_83 kX8_71 oX2_copyFrom ⟨Nat.le_of_ble_eq_true rfl, Nat.le_of_ble_eq_true rfl⟩ (by decide) rfl (shp_n (s72e g0) 0 rfl) (shp_t (s72e g0) 0 rfl) rfl (Nat.le_of_ble_eq_true rfl) (tX2_copyFrom n (q0 + 14) 300 (q1 + 14) 300 (s72e g0) (s72e g1)  z2 z3 hz3) rfl ?_
    refine ev_aload_n dX8_copyFrom_86 rfl (fun _ e => by cases e) ?_
    refine ew_getr0 dX8_copyFrom_87 fX8_40 g0 rfl rfl rfl rfl ?_
    refine ev_aload_n dX8_copyFrom_90 rfl (fun _ e => by cases e) ?_
    refine ew_getr0 dX8_copyFrom_91 fX8_40 g1 rfl rfl rfl rfl ?_
    obtain ⟨z4, hz4, h⟩ := ev_bnE h
    refine ec_Vv (Y := mX2_copyFrom) (ci := 2) (As := [.ref (q1 + 16)]) (rest := []) dX8_copyFrom_94 kX8_71 oX2_copyFrom ⟨Nat.le_of_ble_eq_true rfl, Nat.le_of_ble_eq_true rfl⟩ (by decide) rfl (shp_n (s72v g0) 0 rfl) (shp_t (s72v g0) 0 rfl) rfl (Nat.le_of_ble_eq_true rfl) (tX2_copyFrom n (q0 + 16) 500 (q1 + 16) 500 (s72v g0) (s72v g1)  z3 z4 hz4) rfl ?_
    refine ev_aload_n dX8_copyFrom_97 rfl (fun _ e => by cases e) ?_
    refine ew_getr0 dX8_copyFrom_98 fX8_46 g0 rfl rfl rfl rfl ?_
    refine ev_aload_n dX8_copyFrom_101 rfl (fun _ e => by cases e) ?_
    refine ew_getr0 dX8_copyFrom_102 fX8_46 g1 rfl rfl rfl rfl ?_
    obtain ⟨z5, hz5, h⟩ := ev_bnE h
    refine ec_Vv (Y := mX5_copyFrom) (ci := 5) (As := [.ref (q1 + 18)]) (rest := []) dX8_copyFrom_105 kX8_74 oX5_copyFrom ⟨Nat.le_of_ble_eq_true rfl, Nat.le_of_ble_eq_true rfl⟩ (by decide) rfl (shp_n (s75 g0) 0 rfl) (shp_t (s75 g0) 0 rfl) rfl (Nat.le_of_ble_eq_true rfl) (tX5_copyFrom n (q0 + 18) (q1 + 18) (s75 g0) (s75 g1)  z4 z5 hz5) rfl ?_
    cases h
    exact er_v dX8_copyFrom_108 rfl
  · have h := ev_ifF h c1
    refine ev_aload_n dX8_copyFrom_43 rfl (fun _ e => by cases e) ?_
    refine ew_getr0 dX8_copyFrom_44 fX8_20 g0 rfl rfl rfl rfl ?_
    refine ev_iload_n dX8_copyFrom_47 rfl ?_
    obtain ⟨c6, h⟩ := ev_ckE h
    refine ew_memb dX8_copyFrom_48 g0 c6 ?_
    refine ev_aload_n dX8_copyFrom_49 rfl (fun _ e => by cases e) ?_
    refine ew_getr0 dX8_copyFrom_50 fX8_20 g1 rfl rfl rfl rfl ?_
    refine ev_iload_n dX8_copyFrom_53 rfl ?_
    obtain ⟨c7, h⟩ := ev_ckE h
    refine ew_memb dX8_copyFrom_54 g1 c7 ?_
    obtain ⟨z8, hz8, h⟩ := ev_bnE h
    refine ec_Vv (Y := mX3_copyFrom) (ci := 3) (As := [.ref (q1 + (23 + 5 * y2.toNatClampNeg))]) (rest := []) dX8_copyFrom_55 kX8_65 oX3_copyFrom ⟨Nat.le_of_ble_eq_true rfl, Nat.le_of_ble_eq_true rfl⟩ (by decide) rfl (shp_n (s73 g0 (ev_inL c6)) 0 rfl) (shp_t (s73 g0 (ev_inL c6)) 0 rfl) rfl (Nat.le_of_ble_eq_true rfl) (tX3_copyFrom n (q0 + (23 + 5 * y2.toNatClampNeg)) (q1 + (23 + 5 * y2.toNatClampNeg)) (s73 g0 (ev_inL c6)) (s73 g1 (ev_inL c7))  I z8 hz8) rfl ?_
    obtain ⟨v9, ev9, h⟩ := ev_ltE h
    refine ew_iinc (L' := [some (.ref q0), some (.ref q1), some (.int v9)]) dX8_copyFrom_58 (Nat.le_of_ble_eq_true rfl) rfl (by decide) ev9 rfl ?_
    refine ev_goto (tgt := 37) dX8_copyFrom_61 (by decide) ?_
    exact ev_weak (sb_s (sb_s (sb_s sb_0))) (k37 v9 z8 _ h)
theorem tlX8_copyFrom_37 {E : ev_N} {σ : ev_H} (q0 : Nat) (q1 : Nat) (g0 : shp tb7 σ q0) (g1 : shp tb7 σ q1) : ∀ (n : Nat) (y2 : Int32) (I : ev_I) (o : ev_I), lX8_copyFrom_37 q0 q1 n y2 I = some o → EV E mX8_copyFrom 37 [some (.ref q0), some (.ref q1), some (.int y2)] [] (h_w σ I) (Option.none, h_w σ o)
  | 0, _, _, _, h => by cases h
  | n + 1, y2, I, o, h => tX8_copyFrom_37 q0 q1 g0 g1 (lX8_copyFrom_37 q0 q1 n) (tlX8_copyFrom_37 q0 q1 g0 g1 n) n y2 I o h
set_option maxRecDepth 100000 in
set_option maxHeartbeats 4000000 in
theorem tX8_copyFrom {E : ev_N} {σ : ev_H} (n : Nat) (q0 : Nat) (q1 : Nat) (g0 : shp tb7 σ q0) (g1 : shp tb7 σ q1) (I : ev_I) (o : ev_I) (h : pX8_copyFrom n q0 q1  I = some o) : ev_T E mX8_copyFrom [.ref q0, .ref q1] (h_w σ I) (Option.none, h_w σ o) := by
  unfold pX8_copyFrom at h
  refine ev_met rfl rfl (Nat.le_of_ble_eq_true rfl) (ev_L0 (L' := [some (.ref q0), some (.ref q1), none]) rfl ?_)
  refine ev_aload_n dX8_copyFrom_0 rfl (fun _ e => by cases e) ?_
  refine ev_aload_n dX8_copyFrom_1 rfl (fun _ e => by cases e) ?_
  refine ew_get0 dX8_copyFrom_2 fX8_50 g1 rfl rfl rfl ?_
  obtain ⟨I10, eI10, h⟩ := ev_ltE h
  refine ew_put0 dX8_copyFrom_5 fX8_50 g0 rfl rfl rfl rfl rfl rfl (ew_nh eI10 ?_)
  refine ev_aload_n dX8_copyFrom_8 rfl (fun _ e => by cases e) ?_
  refine ev_aload_n dX8_copyFrom_9 rfl (fun _ e => by cases e) ?_
  refine ew_get0 dX8_copyFrom_10 fX8_55 g1 rfl rfl rfl ?_
  obtain ⟨I11, eI11, h⟩ := ev_ltE h
  refine ew_put0 dX8_copyFrom_13 fX8_55 g0 rfl rfl rfl rfl rfl rfl (ew_nh eI11 ?_)
  refine ev_aload_n dX8_copyFrom_16 rfl (fun _ e => by cases e) ?_
  refine ev_aload_n dX8_copyFrom_17 rfl (fun _ e => by cases e) ?_
  refine ew_get0 dX8_copyFrom_18 fX8_58 g1 rfl rfl rfl ?_
  obtain ⟨I12, eI12, h⟩ := ev_ltE h
  refine ew_put0 dX8_copyFrom_21 fX8_58 g0 rfl rfl rfl rfl rfl rfl (ew_nh eI12 ?_)
  refine ev_aload_n dX8_copyFrom_24 rfl (fun _ e => by cases e) ?_
  refine ew_getr0 dX8_copyFrom_25 fX8_12 g0 rfl rfl rfl rfl ?_
  refine ev_aload_n dX8_copyFrom_28 rfl (fun _ e => by cases e) ?_
  refine ew_getr0 dX8_copyFrom_29 fX8_12 g1 rfl rfl rfl rfl ?_
  obtain ⟨z13, hz13, h⟩ := ev_bnE h
  refine ec_Vv (Y := mX1_copyFrom) (ci := 1) (As := [.ref (q1 + 1)]) (rest := []) dX8_copyFrom_32 kX8_61 oX1_copyFrom ⟨Nat.le_of_ble_eq_true rfl, Nat.le_of_ble_eq_true rfl⟩ (by decide) rfl (shp_n (s71 g0) 0 rfl) (shp_t (s71 g0) 0 rfl) rfl (Nat.le_of_ble_eq_true rfl) (tX1_copyFrom n (q0 + 1) (q1 + 1) (s71 g0) (s71 g1)  I12 z13 hz13) rfl ?_
  refine ev_iconst (v := (0 : Int32)) dX8_copyFrom_35 (by decide) ?_
  refine ew_istn (L' := [some (.ref q0), some (.ref q1), some (.int (0 : Int32))]) dX8_copyFrom_36 (Nat.le_of_ble_eq_true rfl) rfl ?_
  exact ev_weak (sb_s (sb_s (sb_s sb_0))) (tlX8_copyFrom_37 q0 q1 g0 g1 n (0 : Int32) z13 _ h)
-- ChainVotes$World isUntouched()Z
def pX8_isUntouched (n : Nat) (q0 : Nat) (I : ev_I) : Option (Int32) :=
  if (I (q0 + 11) 0) = 0 then
    if (I (q0 + 1) 0) = (1 : Int32) then
      some (1 : Int32)
    else
      some (0 : Int32)
  else
    some (0 : Int32)
set_option maxRecDepth 100000 in
set_option maxHeartbeats 4000000 in
theorem tX8_isUntouched {E : ev_N} {σ : ev_H} (n : Nat) (q0 : Nat) (g0 : shp tb7 σ q0) (I : ev_I) (o : Int32) (h : pX8_isUntouched n q0  I = some o) : ev_T E mX8_isUntouched [.ref q0] (h_w σ I) (Option.some (Value.int o), h_w σ I) := by
  unfold pX8_isUntouched at h
  refine ev_met rfl rfl (Nat.le_of_ble_eq_true rfl) (ev_L0 (L' := [some (.ref q0)]) rfl ?_)
  refine ev_aload_n dX8_isUntouched_0 rfl (fun _ e => by cases e) ?_
  refine ew_getr0 dX8_isUntouched_1 fX8_27 g0 rfl rfl rfl rfl ?_
  refine ew_get0 dX8_isUntouched_4 fX8_77 (s74 g0) rfl rfl rfl ?_
  refine ev_if_ne (tgt := 25) dX8_isUntouched_7 (by decide) (fun c1 => ?_) (fun c1 => ?_)
  · have h := ev_ifF h c1
    refine ev_iconst (v := (0 : Int32)) dX8_isUntouched_25 (by decide) ?_
    cases h
    exact er_i dX8_isUntouched_26 rfl rfl
  · have h := ev_ifT h c1
    refine ev_aload_n dX8_isUntouched_10 rfl (fun _ e => by cases e) ?_
    refine ew_getr0 dX8_isUntouched_11 fX8_12 g0 rfl rfl rfl rfl ?_
    refine ew_get0 dX8_isUntouched_14 fX8_80 (s71 g0) rfl rfl rfl ?_
    refine ev_iconst (v := (1 : Int32)) dX8_isUntouched_17 (by decide) ?_
    refine ev_icmp_ne (tgt := 25) dX8_isUntouched_18 (by decide) (fun c2 => ?_) (fun c2 => ?_)
    · have h := ev_ifF h c2
      refine ev_iconst (v := (0 : Int32)) dX8_isUntouched_25 (by decide) ?_
      cases h
      exact er_i dX8_isUntouched_26 rfl rfl
    · have h := ev_ifT h c2
      refine ev_iconst (v := (1 : Int32)) dX8_isUntouched_21 (by decide) ?_
      refine ev_goto (tgt := 26) dX8_isUntouched_22 (by decide) ?_
      cases h
      exact er_i dX8_isUntouched_26 rfl rfl
-- ChainVotes$World beginWith(I)V
def cX8_beginWith_7 (q0 : Nat) (K7 : Int32 → ev_I → Option (ev_I)) (n : Nat) (y2 : Int32) (I : ev_I) : Option (ev_I) :=
  if (7 : Int32) ≤ y2 then
    some I
  else
    ev_ck (ev_in y2 7) <|
    (pX3_reset n (q0 + (23 + 5 * y2.toNatClampNeg))  I).bind fun z3 =>
    ev_ck (ev_in y2 7) <|
    ev_lt (ev_u2 z3 ((q0 + 11) + 2) y2.toNatClampNeg (0 : Int32)) fun I5 =>
    ev_lt (y2 + (1 : Int32)) fun v6 =>
    K7 v6 I5
def lX8_beginWith_7 (q0 : Nat) : Nat → Int32 → ev_I → Option (ev_I)
  | 0, _, _ => none
  | n + 1, y2, I => cX8_beginWith_7 q0 (lX8_beginWith_7 q0 n) n y2 I
def pX8_beginWith (n : Nat) (q0 : Nat) (x1 : Int32) (I : ev_I) : Option (ev_I) :=
  ev_lt (ev_u2 I q0 0 x1) fun I7 =>
  lX8_beginWith_7 q0 n (0 : Int32) I7
set_option maxRecDepth 100000 in
set_option maxHeartbeats 4000000 in
theorem tX8_beginWith_7 {E : ev_N} {σ : ev_H} (q0 : Nat) (g0 : shp tb7 σ q0) (K7 : Int32 → ev_I → Option (ev_I)) (k7 : ∀ (y2 : Int32) (I : ev_I) (o : ev_I), K7 y2 I = some o → EV E mX8_beginWith 7 [some (.ref q0), none, some (.int y2)] [] (h_w σ I) (Option.none, h_w σ o)) (n : Nat) (y2 : Int32) (I : ev_I) (o : ev_I) : cX8_beginWith_7 q0 K7 n y2 I = some o → EV E mX8_beginWith 7 [some (.ref q0), none, some (.int y2)] [] (h_w σ I) (Option.none, h_w σ o) := by
  intro h
  unfold cX8_beginWith_7 at h
  refine ev_iload_n dX8_beginWith_7 rfl ?_
  refine ev_bipush (v := (7 : Int32)) dX8_beginWith_8 (by decide) ?_
  refine ev_icmp_ge (tgt := 38) dX8_beginWith_10 (by decide) (fun c1 => ?_) (fun c1 => ?_)
  · have h := ev_ifT h c1
    cases h
    exact er_v dX8_beginWith_38 rfl
  · have h := ev_ifF h c1
    refine ev_aload_n dX8_beginWith_13 rfl (fun _ e => by cases e) ?_
    refine ew_getr0 dX8_beginWith_14 fX8_20 g0 rfl rfl rfl rfl ?_
    refine ev_iload_n dX8_beginWith_17 rfl ?_
    obtain ⟨c2, h⟩ := ev_ckE h
    refine ew_memb dX8_beginWith_18 g0 c2 ?_
    obtain ⟨z3, hz3, h⟩ := ev_bnE h
    refine ec_Vv (Y := mX3_reset) (ci := 3) (As := []) (rest := []) dX8_beginWith_19 kX8_81 oX3_reset ⟨Nat.le_of_ble_eq_true rfl, Nat.le_of_ble_eq_true rfl⟩ (by decide) rfl (shp_n (s73 g0 (ev_inL c2)) 0 rfl) (shp_t (s73 g0 (ev_inL c2)) 0 rfl) rfl (Nat.le_of_ble_eq_true rfl) (tX3_reset n (q0 + (23 + 5 * y2.toNatClampNeg)) (s73 g0 (ev_inL c2))  I z3 hz3) rfl ?_
    refine ev_aload_n dX8_beginWith_22 rfl (fun _ e => by cases e) ?_
    refine ew_getr0 dX8_beginWith_23 fX8_27 g0 rfl rfl rfl rfl ?_
    refine ew_getr0 dX8_beginWith_26 fX8_84 (s74 g0) rfl rfl rfl rfl ?_
    refine ev_iload_n dX8_beginWith_29 rfl ?_
    refine ev_iconst (v := (0 : Int32)) dX8_beginWith_30 (by decide) ?_
    obtain ⟨c4, h⟩ := ev_ckE h
    obtain ⟨I5, eI5, h⟩ := ev_ltE h
    refine ew_iast dX8_beginWith_31 (shp_a (s74 g0) 2 rfl) c4 (ew_nh eI5 ?_)
    obtain ⟨v6, ev6, h⟩ := ev_ltE h
    refine ew_iinc (L' := [some (.ref q0), none, some (.int v6)]) dX8_beginWith_32 (Nat.le_of_ble_eq_true rfl) rfl (by decide) ev6 rfl ?_
    refine ev_goto (tgt := 7) dX8_beginWith_35 (by decide) ?_
    exact ev_weak (sb_s (sb_n (sb_s sb_0))) (k7 v6 I5 _ h)
theorem tlX8_beginWith_7 {E : ev_N} {σ : ev_H} (q0 : Nat) (g0 : shp tb7 σ q0) : ∀ (n : Nat) (y2 : Int32) (I : ev_I) (o : ev_I), lX8_beginWith_7 q0 n y2 I = some o → EV E mX8_beginWith 7 [some (.ref q0), none, some (.int y2)] [] (h_w σ I) (Option.none, h_w σ o)
  | 0, _, _, _, h => by cases h
  | n + 1, y2, I, o, h => tX8_beginWith_7 q0 g0 (lX8_beginWith_7 q0 n) (tlX8_beginWith_7 q0 g0 n) n y2 I o h
set_option maxRecDepth 100000 in
set_option maxHeartbeats 4000000 in
theorem tX8_beginWith {E : ev_N} {σ : ev_H} (n : Nat) (q0 : Nat) (g0 : shp tb7 σ q0) (x1 : Int32) (I : ev_I) (o : ev_I) (h : pX8_beginWith n q0 x1 I = some o) : ev_T E mX8_beginWith [.ref q0, .int x1] (h_w σ I) (Option.none, h_w σ o) := by
  unfold pX8_beginWith at h
  refine ev_met rfl rfl (Nat.le_of_ble_eq_true rfl) (ev_L0 (L' := [some (.ref q0), some (.int x1), none]) rfl ?_)
  refine ev_aload_n dX8_beginWith_0 rfl (fun _ e => by cases e) ?_
  refine ev_iload_n dX8_beginWith_1 rfl ?_
  obtain ⟨I7, eI7, h⟩ := ev_ltE h
  refine ew_put0 dX8_beginWith_2 fX8_50 g0 rfl rfl rfl rfl rfl rfl (ew_nh eI7 ?_)
  refine ev_iconst (v := (0 : Int32)) dX8_beginWith_5 (by decide) ?_
  refine ew_istn (L' := [some (.ref q0), some (.int x1), some (.int (0 : Int32))]) dX8_beginWith_6 (Nat.le_of_ble_eq_true rfl) rfl ?_
  exact ev_weak (sb_s (sb_n (sb_s sb_0))) (tlX8_beginWith_7 q0 g0 n (0 : Int32) I7 _ h)
-- ChainVotes$World hasNode(I)Z
def pX8_hasNode (n : Nat) (q0 : Nat) (x1 : Int32) (I : ev_I) : Option (Int32) :=
  if x1 < 0 then
    some (0 : Int32)
  else
    if (I q0 0) ≤ x1 then
      some (0 : Int32)
    else
      some (1 : Int32)
set_option maxRecDepth 100000 in
set_option maxHeartbeats 4000000 in
theorem tX8_hasNode {E : ev_N} {σ : ev_H} (n : Nat) (q0 : Nat) (g0 : shp tb7 σ q0) (x1 : Int32) (I : ev_I) (o : Int32) (h : pX8_hasNode n q0 x1 I = some o) : ev_T E mX8_hasNode [.ref q0, .int x1] (h_w σ I) (Option.some (Value.int o), h_w σ I) := by
  unfold pX8_hasNode at h
  refine ev_met rfl rfl (Nat.le_of_ble_eq_true rfl) (ev_L0 (L' := [some (.ref q0), some (.int x1)]) rfl ?_)
  refine ev_iload_n dX8_hasNode_0 rfl ?_
  refine ev_if_lt (tgt := 16) dX8_hasNode_1 (by decide) (fun c1 => ?_) (fun c1 => ?_)
  · have h := ev_ifT h c1
    refine ev_iconst (v := (0 : Int32)) dX8_hasNode_16 (by decide) ?_
    cases h
    exact er_i dX8_hasNode_17 rfl rfl
  · have h := ev_ifF h c1
    refine ev_iload_n dX8_hasNode_4 rfl ?_
    refine ev_aload_n dX8_hasNode_5 rfl (fun _ e => by cases e) ?_
    refine ew_get0 dX8_hasNode_6 fX8_50 g0 rfl rfl rfl ?_
    refine ev_icmp_ge (tgt := 16) dX8_hasNode_9 (by decide) (fun c2 => ?_) (fun c2 => ?_)
    · have h := ev_ifT h c2
      refine ev_iconst (v := (0 : Int32)) dX8_hasNode_16 (by decide) ?_
      cases h
      exact er_i dX8_hasNode_17 rfl rfl
    · have h := ev_ifF h c2
      refine ev_iconst (v := (1 : Int32)) dX8_hasNode_12 (by decide) ?_
      refine ev_goto (tgt := 17) dX8_hasNode_13 (by decide) ?_
      cases h
      exact er_i dX8_hasNode_17 rfl rfl
-- ChainVotes$World isAwake(I)Z
def pX8_isAwake (n : Nat) (q0 : Nat) (x1 : Int32) (I : ev_I) : Option (Int32) :=
  (pX8_hasNode n q0 x1 I).bind fun z1 =>
  if z1 = 0 then
    some (0 : Int32)
  else
    ev_ck (ev_in x1 7) <|
    if (I (q0 + (23 + 5 * x1.toNatClampNeg)) 0) = (1 : Int32) then
      some (0 : Int32)
    else
      some (1 : Int32)
set_option maxRecDepth 100000 in
set_option maxHeartbeats 4000000 in
theorem tX8_isAwake {E : ev_N} {σ : ev_H} (n : Nat) (q0 : Nat) (g0 : shp tb7 σ q0) (x1 : Int32) (I : ev_I) (o : Int32) (h : pX8_isAwake n q0 x1 I = some o) : ev_T E mX8_isAwake [.ref q0, .int x1] (h_w σ I) (Option.some (Value.int o), h_w σ I) := by
  unfold pX8_isAwake at h
  refine ev_met rfl rfl (Nat.le_of_ble_eq_true rfl) (ev_L0 (L' := [some (.ref q0), some (.int x1)]) rfl ?_)
  refine ev_aload_n dX8_isAwake_0 rfl (fun _ e => by cases e) ?_
  refine ev_iload_n dX8_isAwake_1 rfl ?_
  obtain ⟨z1, hz1, h⟩ := ev_bnE h
  refine ec_Vi (Y := mX8_hasNode) (ci := 7) (As := [.int x1]) (rest := []) dX8_isAwake_2 kX8_88 oX8_hasNode ⟨Nat.le_of_ble_eq_true rfl, Nat.le_of_ble_eq_true rfl⟩ (by decide) rfl (shp_n g0 0 rfl) (shp_t g0 0 rfl) rfl (Nat.le_of_ble_eq_true rfl) (tX8_hasNode n q0 g0 x1 I z1 hz1) rfl ?_
  refine ev_if_eq (tgt := 25) dX8_isAwake_5 (by decide) (fun c2 => ?_) (fun c2 => ?_)
  · have h := ev_ifT h c2
    refine ev_iconst (v := (0 : Int32)) dX8_isAwake_25 (by decide) ?_
    cases h
    exact er_i dX8_isAwake_26 rfl rfl
  · have h := ev_ifF h c2
    refine ev_aload_n dX8_isAwake_8 rfl (fun _ e => by cases e) ?_
    refine ew_getr0 dX8_isAwake_9 fX8_20 g0 rfl rfl rfl rfl ?_
    refine ev_iload_n dX8_isAwake_12 rfl ?_
    obtain ⟨c3, h⟩ := ev_ckE h
    refine ew_memb dX8_isAwake_13 g0 c3 ?_
    refine ew_get0 dX8_isAwake_14 fX8_92 (s73 g0 (ev_inL c3)) rfl rfl rfl ?_
    refine ev_iconst (v := (1 : Int32)) dX8_isAwake_17 (by decide) ?_
    refine ev_icmp_eq (tgt := 25) dX8_isAwake_18 (by decide) (fun c4 => ?_) (fun c4 => ?_)
    · have h := ev_ifT h c4
      refine ev_iconst (v := (0 : Int32)) dX8_isAwake_25 (by decide) ?_
      cases h
      exact er_i dX8_isAwake_26 rfl rfl
    · have h := ev_ifF h c4
      refine ev_iconst (v := (1 : Int32)) dX8_isAwake_21 (by decide) ?_
      refine ev_goto (tgt := 26) dX8_isAwake_22 (by decide) ?_
      cases h
      exact er_i dX8_isAwake_26 rfl rfl
-- ChainVotes$World everybody()I
def pX8_everybody (n : Nat) (q0 : Nat) (I : ev_I) : Option (Int32) :=
  some (((1 : Int32) <<< ((I q0 0) &&& 31)) - (1 : Int32))
set_option maxRecDepth 100000 in
set_option maxHeartbeats 4000000 in
theorem tX8_everybody {E : ev_N} {σ : ev_H} (n : Nat) (q0 : Nat) (g0 : shp tb7 σ q0) (I : ev_I) (o : Int32) (h : pX8_everybody n q0  I = some o) : ev_T E mX8_everybody [.ref q0] (h_w σ I) (Option.some (Value.int o), h_w σ I) := by
  unfold pX8_everybody at h
  refine ev_met rfl rfl (Nat.le_of_ble_eq_true rfl) (ev_L0 (L' := [some (.ref q0)]) rfl ?_)
  refine ev_iconst (v := (1 : Int32)) dX8_everybody_0 (by decide) ?_
  refine ev_aload_n dX8_everybody_1 rfl (fun _ e => by cases e) ?_
  refine ew_get0 dX8_everybody_2 fX8_50 g0 rfl rfl rfl ?_
  refine ev_ishl dX8_everybody_5 ?_
  refine ev_iconst (v := (1 : Int32)) dX8_everybody_6 (by decide) ?_
  refine ev_isub dX8_everybody_7 ?_
  cases h
  exact er_i dX8_everybody_8 rfl rfl
-- ChainVotes$World faults()I
def pX8_faults (n : Nat) (q0 : Nat) (I : ev_I) : Option (Int32) :=
  some (((I q0 0) - (1 : Int32)) / (3 : Int32))
set_option maxRecDepth 100000 in
set_option maxHeartbeats 4000000 in
theorem tX8_faults {E : ev_N} {σ : ev_H} (n : Nat) (q0 : Nat) (g0 : shp tb7 σ q0) (I : ev_I) (o : Int32) (h : pX8_faults n q0  I = some o) : ev_T E mX8_faults [.ref q0] (h_w σ I) (Option.some (Value.int o), h_w σ I) := by
  unfold pX8_faults at h
  refine ev_met rfl rfl (Nat.le_of_ble_eq_true rfl) (ev_L0 (L' := [some (.ref q0)]) rfl ?_)
  refine ev_aload_n dX8_faults_0 rfl (fun _ e => by cases e) ?_
  refine ew_get0 dX8_faults_1 fX8_50 g0 rfl rfl rfl ?_
  refine ev_iconst (v := (1 : Int32)) dX8_faults_4 (by decide) ?_
  refine ev_isub dX8_faults_5 ?_
  refine ev_iconst (v := (3 : Int32)) dX8_faults_6 (by decide) ?_
  refine ev_idiv dX8_faults_7 (by decide) ?_
  cases h
  exact er_i dX8_faults_8 rfl rfl
-- ChainVotes$World quorum()I
def pX8_quorum (n : Nat) (q0 : Nat) (I : ev_I) : Option (Int32) :=
  (pX8_faults n q0  I).bind fun z1 =>
  some ((I q0 0) - z1)
set_option maxRecDepth 100000 in
set_option maxHeartbeats 4000000 in
theorem tX8_quorum {E : ev_N} {σ : ev_H} (n : Nat) (q0 : Nat) (g0 : shp tb7 σ q0) (I : ev_I) (o : Int32) (h : pX8_quorum n q0  I = some o) : ev_T E mX8_quorum [.ref q0] (h_w σ I) (Option.some (Value.int o), h_w σ I) := by
  unfold pX8_quorum at h
  refine ev_met rfl rfl (Nat.le_of_ble_eq_true rfl) (ev_L0 (L' := [some (.ref q0)]) rfl ?_)
  refine ev_aload_n dX8_quorum_0 rfl (fun _ e => by cases e) ?_
  refine ew_get0 dX8_quorum_1 fX8_50 g0 rfl rfl rfl ?_
  refine ev_aload_n dX8_quorum_4 rfl (fun _ e => by cases e) ?_
  obtain ⟨z1, hz1, h⟩ := ev_bnE h
  refine ec_Vi (Y := mX8_faults) (ci := 7) (As := []) (rest := [(.int (I q0 0))]) dX8_quorum_5 kX8_95 oX8_faults ⟨Nat.le_of_ble_eq_true rfl, Nat.le_of_ble_eq_true rfl⟩ (by decide) rfl (shp_n g0 0 rfl) (shp_t g0 0 rfl) rfl (Nat.le_of_ble_eq_true rfl) (tX8_faults n q0 g0  I z1 hz1) rfl ?_
  refine ev_isub dX8_quorum_8 ?_
  cases h
  exact er_i dX8_quorum_9 rfl rfl
-- ChainVotes$World leaderOf(I)I
def pX8_leaderOf (n : Nat) (q0 : Nat) (x1 : Int32) (I : ev_I) : Option (Int32) :=
  ev_lt (I q0 1) fun v1 =>
  if v1 = (1 : Int32) then
    ev_ck (ev_nz (I q0 0)) <|
    some ((x1 / (2 : Int32)) - (x1 / (2 : Int32)) / (I q0 0) * (I q0 0))
  else
  if v1 = (2 : Int32) then
    ev_ck (ev_nz (I q0 0)) <|
    some ((x1 * x1) - (x1 * x1) / (I q0 0) * (I q0 0))
  else
  ev_ck (ev_nz (I q0 0)) <|
  some (x1 - x1 / (I q0 0) * (I q0 0))
set_option maxRecDepth 100000 in
set_option maxHeartbeats 4000000 in
theorem tX8_leaderOf {E : ev_N} {σ : ev_H} (n : Nat) (q0 : Nat) (g0 : shp tb7 σ q0) (x1 : Int32) (I : ev_I) (o : Int32) (h : pX8_leaderOf n q0 x1 I = some o) : ev_T E mX8_leaderOf [.ref q0, .int x1] (h_w σ I) (Option.some (Value.int o), h_w σ I) := by
  unfold pX8_leaderOf at h
  refine ev_met rfl rfl (Nat.le_of_ble_eq_true rfl) (ev_L0 (L' := [some (.ref q0), some (.int x1)]) rfl ?_)
  refine ev_aload_n dX8_leaderOf_0 rfl (fun _ e => by cases e) ?_
  refine ew_get0 dX8_leaderOf_1 fX8_55 g0 rfl rfl rfl ?_
  obtain ⟨v1, ev1, h⟩ := ev_ltE h
  refine ew_nm ev1 ?_
  by_cases c2 : v1 = (1 : Int32)
  · have h := ev_ifT h c2
    refine ev_lookup (tgt := 32) dX8_leaderOf_4 (by decide) (by rw [c2]; decide) ?_
    refine ev_iload_n dX8_leaderOf_32 rfl ?_
    refine ev_iconst (v := (2 : Int32)) dX8_leaderOf_33 (by decide) ?_
    refine ev_idiv dX8_leaderOf_34 (by decide) ?_
    refine ev_aload_n dX8_leaderOf_35 rfl (fun _ e => by cases e) ?_
    refine ew_get0 dX8_leaderOf_36 fX8_50 g0 rfl rfl rfl ?_
    obtain ⟨c3, h⟩ := ev_ckE h
    refine ev_irem dX8_leaderOf_39 (ev_nzE c3) ?_
    cases h
    exact er_i dX8_leaderOf_40 rfl rfl
  have h := ev_ifF h c2
  by_cases c4 : v1 = (2 : Int32)
  · have h := ev_ifT h c4
    refine ev_lookup (tgt := 41) dX8_leaderOf_4 (by decide) (by rw [c4]; decide) ?_
    refine ev_iload_n dX8_leaderOf_41 rfl ?_
    refine ev_iload_n dX8_leaderOf_42 rfl ?_
    refine ev_imul dX8_leaderOf_43 ?_
    refine ev_aload_n dX8_leaderOf_44 rfl (fun _ e => by cases e) ?_
    refine ew_get0 dX8_leaderOf_45 fX8_50 g0 rfl rfl rfl ?_
    obtain ⟨c5, h⟩ := ev_ckE h
    refine ev_irem dX8_leaderOf_48 (ev_nzE c5) ?_
    cases h
    exact er_i dX8_leaderOf_49 rfl rfl
  have h := ev_ifF h c4
  refine ev_lookup (tgt := 50) dX8_leaderOf_4 (by decide) (by rw [sw_lk (by intro q hq; simp at hq; rcases hq with rfl | rfl <;> first | exact ⟨_, by decide, c2⟩ | exact ⟨_, by decide, c4⟩)]; decide) ?_
  refine ev_iload_n dX8_leaderOf_50 rfl ?_
  refine ev_aload_n dX8_leaderOf_51 rfl (fun _ e => by cases e) ?_
  refine ew_get0 dX8_leaderOf_52 fX8_50 g0 rfl rfl rfl ?_
  obtain ⟨c6, h⟩ := ev_ckE h
  refine ev_irem dX8_leaderOf_55 (ev_nzE c6) ?_
  cases h
  exact er_i dX8_leaderOf_56 rfl rfl
-- ChainVotes$World draw(I)I
def pX8_draw (n : Nat) (q0 : Nat) (x1 : Int32) (I : ev_I) : Option (Int32 × ev_I) :=
  ev_lt (ev_u2 I q0 2 (((1664525 : Int32) * (I q0 2)) + (1013904223 : Int32))) fun I1 =>
  if x1 ≤ 0 then
    some ((0 : Int32), I1)
  else
    ev_ck (ev_nz x1) <|
    some ((((I1 q0 2).toUInt32 >>> ((8 : Int32).toUInt32 &&& Int32.toUInt32 31)).toInt32 - ((I1 q0 2).toUInt32 >>> ((8 : Int32).toUInt32 &&& Int32.toUInt32 31)).toInt32 / x1 * x1), I1)
set_option maxRecDepth 100000 in
set_option maxHeartbeats 4000000 in
theorem tX8_draw {E : ev_N} {σ : ev_H} (n : Nat) (q0 : Nat) (g0 : shp tb7 σ q0) (x1 : Int32) (I : ev_I) (o : Int32 × ev_I) (h : pX8_draw n q0 x1 I = some o) : ev_T E mX8_draw [.ref q0, .int x1] (h_w σ I) (Option.some (Value.int o.1), h_w σ o.2) := by
  unfold pX8_draw at h
  refine ev_met rfl rfl (Nat.le_of_ble_eq_true rfl) (ev_L0 (L' := [some (.ref q0), some (.int x1)]) rfl ?_)
  refine ev_aload_n dX8_draw_0 rfl (fun _ e => by cases e) ?_
  refine ev_ldc (v := (1664525 : Int32)) dX8_draw_1 vX8_99 ?_
  refine ev_aload_n dX8_draw_3 rfl (fun _ e => by cases e) ?_
  refine ew_get0 dX8_draw_4 fX8_58 g0 rfl rfl rfl ?_
  refine ev_imul dX8_draw_7 ?_
  refine ev_ldc (v := (1013904223 : Int32)) dX8_draw_8 vX8_100 ?_
  refine ev_iadd dX8_draw_10 ?_
  obtain ⟨I1, eI1, h⟩ := ev_ltE h
  refine ew_put0 dX8_draw_11 fX8_58 g0 rfl rfl rfl rfl rfl rfl (ew_nh eI1 ?_)
  refine ev_iload_n dX8_draw_14 rfl ?_
  refine ev_if_le (tgt := 30) dX8_draw_15 (by decide) (fun c2 => ?_) (fun c2 => ?_)
  · have h := ev_ifT h c2
    refine ev_iconst (v := (0 : Int32)) dX8_draw_30 (by decide) ?_
    cases h
    exact er_i dX8_draw_31 rfl rfl
  · have h := ev_ifF h c2
    refine ev_aload_n dX8_draw_18 rfl (fun _ e => by cases e) ?_
    refine ew_get0 dX8_draw_19 fX8_58 g0 rfl rfl rfl ?_
    refine ev_bipush (v := (8 : Int32)) dX8_draw_22 (by decide) ?_
    refine ev_iushr dX8_draw_24 ?_
    refine ev_iload_n dX8_draw_25 rfl ?_
    obtain ⟨c3, h⟩ := ev_ckE h
    refine ev_irem dX8_draw_26 (ev_nzE c3) ?_
    refine ev_goto (tgt := 31) dX8_draw_27 (by decide) ?_
    cases h
    exact er_i dX8_draw_31 rfl rfl
-- ChainVotes$World sendToAll(IIII)V
def cX8_sendToAll_3 (q0 : Nat) (K3 : Int32 → Int32 → Int32 → Int32 → Int32 → ev_I → Option (ev_I)) (n : Nat) (y1 : Int32) (y2 : Int32) (y3 : Int32) (y4 : Int32) (y5 : Int32) (I : ev_I) : Option (ev_I) :=
  if (I q0 0) ≤ y5 then
    some I
  else
    (pX4_send n (q0 + 11) y1 y5 y2 y3 y4 I).bind fun z2 =>
    ev_lt (y5 + (1 : Int32)) fun v3 =>
    K3 y1 y2 y3 y4 v3 z2
def lX8_sendToAll_3 (q0 : Nat) : Nat → Int32 → Int32 → Int32 → Int32 → Int32 → ev_I → Option (ev_I)
  | 0, _, _, _, _, _, _ => none
  | n + 1, y1, y2, y3, y4, y5, I => cX8_sendToAll_3 q0 (lX8_sendToAll_3 q0 n) n y1 y2 y3 y4 y5 I
def pX8_sendToAll (n : Nat) (q0 : Nat) (x1 : Int32) (x2 : Int32) (x3 : Int32) (x4 : Int32) (I : ev_I) : Option (ev_I) :=
  lX8_sendToAll_3 q0 n x1 x2 x3 x4 (0 : Int32) I
set_option maxRecDepth 100000 in
set_option maxHeartbeats 4000000 in
theorem tX8_sendToAll_3 {E : ev_N} {σ : ev_H} (q0 : Nat) (g0 : shp tb7 σ q0) (K3 : Int32 → Int32 → Int32 → Int32 → Int32 → ev_I → Option (ev_I)) (k3 : ∀ (y1 : Int32) (y2 : Int32) (y3 : Int32) (y4 : Int32) (y5 : Int32) (I : ev_I) (o : ev_I), K3 y1 y2 y3 y4 y5 I = some o → EV E mX8_sendToAll 3 [some (.ref q0), some (.int y1), some (.int y2), some (.int y3), some (.int y4), some (.int y5)] [] (h_w σ I) (Option.none, h_w σ o)) (n : Nat) (y1 : Int32) (y2 : Int32) (y3 : Int32) (y4 : Int32) (y5 : Int32) (I : ev_I) (o : ev_I) : cX8_sendToAll_3 q0 K3 n y1 y2 y3 y4 y5 I = some o → EV E mX8_sendToAll 3 [some (.ref q0), some (.int y1), some (.int y2), some (.int y3), some (.int y4), some (.int y5)] [] (h_w σ I) (Option.none, h_w σ o) := by
  intro h
  unfold cX8_sendToAll_3 at h
  refine ev_iload dX8_sendToAll_3 rfl ?_
  refine ev_aload_n dX8_sendToAll_5 rfl (fun _ e => by cases e) ?_
  refine ew_get0 dX8_sendToAll_6 fX8_50 g0 rfl rfl rfl ?_
  refine ev_icmp_ge (tgt := 32) dX8_sendToAll_9 (by decide) (fun c1 => ?_) (fun c1 => ?_)
  · have h := ev_ifT h c1
    cases h
    exact er_v dX8_sendToAll_32 rfl
  · have h := ev_ifF h c1
    refine ev_aload_n dX8_sendToAll_12 rfl (fun _ e => by cases e) ?_
    refine ew_getr0 dX8_sendToAll_13 fX8_27 g0 rfl rfl rfl rfl ?_
    refine ev_iload_n dX8_sendToAll_16 rfl ?_
    refine ev_iload dX8_sendToAll_17 rfl ?_
    refine ev_iload_n dX8_sendToAll_19 rfl ?_
    refine ev_iload_n dX8_sendToAll_20 rfl ?_
    refine ev_iload dX8_sendToAll_21 rfl ?_
    obtain ⟨z2, hz2, h⟩ := ev_bnE h
    refine ec_Vv (Y := mX4_send) (ci := 4) (As := [.int y1, .int y5, .int y2, .int y3, .int y4]) (rest := []) dX8_sendToAll_23 kX8_101 oX4_send ⟨Nat.le_of_ble_eq_true rfl, Nat.le_of_ble_eq_true rfl⟩ (by decide) rfl (shp_n (s74 g0) 0 rfl) (shp_t (s74 g0) 0 rfl) rfl (Nat.le_of_ble_eq_true rfl) (tX4_send n (q0 + 11) (s74 g0) y1 y5 y2 y3 y4 I z2 hz2) rfl ?_
    obtain ⟨v3, ev3, h⟩ := ev_ltE h
    refine ew_iinc (L' := [some (.ref q0), some (.int y1), some (.int y2), some (.int y3), some (.int y4), some (.int v3)]) dX8_sendToAll_26 (Nat.le_of_ble_eq_true rfl) rfl (by decide) ev3 rfl ?_
    refine ev_goto (tgt := 3) dX8_sendToAll_29 (by decide) ?_
    exact ev_weak (sb_s (sb_s (sb_s (sb_s (sb_s (sb_s sb_0)))))) (k3 y1 y2 y3 y4 v3 z2 _ h)
theorem tlX8_sendToAll_3 {E : ev_N} {σ : ev_H} (q0 : Nat) (g0 : shp tb7 σ q0) : ∀ (n : Nat) (y1 : Int32) (y2 : Int32) (y3 : Int32) (y4 : Int32) (y5 : Int32) (I : ev_I) (o : ev_I), lX8_sendToAll_3 q0 n y1 y2 y3 y4 y5 I = some o → EV E mX8_sendToAll 3 [some (.ref q0), some (.int y1), some (.int y2), some (.int y3), some (.int y4), some (.int y5)] [] (h_w σ I) (Option.none, h_w σ o)
  | 0, _, _, _, _, _, _, _, h => by cases h
  | n + 1, y1, y2, y3, y4, y5, I, o, h => tX8_sendToAll_3 q0 g0 (lX8_sendToAll_3 q0 n) (tlX8_sendToAll_3 q0 g0 n) n y1 y2 y3 y4 y5 I o h
set_option maxRecDepth 100000 in
set_option maxHeartbeats 4000000 in
theorem tX8_sendToAll {E : ev_N} {σ : ev_H} (n : Nat) (q0 : Nat) (g0 : shp tb7 σ q0) (x1 : Int32) (x2 : Int32) (x3 : Int32) (x4 : Int32) (I : ev_I) (o : ev_I) (h : pX8_sendToAll n q0 x1 x2 x3 x4 I = some o) : ev_T E mX8_sendToAll [.ref q0, .int x1, .int x2, .int x3, .int x4] (h_w σ I) (Option.none, h_w σ o) := by
  unfold pX8_sendToAll at h
  refine ev_met rfl rfl (Nat.le_of_ble_eq_true rfl) (ev_L0 (L' := [some (.ref q0), some (.int x1), some (.int x2), some (.int x3), some (.int x4), none]) rfl ?_)
  refine ev_iconst (v := (0 : Int32)) dX8_sendToAll_0 (by decide) ?_
  refine ew_ist (L' := [some (.ref q0), some (.int x1), some (.int x2), some (.int x3), some (.int x4), some (.int (0 : Int32))]) dX8_sendToAll_1 (Nat.le_of_ble_eq_true rfl) rfl ?_
  exact ev_weak (sb_s (sb_s (sb_s (sb_s (sb_s (sb_s sb_0)))))) (tlX8_sendToAll_3 q0 g0 n x1 x2 x3 x4 (0 : Int32) I _ h)
-- ChainVotes$World sendMark(II)V
def pX8_sendMark (n : Nat) (q0 : Nat) (x1 : Int32) (x2 : Int32) (I : ev_I) : Option (ev_I) :=
  ev_ck (ev_in x2 100) <|
  (pX8_leaderOf n q0 ((I ((q0 + 1) + 1) x2.toNatClampNeg) + (1 : Int32)) I).bind fun z2 =>
  (pX4_send n (q0 + 11) x1 z2 (2 : Int32) x2 (-1 : Int32) I).bind fun z3 =>
  some z3
set_option maxRecDepth 100000 in
set_option maxHeartbeats 4000000 in
theorem tX8_sendMark {E : ev_N} {σ : ev_H} (n : Nat) (q0 : Nat) (g0 : shp tb7 σ q0) (x1 : Int32) (x2 : Int32) (I : ev_I) (o : ev_I) (h : pX8_sendMark n q0 x1 x2 I = some o) : ev_T E mX8_sendMark [.ref q0, .int x1, .int x2] (h_w σ I) (Option.none, h_w σ o) := by
  unfold pX8_sendMark at h
  refine ev_met rfl rfl (Nat.le_of_ble_eq_true rfl) (ev_L0 (L' := [some (.ref q0), some (.int x1), some (.int x2)]) rfl ?_)
  refine ev_aload_n dX8_sendMark_0 rfl (fun _ e => by cases e) ?_
  refine ew_getr0 dX8_sendMark_1 fX8_27 g0 rfl rfl rfl rfl ?_
  refine ev_iload_n dX8_sendMark_4 rfl ?_
  refine ev_aload_n dX8_sendMark_5 rfl (fun _ e => by cases e) ?_
  refine ev_aload_n dX8_sendMark_6 rfl (fun _ e => by cases e) ?_
  refine ew_getr0 dX8_sendMark_7 fX8_12 g0 rfl rfl rfl rfl ?_
  refine ew_getr0 dX8_sendMark_10 fX8_105 (s71 g0) rfl rfl rfl rfl ?_
  refine ev_iload_n dX8_sendMark_13 rfl ?_
  obtain ⟨c1, h⟩ := ev_ckE h
  refine ew_iald dX8_sendMark_14 (shp_a (s71 g0) 1 rfl) c1 ?_
  refine ev_iconst (v := (1 : Int32)) dX8_sendMark_15 (by decide) ?_
  refine ev_iadd dX8_sendMark_16 ?_
  obtain ⟨z2, hz2, h⟩ := ev_bnE h
  refine ec_Vi (Y := mX8_leaderOf) (ci := 7) (As := [.int ((I ((q0 + 1) + 1) x2.toNatClampNeg) + (1 : Int32))]) (rest := [(.int x1), (.ref (q0 + 11))]) dX8_sendMark_17 kX8_108 oX8_leaderOf ⟨Nat.le_of_ble_eq_true rfl, Nat.le_of_ble_eq_true rfl⟩ (by decide) rfl (shp_n g0 0 rfl) (shp_t g0 0 rfl) rfl (Nat.le_of_ble_eq_true rfl) (tX8_leaderOf n q0 g0 ((I ((q0 + 1) + 1) x2.toNatClampNeg) + (1 : Int32)) I z2 hz2) rfl ?_
  refine ev_iconst (v := (2 : Int32)) dX8_sendMark_20 (by decide) ?_
  refine ev_iload_n dX8_sendMark_21 rfl ?_
  refine ev_iconst (v := (-1 : Int32)) dX8_sendMark_22 (by decide) ?_
  obtain ⟨z3, hz3, h⟩ := ev_bnE h
  refine ec_Vv (Y := mX4_send) (ci := 4) (As := [.int x1, .int z2, .int (2 : Int32), .int x2, .int (-1 : Int32)]) (rest := []) dX8_sendMark_23 kX8_101 oX4_send ⟨Nat.le_of_ble_eq_true rfl, Nat.le_of_ble_eq_true rfl⟩ (by decide) rfl (shp_n (s74 g0) 0 rfl) (shp_t (s74 g0) 0 rfl) rfl (Nat.le_of_ble_eq_true rfl) (tX4_send n (q0 + 11) (s74 g0) x1 z2 (2 : Int32) x2 (-1 : Int32) I z3 hz3) rfl ?_
  cases h
  exact er_v dX8_sendMark_26 rfl
-- ChainVotes$World canPropose(I)Z
def cX8_canPropose_115 (q0 : Nat) (n : Nat) (y3 : Int32) (s0 : Int32) (I : ev_I) : Option (Int32) :=
  if y3 = 0 then
    some (0 : Int32)
  else
    if s0 = 0 then
      some (0 : Int32)
    else
      some (1 : Int32)
def cX8_canPropose_110 (q0 : Nat) (n : Nat) (y3 : Int32) (I : ev_I) : Option (Int32) :=
  cX8_canPropose_115 q0 n y3 (1 : Int32) I
def cX8_canPropose_67 (q0 : Nat) (n : Nat) (p2 : Nat) (s0 : Int32) (I : ev_I) : Option (Int32) :=
  if (I p2 1) = (1 : Int32) then
    cX8_canPropose_110 q0 n s0 I
  else
    ev_ck (ev_in (I p2 5) 100) <|
    if (I ((q0 + 1) + 1) (I p2 5).toNatClampNeg) = ((I p2 1) - (1 : Int32)) then
      cX8_canPropose_110 q0 n s0 I
    else
      if (I p2 7) < ((I p2 1) - (1 : Int32)) then
        cX8_canPropose_115 q0 n s0 (0 : Int32) I
      else
        cX8_canPropose_110 q0 n s0 I
def cX8_canPropose_66 (q0 : Nat) (n : Nat) (p2 : Nat) (I : ev_I) : Option (Int32) :=
  cX8_canPropose_67 q0 n p2 (0 : Int32) I
def pX8_canPropose (n : Nat) (q0 : Nat) (x1 : Int32) (I : ev_I) : Option (Int32) :=
  (pX8_isAwake n q0 x1 I).bind fun z7 =>
  if z7 = 0 then
    some (0 : Int32)
  else
    if (I (q0 + 1) 0) < (100 : Int32) then
      ev_ck (ev_in x1 7) <|
      if (200 : Int32) < (I (q0 + (23 + 5 * x1.toNatClampNeg)) 1) then
        cX8_canPropose_66 q0 n (q0 + (23 + 5 * x1.toNatClampNeg)) I
      else
        (pX8_leaderOf n q0 (I (q0 + (23 + 5 * x1.toNatClampNeg)) 1) I).bind fun z12 =>
        if z12 = x1 then
          if (I (q0 + (23 + 5 * x1.toNatClampNeg)) 1) ≤ (I (q0 + (23 + 5 * x1.toNatClampNeg)) 3) then
            cX8_canPropose_66 q0 n (q0 + (23 + 5 * x1.toNatClampNeg)) I
          else
            cX8_canPropose_67 q0 n (q0 + (23 + 5 * x1.toNatClampNeg)) (1 : Int32) I
        else
          cX8_canPropose_66 q0 n (q0 + (23 + 5 * x1.toNatClampNeg)) I
    else
      some (0 : Int32)
set_option maxRecDepth 100000 in
set_option maxHeartbeats 4000000 in
theorem tX8_canPropose_115 {E : ev_N} {σ : ev_H} (q0 : Nat) (g0 : shp tb7 σ q0) (n : Nat) (y3 : Int32) (s0 : Int32) (I : ev_I) (o : Int32) : cX8_canPropose_115 q0 n y3 s0 I = some o → EV E mX8_canPropose 115 [none, none, none, some (.int y3), none] [(.int s0)] (h_w σ I) (Option.some (Value.int o), h_w σ I) := by
  intro h
  unfold cX8_canPropose_115 at h
  refine ew_ist (L' := [none, none, none, some (.int y3), some (.int s0)]) dX8_canPropose_115 (Nat.le_of_ble_eq_true rfl) rfl ?_
  refine ev_iload_n dX8_canPropose_117 rfl ?_
  refine ev_if_eq (tgt := 130) dX8_canPropose_118 (by decide) (fun c1 => ?_) (fun c1 => ?_)
  · have h := ev_ifT h c1
    refine ev_iconst (v := (0 : Int32)) dX8_canPropose_130 (by decide) ?_
    cases h
    exact er_i dX8_canPropose_131 rfl rfl
  · have h := ev_ifF h c1
    refine ev_iload dX8_canPropose_121 rfl ?_
    refine ev_if_eq (tgt := 130) dX8_canPropose_123 (by decide) (fun c2 => ?_) (fun c2 => ?_)
    · have h := ev_ifT h c2
      refine ev_iconst (v := (0 : Int32)) dX8_canPropose_130 (by decide) ?_
      cases h
      exact er_i dX8_canPropose_131 rfl rfl
    · have h := ev_ifF h c2
      refine ev_iconst (v := (1 : Int32)) dX8_canPropose_126 (by decide) ?_
      refine ev_goto (tgt := 131) dX8_canPropose_127 (by decide) ?_
      cases h
      exact er_i dX8_canPropose_131 rfl rfl
set_option maxRecDepth 100000 in
set_option maxHeartbeats 4000000 in
theorem tX8_canPropose_110 {E : ev_N} {σ : ev_H} (q0 : Nat) (g0 : shp tb7 σ q0) (n : Nat) (y3 : Int32) (I : ev_I) (o : Int32) : cX8_canPropose_110 q0 n y3 I = some o → EV E mX8_canPropose 110 [none, none, none, some (.int y3), none] [] (h_w σ I) (Option.some (Value.int o), h_w σ I) := by
  intro h
  unfold cX8_canPropose_110 at h
  refine ev_iconst (v := (1 : Int32)) dX8_canPropose_110 (by decide) ?_
  refine ev_goto (tgt := 115) dX8_canPropose_111 (by decide) ?_
  exact ev_weak (sb_n (sb_n (sb_n (sb_s (sb_n sb_0))))) (tX8_canPropose_115 q0 g0 n y3 (1 : Int32) I _ h)
set_option maxRecDepth 100000 in
set_option maxHeartbeats 4000000 in
theorem tX8_canPropose_67 {E : ev_N} {σ : ev_H} (q0 : Nat) (g0 : shp tb7 σ q0) (n : Nat) (p2 : Nat) (s0 : Int32) (I : ev_I) (o : Int32) (u2 : shp tb3 σ p2) : cX8_canPropose_67 q0 n p2 s0 I = some o → EV E mX8_canPropose 67 [some (.ref q0), none, some (.ref p2), none, none] [(.int s0)] (h_w σ I) (Option.some (Value.int o), h_w σ I) := by
  intro h
  unfold cX8_canPropose_67 at h
  refine ew_istn (L' := [some (.ref q0), none, some (.ref p2), some (.int s0), none]) dX8_canPropose_67 (Nat.le_of_ble_eq_true rfl) rfl ?_
  refine ev_aload_n dX8_canPropose_68 rfl (fun _ e => by cases e) ?_
  refine ew_get0 dX8_canPropose_69 fX8_115 u2 rfl rfl rfl ?_
  refine ev_iconst (v := (1 : Int32)) dX8_canPropose_72 (by decide) ?_
  refine ev_icmp_eq (tgt := 110) dX8_canPropose_73 (by decide) (fun c3 => ?_) (fun c3 => ?_)
  · have h := ev_ifT h c3
    exact ev_weak (sb_n (sb_n (sb_n (sb_s (sb_n sb_0))))) (tX8_canPropose_110 q0 g0 n s0 I _ h)
  · have h := ev_ifF h c3
    refine ev_aload_n dX8_canPropose_76 rfl (fun _ e => by cases e) ?_
    refine ew_getr0 dX8_canPropose_77 fX8_12 g0 rfl rfl rfl rfl ?_
    refine ew_getr0 dX8_canPropose_80 fX8_105 (s71 g0) rfl rfl rfl rfl ?_
    refine ev_aload_n dX8_canPropose_83 rfl (fun _ e => by cases e) ?_
    refine ew_get0 dX8_canPropose_84 fX8_120 u2 rfl rfl rfl ?_
    obtain ⟨c4, h⟩ := ev_ckE h
    refine ew_iald dX8_canPropose_87 (shp_a (s71 g0) 1 rfl) c4 ?_
    refine ev_aload_n dX8_canPropose_88 rfl (fun _ e => by cases e) ?_
    refine ew_get0 dX8_canPropose_89 fX8_115 u2 rfl rfl rfl ?_
    refine ev_iconst (v := (1 : Int32)) dX8_canPropose_92 (by decide) ?_
    refine ev_isub dX8_canPropose_93 ?_
    refine ev_icmp_eq (tgt := 110) dX8_canPropose_94 (by decide) (fun c5 => ?_) (fun c5 => ?_)
    · have h := ev_ifT h c5
      exact ev_weak (sb_n (sb_n (sb_n (sb_s (sb_n sb_0))))) (tX8_canPropose_110 q0 g0 n s0 I _ h)
    · have h := ev_ifF h c5
      refine ev_aload_n dX8_canPropose_97 rfl (fun _ e => by cases e) ?_
      refine ew_get0 dX8_canPropose_98 fX8_123 u2 rfl rfl rfl ?_
      refine ev_aload_n dX8_canPropose_101 rfl (fun _ e => by cases e) ?_
      refine ew_get0 dX8_canPropose_102 fX8_115 u2 rfl rfl rfl ?_
      refine ev_iconst (v := (1 : Int32)) dX8_canPropose_105 (by decide) ?_
      refine ev_isub dX8_canPropose_106 ?_
      refine ev_icmp_lt (tgt := 114) dX8_canPropose_107 (by decide) (fun c6 => ?_) (fun c6 => ?_)
      · have h := ev_ifT h c6
        refine ev_iconst (v := (0 : Int32)) dX8_canPropose_114 (by decide) ?_
        exact ev_weak (sb_n (sb_n (sb_n (sb_s (sb_n sb_0))))) (tX8_canPropose_115 q0 g0 n s0 (0 : Int32) I _ h)
      · have h := ev_ifF h c6
        exact ev_weak (sb_n (sb_n (sb_n (sb_s (sb_n sb_0))))) (tX8_canPropose_110 q0 g0 n s0 I _ h)
set_option maxRecDepth 100000 in
set_option maxHeartbeats 4000000 in
theorem tX8_canPropose_66 {E : ev_N} {σ : ev_H} (q0 : Nat) (g0 : shp tb7 σ q0) (n : Nat) (p2 : Nat) (I : ev_I) (o : Int32) (u2 : shp tb3 σ p2) : cX8_canPropose_66 q0 n p2 I = some o → EV E mX8_canPropose 66 [some (.ref q0), none, some (.ref p2), none, none] [] (h_w σ I) (Option.some (Value.int o), h_w σ I) := by
  intro h
  unfold cX8_canPropose_66 at h
  refine ev_iconst (v := (0 : Int32)) dX8_canPropose_66 (by decide) ?_
  exact ev_weak (sb_s (sb_n (sb_s (sb_n (sb_n sb_0))))) (tX8_canPropose_67 q0 g0 n p2 (0 : Int32) I _ u2 h)
set_option maxRecDepth 100000 in
set_option maxHeartbeats 4000000 in
theorem tX8_canPropose {E : ev_N} {σ : ev_H} (n : Nat) (q0 : Nat) (g0 : shp tb7 σ q0) (x1 : Int32) (I : ev_I) (o : Int32) (h : pX8_canPropose n q0 x1 I = some o) : ev_T E mX8_canPropose [.ref q0, .int x1] (h_w σ I) (Option.some (Value.int o), h_w σ I) := by
  unfold pX8_canPropose at h
  refine ev_met rfl rfl (Nat.le_of_ble_eq_true rfl) (ev_L0 (L' := [some (.ref q0), some (.int x1), none, none, none]) rfl ?_)
  refine ev_aload_n dX8_canPropose_0 rfl (fun _ e => by cases e) ?_
  refine ev_iload_n dX8_canPropose_1 rfl ?_
  obtain ⟨z7, hz7, h⟩ := ev_bnE h
  refine ec_Vi (Y := mX8_isAwake) (ci := 7) (As := [.int x1]) (rest := []) dX8_canPropose_2 kX8_112 oX8_isAwake ⟨Nat.le_of_ble_eq_true rfl, Nat.le_of_ble_eq_true rfl⟩ (by decide) rfl (shp_n g0 0 rfl) (shp_t g0 0 rfl) rfl (Nat.le_of_ble_eq_true rfl) (tX8_isAwake n q0 g0 x1 I z7 hz7) rfl ?_
  refine ev_if_eq (tgt := 20) dX8_canPropose_5 (by decide) (fun c8 => ?_) (fun c8 => ?_)
  · have h := ev_ifT h c8
    refine ev_iconst (v := (0 : Int32)) dX8_canPropose_20 (by decide) ?_
    cases h
    exact er_i dX8_canPropose_21 rfl rfl
  · have h := ev_ifF h c8
    refine ev_aload_n dX8_canPropose_8 rfl (fun _ e => by cases e) ?_
    refine ew_getr0 dX8_canPropose_9 fX8_12 g0 rfl rfl rfl rfl ?_
    refine ew_get0 dX8_canPropose_12 fX8_80 (s71 g0) rfl rfl rfl ?_
    refine ev_bipush (v := (100 : Int32)) dX8_canPropose_15 (by decide) ?_
    refine ev_icmp_lt (tgt := 22) dX8_canPropose_17 (by decide) (fun c9 => ?_) (fun c9 => ?_)
    · have h := ev_ifT h c9
      refine ev_aload_n dX8_canPropose_22 rfl (fun _ e => by cases e) ?_
      refine ew_getr0 dX8_canPropose_23 fX8_20 g0 rfl rfl rfl rfl ?_
      refine ev_iload_n dX8_canPropose_26 rfl ?_
      obtain ⟨c10, h⟩ := ev_ckE h
      refine ew_memb dX8_canPropose_27 g0 c10 ?_
      refine ew_astn (L' := [some (.ref q0), some (.int x1), some (.ref (q0 + (23 + 5 * x1.toNatClampNeg))), none, none]) dX8_canPropose_28 (Nat.le_of_ble_eq_true rfl) (fun _ e => by cases e) rfl ?_
      refine ev_aload_n dX8_canPropose_29 rfl (fun _ e => by cases e) ?_
      refine ew_get0 dX8_canPropose_30 fX8_115 (s73 g0 (ev_inL c10)) rfl rfl rfl ?_
      refine ev_sipush (v := (200 : Int32)) dX8_canPropose_33 (by decide) ?_
      refine ev_icmp_gt (tgt := 66) dX8_canPropose_36 (by decide) (fun c11 => ?_) (fun c11 => ?_)
      · have h := ev_ifT h c11
        exact ev_weak (sb_s (sb_n (sb_s (sb_n (sb_n sb_0))))) (tX8_canPropose_66 q0 g0 n (q0 + (23 + 5 * x1.toNatClampNeg)) I _ (s73 g0 (ev_inL c10)) h)
      · have h := ev_ifF h c11
        refine ev_aload_n dX8_canPropose_39 rfl (fun _ e => by cases e) ?_
        refine ev_aload_n dX8_canPropose_40 rfl (fun _ e => by cases e) ?_
        refine ew_get0 dX8_canPropose_41 fX8_115 (s73 g0 (ev_inL c10)) rfl rfl rfl ?_
        obtain ⟨z12, hz12, h⟩ := ev_bnE h
        refine ec_Vi (Y := mX8_leaderOf) (ci := 7) (As := [.int (I (q0 + (23 + 5 * x1.toNatClampNeg)) 1)]) (rest := []) dX8_canPropose_44 kX8_108 oX8_leaderOf ⟨Nat.le_of_ble_eq_true rfl, Nat.le_of_ble_eq_true rfl⟩ (by decide) rfl (shp_n g0 0 rfl) (shp_t g0 0 rfl) rfl (Nat.le_of_ble_eq_true rfl) (tX8_leaderOf n q0 g0 (I (q0 + (23 + 5 * x1.toNatClampNeg)) 1) I z12 hz12) rfl ?_
        refine ev_iload_n dX8_canPropose_47 rfl ?_
        refine ev_icmp_ne (tgt := 66) dX8_canPropose_48 (by decide) (fun c13 => ?_) (fun c13 => ?_)
        · have h := ev_ifF h c13
          exact ev_weak (sb_s (sb_n (sb_s (sb_n (sb_n sb_0))))) (tX8_canPropose_66 q0 g0 n (q0 + (23 + 5 * x1.toNatClampNeg)) I _ (s73 g0 (ev_inL c10)) h)
        · have h := ev_ifT h c13
          refine ev_aload_n dX8_canPropose_51 rfl (fun _ e => by cases e) ?_
          refine ew_get0 dX8_canPropose_52 fX8_117 (s73 g0 (ev_inL c10)) rfl rfl rfl ?_
          refine ev_aload_n dX8_canPropose_55 rfl (fun _ e => by cases e) ?_
          refine ew_get0 dX8_canPropose_56 fX8_115 (s73 g0 (ev_inL c10)) rfl rfl rfl ?_
          refine ev_icmp_ge (tgt := 66) dX8_canPropose_59 (by decide) (fun c14 => ?_) (fun c14 => ?_)
          · have h := ev_ifT h c14
            exact ev_weak (sb_s (sb_n (sb_s (sb_n (sb_n sb_0))))) (tX8_canPropose_66 q0 g0 n (q0 + (23 + 5 * x1.toNatClampNeg)) I _ (s73 g0 (ev_inL c10)) h)
          · have h := ev_ifF h c14
            refine ev_iconst (v := (1 : Int32)) dX8_canPropose_62 (by decide) ?_
            refine ev_goto (tgt := 67) dX8_canPropose_63 (by decide) ?_
            exact ev_weak (sb_s (sb_n (sb_s (sb_n (sb_n sb_0))))) (tX8_canPropose_67 q0 g0 n (q0 + (23 + 5 * x1.toNatClampNeg)) (1 : Int32) I _ (s73 g0 (ev_inL c10)) h)
    · have h := ev_ifF h c9
      refine ev_iconst (v := (0 : Int32)) dX8_canPropose_20 (by decide) ?_
      cases h
      exact er_i dX8_canPropose_21 rfl rfl
-- ChainVotes$World proposeBy(II)I
def cX8_proposeBy_46 (q0 : Nat) (n : Nat) (y1 : Int32) (y2 : Int32) (p3 : Nat) (s0 : Int32) (I : ev_I) : Option (Int32 × ev_I) :=
  (pX1_add n (q0 + 1) (I p3 1) (I p3 5) (I p3 5) y2 y1 s0 I).bind fun z1 =>
  ev_lt (ev_u2 z1.2 p3 3 (z1.2 p3 1)) fun I2 =>
  (pX8_sendToAll n q0 y1 (1 : Int32) z1.1 (-1 : Int32) I2).bind fun z3 =>
  some (z1.1, z3)
def pX8_proposeBy (n : Nat) (q0 : Nat) (x1 : Int32) (x2 : Int32) (I : ev_I) : Option (Int32 × ev_I) :=
  if x2 < 0 then
    some ((-1 : Int32), I)
  else
    if (999 : Int32) < x2 then
      some ((-1 : Int32), I)
    else
      (pX8_canPropose n q0 x1 I).bind fun z6 =>
      if z6 = 0 then
        some ((-1 : Int32), I)
      else
        ev_ck (ev_in x1 7) <|
        if (I (q0 + (23 + 5 * x1.toNatClampNeg)) 7) < ((I (q0 + (23 + 5 * x1.toNatClampNeg)) 1) - (1 : Int32)) then
          cX8_proposeBy_46 q0 n x1 x2 (q0 + (23 + 5 * x1.toNatClampNeg)) (0 : Int32) I
        else
          cX8_proposeBy_46 q0 n x1 x2 (q0 + (23 + 5 * x1.toNatClampNeg)) (1 : Int32) I
set_option maxRecDepth 100000 in
set_option maxHeartbeats 4000000 in
theorem tX8_proposeBy_46 {E : ev_N} {σ : ev_H} (q0 : Nat) (g0 : shp tb7 σ q0) (n : Nat) (y1 : Int32) (y2 : Int32) (p3 : Nat) (s0 : Int32) (I : ev_I) (o : Int32 × ev_I) (u3 : shp tb3 σ p3) : cX8_proposeBy_46 q0 n y1 y2 p3 s0 I = some o → EV E mX8_proposeBy 46 [some (.ref q0), some (.int y1), some (.int y2), some (.ref p3), none, none] [(.int s0)] (h_w σ I) (Option.some (Value.int o.1), h_w σ o.2) := by
  intro h
  unfold cX8_proposeBy_46 at h
  refine ew_ist (L' := [some (.ref q0), some (.int y1), some (.int y2), some (.ref p3), some (.int s0), none]) dX8_proposeBy_46 (Nat.le_of_ble_eq_true rfl) rfl ?_
  refine ev_aload_n dX8_proposeBy_48 rfl (fun _ e => by cases e) ?_
  refine ew_getr0 dX8_proposeBy_49 fX8_12 g0 rfl rfl rfl rfl ?_
  refine ev_aload_n dX8_proposeBy_52 rfl (fun _ e => by cases e) ?_
  refine ew_get0 dX8_proposeBy_53 fX8_115 u3 rfl rfl rfl ?_
  refine ev_aload_n dX8_proposeBy_56 rfl (fun _ e => by cases e) ?_
  refine ew_get0 dX8_proposeBy_57 fX8_120 u3 rfl rfl rfl ?_
  refine ev_aload_n dX8_proposeBy_60 rfl (fun _ e => by cases e) ?_
  refine ew_get0 dX8_proposeBy_61 fX8_120 u3 rfl rfl rfl ?_
  refine ev_iload_n dX8_proposeBy_64 rfl ?_
  refine ev_iload_n dX8_proposeBy_65 rfl ?_
  refine ev_iload dX8_proposeBy_66 rfl ?_
  obtain ⟨z1, hz1, h⟩ := ev_bnE h
  refine ec_Vi (Y := mX1_add) (ci := 1) (As := [.int (I p3 1), .int (I p3 5), .int (I p3 5), .int y2, .int y1, .int s0]) (rest := []) dX8_proposeBy_68 kX8_129 oX1_add ⟨Nat.le_of_ble_eq_true rfl, Nat.le_of_ble_eq_true rfl⟩ (by decide) rfl (shp_n (s71 g0) 0 rfl) (shp_t (s71 g0) 0 rfl) rfl (Nat.le_of_ble_eq_true rfl) (tX1_add n (q0 + 1) (s71 g0) (I p3 1) (I p3 5) (I p3 5) y2 y1 s0 I z1 hz1) rfl ?_
  refine ew_ist (L' := [some (.ref q0), some (.int y1), some (.int y2), some (.ref p3), some (.int s0), some (.int z1.1)]) dX8_proposeBy_71 (Nat.le_of_ble_eq_true rfl) rfl ?_
  refine ev_aload_n dX8_proposeBy_73 rfl (fun _ e => by cases e) ?_
  refine ev_aload_n dX8_proposeBy_74 rfl (fun _ e => by cases e) ?_
  refine ew_get0 dX8_proposeBy_75 fX8_115 u3 rfl rfl rfl ?_
  obtain ⟨I2, eI2, h⟩ := ev_ltE h
  refine ew_put0 dX8_proposeBy_78 fX8_117 u3 rfl rfl rfl rfl rfl rfl (ew_nh eI2 ?_)
  refine ev_aload_n dX8_proposeBy_81 rfl (fun _ e => by cases e) ?_
  refine ev_iload_n dX8_proposeBy_82 rfl ?_
  refine ev_iconst (v := (1 : Int32)) dX8_proposeBy_83 (by decide) ?_
  refine ev_iload dX8_proposeBy_84 rfl ?_
  refine ev_iconst (v := (-1 : Int32)) dX8_proposeBy_86 (by decide) ?_
  obtain ⟨z3, hz3, h⟩ := ev_bnE h
  refine ec_Vv (Y := mX8_sendToAll) (ci := 7) (As := [.int y1, .int (1 : Int32), .int z1.1, .int (-1 : Int32)]) (rest := []) dX8_proposeBy_87 kX8_133 oX8_sendToAll ⟨Nat.le_of_ble_eq_true rfl, Nat.le_of_ble_eq_true rfl⟩ (by decide) rfl (shp_n g0 0 rfl) (shp_t g0 0 rfl) rfl (Nat.le_of_ble_eq_true rfl) (tX8_sendToAll n q0 g0 y1 (1 : Int32) z1.1 (-1 : Int32) I2 z3 hz3) rfl ?_
  refine ev_iload dX8_proposeBy_90 rfl ?_
  cases h
  exact er_i dX8_proposeBy_92 rfl rfl
set_option maxRecDepth 100000 in
set_option maxHeartbeats 4000000 in
theorem tX8_proposeBy {E : ev_N} {σ : ev_H} (n : Nat) (q0 : Nat) (g0 : shp tb7 σ q0) (x1 : Int32) (x2 : Int32) (I : ev_I) (o : Int32 × ev_I) (h : pX8_proposeBy n q0 x1 x2 I = some o) : ev_T E mX8_proposeBy [.ref q0, .int x1, .int x2] (h_w σ I) (Option.some (Value.int o.1), h_w σ o.2) := by
  unfold pX8_proposeBy at h
  refine ev_met rfl rfl (Nat.le_of_ble_eq_true rfl) (ev_L0 (L' := [some (.ref q0), some (.int x1), some (.int x2), none, none, none]) rfl ?_)
  refine ev_iload_n dX8_proposeBy_0 rfl ?_
  refine ev_if_lt (tgt := 19) dX8_proposeBy_1 (by decide) (fun c4 => ?_) (fun c4 => ?_)
  · have h := ev_ifT h c4
    refine ev_iconst (v := (-1 : Int32)) dX8_proposeBy_19 (by decide) ?_
    cases h
    exact er_i dX8_proposeBy_20 rfl rfl
  · have h := ev_ifF h c4
    refine ev_iload_n dX8_proposeBy_4 rfl ?_
    refine ev_sipush (v := (999 : Int32)) dX8_proposeBy_5 (by decide) ?_
    refine ev_icmp_gt (tgt := 19) dX8_proposeBy_8 (by decide) (fun c5 => ?_) (fun c5 => ?_)
    · have h := ev_ifT h c5
      refine ev_iconst (v := (-1 : Int32)) dX8_proposeBy_19 (by decide) ?_
      cases h
      exact er_i dX8_proposeBy_20 rfl rfl
    · have h := ev_ifF h c5
      refine ev_aload_n dX8_proposeBy_11 rfl (fun _ e => by cases e) ?_
      refine ev_iload_n dX8_proposeBy_12 rfl ?_
      obtain ⟨z6, hz6, h⟩ := ev_bnE h
      refine ec_Vi (Y := mX8_canPropose) (ci := 7) (As := [.int x1]) (rest := []) dX8_proposeBy_13 kX8_126 oX8_canPropose ⟨Nat.le_of_ble_eq_true rfl, Nat.le_of_ble_eq_true rfl⟩ (by decide) rfl (shp_n g0 0 rfl) (shp_t g0 0 rfl) rfl (Nat.le_of_ble_eq_true rfl) (tX8_canPropose n q0 g0 x1 I z6 hz6) rfl ?_
      refine ev_if_ne (tgt := 21) dX8_proposeBy_16 (by decide) (fun c7 => ?_) (fun c7 => ?_)
      · have h := ev_ifF h c7
        refine ev_aload_n dX8_proposeBy_21 rfl (fun _ e => by cases e) ?_
        refine ew_getr0 dX8_proposeBy_22 fX8_20 g0 rfl rfl rfl rfl ?_
        refine ev_iload_n dX8_proposeBy_25 rfl ?_
        obtain ⟨c8, h⟩ := ev_ckE h
        refine ew_memb dX8_proposeBy_26 g0 c8 ?_
        refine ew_astn (L' := [some (.ref q0), some (.int x1), some (.int x2), some (.ref (q0 + (23 + 5 * x1.toNatClampNeg))), none, none]) dX8_proposeBy_27 (Nat.le_of_ble_eq_true rfl) (fun _ e => by cases e) rfl ?_
        refine ev_aload_n dX8_proposeBy_28 rfl (fun _ e => by cases e) ?_
        refine ew_get0 dX8_proposeBy_29 fX8_123 (s73 g0 (ev_inL c8)) rfl rfl rfl ?_
        refine ev_aload_n dX8_proposeBy_32 rfl (fun _ e => by cases e) ?_
        refine ew_get0 dX8_proposeBy_33 fX8_115 (s73 g0 (ev_inL c8)) rfl rfl rfl ?_
        refine ev_iconst (v := (1 : Int32)) dX8_proposeBy_36 (by decide) ?_
        refine ev_isub dX8_proposeBy_37 ?_
        refine ev_icmp_lt (tgt := 45) dX8_proposeBy_38 (by decide) (fun c9 => ?_) (fun c9 => ?_)
        · have h := ev_ifT h c9
          refine ev_iconst (v := (0 : Int32)) dX8_proposeBy_45 (by decide) ?_
          exact ev_weak (sb_s (sb_s (sb_s (sb_s (sb_n (sb_n sb_0)))))) (tX8_proposeBy_46 q0 g0 n x1 x2 (q0 + (23 + 5 * x1.toNatClampNeg)) (0 : Int32) I _ (s73 g0 (ev_inL c8)) h)
        · have h := ev_ifF h c9
          refine ev_iconst (v := (1 : Int32)) dX8_proposeBy_41 (by decide) ?_
          refine ev_goto (tgt := 46) dX8_proposeBy_42 (by decide) ?_
          exact ev_weak (sb_s (sb_s (sb_s (sb_s (sb_n (sb_n sb_0)))))) (tX8_proposeBy_46 q0 g0 n x1 x2 (q0 + (23 + 5 * x1.toNatClampNeg)) (1 : Int32) I _ (s73 g0 (ev_inL c8)) h)
      · have h := ev_ifT h c7
        refine ev_iconst (v := (-1 : Int32)) dX8_proposeBy_19 (by decide) ?_
        cases h
        exact er_i dX8_proposeBy_20 rfl rfl
-- ChainVotes$World canTimeOut(I)Z
def pX8_canTimeOut (n : Nat) (q0 : Nat) (x1 : Int32) (I : ev_I) : Option (Int32) :=
  (pX8_isAwake n q0 x1 I).bind fun z1 =>
  if z1 = 0 then
    some (0 : Int32)
  else
    ev_ck (ev_in x1 7) <|
    if (200 : Int32) < (I (q0 + (23 + 5 * x1.toNatClampNeg)) 1) then
      some (0 : Int32)
    else
      ev_ck (ev_in x1 7) <|
      ev_ck (ev_in x1 7) <|
      if (I (q0 + (23 + 5 * x1.toNatClampNeg)) 1) ≤ (I (q0 + (23 + 5 * x1.toNatClampNeg)) 4) then
        some (0 : Int32)
      else
        some (1 : Int32)
set_option maxRecDepth 100000 in
set_option maxHeartbeats 4000000 in
theorem tX8_canTimeOut {E : ev_N} {σ : ev_H} (n : Nat) (q0 : Nat) (g0 : shp tb7 σ q0) (x1 : Int32) (I : ev_I) (o : Int32) (h : pX8_canTimeOut n q0 x1 I = some o) : ev_T E mX8_canTimeOut [.ref q0, .int x1] (h_w σ I) (Option.some (Value.int o), h_w σ I) := by
  unfold pX8_canTimeOut at h
  refine ev_met rfl rfl (Nat.le_of_ble_eq_true rfl) (ev_L0 (L' := [some (.ref q0), some (.int x1)]) rfl ?_)
  refine ev_aload_n dX8_canTimeOut_0 rfl (fun _ e => by cases e) ?_
  refine ev_iload_n dX8_canTimeOut_1 rfl ?_
  obtain ⟨z1, hz1, h⟩ := ev_bnE h
  refine ec_Vi (Y := mX8_isAwake) (ci := 7) (As := [.int x1]) (rest := []) dX8_canTimeOut_2 kX8_112 oX8_isAwake ⟨Nat.le_of_ble_eq_true rfl, Nat.le_of_ble_eq_true rfl⟩ (by decide) rfl (shp_n g0 0 rfl) (shp_t g0 0 rfl) rfl (Nat.le_of_ble_eq_true rfl) (tX8_isAwake n q0 g0 x1 I z1 hz1) rfl ?_
  refine ev_if_eq (tgt := 48) dX8_canTimeOut_5 (by decide) (fun c2 => ?_) (fun c2 => ?_)
  · have h := ev_ifT h c2
    refine ev_iconst (v := (0 : Int32)) dX8_canTimeOut_48 (by decide) ?_
    cases h
    exact er_i dX8_canTimeOut_49 rfl rfl
  · have h := ev_ifF h c2
    refine ev_aload_n dX8_canTimeOut_8 rfl (fun _ e => by cases e) ?_
    refine ew_getr0 dX8_canTimeOut_9 fX8_20 g0 rfl rfl rfl rfl ?_
    refine ev_iload_n dX8_canTimeOut_12 rfl ?_
    obtain ⟨c3, h⟩ := ev_ckE h
    refine ew_memb dX8_canTimeOut_13 g0 c3 ?_
    refine ew_get0 dX8_canTimeOut_14 fX8_115 (s73 g0 (ev_inL c3)) rfl rfl rfl ?_
    refine ev_sipush (v := (200 : Int32)) dX8_canTimeOut_17 (by decide) ?_
    refine ev_icmp_gt (tgt := 48) dX8_canTimeOut_20 (by decide) (fun c4 => ?_) (fun c4 => ?_)
    · have h := ev_ifT h c4
      refine ev_iconst (v := (0 : Int32)) dX8_canTimeOut_48 (by decide) ?_
      cases h
      exact er_i dX8_canTimeOut_49 rfl rfl
    · have h := ev_ifF h c4
      refine ev_aload_n dX8_canTimeOut_23 rfl (fun _ e => by cases e) ?_
      refine ew_getr0 dX8_canTimeOut_24 fX8_20 g0 rfl rfl rfl rfl ?_
      refine ev_iload_n dX8_canTimeOut_27 rfl ?_
      obtain ⟨c5, h⟩ := ev_ckE h
      refine ew_memb dX8_canTimeOut_28 g0 c5 ?_
      refine ew_get0 dX8_canTimeOut_29 fX8_137 (s73 g0 (ev_inL c5)) rfl rfl rfl ?_
      refine ev_aload_n dX8_canTimeOut_32 rfl (fun _ e => by cases e) ?_
      refine ew_getr0 dX8_canTimeOut_33 fX8_20 g0 rfl rfl rfl rfl ?_
      refine ev_iload_n dX8_canTimeOut_36 rfl ?_
      obtain ⟨c6, h⟩ := ev_ckE h
      refine ew_memb dX8_canTimeOut_37 g0 c6 ?_
      refine ew_get0 dX8_canTimeOut_38 fX8_115 (s73 g0 (ev_inL c6)) rfl rfl rfl ?_
      refine ev_icmp_ge (tgt := 48) dX8_canTimeOut_41 (by decide) (fun c7 => ?_) (fun c7 => ?_)
      · have h := ev_ifT h c7
        refine ev_iconst (v := (0 : Int32)) dX8_canTimeOut_48 (by decide) ?_
        cases h
        exact er_i dX8_canTimeOut_49 rfl rfl
      · have h := ev_ifF h c7
        refine ev_iconst (v := (1 : Int32)) dX8_canTimeOut_44 (by decide) ?_
        refine ev_goto (tgt := 49) dX8_canTimeOut_45 (by decide) ?_
        cases h
        exact er_i dX8_canTimeOut_49 rfl rfl
-- ChainVotes$World timeOutBy(I)Z
def pX8_timeOutBy (n : Nat) (q0 : Nat) (x1 : Int32) (I : ev_I) : Option (Int32 × ev_I) :=
  (pX8_canTimeOut n q0 x1 I).bind fun z1 =>
  if z1 = 0 then
    some ((0 : Int32), I)
  else
    ev_ck (ev_in x1 7) <|
    (pX8_sendToAll n q0 x1 (3 : Int32) (I (q0 + (23 + 5 * x1.toNatClampNeg)) 1) (I (q0 + (23 + 5 * x1.toNatClampNeg)) 5) I).bind fun z4 =>
    ev_lt (ev_u2 z4 (q0 + (23 + 5 * x1.toNatClampNeg)) 4 (z4 (q0 + (23 + 5 * x1.toNatClampNeg)) 1)) fun I5 =>
    ev_lt (ev_u2 I5 (q0 + (23 + 5 * x1.toNatClampNeg)) 2 (if (I5 (q0 + (23 + 5 * x1.toNatClampNeg)) 2) < (I5 (q0 + (23 + 5 * x1.toNatClampNeg)) 1) then (I5 (q0 + (23 + 5 * x1.toNatClampNeg)) 1) else (I5 (q0 + (23 + 5 * x1.toNatClampNeg)) 2))) fun I6 =>
    some ((1 : Int32), I6)
set_option maxRecDepth 100000 in
set_option maxHeartbeats 4000000 in
theorem tX8_timeOutBy {E : ev_N} {σ : ev_H} (n : Nat) (q0 : Nat) (g0 : shp tb7 σ q0) (x1 : Int32) (I : ev_I) (o : Int32 × ev_I) (h : pX8_timeOutBy n q0 x1 I = some o) : ev_T E mX8_timeOutBy [.ref q0, .int x1] (h_w σ I) (Option.some (Value.int o.1), h_w σ o.2) := by
  unfold pX8_timeOutBy at h
  refine ev_met rfl rfl (Nat.le_of_ble_eq_true rfl) (ev_L0 (L' := [some (.ref q0), some (.int x1), none]) rfl ?_)
  refine ev_aload_n dX8_timeOutBy_0 rfl (fun _ e => by cases e) ?_
  refine ev_iload_n dX8_timeOutBy_1 rfl ?_
  obtain ⟨z1, hz1, h⟩ := ev_bnE h
  refine ec_Vi (Y := mX8_canTimeOut) (ci := 7) (As := [.int x1]) (rest := []) dX8_timeOutBy_2 kX8_140 oX8_canTimeOut ⟨Nat.le_of_ble_eq_true rfl, Nat.le_of_ble_eq_true rfl⟩ (by decide) rfl (shp_n g0 0 rfl) (shp_t g0 0 rfl) rfl (Nat.le_of_ble_eq_true rfl) (tX8_canTimeOut n q0 g0 x1 I z1 hz1) rfl ?_
  refine ev_if_ne (tgt := 10) dX8_timeOutBy_5 (by decide) (fun c2 => ?_) (fun c2 => ?_)
  · have h := ev_ifF h c2
    refine ev_aload_n dX8_timeOutBy_10 rfl (fun _ e => by cases e) ?_
    refine ew_getr0 dX8_timeOutBy_11 fX8_20 g0 rfl rfl rfl rfl ?_
    refine ev_iload_n dX8_timeOutBy_14 rfl ?_
    obtain ⟨c3, h⟩ := ev_ckE h
    refine ew_memb dX8_timeOutBy_15 g0 c3 ?_
    refine ew_astn (L' := [some (.ref q0), some (.int x1), some (.ref (q0 + (23 + 5 * x1.toNatClampNeg)))]) dX8_timeOutBy_16 (Nat.le_of_ble_eq_true rfl) (fun _ e => by cases e) rfl ?_
    refine ev_aload_n dX8_timeOutBy_17 rfl (fun _ e => by cases e) ?_
    refine ev_iload_n dX8_timeOutBy_18 rfl ?_
    refine ev_iconst (v := (3 : Int32)) dX8_timeOutBy_19 (by decide) ?_
    refine ev_aload_n dX8_timeOutBy_20 rfl (fun _ e => by cases e) ?_
    refine ew_get0 dX8_timeOutBy_21 fX8_115 (s73 g0 (ev_inL c3)) rfl rfl rfl ?_
    refine ev_aload_n dX8_timeOutBy_24 rfl (fun _ e => by cases e) ?_
    refine ew_get0 dX8_timeOutBy_25 fX8_120 (s73 g0 (ev_inL c3)) rfl rfl rfl ?_
    obtain ⟨z4, hz4, h⟩ := ev_bnE h
    refine ec_Vv (Y := mX8_sendToAll) (ci := 7) (As := [.int x1, .int (3 : Int32), .int (I (q0 + (23 + 5 * x1.toNatClampNeg)) 1), .int (I (q0 + (23 + 5 * x1.toNatClampNeg)) 5)]) (rest := []) dX8_timeOutBy_28 kX8_133 oX8_sendToAll ⟨Nat.le_of_ble_eq_true rfl, Nat.le_of_ble_eq_true rfl⟩ (by decide) rfl (shp_n g0 0 rfl) (shp_t g0 0 rfl) rfl (Nat.le_of_ble_eq_true rfl) (tX8_sendToAll n q0 g0 x1 (3 : Int32) (I (q0 + (23 + 5 * x1.toNatClampNeg)) 1) (I (q0 + (23 + 5 * x1.toNatClampNeg)) 5) I z4 hz4) rfl ?_
    refine ev_aload_n dX8_timeOutBy_31 rfl (fun _ e => by cases e) ?_
    refine ev_aload_n dX8_timeOutBy_32 rfl (fun _ e => by cases e) ?_
    refine ew_get0 dX8_timeOutBy_33 fX8_115 (s73 g0 (ev_inL c3)) rfl rfl rfl ?_
    obtain ⟨I5, eI5, h⟩ := ev_ltE h
    refine ew_put0 dX8_timeOutBy_36 fX8_137 (s73 g0 (ev_inL c3)) rfl rfl rfl rfl rfl rfl (ew_nh eI5 ?_)
    refine ev_aload_n dX8_timeOutBy_39 rfl (fun _ e => by cases e) ?_
    refine ev_aload_n dX8_timeOutBy_40 rfl (fun _ e => by cases e) ?_
    refine ew_get0 dX8_timeOutBy_41 fX8_143 (s73 g0 (ev_inL c3)) rfl rfl rfl ?_
    refine ev_aload_n dX8_timeOutBy_44 rfl (fun _ e => by cases e) ?_
    refine ew_get0 dX8_timeOutBy_45 fX8_115 (s73 g0 (ev_inL c3)) rfl rfl rfl ?_
    refine ev_max dX8_timeOutBy_48 kX8_146 zM_max.1 zM_max.2.1 zM_max.2.2 (Nat.le_of_ble_eq_true rfl) (Nat.le_of_ble_eq_true rfl) ?_
    obtain ⟨I6, eI6, h⟩ := ev_ltE h
    refine ew_put0 dX8_timeOutBy_51 fX8_143 (s73 g0 (ev_inL c3)) rfl rfl rfl rfl rfl rfl (ew_nh eI6 ?_)
    refine ev_iconst (v := (1 : Int32)) dX8_timeOutBy_54 (by decide) ?_
    cases h
    exact er_i dX8_timeOutBy_55 rfl rfl
  · have h := ev_ifT h c2
    refine ev_iconst (v := (0 : Int32)) dX8_timeOutBy_8 (by decide) ?_
    cases h
    exact er_i dX8_timeOutBy_9 rfl rfl
-- ChainVotes$World lieMark(II)I
def pX8_lieMark (n : Nat) (q0 : Nat) (x1 : Int32) (x2 : Int32) (I : ev_I) : Option (Int32 × ev_I) :=
  if x2 = 0 then
    some ((-1 : Int32), I)
  else
    (pX8_sendMark n q0 x1 x2 I).bind fun z2 =>
    some ((0 : Int32), z2)
set_option maxRecDepth 100000 in
set_option maxHeartbeats 4000000 in
theorem tX8_lieMark {E : ev_N} {σ : ev_H} (n : Nat) (q0 : Nat) (g0 : shp tb7 σ q0) (x1 : Int32) (x2 : Int32) (I : ev_I) (o : Int32 × ev_I) (h : pX8_lieMark n q0 x1 x2 I = some o) : ev_T E mX8_lieMark [.ref q0, .int x1, .int x2] (h_w σ I) (Option.some (Value.int o.1), h_w σ o.2) := by
  unfold pX8_lieMark at h
  refine ev_met rfl rfl (Nat.le_of_ble_eq_true rfl) (ev_L0 (L' := [some (.ref q0), some (.int x1), some (.int x2)]) rfl ?_)
  refine ev_iload_n dX8_lieMark_0 rfl ?_
  refine ev_if_ne (tgt := 6) dX8_lieMark_1 (by decide) (fun c1 => ?_) (fun c1 => ?_)
  · have h := ev_ifF h c1
    refine ev_aload_n dX8_lieMark_6 rfl (fun _ e => by cases e) ?_
    refine ev_iload_n dX8_lieMark_7 rfl ?_
    refine ev_iload_n dX8_lieMark_8 rfl ?_
    obtain ⟨z2, hz2, h⟩ := ev_bnE h
    refine ec_Vv (Y := mX8_sendMark) (ci := 7) (As := [.int x1, .int x2]) (rest := []) dX8_lieMark_9 kX8_169 oX8_sendMark ⟨Nat.le_of_ble_eq_true rfl, Nat.le_of_ble_eq_true rfl⟩ (by decide) rfl (shp_n g0 0 rfl) (shp_t g0 0 rfl) rfl (Nat.le_of_ble_eq_true rfl) (tX8_sendMark n q0 g0 x1 x2 I z2 hz2) rfl ?_
    refine ev_iconst (v := (0 : Int32)) dX8_lieMark_12 (by decide) ?_
    cases h
    exact er_i dX8_lieMark_13 rfl rfl
  · have h := ev_ifT h c1
    refine ev_iconst (v := (-1 : Int32)) dX8_lieMark_4 (by decide) ?_
    cases h
    exact er_i dX8_lieMark_5 rfl rfl
-- ChainVotes$World lieBlock(IIIII)I
def pX8_lieBlock (n : Nat) (q0 : Nat) (x1 : Int32) (x2 : Int32) (x3 : Int32) (x4 : Int32) (x5 : Int32) (I : ev_I) : Option (Int32 × ev_I) :=
  ev_ck (ev_in x2 100) <|
  if x4 ≤ (I ((q0 + 1) + 1) x2.toNatClampNeg) then
    some ((-1 : Int32), I)
  else
    if (200 : Int32) < x4 then
      some ((-1 : Int32), I)
    else
      (pX8_leaderOf n q0 x4 I).bind fun z4 =>
      if z4 = x1 then
        if x5 < 0 then
          some ((-1 : Int32), I)
        else
          if (999 : Int32) < x5 then
            some ((-1 : Int32), I)
          else
            if (I (q0 + 1) 0) < (100 : Int32) then
              (pX1_add n (q0 + 1) x4 x2 x3 x5 x1 (0 : Int32) I).bind fun z9 =>
              (pX8_sendToAll n q0 x1 (1 : Int32) z9.1 (-1 : Int32) z9.2).bind fun z10 =>
              some (z9.1, z10)
            else
              some ((-1 : Int32), I)
      else
        some ((-1 : Int32), I)
set_option maxRecDepth 100000 in
set_option maxHeartbeats 4000000 in
theorem tX8_lieBlock {E : ev_N} {σ : ev_H} (n : Nat) (q0 : Nat) (g0 : shp tb7 σ q0) (x1 : Int32) (x2 : Int32) (x3 : Int32) (x4 : Int32) (x5 : Int32) (I : ev_I) (o : Int32 × ev_I) (h : pX8_lieBlock n q0 x1 x2 x3 x4 x5 I = some o) : ev_T E mX8_lieBlock [.ref q0, .int x1, .int x2, .int x3, .int x4, .int x5] (h_w σ I) (Option.some (Value.int o.1), h_w σ o.2) := by
  unfold pX8_lieBlock at h
  refine ev_met rfl rfl (Nat.le_of_ble_eq_true rfl) (ev_L0 (L' := [some (.ref q0), some (.int x1), some (.int x2), some (.int x3), some (.int x4), some (.int x5), none]) rfl ?_)
  refine ev_iload dX8_lieBlock_0 rfl ?_
  refine ev_aload_n dX8_lieBlock_2 rfl (fun _ e => by cases e) ?_
  refine ew_getr0 dX8_lieBlock_3 fX8_12 g0 rfl rfl rfl rfl ?_
  refine ew_getr0 dX8_lieBlock_6 fX8_105 (s71 g0) rfl rfl rfl rfl ?_
  refine ev_iload_n dX8_lieBlock_9 rfl ?_
  obtain ⟨c1, h⟩ := ev_ckE h
  refine ew_iald dX8_lieBlock_10 (shp_a (s71 g0) 1 rfl) c1 ?_
  refine ev_icmp_le (tgt := 32) dX8_lieBlock_11 (by decide) (fun c2 => ?_) (fun c2 => ?_)
  · have h := ev_ifT h c2
    refine ev_iconst (v := (-1 : Int32)) dX8_lieBlock_32 (by decide) ?_
    cases h
    exact er_i dX8_lieBlock_33 rfl rfl
  · have h := ev_ifF h c2
    refine ev_iload dX8_lieBlock_14 rfl ?_
    refine ev_sipush (v := (200 : Int32)) dX8_lieBlock_16 (by decide) ?_
    refine ev_icmp_gt (tgt := 32) dX8_lieBlock_19 (by decide) (fun c3 => ?_) (fun c3 => ?_)
    · have h := ev_ifT h c3
      refine ev_iconst (v := (-1 : Int32)) dX8_lieBlock_32 (by decide) ?_
      cases h
      exact er_i dX8_lieBlock_33 rfl rfl
    · have h := ev_ifF h c3
      refine ev_aload_n dX8_lieBlock_22 rfl (fun _ e => by cases e) ?_
      refine ev_iload dX8_lieBlock_23 rfl ?_
      obtain ⟨z4, hz4, h⟩ := ev_bnE h
      refine ec_Vi (Y := mX8_leaderOf) (ci := 7) (As := [.int x4]) (rest := []) dX8_lieBlock_25 kX8_108 oX8_leaderOf ⟨Nat.le_of_ble_eq_true rfl, Nat.le_of_ble_eq_true rfl⟩ (by decide) rfl (shp_n g0 0 rfl) (shp_t g0 0 rfl) rfl (Nat.le_of_ble_eq_true rfl) (tX8_leaderOf n q0 g0 x4 I z4 hz4) rfl ?_
      refine ev_iload_n dX8_lieBlock_28 rfl ?_
      refine ev_icmp_eq (tgt := 34) dX8_lieBlock_29 (by decide) (fun c5 => ?_) (fun c5 => ?_)
      · have h := ev_ifT h c5
        refine ev_iload dX8_lieBlock_34 rfl ?_
        refine ev_if_lt (tgt := 59) dX8_lieBlock_36 (by decide) (fun c6 => ?_) (fun c6 => ?_)
        · have h := ev_ifT h c6
          refine ev_iconst (v := (-1 : Int32)) dX8_lieBlock_59 (by decide) ?_
          cases h
          exact er_i dX8_lieBlock_60 rfl rfl
        · have h := ev_ifF h c6
          refine ev_iload dX8_lieBlock_39 rfl ?_
          refine ev_sipush (v := (999 : Int32)) dX8_lieBlock_41 (by decide) ?_
          refine ev_icmp_gt (tgt := 59) dX8_lieBlock_44 (by decide) (fun c7 => ?_) (fun c7 => ?_)
          · have h := ev_ifT h c7
            refine ev_iconst (v := (-1 : Int32)) dX8_lieBlock_59 (by decide) ?_
            cases h
            exact er_i dX8_lieBlock_60 rfl rfl
          · have h := ev_ifF h c7
            refine ev_aload_n dX8_lieBlock_47 rfl (fun _ e => by cases e) ?_
            refine ew_getr0 dX8_lieBlock_48 fX8_12 g0 rfl rfl rfl rfl ?_
            refine ew_get0 dX8_lieBlock_51 fX8_80 (s71 g0) rfl rfl rfl ?_
            refine ev_bipush (v := (100 : Int32)) dX8_lieBlock_54 (by decide) ?_
            refine ev_icmp_lt (tgt := 61) dX8_lieBlock_56 (by decide) (fun c8 => ?_) (fun c8 => ?_)
            · have h := ev_ifT h c8
              refine ev_aload_n dX8_lieBlock_61 rfl (fun _ e => by cases e) ?_
              refine ew_getr0 dX8_lieBlock_62 fX8_12 g0 rfl rfl rfl rfl ?_
              refine ev_iload dX8_lieBlock_65 rfl ?_
              refine ev_iload_n dX8_lieBlock_67 rfl ?_
              refine ev_iload_n dX8_lieBlock_68 rfl ?_
              refine ev_iload dX8_lieBlock_69 rfl ?_
              refine ev_iload_n dX8_lieBlock_71 rfl ?_
              refine ev_iconst (v := (0 : Int32)) dX8_lieBlock_72 (by decide) ?_
              obtain ⟨z9, hz9, h⟩ := ev_bnE h
              refine ec_Vi (Y := mX1_add) (ci := 1) (As := [.int x4, .int x2, .int x3, .int x5, .int x1, .int (0 : Int32)]) (rest := []) dX8_lieBlock_73 kX8_129 oX1_add ⟨Nat.le_of_ble_eq_true rfl, Nat.le_of_ble_eq_true rfl⟩ (by decide) rfl (shp_n (s71 g0) 0 rfl) (shp_t (s71 g0) 0 rfl) rfl (Nat.le_of_ble_eq_true rfl) (tX1_add n (q0 + 1) (s71 g0) x4 x2 x3 x5 x1 (0 : Int32) I z9 hz9) rfl ?_
              refine ew_ist (L' := [some (.ref q0), some (.int x1), some (.int x2), some (.int x3), some (.int x4), some (.int x5), some (.int z9.1)]) dX8_lieBlock_76 (Nat.le_of_ble_eq_true rfl) rfl ?_
              refine ev_aload_n dX8_lieBlock_78 rfl (fun _ e => by cases e) ?_
              refine ev_iload_n dX8_lieBlock_79 rfl ?_
              refine ev_iconst (v := (1 : Int32)) dX8_lieBlock_80 (by decide) ?_
              refine ev_iload dX8_lieBlock_81 rfl ?_
              refine ev_iconst (v := (-1 : Int32)) dX8_lieBlock_83 (by decide) ?_
              obtain ⟨z10, hz10, h⟩ := ev_bnE h
              refine ec_Vv (Y := mX8_sendToAll) (ci := 7) (As := [.int x1, .int (1 : Int32), .int z9.1, .int (-1 : Int32)]) (rest := []) dX8_lieBlock_84 kX8_133 oX8_sendToAll ⟨Nat.le_of_ble_eq_true rfl, Nat.le_of_ble_eq_true rfl⟩ (by decide) rfl (shp_n g0 0 rfl) (shp_t g0 0 rfl) rfl (Nat.le_of_ble_eq_true rfl) (tX8_sendToAll n q0 g0 x1 (1 : Int32) z9.1 (-1 : Int32) z9.2 z10 hz10) rfl ?_
              refine ev_iload dX8_lieBlock_87 rfl ?_
              cases h
              exact er_i dX8_lieBlock_89 rfl rfl
            · have h := ev_ifF h c8
              refine ev_iconst (v := (-1 : Int32)) dX8_lieBlock_59 (by decide) ?_
              cases h
              exact er_i dX8_lieBlock_60 rfl rfl
      · have h := ev_ifF h c5
        refine ev_iconst (v := (-1 : Int32)) dX8_lieBlock_32 (by decide) ?_
        cases h
        exact er_i dX8_lieBlock_33 rfl rfl
-- ChainVotes$World lieTimeout(III)I
def pX8_lieTimeout (n : Nat) (q0 : Nat) (x1 : Int32) (x2 : Int32) (x3 : Int32) (I : ev_I) : Option (Int32 × ev_I) :=
  if x3 < (1 : Int32) then
    some ((-1 : Int32), I)
  else
    if (200 : Int32) < x3 then
      some ((-1 : Int32), I)
    else
      (pX1_isCertified n (q0 + 1) x2 I).bind fun z3 =>
      if z3 = 0 then
        some ((-1 : Int32), I)
      else
        (pX8_sendToAll n q0 x1 (3 : Int32) x3 x2 I).bind fun z5 =>
        some ((0 : Int32), z5)
set_option maxRecDepth 100000 in
set_option maxHeartbeats 4000000 in
theorem tX8_lieTimeout {E : ev_N} {σ : ev_H} (n : Nat) (q0 : Nat) (g0 : shp tb7 σ q0) (x1 : Int32) (x2 : Int32) (x3 : Int32) (I : ev_I) (o : Int32 × ev_I) (h : pX8_lieTimeout n q0 x1 x2 x3 I = some o) : ev_T E mX8_lieTimeout [.ref q0, .int x1, .int x2, .int x3] (h_w σ I) (Option.some (Value.int o.1), h_w σ o.2) := by
  unfold pX8_lieTimeout at h
  refine ev_met rfl rfl (Nat.le_of_ble_eq_true rfl) (ev_L0 (L' := [some (.ref q0), some (.int x1), some (.int x2), some (.int x3)]) rfl ?_)
  refine ev_iload_n dX8_lieTimeout_0 rfl ?_
  refine ev_iconst (v := (1 : Int32)) dX8_lieTimeout_1 (by decide) ?_
  refine ev_icmp_lt (tgt := 23) dX8_lieTimeout_2 (by decide) (fun c1 => ?_) (fun c1 => ?_)
  · have h := ev_ifT h c1
    refine ev_iconst (v := (-1 : Int32)) dX8_lieTimeout_23 (by decide) ?_
    cases h
    exact er_i dX8_lieTimeout_24 rfl rfl
  · have h := ev_ifF h c1
    refine ev_iload_n dX8_lieTimeout_5 rfl ?_
    refine ev_sipush (v := (200 : Int32)) dX8_lieTimeout_6 (by decide) ?_
    refine ev_icmp_gt (tgt := 23) dX8_lieTimeout_9 (by decide) (fun c2 => ?_) (fun c2 => ?_)
    · have h := ev_ifT h c2
      refine ev_iconst (v := (-1 : Int32)) dX8_lieTimeout_23 (by decide) ?_
      cases h
      exact er_i dX8_lieTimeout_24 rfl rfl
    · have h := ev_ifF h c2
      refine ev_aload_n dX8_lieTimeout_12 rfl (fun _ e => by cases e) ?_
      refine ew_getr0 dX8_lieTimeout_13 fX8_12 g0 rfl rfl rfl rfl ?_
      refine ev_iload_n dX8_lieTimeout_16 rfl ?_
      obtain ⟨z3, hz3, h⟩ := ev_bnE h
      refine ec_Vi (Y := mX1_isCertified) (ci := 1) (As := [.int x2]) (rest := []) dX8_lieTimeout_17 kX8_158 oX1_isCertified ⟨Nat.le_of_ble_eq_true rfl, Nat.le_of_ble_eq_true rfl⟩ (by decide) rfl (shp_n (s71 g0) 0 rfl) (shp_t (s71 g0) 0 rfl) rfl (Nat.le_of_ble_eq_true rfl) (tX1_isCertified n (q0 + 1) (s71 g0) x2 I z3 hz3) rfl ?_
      refine ev_if_ne (tgt := 25) dX8_lieTimeout_20 (by decide) (fun c4 => ?_) (fun c4 => ?_)
      · have h := ev_ifF h c4
        refine ev_aload_n dX8_lieTimeout_25 rfl (fun _ e => by cases e) ?_
        refine ev_iload_n dX8_lieTimeout_26 rfl ?_
        refine ev_iconst (v := (3 : Int32)) dX8_lieTimeout_27 (by decide) ?_
        refine ev_iload_n dX8_lieTimeout_28 rfl ?_
        refine ev_iload_n dX8_lieTimeout_29 rfl ?_
        obtain ⟨z5, hz5, h⟩ := ev_bnE h
        refine ec_Vv (Y := mX8_sendToAll) (ci := 7) (As := [.int x1, .int (3 : Int32), .int x3, .int x2]) (rest := []) dX8_lieTimeout_30 kX8_133 oX8_sendToAll ⟨Nat.le_of_ble_eq_true rfl, Nat.le_of_ble_eq_true rfl⟩ (by decide) rfl (shp_n g0 0 rfl) (shp_t g0 0 rfl) rfl (Nat.le_of_ble_eq_true rfl) (tX8_sendToAll n q0 g0 x1 (3 : Int32) x3 x2 I z5 hz5) rfl ?_
        refine ev_iconst (v := (0 : Int32)) dX8_lieTimeout_33 (by decide) ?_
        cases h
        exact er_i dX8_lieTimeout_34 rfl rfl
      · have h := ev_ifT h c4
        refine ev_iconst (v := (-1 : Int32)) dX8_lieTimeout_23 (by decide) ?_
        cases h
        exact er_i dX8_lieTimeout_24 rfl rfl
-- ChainVotes$World commit(II)V
def cX8_commit_142 (q0 : Nat) (K142 : Int32 → Nat → Int32 → ev_I → Option (ev_I)) (n : Nat) (y1 : Int32) (p3 : Nat) (y7 : Int32) (I : ev_I) : Option (ev_I) :=
  if (I p3 9) ≤ y7 then
    some I
  else
    ev_ck (ev_in y7 100) <|
    (pX2_add n (q0 + 16) 500 (3 : Int32) y1 (I (p3 + 1) y7.toNatClampNeg) (-1 : Int32) (-1 : Int32) I).bind fun z3 =>
    ev_lt (y7 + (1 : Int32)) fun v4 =>
    K142 y1 p3 v4 z3
def lX8_commit_142 (q0 : Nat) : Nat → Int32 → Nat → Int32 → ev_I → Option (ev_I)
  | 0, _, _, _, _ => none
  | n + 1, y1, p3, y7, I => cX8_commit_142 q0 (lX8_commit_142 q0 n) n y1 p3 y7 I
def cX8_commit_123 (q0 : Nat) (n : Nat) (y1 : Int32) (y2 : Int32) (p3 : Nat) (y5 : Int32) (I : ev_I) : Option (ev_I) :=
  ev_ck (ev_in y2 100) <|
  ev_lt (ev_u2 I p3 9 ((I ((q0 + 1) + 6) y2.toNatClampNeg) + (1 : Int32))) fun I6 =>
  lX8_commit_142 q0 n y1 p3 y5 I6
def cX8_commit_74 (q0 : Nat) (K74 : Int32 → Int32 → Nat → Int32 → Int32 → Int32 → Int32 → ev_I → Option (ev_I)) (n : Nat) (y1 : Int32) (y2 : Int32) (p3 : Nat) (y4 : Int32) (y5 : Int32) (y6 : Int32) (y7 : Int32) (I : ev_I) : Option (ev_I) :=
  if (100 : Int32) ≤ y7 then
    cX8_commit_123 q0 n y1 y2 p3 y5 I
  else
    if y6 = y4 then
      cX8_commit_123 q0 n y1 y2 p3 y5 I
    else
      ev_ck (ev_in y6 100) <|
      ev_ck (ev_in (I ((q0 + 1) + 6) y6.toNatClampNeg) 100) <|
      ev_lt (ev_u2 I (p3 + 1) (I ((q0 + 1) + 6) y6.toNatClampNeg).toNatClampNeg y6) fun I11 =>
      ev_ck (ev_in y6 100) <|
      ev_lt (I11 ((q0 + 1) + 2) y6.toNatClampNeg) fun v13 =>
      ev_lt (y7 + (1 : Int32)) fun v14 =>
      K74 y1 y2 p3 y4 y5 v13 v14 I11
def lX8_commit_74 (q0 : Nat) : Nat → Int32 → Int32 → Nat → Int32 → Int32 → Int32 → Int32 → ev_I → Option (ev_I)
  | 0, _, _, _, _, _, _, _, _ => none
  | n + 1, y1, y2, p3, y4, y5, y6, y7, I => cX8_commit_74 q0 (lX8_commit_74 q0 n) n y1 y2 p3 y4 y5 y6 y7 I
def pX8_commit (n : Nat) (q0 : Nat) (x1 : Int32) (x2 : Int32) (I : ev_I) : Option (ev_I) :=
  ev_ck (ev_in x1 7) <|
  (pX3_lastLogged n (q0 + (23 + 5 * x1.toNatClampNeg))  I).bind fun z16 =>
  (pX1_reaches n (q0 + 1) x2 z16 I).bind fun z17 =>
  if z17 = 0 then
    (pX1_reaches n (q0 + 1) z16 x2 I).bind fun z20 =>
    if z20 = 0 then
      ev_lt (ev_u2 I (q0 + (23 + 5 * x1.toNatClampNeg)) 8 ((I (q0 + (23 + 5 * x1.toNatClampNeg)) 8) + (1 : Int32))) fun I22 =>
      (pX2_add n (q0 + 16) 500 (4 : Int32) x1 x2 (-1 : Int32) (-1 : Int32) I22).bind fun z23 =>
      some z23
    else
      some I
  else
    ev_lt (I (q0 + (23 + 5 * x1.toNatClampNeg)) 9) fun v19 =>
    lX8_commit_74 q0 n x1 x2 (q0 + (23 + 5 * x1.toNatClampNeg)) z16 v19 x2 (0 : Int32) I
set_option maxRecDepth 100000 in
set_option maxHeartbeats 4000000 in
theorem tX8_commit_142 {E : ev_N} {σ : ev_H} (q0 : Nat) (g0 : shp tb7 σ q0) (K142 : Int32 → Nat → Int32 → ev_I → Option (ev_I)) (k142 : ∀ (y1 : Int32) (p3 : Nat) (y7 : Int32) (I : ev_I) (o : ev_I), shp tb3 σ p3 → K142 y1 p3 y7 I = some o → EV E mX8_commit 142 [some (.ref q0), some (.int y1), none, some (.ref p3), none, none, none, some (.int y7)] [] (h_w σ I) (Option.none, h_w σ o)) (n : Nat) (y1 : Int32) (p3 : Nat) (y7 : Int32) (I : ev_I) (o : ev_I) (u3 : shp tb3 σ p3) : cX8_commit_142 q0 K142 n y1 p3 y7 I = some o → EV E mX8_commit 142 [some (.ref q0), some (.int y1), none, some (.ref p3), none, none, none, some (.int y7)] [] (h_w σ I) (Option.none, h_w σ o) := by
  intro h
  unfold cX8_commit_142 at h
  refine ev_iload dX8_commit_142 rfl ?_
  refine ev_aload_n dX8_commit_144 rfl (fun _ e => by cases e) ?_
  refine ew_get0 dX8_commit_145 fX8_280 u3 rfl rfl rfl ?_
  refine ev_icmp_ge (tgt := 175) dX8_commit_148 (by decide) (fun c1 => ?_) (fun c1 => ?_)
  · have h := ev_ifT h c1
    cases h
    exact er_v dX8_commit_175 rfl
  · have h := ev_ifF h c1
    refine ev_aload_n dX8_commit_151 rfl (fun _ e => by cases e) ?_
    refine ew_getr0 dX8_commit_152 fX8_40 g0 rfl rfl rfl rfl ?_
    refine ev_iconst (v := (3 : Int32)) dX8_commit_155 (by decide) ?_
    refine ev_iload_n dX8_commit_156 rfl ?_
    refine ev_aload_n dX8_commit_157 rfl (fun _ e => by cases e) ?_
    refine ew_getr0 dX8_commit_158 fX8_283 u3 rfl rfl rfl rfl ?_
    refine ev_iload dX8_commit_161 rfl ?_
    obtain ⟨c2, h⟩ := ev_ckE h
    refine ew_iald dX8_commit_163 (shp_a u3 1 rfl) c2 ?_
    refine ev_iconst (v := (-1 : Int32)) dX8_commit_164 (by decide) ?_
    refine ev_iconst (v := (-1 : Int32)) dX8_commit_165 (by decide) ?_
    obtain ⟨z3, hz3, h⟩ := ev_bnE h
    refine ec_Vv (Y := mX2_add) (ci := 2) (As := [.int (3 : Int32), .int y1, .int (I (p3 + 1) y7.toNatClampNeg), .int (-1 : Int32), .int (-1 : Int32)]) (rest := []) dX8_commit_166 kX8_239 oX2_add ⟨Nat.le_of_ble_eq_true rfl, Nat.le_of_ble_eq_true rfl⟩ (by decide) rfl (shp_n (s72v g0) 0 rfl) (shp_t (s72v g0) 0 rfl) rfl (Nat.le_of_ble_eq_true rfl) (tX2_add n (q0 + 16) 500 (s72v g0) (3 : Int32) y1 (I (p3 + 1) y7.toNatClampNeg) (-1 : Int32) (-1 : Int32) I z3 hz3) rfl ?_
    obtain ⟨v4, ev4, h⟩ := ev_ltE h
    refine ew_iinc (L' := [some (.ref q0), some (.int y1), none, some (.ref p3), none, none, none, some (.int v4)]) dX8_commit_169 (Nat.le_of_ble_eq_true rfl) rfl (by decide) ev4 rfl ?_
    refine ev_goto (tgt := 142) dX8_commit_172 (by decide) ?_
    exact ev_weak (sb_s (sb_s (sb_n (sb_s (sb_n (sb_n (sb_n (sb_s sb_0)))))))) (k142 y1 p3 v4 z3 _ u3 h)
theorem tlX8_commit_142 {E : ev_N} {σ : ev_H} (q0 : Nat) (g0 : shp tb7 σ q0) : ∀ (n : Nat) (y1 : Int32) (p3 : Nat) (y7 : Int32) (I : ev_I) (o : ev_I), shp tb3 σ p3 → lX8_commit_142 q0 n y1 p3 y7 I = some o → EV E mX8_commit 142 [some (.ref q0), some (.int y1), none, some (.ref p3), none, none, none, some (.int y7)] [] (h_w σ I) (Option.none, h_w σ o)
  | 0, _, _, _, _, _, _, h => by cases h
  | n + 1, y1, p3, y7, I, o, u3, h => tX8_commit_142 q0 g0 (lX8_commit_142 q0 n) (tlX8_commit_142 q0 g0 n) n y1 p3 y7 I o u3 h
set_option maxRecDepth 100000 in
set_option maxHeartbeats 4000000 in
theorem tX8_commit_123 {E : ev_N} {σ : ev_H} (q0 : Nat) (g0 : shp tb7 σ q0) (n : Nat) (y1 : Int32) (y2 : Int32) (p3 : Nat) (y5 : Int32) (I : ev_I) (o : ev_I) (u3 : shp tb3 σ p3) : cX8_commit_123 q0 n y1 y2 p3 y5 I = some o → EV E mX8_commit 123 [some (.ref q0), some (.int y1), some (.int y2), some (.ref p3), none, some (.int y5), none, none] [] (h_w σ I) (Option.none, h_w σ o) := by
  intro h
  unfold cX8_commit_123 at h
  refine ev_aload_n dX8_commit_123 rfl (fun _ e => by cases e) ?_
  refine ev_aload_n dX8_commit_124 rfl (fun _ e => by cases e) ?_
  refine ew_getr0 dX8_commit_125 fX8_12 g0 rfl rfl rfl rfl ?_
  refine ew_getr0 dX8_commit_128 fX8_286 (s71 g0) rfl rfl rfl rfl ?_
  refine ev_iload_n dX8_commit_131 rfl ?_
  obtain ⟨c5, h⟩ := ev_ckE h
  refine ew_iald dX8_commit_132 (shp_a (s71 g0) 6 rfl) c5 ?_
  refine ev_iconst (v := (1 : Int32)) dX8_commit_133 (by decide) ?_
  refine ev_iadd dX8_commit_134 ?_
  obtain ⟨I6, eI6, h⟩ := ev_ltE h
  refine ew_put0 dX8_commit_135 fX8_280 u3 rfl rfl rfl rfl rfl rfl (ew_nh eI6 ?_)
  refine ev_iload dX8_commit_138 rfl ?_
  refine ew_ist (L' := [some (.ref q0), some (.int y1), some (.int y2), some (.ref p3), none, some (.int y5), none, some (.int y5)]) dX8_commit_140 (Nat.le_of_ble_eq_true rfl) rfl ?_
  exact ev_weak (sb_s (sb_s (sb_n (sb_s (sb_n (sb_n (sb_n (sb_s sb_0)))))))) (tlX8_commit_142 q0 g0 n y1 p3 y5 I6 _ u3 h)
set_option maxRecDepth 100000 in
set_option maxHeartbeats 4000000 in
theorem tX8_commit_74 {E : ev_N} {σ : ev_H} (q0 : Nat) (g0 : shp tb7 σ q0) (K74 : Int32 → Int32 → Nat → Int32 → Int32 → Int32 → Int32 → ev_I → Option (ev_I)) (k74 : ∀ (y1 : Int32) (y2 : Int32) (p3 : Nat) (y4 : Int32) (y5 : Int32) (y6 : Int32) (y7 : Int32) (I : ev_I) (o : ev_I), shp tb3 σ p3 → K74 y1 y2 p3 y4 y5 y6 y7 I = some o → EV E mX8_commit 74 [some (.ref q0), some (.int y1), some (.int y2), some (.ref p3), some (.int y4), some (.int y5), some (.int y6), some (.int y7)] [] (h_w σ I) (Option.none, h_w σ o)) (n : Nat) (y1 : Int32) (y2 : Int32) (p3 : Nat) (y4 : Int32) (y5 : Int32) (y6 : Int32) (y7 : Int32) (I : ev_I) (o : ev_I) (u3 : shp tb3 σ p3) : cX8_commit_74 q0 K74 n y1 y2 p3 y4 y5 y6 y7 I = some o → EV E mX8_commit 74 [some (.ref q0), some (.int y1), some (.int y2), some (.ref p3), some (.int y4), some (.int y5), some (.int y6), some (.int y7)] [] (h_w σ I) (Option.none, h_w σ o) := by
  intro h
  unfold cX8_commit_74 at h
  refine ev_iload dX8_commit_74 rfl ?_
  refine ev_bipush (v := (100 : Int32)) dX8_commit_76 (by decide) ?_
  refine ev_icmp_ge (tgt := 123) dX8_commit_78 (by decide) (fun c7 => ?_) (fun c7 => ?_)
  · have h := ev_ifT h c7
    exact ev_weak (sb_s (sb_s (sb_s (sb_s (sb_n (sb_s (sb_n (sb_n sb_0)))))))) (tX8_commit_123 q0 g0 n y1 y2 p3 y5 I _ u3 h)
  · have h := ev_ifF h c7
    refine ev_iload dX8_commit_81 rfl ?_
    refine ev_iload dX8_commit_83 rfl ?_
    refine ev_icmp_eq (tgt := 123) dX8_commit_85 (by decide) (fun c8 => ?_) (fun c8 => ?_)
    · have h := ev_ifT h c8
      exact ev_weak (sb_s (sb_s (sb_s (sb_s (sb_n (sb_s (sb_n (sb_n sb_0)))))))) (tX8_commit_123 q0 g0 n y1 y2 p3 y5 I _ u3 h)
    · have h := ev_ifF h c8
      refine ev_aload_n dX8_commit_88 rfl (fun _ e => by cases e) ?_
      refine ew_getr0 dX8_commit_89 fX8_283 u3 rfl rfl rfl rfl ?_
      refine ev_aload_n dX8_commit_92 rfl (fun _ e => by cases e) ?_
      refine ew_getr0 dX8_commit_93 fX8_12 g0 rfl rfl rfl rfl ?_
      refine ew_getr0 dX8_commit_96 fX8_286 (s71 g0) rfl rfl rfl rfl ?_
      refine ev_iload dX8_commit_99 rfl ?_
      obtain ⟨c9, h⟩ := ev_ckE h
      refine ew_iald dX8_commit_101 (shp_a (s71 g0) 6 rfl) c9 ?_
      refine ev_iload dX8_commit_102 rfl ?_
      obtain ⟨c10, h⟩ := ev_ckE h
      obtain ⟨I11, eI11, h⟩ := ev_ltE h
      refine ew_iast dX8_commit_104 (shp_a u3 1 rfl) c10 (ew_nh eI11 ?_)
      refine ev_aload_n dX8_commit_105 rfl (fun _ e => by cases e) ?_
      refine ew_getr0 dX8_commit_106 fX8_12 g0 rfl rfl rfl rfl ?_
      refine ew_getr0 dX8_commit_109 fX8_289 (s71 g0) rfl rfl rfl rfl ?_
      refine ev_iload dX8_commit_112 rfl ?_
      obtain ⟨c12, h⟩ := ev_ckE h
      refine ew_iald dX8_commit_114 (shp_a (s71 g0) 2 rfl) c12 ?_
      obtain ⟨v13, ev13, h⟩ := ev_ltE h
      refine ew_nm ev13 ?_
      refine ew_ist (L' := [some (.ref q0), some (.int y1), some (.int y2), some (.ref p3), some (.int y4), some (.int y5), some (.int v13), some (.int y7)]) dX8_commit_115 (Nat.le_of_ble_eq_true rfl) rfl ?_
      obtain ⟨v14, ev14, h⟩ := ev_ltE h
      refine ew_iinc (L' := [some (.ref q0), some (.int y1), some (.int y2), some (.ref p3), some (.int y4), some (.int y5), some (.int v13), some (.int v14)]) dX8_commit_117 (Nat.le_of_ble_eq_true rfl) rfl (by decide) ev14 rfl ?_
      refine ev_goto (tgt := 74) dX8_commit_120 (by decide) ?_
      exact ev_weak (sb_s (sb_s (sb_s (sb_s (sb_s (sb_s (sb_s (sb_s sb_0)))))))) (k74 y1 y2 p3 y4 y5 v13 v14 I11 _ u3 h)
theorem tlX8_commit_74 {E : ev_N} {σ : ev_H} (q0 : Nat) (g0 : shp tb7 σ q0) : ∀ (n : Nat) (y1 : Int32) (y2 : Int32) (p3 : Nat) (y4 : Int32) (y5 : Int32) (y6 : Int32) (y7 : Int32) (I : ev_I) (o : ev_I), shp tb3 σ p3 → lX8_commit_74 q0 n y1 y2 p3 y4 y5 y6 y7 I = some o → EV E mX8_commit 74 [some (.ref q0), some (.int y1), some (.int y2), some (.ref p3), some (.int y4), some (.int y5), some (.int y6), some (.int y7)] [] (h_w σ I) (Option.none, h_w σ o)
  | 0, _, _, _, _, _, _, _, _, _, _, h => by cases h
  | n + 1, y1, y2, p3, y4, y5, y6, y7, I, o, u3, h => tX8_commit_74 q0 g0 (lX8_commit_74 q0 n) (tlX8_commit_74 q0 g0 n) n y1 y2 p3 y4 y5 y6 y7 I o u3 h
set_option maxRecDepth 100000 in
set_option maxHeartbeats 4000000 in
theorem tX8_commit {E : ev_N} {σ : ev_H} (n : Nat) (q0 : Nat) (g0 : shp tb7 σ q0) (x1 : Int32) (x2 : Int32) (I : ev_I) (o : ev_I) (h : pX8_commit n q0 x1 x2 I = some o) : ev_T E mX8_commit [.ref q0, .int x1, .int x2] (h_w σ I) (Option.none, h_w σ o) := by
  unfold pX8_commit at h
  refine ev_met rfl rfl (Nat.le_of_ble_eq_true rfl) (ev_L0 (L' := [some (.ref q0), some (.int x1), some (.int x2), none, none, none, none, none]) rfl ?_)
  refine ev_aload_n dX8_commit_0 rfl (fun _ e => by cases e) ?_
  refine ew_getr0 dX8_commit_1 fX8_20 g0 rfl rfl rfl rfl ?_
  refine ev_iload_n dX8_commit_4 rfl ?_
  obtain ⟨c15, h⟩ := ev_ckE h
  refine ew_memb dX8_commit_5 g0 c15 ?_
  refine ew_astn (L' := [some (.ref q0), some (.int x1), some (.int x2), some (.ref (q0 + (23 + 5 * x1.toNatClampNeg))), none, none, none, none]) dX8_commit_6 (Nat.le_of_ble_eq_true rfl) (fun _ e => by cases e) rfl ?_
  refine ev_aload_n dX8_commit_7 rfl (fun _ e => by cases e) ?_
  obtain ⟨z16, hz16, h⟩ := ev_bnE h
  refine ec_Vi (Y := mX3_lastLogged) (ci := 3) (As := []) (rest := []) dX8_commit_8 kX8_271 oX3_lastLogged ⟨Nat.le_of_ble_eq_true rfl, Nat.le_of_ble_eq_true rfl⟩ (by decide) rfl (shp_n (s73 g0 (ev_inL c15)) 0 rfl) (shp_t (s73 g0 (ev_inL c15)) 0 rfl) rfl (Nat.le_of_ble_eq_true rfl) (tX3_lastLogged n (q0 + (23 + 5 * x1.toNatClampNeg)) (s73 g0 (ev_inL c15))  I z16 hz16) rfl ?_
  refine ew_ist (L' := [some (.ref q0), some (.int x1), some (.int x2), some (.ref (q0 + (23 + 5 * x1.toNatClampNeg))), some (.int z16), none, none, none]) dX8_commit_11 (Nat.le_of_ble_eq_true rfl) rfl ?_
  refine ev_aload_n dX8_commit_13 rfl (fun _ e => by cases e) ?_
  refine ew_getr0 dX8_commit_14 fX8_12 g0 rfl rfl rfl rfl ?_
  refine ev_iload_n dX8_commit_17 rfl ?_
  refine ev_iload dX8_commit_18 rfl ?_
  obtain ⟨z17, hz17, h⟩ := ev_bnE h
  refine ec_Vi (Y := mX1_reaches) (ci := 1) (As := [.int x2, .int z16]) (rest := []) dX8_commit_20 kX8_274 oX1_reaches ⟨Nat.le_of_ble_eq_true rfl, Nat.le_of_ble_eq_true rfl⟩ (by decide) rfl (shp_n (s71 g0) 0 rfl) (shp_t (s71 g0) 0 rfl) rfl (Nat.le_of_ble_eq_true rfl) (tX1_reaches n (q0 + 1) (s71 g0) x2 z16 I z17 hz17) rfl ?_
  refine ev_if_ne (tgt := 62) dX8_commit_23 (by decide) (fun c18 => ?_) (fun c18 => ?_)
  · have h := ev_ifF h c18
    refine ev_aload_n dX8_commit_62 rfl (fun _ e => by cases e) ?_
    refine ew_get0 dX8_commit_63 fX8_280 (s73 g0 (ev_inL c15)) rfl rfl rfl ?_
    obtain ⟨v19, ev19, h⟩ := ev_ltE h
    refine ew_nm ev19 ?_
    refine ew_ist (L' := [some (.ref q0), some (.int x1), some (.int x2), some (.ref (q0 + (23 + 5 * x1.toNatClampNeg))), some (.int z16), some (.int v19), none, none]) dX8_commit_66 (Nat.le_of_ble_eq_true rfl) rfl ?_
    refine ev_iload_n dX8_commit_68 rfl ?_
    refine ew_ist (L' := [some (.ref q0), some (.int x1), some (.int x2), some (.ref (q0 + (23 + 5 * x1.toNatClampNeg))), some (.int z16), some (.int v19), some (.int x2), none]) dX8_commit_69 (Nat.le_of_ble_eq_true rfl) rfl ?_
    refine ev_iconst (v := (0 : Int32)) dX8_commit_71 (by decide) ?_
    refine ew_ist (L' := [some (.ref q0), some (.int x1), some (.int x2), some (.ref (q0 + (23 + 5 * x1.toNatClampNeg))), some (.int z16), some (.int v19), some (.int x2), some (.int (0 : Int32))]) dX8_commit_72 (Nat.le_of_ble_eq_true rfl) rfl ?_
    exact ev_weak (sb_s (sb_s (sb_s (sb_s (sb_s (sb_s (sb_s (sb_s sb_0)))))))) (tlX8_commit_74 q0 g0 n x1 x2 (q0 + (23 + 5 * x1.toNatClampNeg)) z16 v19 x2 (0 : Int32) I _ (s73 g0 (ev_inL c15)) h)
  · have h := ev_ifT h c18
    refine ev_aload_n dX8_commit_26 rfl (fun _ e => by cases e) ?_
    refine ew_getr0 dX8_commit_27 fX8_12 g0 rfl rfl rfl rfl ?_
    refine ev_iload dX8_commit_30 rfl ?_
    refine ev_iload_n dX8_commit_32 rfl ?_
    obtain ⟨z20, hz20, h⟩ := ev_bnE h
    refine ec_Vi (Y := mX1_reaches) (ci := 1) (As := [.int z16, .int x2]) (rest := []) dX8_commit_33 kX8_274 oX1_reaches ⟨Nat.le_of_ble_eq_true rfl, Nat.le_of_ble_eq_true rfl⟩ (by decide) rfl (shp_n (s71 g0) 0 rfl) (shp_t (s71 g0) 0 rfl) rfl (Nat.le_of_ble_eq_true rfl) (tX1_reaches n (q0 + 1) (s71 g0) z16 x2 I z20 hz20) rfl ?_
    refine ev_if_ne (tgt := 61) dX8_commit_36 (by decide) (fun c21 => ?_) (fun c21 => ?_)
    · have h := ev_ifF h c21
      cases h
      exact er_v dX8_commit_61 rfl
    · have h := ev_ifT h c21
      refine ev_aload_n dX8_commit_39 rfl (fun _ e => by cases e) ?_
      refine ev_dup dX8_commit_40 ?_
      refine ew_get0 dX8_commit_41 fX8_277 (s73 g0 (ev_inL c15)) rfl rfl rfl ?_
      refine ev_iconst (v := (1 : Int32)) dX8_commit_44 (by decide) ?_
      refine ev_iadd dX8_commit_45 ?_
      obtain ⟨I22, eI22, h⟩ := ev_ltE h
      refine ew_put0 dX8_commit_46 fX8_277 (s73 g0 (ev_inL c15)) rfl rfl rfl rfl rfl rfl (ew_nh eI22 ?_)
      refine ev_aload_n dX8_commit_49 rfl (fun _ e => by cases e) ?_
      refine ew_getr0 dX8_commit_50 fX8_40 g0 rfl rfl rfl rfl ?_
      refine ev_iconst (v := (4 : Int32)) dX8_commit_53 (by decide) ?_
      refine ev_iload_n dX8_commit_54 rfl ?_
      refine ev_iload_n dX8_commit_55 rfl ?_
      refine ev_iconst (v := (-1 : Int32)) dX8_commit_56 (by decide) ?_
      refine ev_iconst (v := (-1 : Int32)) dX8_commit_57 (by decide) ?_
      obtain ⟨z23, hz23, h⟩ := ev_bnE h
      refine ec_Vv (Y := mX2_add) (ci := 2) (As := [.int (4 : Int32), .int x1, .int x2, .int (-1 : Int32), .int (-1 : Int32)]) (rest := []) dX8_commit_58 kX8_239 oX2_add ⟨Nat.le_of_ble_eq_true rfl, Nat.le_of_ble_eq_true rfl⟩ (by decide) rfl (shp_n (s72v g0) 0 rfl) (shp_t (s72v g0) 0 rfl) rfl (Nat.le_of_ble_eq_true rfl) (tX2_add n (q0 + 16) 500 (s72v g0) (4 : Int32) x1 x2 (-1 : Int32) (-1 : Int32) I22 z23 hz23) rfl ?_
      cases h
      exact er_v dX8_commit_61 rfl
-- ChainVotes$World accuse(IIIII)V
def pX8_accuse (n : Nat) (q0 : Nat) (x1 : Int32) (x2 : Int32) (x3 : Int32) (x4 : Int32) (x5 : Int32) (I : ev_I) : Option (ev_I) :=
  if x4 = (-1 : Int32) then
    some I
  else
    (pX2_has n (q0 + 14) 300 x1 x2 x3 x4 x5 I).bind fun z2 =>
    if z2 = 0 then
      (pX2_add n (q0 + 14) 300 x1 x2 x3 x4 x5 I).bind fun z4 =>
      some z4
    else
      some I
set_option maxRecDepth 100000 in
set_option maxHeartbeats 4000000 in
theorem tX8_accuse {E : ev_N} {σ : ev_H} (n : Nat) (q0 : Nat) (g0 : shp tb7 σ q0) (x1 : Int32) (x2 : Int32) (x3 : Int32) (x4 : Int32) (x5 : Int32) (I : ev_I) (o : ev_I) (h : pX8_accuse n q0 x1 x2 x3 x4 x5 I = some o) : ev_T E mX8_accuse [.ref q0, .int x1, .int x2, .int x3, .int x4, .int x5] (h_w σ I) (Option.none, h_w σ o) := by
  unfold pX8_accuse at h
  refine ev_met rfl rfl (Nat.le_of_ble_eq_true rfl) (ev_L0 (L' := [some (.ref q0), some (.int x1), some (.int x2), some (.int x3), some (.int x4), some (.int x5)]) rfl ?_)
  refine ev_iload dX8_accuse_0 rfl ?_
  refine ev_iconst (v := (-1 : Int32)) dX8_accuse_2 (by decide) ?_
  refine ev_icmp_eq (tgt := 37) dX8_accuse_3 (by decide) (fun c1 => ?_) (fun c1 => ?_)
  · have h := ev_ifT h c1
    cases h
    exact er_v dX8_accuse_37 rfl
  · have h := ev_ifF h c1
    refine ev_aload_n dX8_accuse_6 rfl (fun _ e => by cases e) ?_
    refine ew_getr0 dX8_accuse_7 fX8_36 g0 rfl rfl rfl rfl ?_
    refine ev_iload_n dX8_accuse_10 rfl ?_
    refine ev_iload_n dX8_accuse_11 rfl ?_
    refine ev_iload_n dX8_accuse_12 rfl ?_
    refine ev_iload dX8_accuse_13 rfl ?_
    refine ev_iload dX8_accuse_15 rfl ?_
    obtain ⟨z2, hz2, h⟩ := ev_bnE h
    refine ec_Vi (Y := mX2_has) (ci := 2) (As := [.int x1, .int x2, .int x3, .int x4, .int x5]) (rest := []) dX8_accuse_17 kX8_292 oX2_has ⟨Nat.le_of_ble_eq_true rfl, Nat.le_of_ble_eq_true rfl⟩ (by decide) rfl (shp_n (s72e g0) 0 rfl) (shp_t (s72e g0) 0 rfl) rfl (Nat.le_of_ble_eq_true rfl) (tX2_has n (q0 + 14) 300 (s72e g0) x1 x2 x3 x4 x5 I z2 hz2) rfl ?_
    refine ev_if_ne (tgt := 37) dX8_accuse_20 (by decide) (fun c3 => ?_) (fun c3 => ?_)
    · have h := ev_ifF h c3
      cases h
      exact er_v dX8_accuse_37 rfl
    · have h := ev_ifT h c3
      refine ev_aload_n dX8_accuse_23 rfl (fun _ e => by cases e) ?_
      refine ew_getr0 dX8_accuse_24 fX8_36 g0 rfl rfl rfl rfl ?_
      refine ev_iload_n dX8_accuse_27 rfl ?_
      refine ev_iload_n dX8_accuse_28 rfl ?_
      refine ev_iload_n dX8_accuse_29 rfl ?_
      refine ev_iload dX8_accuse_30 rfl ?_
      refine ev_iload dX8_accuse_32 rfl ?_
      obtain ⟨z4, hz4, h⟩ := ev_bnE h
      refine ec_Vv (Y := mX2_add) (ci := 2) (As := [.int x1, .int x2, .int x3, .int x4, .int x5]) (rest := []) dX8_accuse_34 kX8_239 oX2_add ⟨Nat.le_of_ble_eq_true rfl, Nat.le_of_ble_eq_true rfl⟩ (by decide) rfl (shp_n (s72e g0) 0 rfl) (shp_t (s72e g0) 0 rfl) rfl (Nat.le_of_ble_eq_true rfl) (tX2_add n (q0 + 14) 300 (s72e g0) x1 x2 x3 x4 x5 I z4 hz4) rfl ?_
      cases h
      exact er_v dX8_accuse_37 rfl
-- ChainVotes$World lockAfter(LChainVotes$Member;I)I
def pX8_lockAfter (n : Nat) (q0 : Nat) (q1 : Nat) (x2 : Int32) (I : ev_I) : Option (Int32) :=
  ev_ck (ev_in x2 100) <|
  ev_lt (I ((q0 + 1) + 3) x2.toNatClampNeg) fun v2 =>
  ev_ck (ev_in v2 100) <|
  ev_ck (ev_in (I q1 6) 100) <|
  if (I ((q0 + 1) + 1) v2.toNatClampNeg) ≤ (I ((q0 + 1) + 1) (I q1 6).toNatClampNeg) then
    some (I q1 6)
  else
    some v2
set_option maxRecDepth 100000 in
set_option maxHeartbeats 4000000 in
theorem tX8_lockAfter {E : ev_N} {σ : ev_H} (n : Nat) (q0 : Nat) (q1 : Nat) (g0 : shp tb7 σ q0) (g1 : shp tb3 σ q1) (x2 : Int32) (I : ev_I) (o : Int32) (h : pX8_lockAfter n q0 q1 x2 I = some o) : ev_T E mX8_lockAfter [.ref q0, .ref q1, .int x2] (h_w σ I) (Option.some (Value.int o), h_w σ I) := by
  unfold pX8_lockAfter at h
  refine ev_met rfl rfl (Nat.le_of_ble_eq_true rfl) (ev_L0 (L' := [some (.ref q0), some (.ref q1), some (.int x2), none]) rfl ?_)
  refine ev_aload_n dX8_lockAfter_0 rfl (fun _ e => by cases e) ?_
  refine ew_getr0 dX8_lockAfter_1 fX8_12 g0 rfl rfl rfl rfl ?_
  refine ew_getr0 dX8_lockAfter_4 fX8_221 (s71 g0) rfl rfl rfl rfl ?_
  refine ev_iload_n dX8_lockAfter_7 rfl ?_
  obtain ⟨c1, h⟩ := ev_ckE h
  refine ew_iald dX8_lockAfter_8 (shp_a (s71 g0) 3 rfl) c1 ?_
  obtain ⟨v2, ev2, h⟩ := ev_ltE h
  refine ew_nm ev2 ?_
  refine ew_istn (L' := [some (.ref q0), some (.ref q1), some (.int x2), some (.int v2)]) dX8_lockAfter_9 (Nat.le_of_ble_eq_true rfl) rfl ?_
  refine ev_aload_n dX8_lockAfter_10 rfl (fun _ e => by cases e) ?_
  refine ew_getr0 dX8_lockAfter_11 fX8_12 g0 rfl rfl rfl rfl ?_
  refine ew_getr0 dX8_lockAfter_14 fX8_105 (s71 g0) rfl rfl rfl rfl ?_
  refine ev_iload_n dX8_lockAfter_17 rfl ?_
  obtain ⟨c3, h⟩ := ev_ckE h
  refine ew_iald dX8_lockAfter_18 (shp_a (s71 g0) 1 rfl) c3 ?_
  refine ev_aload_n dX8_lockAfter_19 rfl (fun _ e => by cases e) ?_
  refine ew_getr0 dX8_lockAfter_20 fX8_12 g0 rfl rfl rfl rfl ?_
  refine ew_getr0 dX8_lockAfter_23 fX8_105 (s71 g0) rfl rfl rfl rfl ?_
  refine ev_aload_n dX8_lockAfter_26 rfl (fun _ e => by cases e) ?_
  refine ew_get0 dX8_lockAfter_27 fX8_232 g1 rfl rfl rfl ?_
  obtain ⟨c4, h⟩ := ev_ckE h
  refine ew_iald dX8_lockAfter_30 (shp_a (s71 g0) 1 rfl) c4 ?_
  refine ev_icmp_le (tgt := 38) dX8_lockAfter_31 (by decide) (fun c5 => ?_) (fun c5 => ?_)
  · have h := ev_ifT h c5
    refine ev_aload_n dX8_lockAfter_38 rfl (fun _ e => by cases e) ?_
    refine ew_get0 dX8_lockAfter_39 fX8_232 g1 rfl rfl rfl ?_
    cases h
    exact er_i dX8_lockAfter_42 rfl rfl
  · have h := ev_ifF h c5
    refine ev_iload_n dX8_lockAfter_34 rfl ?_
    refine ev_goto (tgt := 42) dX8_lockAfter_35 (by decide) ?_
    cases h
    exact er_i dX8_lockAfter_42 rfl rfl
-- ChainVotes$World viewAfter(LChainVotes$Member;I)I
def cX8_viewAfter_61 (q0 : Nat) (q1 : Nat) (n : Nat) (y3 : Int32) (s0 : Int32) (I : ev_I) : Option (Int32) :=
  if y3 ≤ (I q1 1) then
    some (I q1 1)
  else
    if s0 = 0 then
      some (I q1 1)
    else
      some y3
def cX8_viewAfter_56 (q0 : Nat) (q1 : Nat) (n : Nat) (y3 : Int32) (I : ev_I) : Option (Int32) :=
  cX8_viewAfter_61 q0 q1 n y3 (1 : Int32) I
def pX8_viewAfter (n : Nat) (q0 : Nat) (q1 : Nat) (x2 : Int32) (I : ev_I) : Option (Int32) :=
  ev_ck (ev_in x2 100) <|
  ev_lt (I ((q0 + 1) + 1) x2.toNatClampNeg) fun v4 =>
  ev_ck (ev_in x2 100) <|
  ev_ck (ev_in (I ((q0 + 1) + 3) x2.toNatClampNeg) 100) <|
  if (I ((q0 + 1) + 1) (I ((q0 + 1) + 3) x2.toNatClampNeg).toNatClampNeg) = (v4 - (1 : Int32)) then
    cX8_viewAfter_56 q0 q1 n v4 I
  else
    ev_ck (ev_in x2 100) <|
    if (I ((q0 + 1) + 7) x2.toNatClampNeg) = (1 : Int32) then
      cX8_viewAfter_56 q0 q1 n v4 I
    else
      if (I q1 7) < (v4 - (1 : Int32)) then
        cX8_viewAfter_61 q0 q1 n v4 (0 : Int32) I
      else
        cX8_viewAfter_56 q0 q1 n v4 I
set_option maxRecDepth 100000 in
set_option maxHeartbeats 4000000 in
theorem tX8_viewAfter_61 {E : ev_N} {σ : ev_H} (q0 : Nat) (q1 : Nat) (g0 : shp tb7 σ q0) (g1 : shp tb3 σ q1) (n : Nat) (y3 : Int32) (s0 : Int32) (I : ev_I) (o : Int32) : cX8_viewAfter_61 q0 q1 n y3 s0 I = some o → EV E mX8_viewAfter 61 [none, some (.ref q1), none, some (.int y3), none] [(.int s0)] (h_w σ I) (Option.some (Value.int o), h_w σ I) := by
  intro h
  unfold cX8_viewAfter_61 at h
  refine ew_ist (L' := [none, some (.ref q1), none, some (.int y3), some (.int s0)]) dX8_viewAfter_61 (Nat.le_of_ble_eq_true rfl) rfl ?_
  refine ev_iload_n dX8_viewAfter_63 rfl ?_
  refine ev_aload_n dX8_viewAfter_64 rfl (fun _ e => by cases e) ?_
  refine ew_get0 dX8_viewAfter_65 fX8_115 g1 rfl rfl rfl ?_
  refine ev_icmp_le (tgt := 80) dX8_viewAfter_68 (by decide) (fun c1 => ?_) (fun c1 => ?_)
  · have h := ev_ifT h c1
    refine ev_aload_n dX8_viewAfter_80 rfl (fun _ e => by cases e) ?_
    refine ew_get0 dX8_viewAfter_81 fX8_115 g1 rfl rfl rfl ?_
    cases h
    exact er_i dX8_viewAfter_84 rfl rfl
  · have h := ev_ifF h c1
    refine ev_iload dX8_viewAfter_71 rfl ?_
    refine ev_if_eq (tgt := 80) dX8_viewAfter_73 (by decide) (fun c2 => ?_) (fun c2 => ?_)
    · have h := ev_ifT h c2
      refine ev_aload_n dX8_viewAfter_80 rfl (fun _ e => by cases e) ?_
      refine ew_get0 dX8_viewAfter_81 fX8_115 g1 rfl rfl rfl ?_
      cases h
      exact er_i dX8_viewAfter_84 rfl rfl
    · have h := ev_ifF h c2
      refine ev_iload_n dX8_viewAfter_76 rfl ?_
      refine ev_goto (tgt := 84) dX8_viewAfter_77 (by decide) ?_
      cases h
      exact er_i dX8_viewAfter_84 rfl rfl
set_option maxRecDepth 100000 in
set_option maxHeartbeats 4000000 in
theorem tX8_viewAfter_56 {E : ev_N} {σ : ev_H} (q0 : Nat) (q1 : Nat) (g0 : shp tb7 σ q0) (g1 : shp tb3 σ q1) (n : Nat) (y3 : Int32) (I : ev_I) (o : Int32) : cX8_viewAfter_56 q0 q1 n y3 I = some o → EV E mX8_viewAfter 56 [none, some (.ref q1), none, some (.int y3), none] [] (h_w σ I) (Option.some (Value.int o), h_w σ I) := by
  intro h
  unfold cX8_viewAfter_56 at h
  refine ev_iconst (v := (1 : Int32)) dX8_viewAfter_56 (by decide) ?_
  refine ev_goto (tgt := 61) dX8_viewAfter_57 (by decide) ?_
  exact ev_weak (sb_n (sb_s (sb_n (sb_s (sb_n sb_0))))) (tX8_viewAfter_61 q0 q1 g0 g1 n y3 (1 : Int32) I _ h)
set_option maxRecDepth 100000 in
set_option maxHeartbeats 4000000 in
theorem tX8_viewAfter {E : ev_N} {σ : ev_H} (n : Nat) (q0 : Nat) (q1 : Nat) (g0 : shp tb7 σ q0) (g1 : shp tb3 σ q1) (x2 : Int32) (I : ev_I) (o : Int32) (h : pX8_viewAfter n q0 q1 x2 I = some o) : ev_T E mX8_viewAfter [.ref q0, .ref q1, .int x2] (h_w σ I) (Option.some (Value.int o), h_w σ I) := by
  unfold pX8_viewAfter at h
  refine ev_met rfl rfl (Nat.le_of_ble_eq_true rfl) (ev_L0 (L' := [some (.ref q0), some (.ref q1), some (.int x2), none, none]) rfl ?_)
  refine ev_aload_n dX8_viewAfter_0 rfl (fun _ e => by cases e) ?_
  refine ew_getr0 dX8_viewAfter_1 fX8_12 g0 rfl rfl rfl rfl ?_
  refine ew_getr0 dX8_viewAfter_4 fX8_105 (s71 g0) rfl rfl rfl rfl ?_
  refine ev_iload_n dX8_viewAfter_7 rfl ?_
  obtain ⟨c3, h⟩ := ev_ckE h
  refine ew_iald dX8_viewAfter_8 (shp_a (s71 g0) 1 rfl) c3 ?_
  obtain ⟨v4, ev4, h⟩ := ev_ltE h
  refine ew_nm ev4 ?_
  refine ew_istn (L' := [some (.ref q0), some (.ref q1), some (.int x2), some (.int v4), none]) dX8_viewAfter_9 (Nat.le_of_ble_eq_true rfl) rfl ?_
  refine ev_aload_n dX8_viewAfter_10 rfl (fun _ e => by cases e) ?_
  refine ew_getr0 dX8_viewAfter_11 fX8_12 g0 rfl rfl rfl rfl ?_
  refine ew_getr0 dX8_viewAfter_14 fX8_105 (s71 g0) rfl rfl rfl rfl ?_
  refine ev_aload_n dX8_viewAfter_17 rfl (fun _ e => by cases e) ?_
  refine ew_getr0 dX8_viewAfter_18 fX8_12 g0 rfl rfl rfl rfl ?_
  refine ew_getr0 dX8_viewAfter_21 fX8_221 (s71 g0) rfl rfl rfl rfl ?_
  refine ev_iload_n dX8_viewAfter_24 rfl ?_
  obtain ⟨c5, h⟩ := ev_ckE h
  refine ew_iald dX8_viewAfter_25 (shp_a (s71 g0) 3 rfl) c5 ?_
  obtain ⟨c6, h⟩ := ev_ckE h
  refine ew_iald dX8_viewAfter_26 (shp_a (s71 g0) 1 rfl) c6 ?_
  refine ev_iload_n dX8_viewAfter_27 rfl ?_
  refine ev_iconst (v := (1 : Int32)) dX8_viewAfter_28 (by decide) ?_
  refine ev_isub dX8_viewAfter_29 ?_
  refine ev_icmp_eq (tgt := 56) dX8_viewAfter_30 (by decide) (fun c7 => ?_) (fun c7 => ?_)
  · have h := ev_ifT h c7
    exact ev_weak (sb_n (sb_s (sb_n (sb_s (sb_n sb_0))))) (tX8_viewAfter_56 q0 q1 g0 g1 n v4 I _ h)
  · have h := ev_ifF h c7
    refine ev_aload_n dX8_viewAfter_33 rfl (fun _ e => by cases e) ?_
    refine ew_getr0 dX8_viewAfter_34 fX8_12 g0 rfl rfl rfl rfl ?_
    refine ew_getr0 dX8_viewAfter_37 fX8_295 (s71 g0) rfl rfl rfl rfl ?_
    refine ev_iload_n dX8_viewAfter_40 rfl ?_
    obtain ⟨c8, h⟩ := ev_ckE h
    refine ew_iald dX8_viewAfter_41 (shp_a (s71 g0) 7 rfl) c8 ?_
    refine ev_iconst (v := (1 : Int32)) dX8_viewAfter_42 (by decide) ?_
    refine ev_icmp_eq (tgt := 56) dX8_viewAfter_43 (by decide) (fun c9 => ?_) (fun c9 => ?_)
    · have h := ev_ifT h c9
      exact ev_weak (sb_n (sb_s (sb_n (sb_s (sb_n sb_0))))) (tX8_viewAfter_56 q0 q1 g0 g1 n v4 I _ h)
    · have h := ev_ifF h c9
      refine ev_aload_n dX8_viewAfter_46 rfl (fun _ e => by cases e) ?_
      refine ew_get0 dX8_viewAfter_47 fX8_123 g1 rfl rfl rfl ?_
      refine ev_iload_n dX8_viewAfter_50 rfl ?_
      refine ev_iconst (v := (1 : Int32)) dX8_viewAfter_51 (by decide) ?_
      refine ev_isub dX8_viewAfter_52 ?_
      refine ev_icmp_lt (tgt := 60) dX8_viewAfter_53 (by decide) (fun c10 => ?_) (fun c10 => ?_)
      · have h := ev_ifT h c10
        refine ev_iconst (v := (0 : Int32)) dX8_viewAfter_60 (by decide) ?_
        exact ev_weak (sb_n (sb_s (sb_n (sb_s (sb_n sb_0))))) (tX8_viewAfter_61 q0 q1 g0 g1 n v4 (0 : Int32) I _ h)
      · have h := ev_ifF h c10
        exact ev_weak (sb_n (sb_s (sb_n (sb_s (sb_n sb_0))))) (tX8_viewAfter_56 q0 q1 g0 g1 n v4 I _ h)
-- ChainVotes$World isDue(LChainVotes$Member;II)Z
def pX8_isDue (n : Nat) (q0 : Nat) (q1 : Nat) (x2 : Int32) (x3 : Int32) (I : ev_I) : Option (Int32) :=
  ev_ck (ev_in x2 100) <|
  if (I ((q0 + 1) + 1) x2.toNatClampNeg) = x3 then
    if x3 ≤ (I q1 2) then
      some (0 : Int32)
    else
      ev_ck (ev_in x2 100) <|
      ev_ck (ev_in x2 100) <|
      if (I ((q0 + 1) + 2) x2.toNatClampNeg) = (I ((q0 + 1) + 3) x2.toNatClampNeg) then
        some (1 : Int32)
      else
        some (0 : Int32)
  else
    some (0 : Int32)
set_option maxRecDepth 100000 in
set_option maxHeartbeats 4000000 in
theorem tX8_isDue {E : ev_N} {σ : ev_H} (n : Nat) (q0 : Nat) (q1 : Nat) (g0 : shp tb7 σ q0) (g1 : shp tb3 σ q1) (x2 : Int32) (x3 : Int32) (I : ev_I) (o : Int32) (h : pX8_isDue n q0 q1 x2 x3 I = some o) : ev_T E mX8_isDue [.ref q0, .ref q1, .int x2, .int x3] (h_w σ I) (Option.some (Value.int o), h_w σ I) := by
  unfold pX8_isDue at h
  refine ev_met rfl rfl (Nat.le_of_ble_eq_true rfl) (ev_L0 (L' := [some (.ref q0), some (.ref q1), some (.int x2), some (.int x3)]) rfl ?_)
  refine ev_aload_n dX8_isDue_0 rfl (fun _ e => by cases e) ?_
  refine ew_getr0 dX8_isDue_1 fX8_12 g0 rfl rfl rfl rfl ?_
  refine ew_getr0 dX8_isDue_4 fX8_105 (s71 g0) rfl rfl rfl rfl ?_
  refine ev_iload_n dX8_isDue_7 rfl ?_
  obtain ⟨c1, h⟩ := ev_ckE h
  refine ew_iald dX8_isDue_8 (shp_a (s71 g0) 1 rfl) c1 ?_
  refine ev_iload_n dX8_isDue_9 rfl ?_
  refine ev_icmp_ne (tgt := 46) dX8_isDue_10 (by decide) (fun c2 => ?_) (fun c2 => ?_)
  · have h := ev_ifF h c2
    refine ev_iconst (v := (0 : Int32)) dX8_isDue_46 (by decide) ?_
    cases h
    exact er_i dX8_isDue_47 rfl rfl
  · have h := ev_ifT h c2
    refine ev_iload_n dX8_isDue_13 rfl ?_
    refine ev_aload_n dX8_isDue_14 rfl (fun _ e => by cases e) ?_
    refine ew_get0 dX8_isDue_15 fX8_143 g1 rfl rfl rfl ?_
    refine ev_icmp_le (tgt := 46) dX8_isDue_18 (by decide) (fun c3 => ?_) (fun c3 => ?_)
    · have h := ev_ifT h c3
      refine ev_iconst (v := (0 : Int32)) dX8_isDue_46 (by decide) ?_
      cases h
      exact er_i dX8_isDue_47 rfl rfl
    · have h := ev_ifF h c3
      refine ev_aload_n dX8_isDue_21 rfl (fun _ e => by cases e) ?_
      refine ew_getr0 dX8_isDue_22 fX8_12 g0 rfl rfl rfl rfl ?_
      refine ew_getr0 dX8_isDue_25 fX8_289 (s71 g0) rfl rfl rfl rfl ?_
      refine ev_iload_n dX8_isDue_28 rfl ?_
      obtain ⟨c4, h⟩ := ev_ckE h
      refine ew_iald dX8_isDue_29 (shp_a (s71 g0) 2 rfl) c4 ?_
      refine ev_aload_n dX8_isDue_30 rfl (fun _ e => by cases e) ?_
      refine ew_getr0 dX8_isDue_31 fX8_12 g0 rfl rfl rfl rfl ?_
      refine ew_getr0 dX8_isDue_34 fX8_221 (s71 g0) rfl rfl rfl rfl ?_
      refine ev_iload_n dX8_isDue_37 rfl ?_
      obtain ⟨c5, h⟩ := ev_ckE h
      refine ew_iald dX8_isDue_38 (shp_a (s71 g0) 3 rfl) c5 ?_
      refine ev_icmp_ne (tgt := 46) dX8_isDue_39 (by decide) (fun c6 => ?_) (fun c6 => ?_)
      · have h := ev_ifF h c6
        refine ev_iconst (v := (0 : Int32)) dX8_isDue_46 (by decide) ?_
        cases h
        exact er_i dX8_isDue_47 rfl rfl
      · have h := ev_ifT h c6
        refine ev_iconst (v := (1 : Int32)) dX8_isDue_42 (by decide) ?_
        refine ev_goto (tgt := 47) dX8_isDue_43 (by decide) ?_
        cases h
        exact er_i dX8_isDue_47 rfl rfl
-- ChainVotes$World isSafe(II)Z
def pX8_isSafe (n : Nat) (q0 : Nat) (x1 : Int32) (x2 : Int32) (I : ev_I) : Option (Int32) :=
  (pX1_reaches n (q0 + 1) x1 x2 I).bind fun z1 =>
  if z1 = 0 then
    ev_ck (ev_in x1 100) <|
    ev_ck (ev_in (I ((q0 + 1) + 3) x1.toNatClampNeg) 100) <|
    ev_ck (ev_in x2 100) <|
    if (I ((q0 + 1) + 1) (I ((q0 + 1) + 3) x1.toNatClampNeg).toNatClampNeg) ≤ (I ((q0 + 1) + 1) x2.toNatClampNeg) then
      some (0 : Int32)
    else
      some (1 : Int32)
  else
    some (1 : Int32)
set_option maxRecDepth 100000 in
set_option maxHeartbeats 4000000 in
theorem tX8_isSafe {E : ev_N} {σ : ev_H} (n : Nat) (q0 : Nat) (g0 : shp tb7 σ q0) (x1 : Int32) (x2 : Int32) (I : ev_I) (o : Int32) (h : pX8_isSafe n q0 x1 x2 I = some o) : ev_T E mX8_isSafe [.ref q0, .int x1, .int x2] (h_w σ I) (Option.some (Value.int o), h_w σ I) := by
  unfold pX8_isSafe at h
  refine ev_met rfl rfl (Nat.le_of_ble_eq_true rfl) (ev_L0 (L' := [some (.ref q0), some (.int x1), some (.int x2)]) rfl ?_)
  refine ev_aload_n dX8_isSafe_0 rfl (fun _ e => by cases e) ?_
  refine ew_getr0 dX8_isSafe_1 fX8_12 g0 rfl rfl rfl rfl ?_
  refine ev_iload_n dX8_isSafe_4 rfl ?_
  refine ev_iload_n dX8_isSafe_5 rfl ?_
  obtain ⟨z1, hz1, h⟩ := ev_bnE h
  refine ec_Vi (Y := mX1_reaches) (ci := 1) (As := [.int x1, .int x2]) (rest := []) dX8_isSafe_6 kX8_274 oX1_reaches ⟨Nat.le_of_ble_eq_true rfl, Nat.le_of_ble_eq_true rfl⟩ (by decide) rfl (shp_n (s71 g0) 0 rfl) (shp_t (s71 g0) 0 rfl) rfl (Nat.le_of_ble_eq_true rfl) (tX1_reaches n (q0 + 1) (s71 g0) x1 x2 I z1 hz1) rfl ?_
  refine ev_if_ne (tgt := 41) dX8_isSafe_9 (by decide) (fun c2 => ?_) (fun c2 => ?_)
  · have h := ev_ifF h c2
    refine ev_iconst (v := (1 : Int32)) dX8_isSafe_41 (by decide) ?_
    refine ev_goto (tgt := 46) dX8_isSafe_42 (by decide) ?_
    cases h
    exact er_i dX8_isSafe_46 rfl rfl
  · have h := ev_ifT h c2
    refine ev_aload_n dX8_isSafe_12 rfl (fun _ e => by cases e) ?_
    refine ew_getr0 dX8_isSafe_13 fX8_12 g0 rfl rfl rfl rfl ?_
    refine ew_getr0 dX8_isSafe_16 fX8_105 (s71 g0) rfl rfl rfl rfl ?_
    refine ev_aload_n dX8_isSafe_19 rfl (fun _ e => by cases e) ?_
    refine ew_getr0 dX8_isSafe_20 fX8_12 g0 rfl rfl rfl rfl ?_
    refine ew_getr0 dX8_isSafe_23 fX8_221 (s71 g0) rfl rfl rfl rfl ?_
    refine ev_iload_n dX8_isSafe_26 rfl ?_
    obtain ⟨c3, h⟩ := ev_ckE h
    refine ew_iald dX8_isSafe_27 (shp_a (s71 g0) 3 rfl) c3 ?_
    obtain ⟨c4, h⟩ := ev_ckE h
    refine ew_iald dX8_isSafe_28 (shp_a (s71 g0) 1 rfl) c4 ?_
    refine ev_aload_n dX8_isSafe_29 rfl (fun _ e => by cases e) ?_
    refine ew_getr0 dX8_isSafe_30 fX8_12 g0 rfl rfl rfl rfl ?_
    refine ew_getr0 dX8_isSafe_33 fX8_105 (s71 g0) rfl rfl rfl rfl ?_
    refine ev_iload_n dX8_isSafe_36 rfl ?_
    obtain ⟨c5, h⟩ := ev_ckE h
    refine ew_iald dX8_isSafe_37 (shp_a (s71 g0) 1 rfl) c5 ?_
    refine ev_icmp_le (tgt := 45) dX8_isSafe_38 (by decide) (fun c6 => ?_) (fun c6 => ?_)
    · have h := ev_ifT h c6
      refine ev_iconst (v := (0 : Int32)) dX8_isSafe_45 (by decide) ?_
      cases h
      exact er_i dX8_isSafe_46 rfl rfl
    · have h := ev_ifF h c6
      refine ev_iconst (v := (1 : Int32)) dX8_isSafe_41 (by decide) ?_
      refine ev_goto (tgt := 46) dX8_isSafe_42 (by decide) ?_
      cases h
      exact er_i dX8_isSafe_46 rfl rfl
-- ChainVotes$World wouldVote(LChainVotes$Member;I)Z
def pX8_wouldVote (n : Nat) (q0 : Nat) (q1 : Nat) (x2 : Int32) (I : ev_I) : Option (Int32) :=
  ev_ck (ev_in x2 100) <|
  (pX8_lockAfter n q0 q1 (I ((q0 + 1) + 3) x2.toNatClampNeg) I).bind fun z2 =>
  if (I q1 0) = (1 : Int32) then
    some (0 : Int32)
  else
    (pX8_viewAfter n q0 q1 x2 I).bind fun z4 =>
    (pX8_isDue n q0 q1 x2 z4 I).bind fun z5 =>
    if z5 = 0 then
      some (0 : Int32)
    else
      (pX8_isSafe n q0 x2 z2 I).bind fun z7 =>
      if z7 = 0 then
        some (0 : Int32)
      else
        some (1 : Int32)
set_option maxRecDepth 100000 in
set_option maxHeartbeats 4000000 in
theorem tX8_wouldVote {E : ev_N} {σ : ev_H} (n : Nat) (q0 : Nat) (q1 : Nat) (g0 : shp tb7 σ q0) (g1 : shp tb3 σ q1) (x2 : Int32) (I : ev_I) (o : Int32) (h : pX8_wouldVote n q0 q1 x2 I = some o) : ev_T E mX8_wouldVote [.ref q0, .ref q1, .int x2] (h_w σ I) (Option.some (Value.int o), h_w σ I) := by
  unfold pX8_wouldVote at h
  refine ev_met rfl rfl (Nat.le_of_ble_eq_true rfl) (ev_L0 (L' := [some (.ref q0), some (.ref q1), some (.int x2), none]) rfl ?_)
  refine ev_aload_n dX8_wouldVote_0 rfl (fun _ e => by cases e) ?_
  refine ev_aload_n dX8_wouldVote_1 rfl (fun _ e => by cases e) ?_
  refine ev_aload_n dX8_wouldVote_2 rfl (fun _ e => by cases e) ?_
  refine ew_getr0 dX8_wouldVote_3 fX8_12 g0 rfl rfl rfl rfl ?_
  refine ew_getr0 dX8_wouldVote_6 fX8_221 (s71 g0) rfl rfl rfl rfl ?_
  refine ev_iload_n dX8_wouldVote_9 rfl ?_
  obtain ⟨c1, h⟩ := ev_ckE h
  refine ew_iald dX8_wouldVote_10 (shp_a (s71 g0) 3 rfl) c1 ?_
  obtain ⟨z2, hz2, h⟩ := ev_bnE h
  refine ec_Vi (Y := mX8_lockAfter) (ci := 7) (As := [.ref q1, .int (I ((q0 + 1) + 3) x2.toNatClampNeg)]) (rest := []) dX8_wouldVote_11 kX8_262 oX8_lockAfter ⟨Nat.le_of_ble_eq_true rfl, Nat.le_of_ble_eq_true rfl⟩ (by decide) rfl (shp_n g0 0 rfl) (shp_t g0 0 rfl) rfl (Nat.le_of_ble_eq_true rfl) (tX8_lockAfter n q0 q1 g0 g1 (I ((q0 + 1) + 3) x2.toNatClampNeg) I z2 hz2) rfl ?_
  refine ew_istn (L' := [some (.ref q0), some (.ref q1), some (.int x2), some (.int z2)]) dX8_wouldVote_14 (Nat.le_of_ble_eq_true rfl) rfl ?_
  refine ev_aload_n dX8_wouldVote_15 rfl (fun _ e => by cases e) ?_
  refine ew_get0 dX8_wouldVote_16 fX8_92 g1 rfl rfl rfl ?_
  refine ev_iconst (v := (1 : Int32)) dX8_wouldVote_19 (by decide) ?_
  refine ev_icmp_eq (tgt := 51) dX8_wouldVote_20 (by decide) (fun c3 => ?_) (fun c3 => ?_)
  · have h := ev_ifT h c3
    refine ev_iconst (v := (0 : Int32)) dX8_wouldVote_51 (by decide) ?_
    cases h
    exact er_i dX8_wouldVote_52 rfl rfl
  · have h := ev_ifF h c3
    refine ev_aload_n dX8_wouldVote_23 rfl (fun _ e => by cases e) ?_
    refine ev_aload_n dX8_wouldVote_24 rfl (fun _ e => by cases e) ?_
    refine ev_iload_n dX8_wouldVote_25 rfl ?_
    refine ev_aload_n dX8_wouldVote_26 rfl (fun _ e => by cases e) ?_
    refine ev_aload_n dX8_wouldVote_27 rfl (fun _ e => by cases e) ?_
    refine ev_iload_n dX8_wouldVote_28 rfl ?_
    obtain ⟨z4, hz4, h⟩ := ev_bnE h
    refine ec_Vi (Y := mX8_viewAfter) (ci := 7) (As := [.ref q1, .int x2]) (rest := [(.int x2), (.ref q1), (.ref q0)]) dX8_wouldVote_29 kX8_224 oX8_viewAfter ⟨Nat.le_of_ble_eq_true rfl, Nat.le_of_ble_eq_true rfl⟩ (by decide) rfl (shp_n g0 0 rfl) (shp_t g0 0 rfl) rfl (Nat.le_of_ble_eq_true rfl) (tX8_viewAfter n q0 q1 g0 g1 x2 I z4 hz4) rfl ?_
    obtain ⟨z5, hz5, h⟩ := ev_bnE h
    refine ec_Vi (Y := mX8_isDue) (ci := 7) (As := [.ref q1, .int x2, .int z4]) (rest := []) dX8_wouldVote_32 kX8_228 oX8_isDue ⟨Nat.le_of_ble_eq_true rfl, Nat.le_of_ble_eq_true rfl⟩ (by decide) rfl (shp_n g0 0 rfl) (shp_t g0 0 rfl) rfl (Nat.le_of_ble_eq_true rfl) (tX8_isDue n q0 q1 g0 g1 x2 z4 I z5 hz5) rfl ?_
    refine ev_if_eq (tgt := 51) dX8_wouldVote_35 (by decide) (fun c6 => ?_) (fun c6 => ?_)
    · have h := ev_ifT h c6
      refine ev_iconst (v := (0 : Int32)) dX8_wouldVote_51 (by decide) ?_
      cases h
      exact er_i dX8_wouldVote_52 rfl rfl
    · have h := ev_ifF h c6
      refine ev_aload_n dX8_wouldVote_38 rfl (fun _ e => by cases e) ?_
      refine ev_iload_n dX8_wouldVote_39 rfl ?_
      refine ev_iload_n dX8_wouldVote_40 rfl ?_
      obtain ⟨z7, hz7, h⟩ := ev_bnE h
      refine ec_Vi (Y := mX8_isSafe) (ci := 7) (As := [.int x2, .int z2]) (rest := []) dX8_wouldVote_41 kX8_235 oX8_isSafe ⟨Nat.le_of_ble_eq_true rfl, Nat.le_of_ble_eq_true rfl⟩ (by decide) rfl (shp_n g0 0 rfl) (shp_t g0 0 rfl) rfl (Nat.le_of_ble_eq_true rfl) (tX8_isSafe n q0 g0 x2 z2 I z7 hz7) rfl ?_
      refine ev_if_eq (tgt := 51) dX8_wouldVote_44 (by decide) (fun c8 => ?_) (fun c8 => ?_)
      · have h := ev_ifT h c8
        refine ev_iconst (v := (0 : Int32)) dX8_wouldVote_51 (by decide) ?_
        cases h
        exact er_i dX8_wouldVote_52 rfl rfl
      · have h := ev_ifF h c8
        refine ev_iconst (v := (1 : Int32)) dX8_wouldVote_47 (by decide) ?_
        refine ev_goto (tgt := 52) dX8_wouldVote_48 (by decide) ?_
        cases h
        exact er_i dX8_wouldVote_52 rfl rfl
-- ChainVotes$World goOn(I)V
def cX8_goOn_28 (q0 : Nat) (K4 : Int32 → Int32 → Int32 → ev_I → Option (ev_I)) (n : Nat) (y1 : Int32) (y3 : Int32) (s0 : Int32) (s1 : Int32) (I : ev_I) : Option (ev_I) :=
  ev_lt (s0 ||| s1) fun v1 =>
  ev_lt (y3 + (1 : Int32)) fun v2 =>
  K4 y1 v1 v2 I
def cX8_goOn_38 (q0 : Nat) (K38 : Int32 → Int32 → ev_I → Option (ev_I)) (n : Nat) (y2 : Int32) (y3 : Int32) (I : ev_I) : Option (ev_I) :=
  if (I q0 0) ≤ y3 then
    some I
  else
    if y2 = 0 then
      (pX8_timeOutBy n q0 y3 I).bind fun z5 =>
      ev_lt (y3 + (1 : Int32)) fun v6 =>
      K38 y2 v6 z5.2
    else
      some I
def lX8_goOn_38 (q0 : Nat) : Nat → Int32 → Int32 → ev_I → Option (ev_I)
  | 0, _, _, _ => none
  | n + 1, y2, y3, I => cX8_goOn_38 q0 (lX8_goOn_38 q0 n) n y2 y3 I
def cX8_goOn_4 (q0 : Nat) (K4 : Int32 → Int32 → Int32 → ev_I → Option (ev_I)) (n : Nat) (y1 : Int32) (y2 : Int32) (y3 : Int32) (I : ev_I) : Option (ev_I) :=
  if (I q0 0) ≤ y3 then
    lX8_goOn_38 q0 n y2 (0 : Int32) I
  else
    (pX8_proposeBy n q0 y3 y1 I).bind fun z8 =>
    if z8.1 = (-1 : Int32) then
      cX8_goOn_28 q0 K4 n y1 y3 y2 (0 : Int32) z8.2
    else
      cX8_goOn_28 q0 K4 n y1 y3 y2 (1 : Int32) z8.2
def lX8_goOn_4 (q0 : Nat) : Nat → Int32 → Int32 → Int32 → ev_I → Option (ev_I)
  | 0, _, _, _, _ => none
  | n + 1, y1, y2, y3, I => cX8_goOn_4 q0 (lX8_goOn_4 q0 n) n y1 y2 y3 I
def pX8_goOn (n : Nat) (q0 : Nat) (x1 : Int32) (I : ev_I) : Option (ev_I) :=
  lX8_goOn_4 q0 n x1 (0 : Int32) (0 : Int32) I
set_option maxRecDepth 100000 in
set_option maxHeartbeats 4000000 in
theorem tX8_goOn_28 {E : ev_N} {σ : ev_H} (q0 : Nat) (g0 : shp tb7 σ q0) (K4 : Int32 → Int32 → Int32 → ev_I → Option (ev_I)) (k4 : ∀ (y1 : Int32) (y2 : Int32) (y3 : Int32) (I : ev_I) (o : ev_I), K4 y1 y2 y3 I = some o → EV E mX8_goOn 4 [some (.ref q0), some (.int y1), some (.int y2), some (.int y3)] [] (h_w σ I) (Option.none, h_w σ o)) (n : Nat) (y1 : Int32) (y3 : Int32) (s0 : Int32) (s1 : Int32) (I : ev_I) (o : ev_I) : cX8_goOn_28 q0 K4 n y1 y3 s0 s1 I = some o → EV E mX8_goOn 28 [some (.ref q0), some (.int y1), none, some (.int y3)] [(.int s1), (.int s0)] (h_w σ I) (Option.none, h_w σ o) := by
  intro h
  unfold cX8_goOn_28 at h
  refine ev_ior dX8_goOn_28 ?_
  obtain ⟨v1, ev1, h⟩ := ev_ltE h
  refine ew_nm ev1 ?_
  refine ew_istn (L' := [some (.ref q0), some (.int y1), some (.int v1), some (.int y3)]) dX8_goOn_29 (Nat.le_of_ble_eq_true rfl) rfl ?_
  obtain ⟨v2, ev2, h⟩ := ev_ltE h
  refine ew_iinc (L' := [some (.ref q0), some (.int y1), some (.int v1), some (.int v2)]) dX8_goOn_30 (Nat.le_of_ble_eq_true rfl) rfl (by decide) ev2 rfl ?_
  refine ev_goto (tgt := 4) dX8_goOn_33 (by decide) ?_
  exact ev_weak (sb_s (sb_s (sb_s (sb_s sb_0)))) (k4 y1 v1 v2 I _ h)
set_option maxRecDepth 100000 in
set_option maxHeartbeats 4000000 in
theorem tX8_goOn_38 {E : ev_N} {σ : ev_H} (q0 : Nat) (g0 : shp tb7 σ q0) (K38 : Int32 → Int32 → ev_I → Option (ev_I)) (k38 : ∀ (y2 : Int32) (y3 : Int32) (I : ev_I) (o : ev_I), K38 y2 y3 I = some o → EV E mX8_goOn 38 [some (.ref q0), none, some (.int y2), some (.int y3)] [] (h_w σ I) (Option.none, h_w σ o)) (n : Nat) (y2 : Int32) (y3 : Int32) (I : ev_I) (o : ev_I) : cX8_goOn_38 q0 K38 n y2 y3 I = some o → EV E mX8_goOn 38 [some (.ref q0), none, some (.int y2), some (.int y3)] [] (h_w σ I) (Option.none, h_w σ o) := by
  intro h
  unfold cX8_goOn_38 at h
  refine ev_iload_n dX8_goOn_38 rfl ?_
  refine ev_aload_n dX8_goOn_39 rfl (fun _ e => by cases e) ?_
  refine ew_get0 dX8_goOn_40 fX8_50 g0 rfl rfl rfl ?_
  refine ev_icmp_ge (tgt := 62) dX8_goOn_43 (by decide) (fun c3 => ?_) (fun c3 => ?_)
  · have h := ev_ifT h c3
    cases h
    exact er_v dX8_goOn_62 rfl
  · have h := ev_ifF h c3
    refine ev_iload_n dX8_goOn_46 rfl ?_
    refine ev_if_ne (tgt := 62) dX8_goOn_47 (by decide) (fun c4 => ?_) (fun c4 => ?_)
    · have h := ev_ifF h c4
      cases h
      exact er_v dX8_goOn_62 rfl
    · have h := ev_ifT h c4
      refine ev_aload_n dX8_goOn_50 rfl (fun _ e => by cases e) ?_
      refine ev_iload_n dX8_goOn_51 rfl ?_
      obtain ⟨z5, hz5, h⟩ := ev_bnE h
      refine ec_Vi (Y := mX8_timeOutBy) (ci := 7) (As := [.int y3]) (rest := []) dX8_goOn_52 kX8_314 oX8_timeOutBy ⟨Nat.le_of_ble_eq_true rfl, Nat.le_of_ble_eq_true rfl⟩ (by decide) rfl (shp_n g0 0 rfl) (shp_t g0 0 rfl) rfl (Nat.le_of_ble_eq_true rfl) (tX8_timeOutBy n q0 g0 y3 I z5 hz5) rfl ?_
      refine ev_pop dX8_goOn_55 ?_
      obtain ⟨v6, ev6, h⟩ := ev_ltE h
      refine ew_iinc (L' := [some (.ref q0), none, some (.int y2), some (.int v6)]) dX8_goOn_56 (Nat.le_of_ble_eq_true rfl) rfl (by decide) ev6 rfl ?_
      refine ev_goto (tgt := 38) dX8_goOn_59 (by decide) ?_
      exact ev_weak (sb_s (sb_n (sb_s (sb_s sb_0)))) (k38 y2 v6 z5.2 _ h)
theorem tlX8_goOn_38 {E : ev_N} {σ : ev_H} (q0 : Nat) (g0 : shp tb7 σ q0) : ∀ (n : Nat) (y2 : Int32) (y3 : Int32) (I : ev_I) (o : ev_I), lX8_goOn_38 q0 n y2 y3 I = some o → EV E mX8_goOn 38 [some (.ref q0), none, some (.int y2), some (.int y3)] [] (h_w σ I) (Option.none, h_w σ o)
  | 0, _, _, _, _, h => by cases h
  | n + 1, y2, y3, I, o, h => tX8_goOn_38 q0 g0 (lX8_goOn_38 q0 n) (tlX8_goOn_38 q0 g0 n) n y2 y3 I o h
set_option maxRecDepth 100000 in
set_option maxHeartbeats 4000000 in
theorem tX8_goOn_4 {E : ev_N} {σ : ev_H} (q0 : Nat) (g0 : shp tb7 σ q0) (K4 : Int32 → Int32 → Int32 → ev_I → Option (ev_I)) (k4 : ∀ (y1 : Int32) (y2 : Int32) (y3 : Int32) (I : ev_I) (o : ev_I), K4 y1 y2 y3 I = some o → EV E mX8_goOn 4 [some (.ref q0), some (.int y1), some (.int y2), some (.int y3)] [] (h_w σ I) (Option.none, h_w σ o)) (n : Nat) (y1 : Int32) (y2 : Int32) (y3 : Int32) (I : ev_I) (o : ev_I) : cX8_goOn_4 q0 K4 n y1 y2 y3 I = some o → EV E mX8_goOn 4 [some (.ref q0), some (.int y1), some (.int y2), some (.int y3)] [] (h_w σ I) (Option.none, h_w σ o) := by
  intro h
  unfold cX8_goOn_4 at h
  refine ev_iload_n dX8_goOn_4 rfl ?_
  refine ev_aload_n dX8_goOn_5 rfl (fun _ e => by cases e) ?_
  refine ew_get0 dX8_goOn_6 fX8_50 g0 rfl rfl rfl ?_
  refine ev_icmp_ge (tgt := 36) dX8_goOn_9 (by decide) (fun c7 => ?_) (fun c7 => ?_)
  · have h := ev_ifT h c7
    refine ev_iconst (v := (0 : Int32)) dX8_goOn_36 (by decide) ?_
    refine ew_istn (L' := [some (.ref q0), some (.int y1), some (.int y2), some (.int (0 : Int32))]) dX8_goOn_37 (Nat.le_of_ble_eq_true rfl) rfl ?_
    exact ev_weak (sb_s (sb_n (sb_s (sb_s sb_0)))) (tlX8_goOn_38 q0 g0 n y2 (0 : Int32) I _ h)
  · have h := ev_ifF h c7
    refine ev_iload_n dX8_goOn_12 rfl ?_
    refine ev_aload_n dX8_goOn_13 rfl (fun _ e => by cases e) ?_
    refine ev_iload_n dX8_goOn_14 rfl ?_
    refine ev_iload_n dX8_goOn_15 rfl ?_
    obtain ⟨z8, hz8, h⟩ := ev_bnE h
    refine ec_Vi (Y := mX8_proposeBy) (ci := 7) (As := [.int y3, .int y1]) (rest := [(.int y2)]) dX8_goOn_16 kX8_311 oX8_proposeBy ⟨Nat.le_of_ble_eq_true rfl, Nat.le_of_ble_eq_true rfl⟩ (by decide) rfl (shp_n g0 0 rfl) (shp_t g0 0 rfl) rfl (Nat.le_of_ble_eq_true rfl) (tX8_proposeBy n q0 g0 y3 y1 I z8 hz8) rfl ?_
    refine ev_iconst (v := (-1 : Int32)) dX8_goOn_19 (by decide) ?_
    refine ev_icmp_eq (tgt := 27) dX8_goOn_20 (by decide) (fun c9 => ?_) (fun c9 => ?_)
    · have h := ev_ifT h c9
      refine ev_iconst (v := (0 : Int32)) dX8_goOn_27 (by decide) ?_
      exact ev_weak (sb_s (sb_s (sb_n (sb_s sb_0)))) (tX8_goOn_28 q0 g0 K4 k4 n y1 y3 y2 (0 : Int32) z8.2 _ h)
    · have h := ev_ifF h c9
      refine ev_iconst (v := (1 : Int32)) dX8_goOn_23 (by decide) ?_
      refine ev_goto (tgt := 28) dX8_goOn_24 (by decide) ?_
      exact ev_weak (sb_s (sb_s (sb_n (sb_s sb_0)))) (tX8_goOn_28 q0 g0 K4 k4 n y1 y3 y2 (1 : Int32) z8.2 _ h)
theorem tlX8_goOn_4 {E : ev_N} {σ : ev_H} (q0 : Nat) (g0 : shp tb7 σ q0) : ∀ (n : Nat) (y1 : Int32) (y2 : Int32) (y3 : Int32) (I : ev_I) (o : ev_I), lX8_goOn_4 q0 n y1 y2 y3 I = some o → EV E mX8_goOn 4 [some (.ref q0), some (.int y1), some (.int y2), some (.int y3)] [] (h_w σ I) (Option.none, h_w σ o)
  | 0, _, _, _, _, _, h => by cases h
  | n + 1, y1, y2, y3, I, o, h => tX8_goOn_4 q0 g0 (lX8_goOn_4 q0 n) (tlX8_goOn_4 q0 g0 n) n y1 y2 y3 I o h
set_option maxRecDepth 100000 in
set_option maxHeartbeats 4000000 in
theorem tX8_goOn {E : ev_N} {σ : ev_H} (n : Nat) (q0 : Nat) (g0 : shp tb7 σ q0) (x1 : Int32) (I : ev_I) (o : ev_I) (h : pX8_goOn n q0 x1 I = some o) : ev_T E mX8_goOn [.ref q0, .int x1] (h_w σ I) (Option.none, h_w σ o) := by
  unfold pX8_goOn at h
  refine ev_met rfl rfl (Nat.le_of_ble_eq_true rfl) (ev_L0 (L' := [some (.ref q0), some (.int x1), none, none]) rfl ?_)
  refine ev_iconst (v := (0 : Int32)) dX8_goOn_0 (by decide) ?_
  refine ew_istn (L' := [some (.ref q0), some (.int x1), some (.int (0 : Int32)), none]) dX8_goOn_1 (Nat.le_of_ble_eq_true rfl) rfl ?_
  refine ev_iconst (v := (0 : Int32)) dX8_goOn_2 (by decide) ?_
  refine ew_istn (L' := [some (.ref q0), some (.int x1), some (.int (0 : Int32)), some (.int (0 : Int32))]) dX8_goOn_3 (Nat.le_of_ble_eq_true rfl) rfl ?_
  exact ev_weak (sb_s (sb_s (sb_s (sb_s sb_0)))) (tlX8_goOn_4 q0 g0 n x1 (0 : Int32) (0 : Int32) I _ h)
-- ChainVotes$World loggedByAll()I
def cX8_loggedByAll_4 (q0 : Nat) (K4 : Int32 → Int32 → ev_I → Option (Int32)) (n : Nat) (y1 : Int32) (y2 : Int32) (I : ev_I) : Option (Int32) :=
  if (I q0 0) ≤ y2 then
    some y1
  else
    ev_ck (ev_in y2 7) <|
    ev_lt (y1 + (I (q0 + (23 + 5 * y2.toNatClampNeg)) 9)) fun v3 =>
    ev_lt (y2 + (1 : Int32)) fun v4 =>
    K4 v3 v4 I
def lX8_loggedByAll_4 (q0 : Nat) : Nat → Int32 → Int32 → ev_I → Option (Int32)
  | 0, _, _, _ => none
  | n + 1, y1, y2, I => cX8_loggedByAll_4 q0 (lX8_loggedByAll_4 q0 n) n y1 y2 I
def pX8_loggedByAll (n : Nat) (q0 : Nat) (I : ev_I) : Option (Int32) :=
  lX8_loggedByAll_4 q0 n (0 : Int32) (0 : Int32) I
set_option maxRecDepth 100000 in
set_option maxHeartbeats 4000000 in
theorem tX8_loggedByAll_4 {E : ev_N} {σ : ev_H} (q0 : Nat) (g0 : shp tb7 σ q0) (K4 : Int32 → Int32 → ev_I → Option (Int32)) (k4 : ∀ (y1 : Int32) (y2 : Int32) (I : ev_I) (o : Int32), K4 y1 y2 I = some o → EV E mX8_loggedByAll 4 [some (.ref q0), some (.int y1), some (.int y2)] [] (h_w σ I) (Option.some (Value.int o), h_w σ I)) (n : Nat) (y1 : Int32) (y2 : Int32) (I : ev_I) (o : Int32) : cX8_loggedByAll_4 q0 K4 n y1 y2 I = some o → EV E mX8_loggedByAll 4 [some (.ref q0), some (.int y1), some (.int y2)] [] (h_w σ I) (Option.some (Value.int o), h_w σ I) := by
  intro h
  unfold cX8_loggedByAll_4 at h
  refine ev_iload_n dX8_loggedByAll_4 rfl ?_
  refine ev_aload_n dX8_loggedByAll_5 rfl (fun _ e => by cases e) ?_
  refine ew_get0 dX8_loggedByAll_6 fX8_50 g0 rfl rfl rfl ?_
  refine ev_icmp_ge (tgt := 30) dX8_loggedByAll_9 (by decide) (fun c1 => ?_) (fun c1 => ?_)
  · have h := ev_ifT h c1
    refine ev_iload_n dX8_loggedByAll_30 rfl ?_
    cases h
    exact er_i dX8_loggedByAll_31 rfl rfl
  · have h := ev_ifF h c1
    refine ev_iload_n dX8_loggedByAll_12 rfl ?_
    refine ev_aload_n dX8_loggedByAll_13 rfl (fun _ e => by cases e) ?_
    refine ew_getr0 dX8_loggedByAll_14 fX8_20 g0 rfl rfl rfl rfl ?_
    refine ev_iload_n dX8_loggedByAll_17 rfl ?_
    obtain ⟨c2, h⟩ := ev_ckE h
    refine ew_memb dX8_loggedByAll_18 g0 c2 ?_
    refine ew_get0 dX8_loggedByAll_19 fX8_280 (s73 g0 (ev_inL c2)) rfl rfl rfl ?_
    refine ev_iadd dX8_loggedByAll_22 ?_
    obtain ⟨v3, ev3, h⟩ := ev_ltE h
    refine ew_nm ev3 ?_
    refine ew_istn (L' := [some (.ref q0), some (.int v3), some (.int y2)]) dX8_loggedByAll_23 (Nat.le_of_ble_eq_true rfl) rfl ?_
    obtain ⟨v4, ev4, h⟩ := ev_ltE h
    refine ew_iinc (L' := [some (.ref q0), some (.int v3), some (.int v4)]) dX8_loggedByAll_24 (Nat.le_of_ble_eq_true rfl) rfl (by decide) ev4 rfl ?_
    refine ev_goto (tgt := 4) dX8_loggedByAll_27 (by decide) ?_
    exact ev_weak (sb_s (sb_s (sb_s sb_0))) (k4 v3 v4 I _ h)
theorem tlX8_loggedByAll_4 {E : ev_N} {σ : ev_H} (q0 : Nat) (g0 : shp tb7 σ q0) : ∀ (n : Nat) (y1 : Int32) (y2 : Int32) (I : ev_I) (o : Int32), lX8_loggedByAll_4 q0 n y1 y2 I = some o → EV E mX8_loggedByAll 4 [some (.ref q0), some (.int y1), some (.int y2)] [] (h_w σ I) (Option.some (Value.int o), h_w σ I)
  | 0, _, _, _, _, h => by cases h
  | n + 1, y1, y2, I, o, h => tX8_loggedByAll_4 q0 g0 (lX8_loggedByAll_4 q0 n) (tlX8_loggedByAll_4 q0 g0 n) n y1 y2 I o h
set_option maxRecDepth 100000 in
set_option maxHeartbeats 4000000 in
theorem tX8_loggedByAll {E : ev_N} {σ : ev_H} (n : Nat) (q0 : Nat) (g0 : shp tb7 σ q0) (I : ev_I) (o : Int32) (h : pX8_loggedByAll n q0  I = some o) : ev_T E mX8_loggedByAll [.ref q0] (h_w σ I) (Option.some (Value.int o), h_w σ I) := by
  unfold pX8_loggedByAll at h
  refine ev_met rfl rfl (Nat.le_of_ble_eq_true rfl) (ev_L0 (L' := [some (.ref q0), none, none]) rfl ?_)
  refine ev_iconst (v := (0 : Int32)) dX8_loggedByAll_0 (by decide) ?_
  refine ew_istn (L' := [some (.ref q0), some (.int (0 : Int32)), none]) dX8_loggedByAll_1 (Nat.le_of_ble_eq_true rfl) rfl ?_
  refine ev_iconst (v := (0 : Int32)) dX8_loggedByAll_2 (by decide) ?_
  refine ew_istn (L' := [some (.ref q0), some (.int (0 : Int32)), some (.int (0 : Int32))]) dX8_loggedByAll_3 (Nat.le_of_ble_eq_true rfl) rfl ?_
  exact ev_weak (sb_s (sb_s (sb_s sb_0))) (tlX8_loggedByAll_4 q0 g0 n (0 : Int32) (0 : Int32) I _ h)
-- ChainVotes$World loggedByHonest()I
def cX8_loggedByHonest_38 (q0 : Nat) (K4 : Int32 → Int32 → ev_I → Option (Int32)) (n : Nat) (y2 : Int32) (s0 : Int32) (s1 : Int32) (I : ev_I) : Option (Int32) :=
  ev_lt (s0 + s1) fun v1 =>
  ev_lt (y2 + (1 : Int32)) fun v2 =>
  K4 v1 v2 I
def cX8_loggedByHonest_4 (q0 : Nat) (K4 : Int32 → Int32 → ev_I → Option (Int32)) (n : Nat) (y1 : Int32) (y2 : Int32) (I : ev_I) : Option (Int32) :=
  if (I q0 0) ≤ y2 then
    some y1
  else
    ev_ck (ev_in y2 7) <|
    if (I (q0 + (23 + 5 * y2.toNatClampNeg)) 0) = 0 then
      ev_ck (ev_in y2 7) <|
      cX8_loggedByHonest_38 q0 K4 n y2 y1 (I (q0 + (23 + 5 * y2.toNatClampNeg)) 9) I
    else
      cX8_loggedByHonest_38 q0 K4 n y2 y1 (0 : Int32) I
def lX8_loggedByHonest_4 (q0 : Nat) : Nat → Int32 → Int32 → ev_I → Option (Int32)
  | 0, _, _, _ => none
  | n + 1, y1, y2, I => cX8_loggedByHonest_4 q0 (lX8_loggedByHonest_4 q0 n) n y1 y2 I
def pX8_loggedByHonest (n : Nat) (q0 : Nat) (I : ev_I) : Option (Int32) :=
  lX8_loggedByHonest_4 q0 n (0 : Int32) (0 : Int32) I
set_option maxRecDepth 100000 in
set_option maxHeartbeats 4000000 in
theorem tX8_loggedByHonest_38 {E : ev_N} {σ : ev_H} (q0 : Nat) (g0 : shp tb7 σ q0) (K4 : Int32 → Int32 → ev_I → Option (Int32)) (k4 : ∀ (y1 : Int32) (y2 : Int32) (I : ev_I) (o : Int32), K4 y1 y2 I = some o → EV E mX8_loggedByHonest 4 [some (.ref q0), some (.int y1), some (.int y2)] [] (h_w σ I) (Option.some (Value.int o), h_w σ I)) (n : Nat) (y2 : Int32) (s0 : Int32) (s1 : Int32) (I : ev_I) (o : Int32) : cX8_loggedByHonest_38 q0 K4 n y2 s0 s1 I = some o → EV E mX8_loggedByHonest 38 [some (.ref q0), none, some (.int y2)] [(.int s1), (.int s0)] (h_w σ I) (Option.some (Value.int o), h_w σ I) := by
  intro h
  unfold cX8_loggedByHonest_38 at h
  refine ev_iadd dX8_loggedByHonest_38 ?_
  obtain ⟨v1, ev1, h⟩ := ev_ltE h
  refine ew_nm ev1 ?_
  refine ew_istn (L' := [some (.ref q0), some (.int v1), some (.int y2)]) dX8_loggedByHonest_39 (Nat.le_of_ble_eq_true rfl) rfl ?_
  obtain ⟨v2, ev2, h⟩ := ev_ltE h
  refine ew_iinc (L' := [some (.ref q0), some (.int v1), some (.int v2)]) dX8_loggedByHonest_40 (Nat.le_of_ble_eq_true rfl) rfl (by decide) ev2 rfl ?_
  refine ev_goto (tgt := 4) dX8_loggedByHonest_43 (by decide) ?_
  exact ev_weak (sb_s (sb_s (sb_s sb_0))) (k4 v1 v2 I _ h)
set_option maxRecDepth 100000 in
set_option maxHeartbeats 4000000 in
theorem tX8_loggedByHonest_4 {E : ev_N} {σ : ev_H} (q0 : Nat) (g0 : shp tb7 σ q0) (K4 : Int32 → Int32 → ev_I → Option (Int32)) (k4 : ∀ (y1 : Int32) (y2 : Int32) (I : ev_I) (o : Int32), K4 y1 y2 I = some o → EV E mX8_loggedByHonest 4 [some (.ref q0), some (.int y1), some (.int y2)] [] (h_w σ I) (Option.some (Value.int o), h_w σ I)) (n : Nat) (y1 : Int32) (y2 : Int32) (I : ev_I) (o : Int32) : cX8_loggedByHonest_4 q0 K4 n y1 y2 I = some o → EV E mX8_loggedByHonest 4 [some (.ref q0), some (.int y1), some (.int y2)] [] (h_w σ I) (Option.some (Value.int o), h_w σ I) := by
  intro h
  unfold cX8_loggedByHonest_4 at h
  refine ev_iload_n dX8_loggedByHonest_4 rfl ?_
  refine ev_aload_n dX8_loggedByHonest_5 rfl (fun _ e => by cases e) ?_
  refine ew_get0 dX8_loggedByHonest_6 fX8_50 g0 rfl rfl rfl ?_
  refine ev_icmp_ge (tgt := 46) dX8_loggedByHonest_9 (by decide) (fun c3 => ?_) (fun c3 => ?_)
  · have h := ev_ifT h c3
    refine ev_iload_n dX8_loggedByHonest_46 rfl ?_
    cases h
    exact er_i dX8_loggedByHonest_47 rfl rfl
  · have h := ev_ifF h c3
    refine ev_iload_n dX8_loggedByHonest_12 rfl ?_
    refine ev_aload_n dX8_loggedByHonest_13 rfl (fun _ e => by cases e) ?_
    refine ew_getr0 dX8_loggedByHonest_14 fX8_20 g0 rfl rfl rfl rfl ?_
    refine ev_iload_n dX8_loggedByHonest_17 rfl ?_
    obtain ⟨c4, h⟩ := ev_ckE h
    refine ew_memb dX8_loggedByHonest_18 g0 c4 ?_
    refine ew_get0 dX8_loggedByHonest_19 fX8_92 (s73 g0 (ev_inL c4)) rfl rfl rfl ?_
    refine ev_if_ne (tgt := 37) dX8_loggedByHonest_22 (by decide) (fun c5 => ?_) (fun c5 => ?_)
    · have h := ev_ifF h c5
      refine ev_iconst (v := (0 : Int32)) dX8_loggedByHonest_37 (by decide) ?_
      exact ev_weak (sb_s (sb_n (sb_s sb_0))) (tX8_loggedByHonest_38 q0 g0 K4 k4 n y2 y1 (0 : Int32) I _ h)
    · have h := ev_ifT h c5
      refine ev_aload_n dX8_loggedByHonest_25 rfl (fun _ e => by cases e) ?_
      refine ew_getr0 dX8_loggedByHonest_26 fX8_20 g0 rfl rfl rfl rfl ?_
      refine ev_iload_n dX8_loggedByHonest_29 rfl ?_
      obtain ⟨c6, h⟩ := ev_ckE h
      refine ew_memb dX8_loggedByHonest_30 g0 c6 ?_
      refine ew_get0 dX8_loggedByHonest_31 fX8_280 (s73 g0 (ev_inL c6)) rfl rfl rfl ?_
      refine ev_goto (tgt := 38) dX8_loggedByHonest_34 (by decide) ?_
      exact ev_weak (sb_s (sb_n (sb_s sb_0))) (tX8_loggedByHonest_38 q0 g0 K4 k4 n y2 y1 (I (q0 + (23 + 5 * y2.toNatClampNeg)) 9) I _ h)
theorem tlX8_loggedByHonest_4 {E : ev_N} {σ : ev_H} (q0 : Nat) (g0 : shp tb7 σ q0) : ∀ (n : Nat) (y1 : Int32) (y2 : Int32) (I : ev_I) (o : Int32), lX8_loggedByHonest_4 q0 n y1 y2 I = some o → EV E mX8_loggedByHonest 4 [some (.ref q0), some (.int y1), some (.int y2)] [] (h_w σ I) (Option.some (Value.int o), h_w σ I)
  | 0, _, _, _, _, h => by cases h
  | n + 1, y1, y2, I, o, h => tX8_loggedByHonest_4 q0 g0 (lX8_loggedByHonest_4 q0 n) (tlX8_loggedByHonest_4 q0 g0 n) n y1 y2 I o h
set_option maxRecDepth 100000 in
set_option maxHeartbeats 4000000 in
theorem tX8_loggedByHonest {E : ev_N} {σ : ev_H} (n : Nat) (q0 : Nat) (g0 : shp tb7 σ q0) (I : ev_I) (o : Int32) (h : pX8_loggedByHonest n q0  I = some o) : ev_T E mX8_loggedByHonest [.ref q0] (h_w σ I) (Option.some (Value.int o), h_w σ I) := by
  unfold pX8_loggedByHonest at h
  refine ev_met rfl rfl (Nat.le_of_ble_eq_true rfl) (ev_L0 (L' := [some (.ref q0), none, none]) rfl ?_)
  refine ev_iconst (v := (0 : Int32)) dX8_loggedByHonest_0 (by decide) ?_
  refine ew_istn (L' := [some (.ref q0), some (.int (0 : Int32)), none]) dX8_loggedByHonest_1 (Nat.le_of_ble_eq_true rfl) rfl ?_
  refine ev_iconst (v := (0 : Int32)) dX8_loggedByHonest_2 (by decide) ?_
  refine ew_istn (L' := [some (.ref q0), some (.int (0 : Int32)), some (.int (0 : Int32))]) dX8_loggedByHonest_3 (Nat.le_of_ble_eq_true rfl) rfl ?_
  exact ev_weak (sb_s (sb_s (sb_s sb_0))) (tlX8_loggedByHonest_4 q0 g0 n (0 : Int32) (0 : Int32) I _ h)
-- ChainVotes$World lieBy(IIIII)I
def pX8_lieBy (n : Nat) (q0 : Nat) (x1 : Int32) (x2 : Int32) (x3 : Int32) (x4 : Int32) (x5 : Int32) (I : ev_I) : Option (Int32 × ev_I) :=
  (pX8_hasNode n q0 x1 I).bind fun z1 =>
  if z1 = 0 then
    some ((-1 : Int32), I)
  else
    ev_ck (ev_in x1 7) <|
    if (I (q0 + (23 + 5 * x1.toNatClampNeg)) 0) = (2 : Int32) then
      (pX1_has n (q0 + 1) x3 I).bind fun z5 =>
      if z5 = 0 then
        some ((-1 : Int32), I)
      else
        if x2 = (0 : Int32) then
          (pX8_lieMark n q0 x1 x3 I).bind fun z8 =>
          some (z8.1, z8.2)
        else
        if x2 = (1 : Int32) then
          (pX1_isCertified n (q0 + 1) x3 I).bind fun z10 =>
          if z10 = 0 then
            some ((-1 : Int32), I)
          else
            (pX8_lieBlock n q0 x1 x3 x3 x4 x5 I).bind fun z12 =>
            some (z12.1, z12.2)
        else
        if x2 = (2 : Int32) then
          (pX8_lieTimeout n q0 x1 x3 x4 I).bind fun z14 =>
          some (z14.1, z14.2)
        else
        if x2 = (3 : Int32) then
          (pX8_lieBlock n q0 x1 x3 (0 : Int32) x4 x5 I).bind fun z16 =>
          some (z16.1, z16.2)
        else
        some ((-1 : Int32), I)
    else
      some ((-1 : Int32), I)
set_option maxRecDepth 100000 in
set_option maxHeartbeats 4000000 in
theorem tX8_lieBy {E : ev_N} {σ : ev_H} (n : Nat) (q0 : Nat) (g0 : shp tb7 σ q0) (x1 : Int32) (x2 : Int32) (x3 : Int32) (x4 : Int32) (x5 : Int32) (I : ev_I) (o : Int32 × ev_I) (h : pX8_lieBy n q0 x1 x2 x3 x4 x5 I = some o) : ev_T E mX8_lieBy [.ref q0, .int x1, .int x2, .int x3, .int x4, .int x5] (h_w σ I) (Option.some (Value.int o.1), h_w σ o.2) := by
  unfold pX8_lieBy at h
  refine ev_met rfl rfl (Nat.le_of_ble_eq_true rfl) (ev_L0 (L' := [some (.ref q0), some (.int x1), some (.int x2), some (.int x3), some (.int x4), some (.int x5)]) rfl ?_)
  refine ev_aload_n dX8_lieBy_0 rfl (fun _ e => by cases e) ?_
  refine ev_iload_n dX8_lieBy_1 rfl ?_
  obtain ⟨z1, hz1, h⟩ := ev_bnE h
  refine ec_Vi (Y := mX8_hasNode) (ci := 7) (As := [.int x1]) (rest := []) dX8_lieBy_2 kX8_88 oX8_hasNode ⟨Nat.le_of_ble_eq_true rfl, Nat.le_of_ble_eq_true rfl⟩ (by decide) rfl (shp_n g0 0 rfl) (shp_t g0 0 rfl) rfl (Nat.le_of_ble_eq_true rfl) (tX8_hasNode n q0 g0 x1 I z1 hz1) rfl ?_
  refine ev_if_eq (tgt := 32) dX8_lieBy_5 (by decide) (fun c2 => ?_) (fun c2 => ?_)
  · have h := ev_ifT h c2
    refine ev_iconst (v := (-1 : Int32)) dX8_lieBy_32 (by decide) ?_
    cases h
    exact er_i dX8_lieBy_33 rfl rfl
  · have h := ev_ifF h c2
    refine ev_aload_n dX8_lieBy_8 rfl (fun _ e => by cases e) ?_
    refine ew_getr0 dX8_lieBy_9 fX8_20 g0 rfl rfl rfl rfl ?_
    refine ev_iload_n dX8_lieBy_12 rfl ?_
    obtain ⟨c3, h⟩ := ev_ckE h
    refine ew_memb dX8_lieBy_13 g0 c3 ?_
    refine ew_get0 dX8_lieBy_14 fX8_92 (s73 g0 (ev_inL c3)) rfl rfl rfl ?_
    refine ev_iconst (v := (2 : Int32)) dX8_lieBy_17 (by decide) ?_
    refine ev_icmp_ne (tgt := 32) dX8_lieBy_18 (by decide) (fun c4 => ?_) (fun c4 => ?_)
    · have h := ev_ifF h c4
      refine ev_iconst (v := (-1 : Int32)) dX8_lieBy_32 (by decide) ?_
      cases h
      exact er_i dX8_lieBy_33 rfl rfl
    · have h := ev_ifT h c4
      refine ev_aload_n dX8_lieBy_21 rfl (fun _ e => by cases e) ?_
      refine ew_getr0 dX8_lieBy_22 fX8_12 g0 rfl rfl rfl rfl ?_
      refine ev_iload_n dX8_lieBy_25 rfl ?_
      obtain ⟨z5, hz5, h⟩ := ev_bnE h
      refine ec_Vi (Y := mX1_has) (ci := 1) (As := [.int x3]) (rest := []) dX8_lieBy_26 kX8_152 oX1_has ⟨Nat.le_of_ble_eq_true rfl, Nat.le_of_ble_eq_true rfl⟩ (by decide) rfl (shp_n (s71 g0) 0 rfl) (shp_t (s71 g0) 0 rfl) rfl (Nat.le_of_ble_eq_true rfl) (tX1_has n (q0 + 1) (s71 g0) x3 I z5 hz5) rfl ?_
      refine ev_if_ne (tgt := 34) dX8_lieBy_29 (by decide) (fun c6 => ?_) (fun c6 => ?_)
      · have h := ev_ifF h c6
        refine ev_iload_n dX8_lieBy_34 rfl ?_
        by_cases c7 : x2 = (0 : Int32)
        · have h := ev_ifT h c7
          refine ev_table (tgt := 64) dX8_lieBy_35 (by rw [c7]; decide) (by decide) ?_
          refine ev_aload_n dX8_lieBy_64 rfl (fun _ e => by cases e) ?_
          refine ev_iload_n dX8_lieBy_65 rfl ?_
          refine ev_iload_n dX8_lieBy_66 rfl ?_
          obtain ⟨z8, hz8, h⟩ := ev_bnE h
          refine ec_Vi (Y := mX8_lieMark) (ci := 7) (As := [.int x1, .int x3]) (rest := []) dX8_lieBy_67 kX8_155 oX8_lieMark ⟨Nat.le_of_ble_eq_true rfl, Nat.le_of_ble_eq_true rfl⟩ (by decide) rfl (shp_n g0 0 rfl) (shp_t g0 0 rfl) rfl (Nat.le_of_ble_eq_true rfl) (tX8_lieMark n q0 g0 x1 x3 I z8 hz8) rfl ?_
          cases h
          exact er_i dX8_lieBy_70 rfl rfl
        have h := ev_ifF h c7
        by_cases c9 : x2 = (1 : Int32)
        · have h := ev_ifT h c9
          refine ev_table (tgt := 71) dX8_lieBy_35 (by rw [c9]; decide) (by decide) ?_
          refine ev_aload_n dX8_lieBy_71 rfl (fun _ e => by cases e) ?_
          refine ew_getr0 dX8_lieBy_72 fX8_12 g0 rfl rfl rfl rfl ?_
          refine ev_iload_n dX8_lieBy_75 rfl ?_
          obtain ⟨z10, hz10, h⟩ := ev_bnE h
          refine ec_Vi (Y := mX1_isCertified) (ci := 1) (As := [.int x3]) (rest := []) dX8_lieBy_76 kX8_158 oX1_isCertified ⟨Nat.le_of_ble_eq_true rfl, Nat.le_of_ble_eq_true rfl⟩ (by decide) rfl (shp_n (s71 g0) 0 rfl) (shp_t (s71 g0) 0 rfl) rfl (Nat.le_of_ble_eq_true rfl) (tX1_isCertified n (q0 + 1) (s71 g0) x3 I z10 hz10) rfl ?_
          refine ev_if_eq (tgt := 96) dX8_lieBy_79 (by decide) (fun c11 => ?_) (fun c11 => ?_)
          · have h := ev_ifT h c11
            refine ev_iconst (v := (-1 : Int32)) dX8_lieBy_96 (by decide) ?_
            cases h
            exact er_i dX8_lieBy_97 rfl rfl
          · have h := ev_ifF h c11
            refine ev_aload_n dX8_lieBy_82 rfl (fun _ e => by cases e) ?_
            refine ev_iload_n dX8_lieBy_83 rfl ?_
            refine ev_iload_n dX8_lieBy_84 rfl ?_
            refine ev_iload_n dX8_lieBy_85 rfl ?_
            refine ev_iload dX8_lieBy_86 rfl ?_
            refine ev_iload dX8_lieBy_88 rfl ?_
            obtain ⟨z12, hz12, h⟩ := ev_bnE h
            refine ec_Vi (Y := mX8_lieBlock) (ci := 7) (As := [.int x1, .int x3, .int x3, .int x4, .int x5]) (rest := []) dX8_lieBy_90 kX8_161 oX8_lieBlock ⟨Nat.le_of_ble_eq_true rfl, Nat.le_of_ble_eq_true rfl⟩ (by decide) rfl (shp_n g0 0 rfl) (shp_t g0 0 rfl) rfl (Nat.le_of_ble_eq_true rfl) (tX8_lieBlock n q0 g0 x1 x3 x3 x4 x5 I z12 hz12) rfl ?_
            refine ev_goto (tgt := 97) dX8_lieBy_93 (by decide) ?_
            cases h
            exact er_i dX8_lieBy_97 rfl rfl
        have h := ev_ifF h c9
        by_cases c13 : x2 = (2 : Int32)
        · have h := ev_ifT h c13
          refine ev_table (tgt := 98) dX8_lieBy_35 (by rw [c13]; decide) (by decide) ?_
          refine ev_aload_n dX8_lieBy_98 rfl (fun _ e => by cases e) ?_
          refine ev_iload_n dX8_lieBy_99 rfl ?_
          refine ev_iload_n dX8_lieBy_100 rfl ?_
          refine ev_iload dX8_lieBy_101 rfl ?_
          obtain ⟨z14, hz14, h⟩ := ev_bnE h
          refine ec_Vi (Y := mX8_lieTimeout) (ci := 7) (As := [.int x1, .int x3, .int x4]) (rest := []) dX8_lieBy_103 kX8_165 oX8_lieTimeout ⟨Nat.le_of_ble_eq_true rfl, Nat.le_of_ble_eq_true rfl⟩ (by decide) rfl (shp_n g0 0 rfl) (shp_t g0 0 rfl) rfl (Nat.le_of_ble_eq_true rfl) (tX8_lieTimeout n q0 g0 x1 x3 x4 I z14 hz14) rfl ?_
          cases h
          exact er_i dX8_lieBy_106 rfl rfl
        have h := ev_ifF h c13
        by_cases c15 : x2 = (3 : Int32)
        · have h := ev_ifT h c15
          refine ev_table (tgt := 107) dX8_lieBy_35 (by rw [c15]; decide) (by decide) ?_
          refine ev_aload_n dX8_lieBy_107 rfl (fun _ e => by cases e) ?_
          refine ev_iload_n dX8_lieBy_108 rfl ?_
          refine ev_iload_n dX8_lieBy_109 rfl ?_
          refine ev_iconst (v := (0 : Int32)) dX8_lieBy_110 (by decide) ?_
          refine ev_iload dX8_lieBy_111 rfl ?_
          refine ev_iload dX8_lieBy_113 rfl ?_
          obtain ⟨z16, hz16, h⟩ := ev_bnE h
          refine ec_Vi (Y := mX8_lieBlock) (ci := 7) (As := [.int x1, .int x3, .int (0 : Int32), .int x4, .int x5]) (rest := []) dX8_lieBy_115 kX8_161 oX8_lieBlock ⟨Nat.le_of_ble_eq_true rfl, Nat.le_of_ble_eq_true rfl⟩ (by decide) rfl (shp_n g0 0 rfl) (shp_t g0 0 rfl) rfl (Nat.le_of_ble_eq_true rfl) (tX8_lieBlock n q0 g0 x1 x3 (0 : Int32) x4 x5 I z16 hz16) rfl ?_
          cases h
          exact er_i dX8_lieBy_118 rfl rfl
        have h := ev_ifF h c15
        refine ev_table (tgt := 119) dX8_lieBy_35 (by rw [if_pos (sw_out _ _ x2 (by intro i h1 h2; rcases (show i = 0 ∨ i = 1 ∨ i = 2 ∨ i = 3 by omega) with rfl | rfl | rfl | rfl <;> first | exact ⟨_, by decide, c7⟩ | exact ⟨_, by decide, c9⟩ | exact ⟨_, by decide, c13⟩ | exact ⟨_, by decide, c15⟩))]; rfl) (by decide) ?_
        refine ev_iconst (v := (-1 : Int32)) dX8_lieBy_119 (by decide) ?_
        cases h
        exact er_i dX8_lieBy_120 rfl rfl
      · have h := ev_ifT h c6
        refine ev_iconst (v := (-1 : Int32)) dX8_lieBy_32 (by decide) ?_
        cases h
        exact er_i dX8_lieBy_33 rfl rfl
-- ChainVotes$World learn(II)V
def cX8_learn_36 (q0 : Nat) (n : Nat) (y1 : Int32) (y2 : Int32) (p3 : Nat) (I : ev_I) : Option (ev_I) :=
  (pX8_lockAfter n q0 p3 y2 I).bind fun z1 =>
  ev_lt (ev_u2 I p3 6 z1) fun I2 =>
  (pX1_committedBy n (q0 + 1) y2 I2).bind fun z3 =>
  if z3 = 0 then
    some I2
  else
    (pX8_commit n q0 y1 z3 I2).bind fun z5 =>
    some z5
def pX8_learn (n : Nat) (q0 : Nat) (x1 : Int32) (x2 : Int32) (I : ev_I) : Option (ev_I) :=
  ev_ck (ev_in x1 7) <|
  ev_ck (ev_in x2 100) <|
  ev_ck (ev_in (I (q0 + (23 + 5 * x1.toNatClampNeg)) 5) 100) <|
  if (I ((q0 + 1) + 1) x2.toNatClampNeg) ≤ (I ((q0 + 1) + 1) (I (q0 + (23 + 5 * x1.toNatClampNeg)) 5).toNatClampNeg) then
    cX8_learn_36 q0 n x1 x2 (q0 + (23 + 5 * x1.toNatClampNeg)) I
  else
    ev_lt (ev_u2 I (q0 + (23 + 5 * x1.toNatClampNeg)) 5 x2) fun I10 =>
    cX8_learn_36 q0 n x1 x2 (q0 + (23 + 5 * x1.toNatClampNeg)) I10
set_option maxRecDepth 100000 in
set_option maxHeartbeats 4000000 in
theorem tX8_learn_36 {E : ev_N} {σ : ev_H} (q0 : Nat) (g0 : shp tb7 σ q0) (n : Nat) (y1 : Int32) (y2 : Int32) (p3 : Nat) (I : ev_I) (o : ev_I) (u3 : shp tb3 σ p3) : cX8_learn_36 q0 n y1 y2 p3 I = some o → EV E mX8_learn 36 [some (.ref q0), some (.int y1), some (.int y2), some (.ref p3), none] [] (h_w σ I) (Option.none, h_w σ o) := by
  intro h
  unfold cX8_learn_36 at h
  refine ev_aload_n dX8_learn_36 rfl (fun _ e => by cases e) ?_
  refine ev_aload_n dX8_learn_37 rfl (fun _ e => by cases e) ?_
  refine ev_aload_n dX8_learn_38 rfl (fun _ e => by cases e) ?_
  refine ev_iload_n dX8_learn_39 rfl ?_
  obtain ⟨z1, hz1, h⟩ := ev_bnE h
  refine ec_Vi (Y := mX8_lockAfter) (ci := 7) (As := [.ref p3, .int y2]) (rest := [(.ref p3)]) dX8_learn_40 kX8_262 oX8_lockAfter ⟨Nat.le_of_ble_eq_true rfl, Nat.le_of_ble_eq_true rfl⟩ (by decide) rfl (shp_n g0 0 rfl) (shp_t g0 0 rfl) rfl (Nat.le_of_ble_eq_true rfl) (tX8_lockAfter n q0 p3 g0 u3 y2 I z1 hz1) rfl ?_
  obtain ⟨I2, eI2, h⟩ := ev_ltE h
  refine ew_put0 dX8_learn_43 fX8_232 u3 rfl rfl rfl rfl rfl rfl (ew_nh eI2 ?_)
  refine ev_aload_n dX8_learn_46 rfl (fun _ e => by cases e) ?_
  refine ew_getr0 dX8_learn_47 fX8_12 g0 rfl rfl rfl rfl ?_
  refine ev_iload_n dX8_learn_50 rfl ?_
  obtain ⟨z3, hz3, h⟩ := ev_bnE h
  refine ec_Vi (Y := mX1_committedBy) (ci := 1) (As := [.int y2]) (rest := []) dX8_learn_51 kX8_265 oX1_committedBy ⟨Nat.le_of_ble_eq_true rfl, Nat.le_of_ble_eq_true rfl⟩ (by decide) rfl (shp_n (s71 g0) 0 rfl) (shp_t (s71 g0) 0 rfl) rfl (Nat.le_of_ble_eq_true rfl) (tX1_committedBy n (q0 + 1) (s71 g0) y2 I2 z3 hz3) rfl ?_
  refine ew_ist (L' := [some (.ref q0), some (.int y1), some (.int y2), some (.ref p3), some (.int z3)]) dX8_learn_54 (Nat.le_of_ble_eq_true rfl) rfl ?_
  refine ev_iload dX8_learn_56 rfl ?_
  refine ev_if_eq (tgt := 68) dX8_learn_58 (by decide) (fun c4 => ?_) (fun c4 => ?_)
  · have h := ev_ifT h c4
    cases h
    exact er_v dX8_learn_68 rfl
  · have h := ev_ifF h c4
    refine ev_aload_n dX8_learn_61 rfl (fun _ e => by cases e) ?_
    refine ev_iload_n dX8_learn_62 rfl ?_
    refine ev_iload dX8_learn_63 rfl ?_
    obtain ⟨z5, hz5, h⟩ := ev_bnE h
    refine ec_Vv (Y := mX8_commit) (ci := 7) (As := [.int y1, .int z3]) (rest := []) dX8_learn_65 kX8_268 oX8_commit ⟨Nat.le_of_ble_eq_true rfl, Nat.le_of_ble_eq_true rfl⟩ (by decide) rfl (shp_n g0 0 rfl) (shp_t g0 0 rfl) rfl (Nat.le_of_ble_eq_true rfl) (tX8_commit n q0 g0 y1 z3 I2 z5 hz5) rfl ?_
    cases h
    exact er_v dX8_learn_68 rfl
set_option maxRecDepth 100000 in
set_option maxHeartbeats 4000000 in
theorem tX8_learn {E : ev_N} {σ : ev_H} (n : Nat) (q0 : Nat) (g0 : shp tb7 σ q0) (x1 : Int32) (x2 : Int32) (I : ev_I) (o : ev_I) (h : pX8_learn n q0 x1 x2 I = some o) : ev_T E mX8_learn [.ref q0, .int x1, .int x2] (h_w σ I) (Option.none, h_w σ o) := by
  unfold pX8_learn at h
  refine ev_met rfl rfl (Nat.le_of_ble_eq_true rfl) (ev_L0 (L' := [some (.ref q0), some (.int x1), some (.int x2), none, none]) rfl ?_)
  refine ev_aload_n dX8_learn_0 rfl (fun _ e => by cases e) ?_
  refine ew_getr0 dX8_learn_1 fX8_20 g0 rfl rfl rfl rfl ?_
  refine ev_iload_n dX8_learn_4 rfl ?_
  obtain ⟨c6, h⟩ := ev_ckE h
  refine ew_memb dX8_learn_5 g0 c6 ?_
  refine ew_astn (L' := [some (.ref q0), some (.int x1), some (.int x2), some (.ref (q0 + (23 + 5 * x1.toNatClampNeg))), none]) dX8_learn_6 (Nat.le_of_ble_eq_true rfl) (fun _ e => by cases e) rfl ?_
  refine ev_aload_n dX8_learn_7 rfl (fun _ e => by cases e) ?_
  refine ew_getr0 dX8_learn_8 fX8_12 g0 rfl rfl rfl rfl ?_
  refine ew_getr0 dX8_learn_11 fX8_105 (s71 g0) rfl rfl rfl rfl ?_
  refine ev_iload_n dX8_learn_14 rfl ?_
  obtain ⟨c7, h⟩ := ev_ckE h
  refine ew_iald dX8_learn_15 (shp_a (s71 g0) 1 rfl) c7 ?_
  refine ev_aload_n dX8_learn_16 rfl (fun _ e => by cases e) ?_
  refine ew_getr0 dX8_learn_17 fX8_12 g0 rfl rfl rfl rfl ?_
  refine ew_getr0 dX8_learn_20 fX8_105 (s71 g0) rfl rfl rfl rfl ?_
  refine ev_aload_n dX8_learn_23 rfl (fun _ e => by cases e) ?_
  refine ew_get0 dX8_learn_24 fX8_120 (s73 g0 (ev_inL c6)) rfl rfl rfl ?_
  obtain ⟨c8, h⟩ := ev_ckE h
  refine ew_iald dX8_learn_27 (shp_a (s71 g0) 1 rfl) c8 ?_
  refine ev_icmp_le (tgt := 36) dX8_learn_28 (by decide) (fun c9 => ?_) (fun c9 => ?_)
  · have h := ev_ifT h c9
    exact ev_weak (sb_s (sb_s (sb_s (sb_s (sb_n sb_0))))) (tX8_learn_36 q0 g0 n x1 x2 (q0 + (23 + 5 * x1.toNatClampNeg)) I _ (s73 g0 (ev_inL c6)) h)
  · have h := ev_ifF h c9
    refine ev_aload_n dX8_learn_31 rfl (fun _ e => by cases e) ?_
    refine ev_iload_n dX8_learn_32 rfl ?_
    obtain ⟨I10, eI10, h⟩ := ev_ltE h
    refine ew_put0 dX8_learn_33 fX8_120 (s73 g0 (ev_inL c6)) rfl rfl rfl rfl rfl rfl (ew_nh eI10 ?_)
    exact ev_weak (sb_s (sb_s (sb_s (sb_s (sb_n sb_0))))) (tX8_learn_36 q0 g0 n x1 x2 (q0 + (23 + 5 * x1.toNatClampNeg)) I10 _ (s73 g0 (ev_inL c6)) h)
-- ChainVotes$World askAnother(II)V
def pX8_askAnother (n : Nat) (q0 : Nat) (x1 : Int32) (x2 : Int32) (I : ev_I) : Option (ev_I) :=
  ev_ck (ev_in x1 7) <|
  ev_ck (ev_in x2 7) <|
  (pX8_learn n q0 x1 (I (q0 + (23 + 5 * x2.toNatClampNeg)) 5) I).bind fun z3 =>
  ev_ck (ev_in x2 7) <|
  ev_lt (ev_u2 z3 (q0 + (23 + 5 * x1.toNatClampNeg)) 7 (if (z3 (q0 + (23 + 5 * x1.toNatClampNeg)) 7) < (z3 (q0 + (23 + 5 * x2.toNatClampNeg)) 7) then (z3 (q0 + (23 + 5 * x2.toNatClampNeg)) 7) else (z3 (q0 + (23 + 5 * x1.toNatClampNeg)) 7))) fun I5 =>
  ev_ck (ev_in (I5 (q0 + (23 + 5 * x1.toNatClampNeg)) 5) 100) <|
  ev_lt (ev_u2 I5 (q0 + (23 + 5 * x1.toNatClampNeg)) 1 (if (I5 (q0 + (23 + 5 * x1.toNatClampNeg)) 1) < ((if (I5 (q0 + (23 + 5 * x1.toNatClampNeg)) 7) < (I5 ((q0 + 1) + 1) (I5 (q0 + (23 + 5 * x1.toNatClampNeg)) 5).toNatClampNeg) then (I5 ((q0 + 1) + 1) (I5 (q0 + (23 + 5 * x1.toNatClampNeg)) 5).toNatClampNeg) else (I5 (q0 + (23 + 5 * x1.toNatClampNeg)) 7)) + (1 : Int32)) then ((if (I5 (q0 + (23 + 5 * x1.toNatClampNeg)) 7) < (I5 ((q0 + 1) + 1) (I5 (q0 + (23 + 5 * x1.toNatClampNeg)) 5).toNatClampNeg) then (I5 ((q0 + 1) + 1) (I5 (q0 + (23 + 5 * x1.toNatClampNeg)) 5).toNatClampNeg) else (I5 (q0 + (23 + 5 * x1.toNatClampNeg)) 7)) + (1 : Int32)) else (I5 (q0 + (23 + 5 * x1.toNatClampNeg)) 1))) fun I7 =>
  some I7
set_option maxRecDepth 100000 in
set_option maxHeartbeats 4000000 in
theorem tX8_askAnother {E : ev_N} {σ : ev_H} (n : Nat) (q0 : Nat) (g0 : shp tb7 σ q0) (x1 : Int32) (x2 : Int32) (I : ev_I) (o : ev_I) (h : pX8_askAnother n q0 x1 x2 I = some o) : ev_T E mX8_askAnother [.ref q0, .int x1, .int x2] (h_w σ I) (Option.none, h_w σ o) := by
  unfold pX8_askAnother at h
  refine ev_met rfl rfl (Nat.le_of_ble_eq_true rfl) (ev_L0 (L' := [some (.ref q0), some (.int x1), some (.int x2), none]) rfl ?_)
  refine ev_aload_n dX8_askAnother_0 rfl (fun _ e => by cases e) ?_
  refine ew_getr0 dX8_askAnother_1 fX8_20 g0 rfl rfl rfl rfl ?_
  refine ev_iload_n dX8_askAnother_4 rfl ?_
  obtain ⟨c1, h⟩ := ev_ckE h
  refine ew_memb dX8_askAnother_5 g0 c1 ?_
  refine ew_astn (L' := [some (.ref q0), some (.int x1), some (.int x2), some (.ref (q0 + (23 + 5 * x1.toNatClampNeg)))]) dX8_askAnother_6 (Nat.le_of_ble_eq_true rfl) (fun _ e => by cases e) rfl ?_
  refine ev_aload_n dX8_askAnother_7 rfl (fun _ e => by cases e) ?_
  refine ev_iload_n dX8_askAnother_8 rfl ?_
  refine ev_aload_n dX8_askAnother_9 rfl (fun _ e => by cases e) ?_
  refine ew_getr0 dX8_askAnother_10 fX8_20 g0 rfl rfl rfl rfl ?_
  refine ev_iload_n dX8_askAnother_13 rfl ?_
  obtain ⟨c2, h⟩ := ev_ckE h
  refine ew_memb dX8_askAnother_14 g0 c2 ?_
  refine ew_get0 dX8_askAnother_15 fX8_120 (s73 g0 (ev_inL c2)) rfl rfl rfl ?_
  obtain ⟨z3, hz3, h⟩ := ev_bnE h
  refine ec_Vv (Y := mX8_learn) (ci := 7) (As := [.int x1, .int (I (q0 + (23 + 5 * x2.toNatClampNeg)) 5)]) (rest := []) dX8_askAnother_18 kX8_173 oX8_learn ⟨Nat.le_of_ble_eq_true rfl, Nat.le_of_ble_eq_true rfl⟩ (by decide) rfl (shp_n g0 0 rfl) (shp_t g0 0 rfl) rfl (Nat.le_of_ble_eq_true rfl) (tX8_learn n q0 g0 x1 (I (q0 + (23 + 5 * x2.toNatClampNeg)) 5) I z3 hz3) rfl ?_
  refine ev_aload_n dX8_askAnother_21 rfl (fun _ e => by cases e) ?_
  refine ev_aload_n dX8_askAnother_22 rfl (fun _ e => by cases e) ?_
  refine ew_get0 dX8_askAnother_23 fX8_123 (s73 g0 (ev_inL c1)) rfl rfl rfl ?_
  refine ev_aload_n dX8_askAnother_26 rfl (fun _ e => by cases e) ?_
  refine ew_getr0 dX8_askAnother_27 fX8_20 g0 rfl rfl rfl rfl ?_
  refine ev_iload_n dX8_askAnother_30 rfl ?_
  obtain ⟨c4, h⟩ := ev_ckE h
  refine ew_memb dX8_askAnother_31 g0 c4 ?_
  refine ew_get0 dX8_askAnother_32 fX8_123 (s73 g0 (ev_inL c4)) rfl rfl rfl ?_
  refine ev_max dX8_askAnother_35 kX8_146 zM_max.1 zM_max.2.1 zM_max.2.2 (Nat.le_of_ble_eq_true rfl) (Nat.le_of_ble_eq_true rfl) ?_
  obtain ⟨I5, eI5, h⟩ := ev_ltE h
  refine ew_put0 dX8_askAnother_38 fX8_123 (s73 g0 (ev_inL c1)) rfl rfl rfl rfl rfl rfl (ew_nh eI5 ?_)
  refine ev_aload_n dX8_askAnother_41 rfl (fun _ e => by cases e) ?_
  refine ev_aload_n dX8_askAnother_42 rfl (fun _ e => by cases e) ?_
  refine ew_get0 dX8_askAnother_43 fX8_115 (s73 g0 (ev_inL c1)) rfl rfl rfl ?_
  refine ev_aload_n dX8_askAnother_46 rfl (fun _ e => by cases e) ?_
  refine ew_get0 dX8_askAnother_47 fX8_123 (s73 g0 (ev_inL c1)) rfl rfl rfl ?_
  refine ev_aload_n dX8_askAnother_50 rfl (fun _ e => by cases e) ?_
  refine ew_getr0 dX8_askAnother_51 fX8_12 g0 rfl rfl rfl rfl ?_
  refine ew_getr0 dX8_askAnother_54 fX8_105 (s71 g0) rfl rfl rfl rfl ?_
  refine ev_aload_n dX8_askAnother_57 rfl (fun _ e => by cases e) ?_
  refine ew_get0 dX8_askAnother_58 fX8_120 (s73 g0 (ev_inL c1)) rfl rfl rfl ?_
  obtain ⟨c6, h⟩ := ev_ckE h
  refine ew_iald dX8_askAnother_61 (shp_a (s71 g0) 1 rfl) c6 ?_
  refine ev_max dX8_askAnother_62 kX8_146 zM_max.1 zM_max.2.1 zM_max.2.2 (Nat.le_of_ble_eq_true rfl) (Nat.le_of_ble_eq_true rfl) ?_
  refine ev_iconst (v := (1 : Int32)) dX8_askAnother_65 (by decide) ?_
  refine ev_iadd dX8_askAnother_66 ?_
  refine ev_max dX8_askAnother_67 kX8_146 zM_max.1 zM_max.2.1 zM_max.2.2 (Nat.le_of_ble_eq_true rfl) (Nat.le_of_ble_eq_true rfl) ?_
  obtain ⟨I7, eI7, h⟩ := ev_ltE h
  refine ew_put0 dX8_askAnother_70 fX8_115 (s73 g0 (ev_inL c1)) rfl rfl rfl rfl rfl rfl (ew_nh eI7 ?_)
  cases h
  exact er_v dX8_askAnother_73 rfl
-- ChainVotes$World takeBlock(II)V
def pX8_takeBlock (n : Nat) (q0 : Nat) (x1 : Int32) (x2 : Int32) (I : ev_I) : Option (ev_I) :=
  ev_ck (ev_in x1 7) <|
  ev_ck (ev_in x2 100) <|
  (pX3_seenRival n (q0 + (23 + 5 * x1.toNatClampNeg)) (q0 + 1) x2 I).bind fun z3 =>
  (pX8_accuse n q0 (1 : Int32) (I ((q0 + 1) + 5) x2.toNatClampNeg) x1 z3 x2 I).bind fun z4 =>
  (pX3_see n (q0 + (23 + 5 * x1.toNatClampNeg)) x2 z4).bind fun z5 =>
  ev_ck (ev_in x2 100) <|
  (pX8_learn n q0 x1 (z5 ((q0 + 1) + 3) x2.toNatClampNeg) z5).bind fun z7 =>
  (pX8_viewAfter n q0 (q0 + (23 + 5 * x1.toNatClampNeg)) x2 z7).bind fun z8 =>
  ev_lt (ev_u2 z7 (q0 + (23 + 5 * x1.toNatClampNeg)) 1 z8) fun I9 =>
  (pX8_isDue n q0 (q0 + (23 + 5 * x1.toNatClampNeg)) x2 (I9 (q0 + (23 + 5 * x1.toNatClampNeg)) 1) I9).bind fun z10 =>
  if z10 = 0 then
    some I9
  else
    (pX8_isSafe n q0 x2 (I9 (q0 + (23 + 5 * x1.toNatClampNeg)) 6) I9).bind fun z12 =>
    if z12 = 0 then
      (pX2_add n (q0 + 16) 500 (1 : Int32) x1 x2 (-1 : Int32) (-1 : Int32) I9).bind fun z17 =>
      some z17
    else
      ev_lt (ev_u2 I9 (q0 + (23 + 5 * x1.toNatClampNeg)) 2 (I9 (q0 + (23 + 5 * x1.toNatClampNeg)) 1)) fun I14 =>
      (pX2_add n (q0 + 16) 500 (0 : Int32) x1 x2 (-1 : Int32) (-1 : Int32) I14).bind fun z15 =>
      (pX8_sendMark n q0 x1 x2 z15).bind fun z16 =>
      some z16
set_option maxRecDepth 100000 in
set_option maxHeartbeats 4000000 in
theorem tX8_takeBlock {E : ev_N} {σ : ev_H} (n : Nat) (q0 : Nat) (g0 : shp tb7 σ q0) (x1 : Int32) (x2 : Int32) (I : ev_I) (o : ev_I) (h : pX8_takeBlock n q0 x1 x2 I = some o) : ev_T E mX8_takeBlock [.ref q0, .int x1, .int x2] (h_w σ I) (Option.none, h_w σ o) := by
  unfold pX8_takeBlock at h
  refine ev_met rfl rfl (Nat.le_of_ble_eq_true rfl) (ev_L0 (L' := [some (.ref q0), some (.int x1), some (.int x2), none]) rfl ?_)
  refine ev_aload_n dX8_takeBlock_0 rfl (fun _ e => by cases e) ?_
  refine ew_getr0 dX8_takeBlock_1 fX8_20 g0 rfl rfl rfl rfl ?_
  refine ev_iload_n dX8_takeBlock_4 rfl ?_
  obtain ⟨c1, h⟩ := ev_ckE h
  refine ew_memb dX8_takeBlock_5 g0 c1 ?_
  refine ew_astn (L' := [some (.ref q0), some (.int x1), some (.int x2), some (.ref (q0 + (23 + 5 * x1.toNatClampNeg)))]) dX8_takeBlock_6 (Nat.le_of_ble_eq_true rfl) (fun _ e => by cases e) rfl ?_
  refine ev_aload_n dX8_takeBlock_7 rfl (fun _ e => by cases e) ?_
  refine ev_iconst (v := (1 : Int32)) dX8_takeBlock_8 (by decide) ?_
  refine ev_aload_n dX8_takeBlock_9 rfl (fun _ e => by cases e) ?_
  refine ew_getr0 dX8_takeBlock_10 fX8_12 g0 rfl rfl rfl rfl ?_
  refine ew_getr0 dX8_takeBlock_13 fX8_208 (s71 g0) rfl rfl rfl rfl ?_
  refine ev_iload_n dX8_takeBlock_16 rfl ?_
  obtain ⟨c2, h⟩ := ev_ckE h
  refine ew_iald dX8_takeBlock_17 (shp_a (s71 g0) 5 rfl) c2 ?_
  refine ev_iload_n dX8_takeBlock_18 rfl ?_
  refine ev_aload_n dX8_takeBlock_19 rfl (fun _ e => by cases e) ?_
  refine ev_aload_n dX8_takeBlock_20 rfl (fun _ e => by cases e) ?_
  refine ew_getr0 dX8_takeBlock_21 fX8_12 g0 rfl rfl rfl rfl ?_
  refine ev_iload_n dX8_takeBlock_24 rfl ?_
  obtain ⟨z3, hz3, h⟩ := ev_bnE h
  refine ec_Vi (Y := mX3_seenRival) (ci := 3) (As := [.ref (q0 + 1), .int x2]) (rest := [(.int x1), (.int (I ((q0 + 1) + 5) x2.toNatClampNeg)), (.int (1 : Int32)), (.ref q0)]) dX8_takeBlock_25 kX8_211 oX3_seenRival ⟨Nat.le_of_ble_eq_true rfl, Nat.le_of_ble_eq_true rfl⟩ (by decide) rfl (shp_n (s73 g0 (ev_inL c1)) 0 rfl) (shp_t (s73 g0 (ev_inL c1)) 0 rfl) rfl (Nat.le_of_ble_eq_true rfl) (tX3_seenRival n (q0 + (23 + 5 * x1.toNatClampNeg)) (q0 + 1) (s73 g0 (ev_inL c1)) (s71 g0) x2 I z3 hz3) rfl ?_
  refine ev_iload_n dX8_takeBlock_28 rfl ?_
  obtain ⟨z4, hz4, h⟩ := ev_bnE h
  refine ec_Vv (Y := mX8_accuse) (ci := 7) (As := [.int (1 : Int32), .int (I ((q0 + 1) + 5) x2.toNatClampNeg), .int x1, .int z3, .int x2]) (rest := []) dX8_takeBlock_29 kX8_215 oX8_accuse ⟨Nat.le_of_ble_eq_true rfl, Nat.le_of_ble_eq_true rfl⟩ (by decide) rfl (shp_n g0 0 rfl) (shp_t g0 0 rfl) rfl (Nat.le_of_ble_eq_true rfl) (tX8_accuse n q0 g0 (1 : Int32) (I ((q0 + 1) + 5) x2.toNatClampNeg) x1 z3 x2 I z4 hz4) rfl ?_
  refine ev_aload_n dX8_takeBlock_32 rfl (fun _ e => by cases e) ?_
  refine ev_iload_n dX8_takeBlock_33 rfl ?_
  obtain ⟨z5, hz5, h⟩ := ev_bnE h
  refine ec_Vv (Y := mX3_see) (ci := 3) (As := [.int x2]) (rest := []) dX8_takeBlock_34 kX8_218 oX3_see ⟨Nat.le_of_ble_eq_true rfl, Nat.le_of_ble_eq_true rfl⟩ (by decide) rfl (shp_n (s73 g0 (ev_inL c1)) 0 rfl) (shp_t (s73 g0 (ev_inL c1)) 0 rfl) rfl (Nat.le_of_ble_eq_true rfl) (tX3_see n (q0 + (23 + 5 * x1.toNatClampNeg)) (s73 g0 (ev_inL c1)) x2 z4 z5 hz5) rfl ?_
  refine ev_aload_n dX8_takeBlock_37 rfl (fun _ e => by cases e) ?_
  refine ev_iload_n dX8_takeBlock_38 rfl ?_
  refine ev_aload_n dX8_takeBlock_39 rfl (fun _ e => by cases e) ?_
  refine ew_getr0 dX8_takeBlock_40 fX8_12 g0 rfl rfl rfl rfl ?_
  refine ew_getr0 dX8_takeBlock_43 fX8_221 (s71 g0) rfl rfl rfl rfl ?_
  refine ev_iload_n dX8_takeBlock_46 rfl ?_
  obtain ⟨c6, h⟩ := ev_ckE h
  refine ew_iald dX8_takeBlock_47 (shp_a (s71 g0) 3 rfl) c6 ?_
  obtain ⟨z7, hz7, h⟩ := ev_bnE h
  refine ec_Vv (Y := mX8_learn) (ci := 7) (As := [.int x1, .int (z5 ((q0 + 1) + 3) x2.toNatClampNeg)]) (rest := []) dX8_takeBlock_48 kX8_173 oX8_learn ⟨Nat.le_of_ble_eq_true rfl, Nat.le_of_ble_eq_true rfl⟩ (by decide) rfl (shp_n g0 0 rfl) (shp_t g0 0 rfl) rfl (Nat.le_of_ble_eq_true rfl) (tX8_learn n q0 g0 x1 (z5 ((q0 + 1) + 3) x2.toNatClampNeg) z5 z7 hz7) rfl ?_
  refine ev_aload_n dX8_takeBlock_51 rfl (fun _ e => by cases e) ?_
  refine ev_aload_n dX8_takeBlock_52 rfl (fun _ e => by cases e) ?_
  refine ev_aload_n dX8_takeBlock_53 rfl (fun _ e => by cases e) ?_
  refine ev_iload_n dX8_takeBlock_54 rfl ?_
  obtain ⟨z8, hz8, h⟩ := ev_bnE h
  refine ec_Vi (Y := mX8_viewAfter) (ci := 7) (As := [.ref (q0 + (23 + 5 * x1.toNatClampNeg)), .int x2]) (rest := [(.ref (q0 + (23 + 5 * x1.toNatClampNeg)))]) dX8_takeBlock_55 kX8_224 oX8_viewAfter ⟨Nat.le_of_ble_eq_true rfl, Nat.le_of_ble_eq_true rfl⟩ (by decide) rfl (shp_n g0 0 rfl) (shp_t g0 0 rfl) rfl (Nat.le_of_ble_eq_true rfl) (tX8_viewAfter n q0 (q0 + (23 + 5 * x1.toNatClampNeg)) g0 (s73 g0 (ev_inL c1)) x2 z7 z8 hz8) rfl ?_
  obtain ⟨I9, eI9, h⟩ := ev_ltE h
  refine ew_put0 dX8_takeBlock_58 fX8_115 (s73 g0 (ev_inL c1)) rfl rfl rfl rfl rfl rfl (ew_nh eI9 ?_)
  refine ev_aload_n dX8_takeBlock_61 rfl (fun _ e => by cases e) ?_
  refine ev_aload_n dX8_takeBlock_62 rfl (fun _ e => by cases e) ?_
  refine ev_iload_n dX8_takeBlock_63 rfl ?_
  refine ev_aload_n dX8_takeBlock_64 rfl (fun _ e => by cases e) ?_
  refine ew_get0 dX8_takeBlock_65 fX8_115 (s73 g0 (ev_inL c1)) rfl rfl rfl ?_
  obtain ⟨z10, hz10, h⟩ := ev_bnE h
  refine ec_Vi (Y := mX8_isDue) (ci := 7) (As := [.ref (q0 + (23 + 5 * x1.toNatClampNeg)), .int x2, .int (I9 (q0 + (23 + 5 * x1.toNatClampNeg)) 1)]) (rest := []) dX8_takeBlock_68 kX8_228 oX8_isDue ⟨Nat.le_of_ble_eq_true rfl, Nat.le_of_ble_eq_true rfl⟩ (by decide) rfl (shp_n g0 0 rfl) (shp_t g0 0 rfl) rfl (Nat.le_of_ble_eq_true rfl) (tX8_isDue n q0 (q0 + (23 + 5 * x1.toNatClampNeg)) g0 (s73 g0 (ev_inL c1)) x2 (I9 (q0 + (23 + 5 * x1.toNatClampNeg)) 1) I9 z10 hz10) rfl ?_
  refine ev_if_ne (tgt := 75) dX8_takeBlock_71 (by decide) (fun c11 => ?_) (fun c11 => ?_)
  · have h := ev_ifF h c11
    refine ev_aload_n dX8_takeBlock_75 rfl (fun _ e => by cases e) ?_
    refine ev_iload_n dX8_takeBlock_76 rfl ?_
    refine ev_aload_n dX8_takeBlock_77 rfl (fun _ e => by cases e) ?_
    refine ew_get0 dX8_takeBlock_78 fX8_232 (s73 g0 (ev_inL c1)) rfl rfl rfl ?_
    obtain ⟨z12, hz12, h⟩ := ev_bnE h
    refine ec_Vi (Y := mX8_isSafe) (ci := 7) (As := [.int x2, .int (I9 (q0 + (23 + 5 * x1.toNatClampNeg)) 6)]) (rest := []) dX8_takeBlock_81 kX8_235 oX8_isSafe ⟨Nat.le_of_ble_eq_true rfl, Nat.le_of_ble_eq_true rfl⟩ (by decide) rfl (shp_n g0 0 rfl) (shp_t g0 0 rfl) rfl (Nat.le_of_ble_eq_true rfl) (tX8_isSafe n q0 g0 x2 (I9 (q0 + (23 + 5 * x1.toNatClampNeg)) 6) I9 z12 hz12) rfl ?_
    refine ev_if_ne (tgt := 100) dX8_takeBlock_84 (by decide) (fun c13 => ?_) (fun c13 => ?_)
    · have h := ev_ifF h c13
      refine ev_aload_n dX8_takeBlock_100 rfl (fun _ e => by cases e) ?_
      refine ev_aload_n dX8_takeBlock_101 rfl (fun _ e => by cases e) ?_
      refine ew_get0 dX8_takeBlock_102 fX8_115 (s73 g0 (ev_inL c1)) rfl rfl rfl ?_
      obtain ⟨I14, eI14, h⟩ := ev_ltE h
      refine ew_put0 dX8_takeBlock_105 fX8_143 (s73 g0 (ev_inL c1)) rfl rfl rfl rfl rfl rfl (ew_nh eI14 ?_)
      refine ev_aload_n dX8_takeBlock_108 rfl (fun _ e => by cases e) ?_
      refine ew_getr0 dX8_takeBlock_109 fX8_40 g0 rfl rfl rfl rfl ?_
      refine ev_iconst (v := (0 : Int32)) dX8_takeBlock_112 (by decide) ?_
      refine ev_iload_n dX8_takeBlock_113 rfl ?_
      refine ev_iload_n dX8_takeBlock_114 rfl ?_
      refine ev_iconst (v := (-1 : Int32)) dX8_takeBlock_115 (by decide) ?_
      refine ev_iconst (v := (-1 : Int32)) dX8_takeBlock_116 (by decide) ?_
      obtain ⟨z15, hz15, h⟩ := ev_bnE h
      refine ec_Vv (Y := mX2_add) (ci := 2) (As := [.int (0 : Int32), .int x1, .int x2, .int (-1 : Int32), .int (-1 : Int32)]) (rest := []) dX8_takeBlock_117 kX8_239 oX2_add ⟨Nat.le_of_ble_eq_true rfl, Nat.le_of_ble_eq_true rfl⟩ (by decide) rfl (shp_n (s72v g0) 0 rfl) (shp_t (s72v g0) 0 rfl) rfl (Nat.le_of_ble_eq_true rfl) (tX2_add n (q0 + 16) 500 (s72v g0) (0 : Int32) x1 x2 (-1 : Int32) (-1 : Int32) I14 z15 hz15) rfl ?_
      refine ev_aload_n dX8_takeBlock_120 rfl (fun _ e => by cases e) ?_
      refine ev_iload_n dX8_takeBlock_121 rfl ?_
      refine ev_iload_n dX8_takeBlock_122 rfl ?_
      obtain ⟨z16, hz16, h⟩ := ev_bnE h
      refine ec_Vv (Y := mX8_sendMark) (ci := 7) (As := [.int x1, .int x2]) (rest := []) dX8_takeBlock_123 kX8_169 oX8_sendMark ⟨Nat.le_of_ble_eq_true rfl, Nat.le_of_ble_eq_true rfl⟩ (by decide) rfl (shp_n g0 0 rfl) (shp_t g0 0 rfl) rfl (Nat.le_of_ble_eq_true rfl) (tX8_sendMark n q0 g0 x1 x2 z15 z16 hz16) rfl ?_
      cases h
      exact er_v dX8_takeBlock_126 rfl
    · have h := ev_ifT h c13
      refine ev_aload_n dX8_takeBlock_87 rfl (fun _ e => by cases e) ?_
      refine ew_getr0 dX8_takeBlock_88 fX8_40 g0 rfl rfl rfl rfl ?_
      refine ev_iconst (v := (1 : Int32)) dX8_takeBlock_91 (by decide) ?_
      refine ev_iload_n dX8_takeBlock_92 rfl ?_
      refine ev_iload_n dX8_takeBlock_93 rfl ?_
      refine ev_iconst (v := (-1 : Int32)) dX8_takeBlock_94 (by decide) ?_
      refine ev_iconst (v := (-1 : Int32)) dX8_takeBlock_95 (by decide) ?_
      obtain ⟨z17, hz17, h⟩ := ev_bnE h
      refine ec_Vv (Y := mX2_add) (ci := 2) (As := [.int (1 : Int32), .int x1, .int x2, .int (-1 : Int32), .int (-1 : Int32)]) (rest := []) dX8_takeBlock_96 kX8_239 oX2_add ⟨Nat.le_of_ble_eq_true rfl, Nat.le_of_ble_eq_true rfl⟩ (by decide) rfl (shp_n (s72v g0) 0 rfl) (shp_t (s72v g0) 0 rfl) rfl (Nat.le_of_ble_eq_true rfl) (tX2_add n (q0 + 16) 500 (s72v g0) (1 : Int32) x1 x2 (-1 : Int32) (-1 : Int32) I9 z17 hz17) rfl ?_
      cases h
      exact er_v dX8_takeBlock_99 rfl
  · have h := ev_ifT h c11
    cases h
    exact er_v dX8_takeBlock_74 rfl
-- ChainVotes$World takeMark(III)V
def cX8_takeMark_39 (q0 : Nat) (n : Nat) (y1 : Int32) (y2 : Int32) (y3 : Int32) (p4 : Nat) (y5 : Int32) (s0 : Int32) (I : ev_I) : Option (ev_I) :=
  if s0 = 0 then
    (pX8_leaderOf n q0 (y5 + (1 : Int32)) I).bind fun z2 =>
    if z2 = y1 then
      (pX3_markedRival n p4 (q0 + 1) y2 y3 I).bind fun z4 =>
      (pX8_accuse n q0 (2 : Int32) y2 y1 z4 y3 I).bind fun z5 =>
      ev_ck (ev_in y3 100) <|
      ev_ck (ev_in y3 100) <|
      ev_lt (ev_u2 z5 (p4 + 3) y3.toNatClampNeg ((z5 (p4 + 3) y3.toNatClampNeg) ||| ((1 : Int32) <<< (y2 &&& 31)))) fun I8 =>
      ev_ck (ev_in y3 100) <|
      (pJ6_bitCount_0f7a4 n  (I8 (p4 + 3) y3.toNatClampNeg) I8).bind fun z10 =>
      (pX8_quorum n q0  I8).bind fun z11 =>
      if z10 = z11 then
        ev_ck (ev_in y3 100) <|
        ev_lt (ev_u2 I8 ((q0 + 1) + 8) y3.toNatClampNeg (1 : Int32)) fun I14 =>
        (pX2_add n (q0 + 16) 500 (2 : Int32) y1 y3 (-1 : Int32) (-1 : Int32) I14).bind fun z15 =>
        (pX8_learn n q0 y1 y3 z15).bind fun z16 =>
        ev_lt (ev_u2 z16 p4 1 (if (z16 p4 1) < (y5 + (1 : Int32)) then (y5 + (1 : Int32)) else (z16 p4 1))) fun I17 =>
        some I17
      else
        some I8
    else
      some I
  else
    some I
def pX8_takeMark (n : Nat) (q0 : Nat) (x1 : Int32) (x2 : Int32) (x3 : Int32) (I : ev_I) : Option (ev_I) :=
  ev_ck (ev_in x1 7) <|
  ev_ck (ev_in x3 100) <|
  ev_lt (I ((q0 + 1) + 1) x3.toNatClampNeg) fun v20 =>
  ev_ck (ev_in x3 100) <|
  if (((I ((q0 + (23 + 5 * x1.toNatClampNeg)) + 3) x3.toNatClampNeg) >>> (x2 &&& 31)) &&& (1 : Int32)) = (1 : Int32) then
    cX8_takeMark_39 q0 n x1 x2 x3 (q0 + (23 + 5 * x1.toNatClampNeg)) v20 (1 : Int32) I
  else
    cX8_takeMark_39 q0 n x1 x2 x3 (q0 + (23 + 5 * x1.toNatClampNeg)) v20 (0 : Int32) I
set_option maxRecDepth 100000 in
set_option maxHeartbeats 4000000 in
theorem tX8_takeMark_39 {E : ev_N} {σ : ev_H} (q0 : Nat) (g0 : shp tb7 σ q0) (n : Nat) (y1 : Int32) (y2 : Int32) (y3 : Int32) (p4 : Nat) (y5 : Int32) (s0 : Int32) (I : ev_I) (o : ev_I) (u4 : shp tb3 σ p4) : cX8_takeMark_39 q0 n y1 y2 y3 p4 y5 s0 I = some o → EV E mX8_takeMark 39 [some (.ref q0), some (.int y1), some (.int y2), some (.int y3), some (.ref p4), some (.int y5), none] [(.int s0)] (h_w σ I) (Option.none, h_w σ o) := by
  intro h
  unfold cX8_takeMark_39 at h
  refine ew_ist (L' := [some (.ref q0), some (.int y1), some (.int y2), some (.int y3), some (.ref p4), some (.int y5), some (.int s0)]) dX8_takeMark_39 (Nat.le_of_ble_eq_true rfl) rfl ?_
  refine ev_iload dX8_takeMark_41 rfl ?_
  refine ev_if_ne (tgt := 58) dX8_takeMark_43 (by decide) (fun c1 => ?_) (fun c1 => ?_)
  · have h := ev_ifF h c1
    cases h
    exact er_v dX8_takeMark_58 rfl
  · have h := ev_ifT h c1
    refine ev_aload_n dX8_takeMark_46 rfl (fun _ e => by cases e) ?_
    refine ev_iload dX8_takeMark_47 rfl ?_
    refine ev_iconst (v := (1 : Int32)) dX8_takeMark_49 (by decide) ?_
    refine ev_iadd dX8_takeMark_50 ?_
    obtain ⟨z2, hz2, h⟩ := ev_bnE h
    refine ec_Vi (Y := mX8_leaderOf) (ci := 7) (As := [.int (y5 + (1 : Int32))]) (rest := []) dX8_takeMark_51 kX8_108 oX8_leaderOf ⟨Nat.le_of_ble_eq_true rfl, Nat.le_of_ble_eq_true rfl⟩ (by decide) rfl (shp_n g0 0 rfl) (shp_t g0 0 rfl) rfl (Nat.le_of_ble_eq_true rfl) (tX8_leaderOf n q0 g0 (y5 + (1 : Int32)) I z2 hz2) rfl ?_
    refine ev_iload_n dX8_takeMark_54 rfl ?_
    refine ev_icmp_eq (tgt := 59) dX8_takeMark_55 (by decide) (fun c3 => ?_) (fun c3 => ?_)
    · have h := ev_ifT h c3
      refine ev_aload_n dX8_takeMark_59 rfl (fun _ e => by cases e) ?_
      refine ev_iconst (v := (2 : Int32)) dX8_takeMark_60 (by decide) ?_
      refine ev_iload_n dX8_takeMark_61 rfl ?_
      refine ev_iload_n dX8_takeMark_62 rfl ?_
      refine ev_aload dX8_takeMark_63 rfl (fun _ e => by cases e) ?_
      refine ev_aload_n dX8_takeMark_65 rfl (fun _ e => by cases e) ?_
      refine ew_getr0 dX8_takeMark_66 fX8_12 g0 rfl rfl rfl rfl ?_
      refine ev_iload_n dX8_takeMark_69 rfl ?_
      refine ev_iload_n dX8_takeMark_70 rfl ?_
      obtain ⟨z4, hz4, h⟩ := ev_bnE h
      refine ec_Vi (Y := mX3_markedRival) (ci := 3) (As := [.ref (q0 + 1), .int y2, .int y3]) (rest := [(.int y1), (.int y2), (.int (2 : Int32)), (.ref q0)]) dX8_takeMark_71 kX8_244 oX3_markedRival ⟨Nat.le_of_ble_eq_true rfl, Nat.le_of_ble_eq_true rfl⟩ (by decide) rfl (shp_n u4 0 rfl) (shp_t u4 0 rfl) rfl (Nat.le_of_ble_eq_true rfl) (tX3_markedRival n p4 (q0 + 1) u4 (s71 g0) y2 y3 I z4 hz4) rfl ?_
      refine ev_iload_n dX8_takeMark_74 rfl ?_
      obtain ⟨z5, hz5, h⟩ := ev_bnE h
      refine ec_Vv (Y := mX8_accuse) (ci := 7) (As := [.int (2 : Int32), .int y2, .int y1, .int z4, .int y3]) (rest := []) dX8_takeMark_75 kX8_215 oX8_accuse ⟨Nat.le_of_ble_eq_true rfl, Nat.le_of_ble_eq_true rfl⟩ (by decide) rfl (shp_n g0 0 rfl) (shp_t g0 0 rfl) rfl (Nat.le_of_ble_eq_true rfl) (tX8_accuse n q0 g0 (2 : Int32) y2 y1 z4 y3 I z5 hz5) rfl ?_
      refine ev_aload dX8_takeMark_78 rfl (fun _ e => by cases e) ?_
      refine ew_getr0 dX8_takeMark_80 fX8_241 u4 rfl rfl rfl rfl ?_
      refine ev_iload_n dX8_takeMark_83 rfl ?_
      refine ev_dup2 dX8_takeMark_84 ?_
      obtain ⟨c6, h⟩ := ev_ckE h
      refine ew_iald dX8_takeMark_85 (shp_a u4 3 rfl) c6 ?_
      refine ev_iconst (v := (1 : Int32)) dX8_takeMark_86 (by decide) ?_
      refine ev_iload_n dX8_takeMark_87 rfl ?_
      refine ev_ishl dX8_takeMark_88 ?_
      refine ev_ior dX8_takeMark_89 ?_
      obtain ⟨c7, h⟩ := ev_ckE h
      obtain ⟨I8, eI8, h⟩ := ev_ltE h
      refine ew_iast dX8_takeMark_90 (shp_a u4 3 rfl) c7 (ew_nh eI8 ?_)
      refine ev_aload dX8_takeMark_91 rfl (fun _ e => by cases e) ?_
      refine ew_getr0 dX8_takeMark_93 fX8_241 u4 rfl rfl rfl rfl ?_
      refine ev_iload_n dX8_takeMark_96 rfl ?_
      obtain ⟨c9, h⟩ := ev_ckE h
      refine ew_iald dX8_takeMark_97 (shp_a u4 3 rfl) c9 ?_
      obtain ⟨z10, hz10, h⟩ := ev_bnE h
      refine ec_Si (Y := mJ6_bitCount_0f7a4) (As := [.int (I8 (p4 + 3) y3.toNatClampNeg)]) (rest := []) dX8_takeMark_98 kX8_248 oJ6_bitCount_0f7a4 ⟨Nat.le_of_ble_eq_true rfl, Nat.le_of_ble_eq_true rfl⟩ rfl (Nat.le_of_ble_eq_true rfl) (tJ6_bitCount_0f7a4 n   (I8 (p4 + 3) y3.toNatClampNeg) I8 z10 hz10) rfl ?_
      refine ev_aload_n dX8_takeMark_101 rfl (fun _ e => by cases e) ?_
      obtain ⟨z11, hz11, h⟩ := ev_bnE h
      refine ec_Vi (Y := mX8_quorum) (ci := 7) (As := []) (rest := [(.int z10)]) dX8_takeMark_102 kX8_253 oX8_quorum ⟨Nat.le_of_ble_eq_true rfl, Nat.le_of_ble_eq_true rfl⟩ (by decide) rfl (shp_n g0 0 rfl) (shp_t g0 0 rfl) rfl (Nat.le_of_ble_eq_true rfl) (tX8_quorum n q0 g0  I8 z11 hz11) rfl ?_
      refine ev_icmp_eq (tgt := 109) dX8_takeMark_105 (by decide) (fun c12 => ?_) (fun c12 => ?_)
      · have h := ev_ifT h c12
        refine ev_aload_n dX8_takeMark_109 rfl (fun _ e => by cases e) ?_
        refine ew_getr0 dX8_takeMark_110 fX8_12 g0 rfl rfl rfl rfl ?_
        refine ew_getr0 dX8_takeMark_113 fX8_256 (s71 g0) rfl rfl rfl rfl ?_
        refine ev_iload_n dX8_takeMark_116 rfl ?_
        refine ev_iconst (v := (1 : Int32)) dX8_takeMark_117 (by decide) ?_
        obtain ⟨c13, h⟩ := ev_ckE h
        obtain ⟨I14, eI14, h⟩ := ev_ltE h
        refine ew_iast dX8_takeMark_118 (shp_a (s71 g0) 8 rfl) c13 (ew_nh eI14 ?_)
        refine ev_aload_n dX8_takeMark_119 rfl (fun _ e => by cases e) ?_
        refine ew_getr0 dX8_takeMark_120 fX8_40 g0 rfl rfl rfl rfl ?_
        refine ev_iconst (v := (2 : Int32)) dX8_takeMark_123 (by decide) ?_
        refine ev_iload_n dX8_takeMark_124 rfl ?_
        refine ev_iload_n dX8_takeMark_125 rfl ?_
        refine ev_iconst (v := (-1 : Int32)) dX8_takeMark_126 (by decide) ?_
        refine ev_iconst (v := (-1 : Int32)) dX8_takeMark_127 (by decide) ?_
        obtain ⟨z15, hz15, h⟩ := ev_bnE h
        refine ec_Vv (Y := mX2_add) (ci := 2) (As := [.int (2 : Int32), .int y1, .int y3, .int (-1 : Int32), .int (-1 : Int32)]) (rest := []) dX8_takeMark_128 kX8_239 oX2_add ⟨Nat.le_of_ble_eq_true rfl, Nat.le_of_ble_eq_true rfl⟩ (by decide) rfl (shp_n (s72v g0) 0 rfl) (shp_t (s72v g0) 0 rfl) rfl (Nat.le_of_ble_eq_true rfl) (tX2_add n (q0 + 16) 500 (s72v g0) (2 : Int32) y1 y3 (-1 : Int32) (-1 : Int32) I14 z15 hz15) rfl ?_
        refine ev_aload_n dX8_takeMark_131 rfl (fun _ e => by cases e) ?_
        refine ev_iload_n dX8_takeMark_132 rfl ?_
        refine ev_iload_n dX8_takeMark_133 rfl ?_
        obtain ⟨z16, hz16, h⟩ := ev_bnE h
        refine ec_Vv (Y := mX8_learn) (ci := 7) (As := [.int y1, .int y3]) (rest := []) dX8_takeMark_134 kX8_173 oX8_learn ⟨Nat.le_of_ble_eq_true rfl, Nat.le_of_ble_eq_true rfl⟩ (by decide) rfl (shp_n g0 0 rfl) (shp_t g0 0 rfl) rfl (Nat.le_of_ble_eq_true rfl) (tX8_learn n q0 g0 y1 y3 z15 z16 hz16) rfl ?_
        refine ev_aload dX8_takeMark_137 rfl (fun _ e => by cases e) ?_
        refine ev_aload dX8_takeMark_139 rfl (fun _ e => by cases e) ?_
        refine ew_get0 dX8_takeMark_141 fX8_115 u4 rfl rfl rfl ?_
        refine ev_iload dX8_takeMark_144 rfl ?_
        refine ev_iconst (v := (1 : Int32)) dX8_takeMark_146 (by decide) ?_
        refine ev_iadd dX8_takeMark_147 ?_
        refine ev_max dX8_takeMark_148 kX8_146 zM_max.1 zM_max.2.1 zM_max.2.2 (Nat.le_of_ble_eq_true rfl) (Nat.le_of_ble_eq_true rfl) ?_
        obtain ⟨I17, eI17, h⟩ := ev_ltE h
        refine ew_put0 dX8_takeMark_151 fX8_115 u4 rfl rfl rfl rfl rfl rfl (ew_nh eI17 ?_)
        cases h
        exact er_v dX8_takeMark_154 rfl
      · have h := ev_ifF h c12
        cases h
        exact er_v dX8_takeMark_108 rfl
    · have h := ev_ifF h c3
      cases h
      exact er_v dX8_takeMark_58 rfl
set_option maxRecDepth 100000 in
set_option maxHeartbeats 4000000 in
theorem tX8_takeMark {E : ev_N} {σ : ev_H} (n : Nat) (q0 : Nat) (g0 : shp tb7 σ q0) (x1 : Int32) (x2 : Int32) (x3 : Int32) (I : ev_I) (o : ev_I) (h : pX8_takeMark n q0 x1 x2 x3 I = some o) : ev_T E mX8_takeMark [.ref q0, .int x1, .int x2, .int x3] (h_w σ I) (Option.none, h_w σ o) := by
  unfold pX8_takeMark at h
  refine ev_met rfl rfl (Nat.le_of_ble_eq_true rfl) (ev_L0 (L' := [some (.ref q0), some (.int x1), some (.int x2), some (.int x3), none, none, none]) rfl ?_)
  refine ev_aload_n dX8_takeMark_0 rfl (fun _ e => by cases e) ?_
  refine ew_getr0 dX8_takeMark_1 fX8_20 g0 rfl rfl rfl rfl ?_
  refine ev_iload_n dX8_takeMark_4 rfl ?_
  obtain ⟨c18, h⟩ := ev_ckE h
  refine ew_memb dX8_takeMark_5 g0 c18 ?_
  refine ew_ast (L' := [some (.ref q0), some (.int x1), some (.int x2), some (.int x3), some (.ref (q0 + (23 + 5 * x1.toNatClampNeg))), none, none]) dX8_takeMark_6 (Nat.le_of_ble_eq_true rfl) (fun _ e => by cases e) rfl ?_
  refine ev_aload_n dX8_takeMark_8 rfl (fun _ e => by cases e) ?_
  refine ew_getr0 dX8_takeMark_9 fX8_12 g0 rfl rfl rfl rfl ?_
  refine ew_getr0 dX8_takeMark_12 fX8_105 (s71 g0) rfl rfl rfl rfl ?_
  refine ev_iload_n dX8_takeMark_15 rfl ?_
  obtain ⟨c19, h⟩ := ev_ckE h
  refine ew_iald dX8_takeMark_16 (shp_a (s71 g0) 1 rfl) c19 ?_
  obtain ⟨v20, ev20, h⟩ := ev_ltE h
  refine ew_nm ev20 ?_
  refine ew_ist (L' := [some (.ref q0), some (.int x1), some (.int x2), some (.int x3), some (.ref (q0 + (23 + 5 * x1.toNatClampNeg))), some (.int v20), none]) dX8_takeMark_17 (Nat.le_of_ble_eq_true rfl) rfl ?_
  refine ev_aload dX8_takeMark_19 rfl (fun _ e => by cases e) ?_
  refine ew_getr0 dX8_takeMark_21 fX8_241 (s73 g0 (ev_inL c18)) rfl rfl rfl rfl ?_
  refine ev_iload_n dX8_takeMark_24 rfl ?_
  obtain ⟨c21, h⟩ := ev_ckE h
  refine ew_iald dX8_takeMark_25 (shp_a (s73 g0 (ev_inL c18)) 3 rfl) c21 ?_
  refine ev_iload_n dX8_takeMark_26 rfl ?_
  refine ev_ishr dX8_takeMark_27 ?_
  refine ev_iconst (v := (1 : Int32)) dX8_takeMark_28 (by decide) ?_
  refine ev_iand dX8_takeMark_29 ?_
  refine ev_iconst (v := (1 : Int32)) dX8_takeMark_30 (by decide) ?_
  refine ev_icmp_ne (tgt := 38) dX8_takeMark_31 (by decide) (fun c22 => ?_) (fun c22 => ?_)
  · have h := ev_ifF h c22
    refine ev_iconst (v := (0 : Int32)) dX8_takeMark_38 (by decide) ?_
    exact ev_weak (sb_s (sb_s (sb_s (sb_s (sb_s (sb_s (sb_n sb_0))))))) (tX8_takeMark_39 q0 g0 n x1 x2 x3 (q0 + (23 + 5 * x1.toNatClampNeg)) v20 (0 : Int32) I _ (s73 g0 (ev_inL c18)) h)
  · have h := ev_ifT h c22
    refine ev_iconst (v := (1 : Int32)) dX8_takeMark_34 (by decide) ?_
    refine ev_goto (tgt := 39) dX8_takeMark_35 (by decide) ?_
    exact ev_weak (sb_s (sb_s (sb_s (sb_s (sb_s (sb_s (sb_n sb_0))))))) (tX8_takeMark_39 q0 g0 n x1 x2 x3 (q0 + (23 + 5 * x1.toNatClampNeg)) v20 (1 : Int32) I _ (s73 g0 (ev_inL c18)) h)
-- ChainVotes$World takeTimeout(IIII)V
def cX8_takeTimeout_89 (q0 : Nat) (n : Nat) (y3 : Int32) (p5 : Nat) (I : ev_I) : Option (ev_I) :=
  ev_lt (ev_u2 I p5 1 (if (I p5 1) < (y3 + (1 : Int32)) then (y3 + (1 : Int32)) else (I p5 1))) fun I1 =>
  some I1
def pX8_takeTimeout (n : Nat) (q0 : Nat) (x1 : Int32) (x2 : Int32) (x3 : Int32) (x4 : Int32) (I : ev_I) : Option (ev_I) :=
  ev_ck (ev_in x1 7) <|
  (pX8_learn n q0 x1 x4 I).bind fun z3 =>
  ev_ck (ev_in x3 201) <|
  if (((z3 ((q0 + (23 + 5 * x1.toNatClampNeg)) + 4) x3.toNatClampNeg) >>> (x2 &&& 31)) &&& (1 : Int32)) = (1 : Int32) then
    some z3
  else
    ev_ck (ev_in x3 201) <|
    ev_ck (ev_in x3 201) <|
    ev_lt (ev_u2 z3 ((q0 + (23 + 5 * x1.toNatClampNeg)) + 4) x3.toNatClampNeg ((z3 ((q0 + (23 + 5 * x1.toNatClampNeg)) + 4) x3.toNatClampNeg) ||| ((1 : Int32) <<< (x2 &&& 31)))) fun I8 =>
    ev_ck (ev_in x3 201) <|
    (pJ6_bitCount_0f7a4 n  (I8 ((q0 + (23 + 5 * x1.toNatClampNeg)) + 4) x3.toNatClampNeg) I8).bind fun z10 =>
    (pX8_quorum n q0  I8).bind fun z11 =>
    if z10 = z11 then
      if x3 ≤ (I8 (q0 + (23 + 5 * x1.toNatClampNeg)) 7) then
        cX8_takeTimeout_89 q0 n x3 (q0 + (23 + 5 * x1.toNatClampNeg)) I8
      else
        ev_lt (ev_u2 I8 (q0 + (23 + 5 * x1.toNatClampNeg)) 7 x3) fun I14 =>
        (pX2_add n (q0 + 16) 500 (5 : Int32) x1 x3 (-1 : Int32) (-1 : Int32) I14).bind fun z15 =>
        cX8_takeTimeout_89 q0 n x3 (q0 + (23 + 5 * x1.toNatClampNeg)) z15
    else
      some I8
set_option maxRecDepth 100000 in
set_option maxHeartbeats 4000000 in
theorem tX8_takeTimeout_89 {E : ev_N} {σ : ev_H} (q0 : Nat) (g0 : shp tb7 σ q0) (n : Nat) (y3 : Int32) (p5 : Nat) (I : ev_I) (o : ev_I) (u5 : shp tb3 σ p5) : cX8_takeTimeout_89 q0 n y3 p5 I = some o → EV E mX8_takeTimeout 89 [none, none, none, some (.int y3), none, some (.ref p5)] [] (h_w σ I) (Option.none, h_w σ o) := by
  intro h
  unfold cX8_takeTimeout_89 at h
  refine ev_aload dX8_takeTimeout_89 rfl (fun _ e => by cases e) ?_
  refine ev_aload dX8_takeTimeout_91 rfl (fun _ e => by cases e) ?_
  refine ew_get0 dX8_takeTimeout_93 fX8_115 u5 rfl rfl rfl ?_
  refine ev_iload_n dX8_takeTimeout_96 rfl ?_
  refine ev_iconst (v := (1 : Int32)) dX8_takeTimeout_97 (by decide) ?_
  refine ev_iadd dX8_takeTimeout_98 ?_
  refine ev_max dX8_takeTimeout_99 kX8_146 zM_max.1 zM_max.2.1 zM_max.2.2 (Nat.le_of_ble_eq_true rfl) (Nat.le_of_ble_eq_true rfl) ?_
  obtain ⟨I1, eI1, h⟩ := ev_ltE h
  refine ew_put0 dX8_takeTimeout_102 fX8_115 u5 rfl rfl rfl rfl rfl rfl (ew_nh eI1 ?_)
  cases h
  exact er_v dX8_takeTimeout_105 rfl
set_option maxRecDepth 100000 in
set_option maxHeartbeats 4000000 in
theorem tX8_takeTimeout {E : ev_N} {σ : ev_H} (n : Nat) (q0 : Nat) (g0 : shp tb7 σ q0) (x1 : Int32) (x2 : Int32) (x3 : Int32) (x4 : Int32) (I : ev_I) (o : ev_I) (h : pX8_takeTimeout n q0 x1 x2 x3 x4 I = some o) : ev_T E mX8_takeTimeout [.ref q0, .int x1, .int x2, .int x3, .int x4] (h_w σ I) (Option.none, h_w σ o) := by
  unfold pX8_takeTimeout at h
  refine ev_met rfl rfl (Nat.le_of_ble_eq_true rfl) (ev_L0 (L' := [some (.ref q0), some (.int x1), some (.int x2), some (.int x3), some (.int x4), none]) rfl ?_)
  refine ev_aload_n dX8_takeTimeout_0 rfl (fun _ e => by cases e) ?_
  refine ew_getr0 dX8_takeTimeout_1 fX8_20 g0 rfl rfl rfl rfl ?_
  refine ev_iload_n dX8_takeTimeout_4 rfl ?_
  obtain ⟨c2, h⟩ := ev_ckE h
  refine ew_memb dX8_takeTimeout_5 g0 c2 ?_
  refine ew_ast (L' := [some (.ref q0), some (.int x1), some (.int x2), some (.int x3), some (.int x4), some (.ref (q0 + (23 + 5 * x1.toNatClampNeg)))]) dX8_takeTimeout_6 (Nat.le_of_ble_eq_true rfl) (fun _ e => by cases e) rfl ?_
  refine ev_aload_n dX8_takeTimeout_8 rfl (fun _ e => by cases e) ?_
  refine ev_iload_n dX8_takeTimeout_9 rfl ?_
  refine ev_iload dX8_takeTimeout_10 rfl ?_
  obtain ⟨z3, hz3, h⟩ := ev_bnE h
  refine ec_Vv (Y := mX8_learn) (ci := 7) (As := [.int x1, .int x4]) (rest := []) dX8_takeTimeout_12 kX8_173 oX8_learn ⟨Nat.le_of_ble_eq_true rfl, Nat.le_of_ble_eq_true rfl⟩ (by decide) rfl (shp_n g0 0 rfl) (shp_t g0 0 rfl) rfl (Nat.le_of_ble_eq_true rfl) (tX8_learn n q0 g0 x1 x4 I z3 hz3) rfl ?_
  refine ev_aload dX8_takeTimeout_15 rfl (fun _ e => by cases e) ?_
  refine ew_getr0 dX8_takeTimeout_17 fX8_259 (s73 g0 (ev_inL c2)) rfl rfl rfl rfl ?_
  refine ev_iload_n dX8_takeTimeout_20 rfl ?_
  obtain ⟨c4, h⟩ := ev_ckE h
  refine ew_iald dX8_takeTimeout_21 (shp_a (s73 g0 (ev_inL c2)) 4 rfl) c4 ?_
  refine ev_iload_n dX8_takeTimeout_22 rfl ?_
  refine ev_ishr dX8_takeTimeout_23 ?_
  refine ev_iconst (v := (1 : Int32)) dX8_takeTimeout_24 (by decide) ?_
  refine ev_iand dX8_takeTimeout_25 ?_
  refine ev_iconst (v := (1 : Int32)) dX8_takeTimeout_26 (by decide) ?_
  refine ev_icmp_ne (tgt := 31) dX8_takeTimeout_27 (by decide) (fun c5 => ?_) (fun c5 => ?_)
  · have h := ev_ifF h c5
    refine ev_aload dX8_takeTimeout_31 rfl (fun _ e => by cases e) ?_
    refine ew_getr0 dX8_takeTimeout_33 fX8_259 (s73 g0 (ev_inL c2)) rfl rfl rfl rfl ?_
    refine ev_iload_n dX8_takeTimeout_36 rfl ?_
    refine ev_dup2 dX8_takeTimeout_37 ?_
    obtain ⟨c6, h⟩ := ev_ckE h
    refine ew_iald dX8_takeTimeout_38 (shp_a (s73 g0 (ev_inL c2)) 4 rfl) c6 ?_
    refine ev_iconst (v := (1 : Int32)) dX8_takeTimeout_39 (by decide) ?_
    refine ev_iload_n dX8_takeTimeout_40 rfl ?_
    refine ev_ishl dX8_takeTimeout_41 ?_
    refine ev_ior dX8_takeTimeout_42 ?_
    obtain ⟨c7, h⟩ := ev_ckE h
    obtain ⟨I8, eI8, h⟩ := ev_ltE h
    refine ew_iast dX8_takeTimeout_43 (shp_a (s73 g0 (ev_inL c2)) 4 rfl) c7 (ew_nh eI8 ?_)
    refine ev_aload dX8_takeTimeout_44 rfl (fun _ e => by cases e) ?_
    refine ew_getr0 dX8_takeTimeout_46 fX8_259 (s73 g0 (ev_inL c2)) rfl rfl rfl rfl ?_
    refine ev_iload_n dX8_takeTimeout_49 rfl ?_
    obtain ⟨c9, h⟩ := ev_ckE h
    refine ew_iald dX8_takeTimeout_50 (shp_a (s73 g0 (ev_inL c2)) 4 rfl) c9 ?_
    obtain ⟨z10, hz10, h⟩ := ev_bnE h
    refine ec_Si (Y := mJ6_bitCount_0f7a4) (As := [.int (I8 ((q0 + (23 + 5 * x1.toNatClampNeg)) + 4) x3.toNatClampNeg)]) (rest := []) dX8_takeTimeout_51 kX8_248 oJ6_bitCount_0f7a4 ⟨Nat.le_of_ble_eq_true rfl, Nat.le_of_ble_eq_true rfl⟩ rfl (Nat.le_of_ble_eq_true rfl) (tJ6_bitCount_0f7a4 n   (I8 ((q0 + (23 + 5 * x1.toNatClampNeg)) + 4) x3.toNatClampNeg) I8 z10 hz10) rfl ?_
    refine ev_aload_n dX8_takeTimeout_54 rfl (fun _ e => by cases e) ?_
    obtain ⟨z11, hz11, h⟩ := ev_bnE h
    refine ec_Vi (Y := mX8_quorum) (ci := 7) (As := []) (rest := [(.int z10)]) dX8_takeTimeout_55 kX8_253 oX8_quorum ⟨Nat.le_of_ble_eq_true rfl, Nat.le_of_ble_eq_true rfl⟩ (by decide) rfl (shp_n g0 0 rfl) (shp_t g0 0 rfl) rfl (Nat.le_of_ble_eq_true rfl) (tX8_quorum n q0 g0  I8 z11 hz11) rfl ?_
    refine ev_icmp_eq (tgt := 62) dX8_takeTimeout_58 (by decide) (fun c12 => ?_) (fun c12 => ?_)
    · have h := ev_ifT h c12
      refine ev_iload_n dX8_takeTimeout_62 rfl ?_
      refine ev_aload dX8_takeTimeout_63 rfl (fun _ e => by cases e) ?_
      refine ew_get0 dX8_takeTimeout_65 fX8_123 (s73 g0 (ev_inL c2)) rfl rfl rfl ?_
      refine ev_icmp_le (tgt := 89) dX8_takeTimeout_68 (by decide) (fun c13 => ?_) (fun c13 => ?_)
      · have h := ev_ifT h c13
        exact ev_weak (sb_n (sb_n (sb_n (sb_s (sb_n (sb_s sb_0)))))) (tX8_takeTimeout_89 q0 g0 n x3 (q0 + (23 + 5 * x1.toNatClampNeg)) I8 _ (s73 g0 (ev_inL c2)) h)
      · have h := ev_ifF h c13
        refine ev_aload dX8_takeTimeout_71 rfl (fun _ e => by cases e) ?_
        refine ev_iload_n dX8_takeTimeout_73 rfl ?_
        obtain ⟨I14, eI14, h⟩ := ev_ltE h
        refine ew_put0 dX8_takeTimeout_74 fX8_123 (s73 g0 (ev_inL c2)) rfl rfl rfl rfl rfl rfl (ew_nh eI14 ?_)
        refine ev_aload_n dX8_takeTimeout_77 rfl (fun _ e => by cases e) ?_
        refine ew_getr0 dX8_takeTimeout_78 fX8_40 g0 rfl rfl rfl rfl ?_
        refine ev_iconst (v := (5 : Int32)) dX8_takeTimeout_81 (by decide) ?_
        refine ev_iload_n dX8_takeTimeout_82 rfl ?_
        refine ev_iload_n dX8_takeTimeout_83 rfl ?_
        refine ev_iconst (v := (-1 : Int32)) dX8_takeTimeout_84 (by decide) ?_
        refine ev_iconst (v := (-1 : Int32)) dX8_takeTimeout_85 (by decide) ?_
        obtain ⟨z15, hz15, h⟩ := ev_bnE h
        refine ec_Vv (Y := mX2_add) (ci := 2) (As := [.int (5 : Int32), .int x1, .int x3, .int (-1 : Int32), .int (-1 : Int32)]) (rest := []) dX8_takeTimeout_86 kX8_239 oX2_add ⟨Nat.le_of_ble_eq_true rfl, Nat.le_of_ble_eq_true rfl⟩ (by decide) rfl (shp_n (s72v g0) 0 rfl) (shp_t (s72v g0) 0 rfl) rfl (Nat.le_of_ble_eq_true rfl) (tX2_add n (q0 + 16) 500 (s72v g0) (5 : Int32) x1 x3 (-1 : Int32) (-1 : Int32) I14 z15 hz15) rfl ?_
        exact ev_weak (sb_n (sb_n (sb_n (sb_s (sb_n (sb_s sb_0)))))) (tX8_takeTimeout_89 q0 g0 n x3 (q0 + (23 + 5 * x1.toNatClampNeg)) z15 _ (s73 g0 (ev_inL c2)) h)
    · have h := ev_ifF h c12
      cases h
      exact er_v dX8_takeTimeout_61 rfl
  · have h := ev_ifT h c5
    cases h
    exact er_v dX8_takeTimeout_30 rfl
-- ChainVotes$World deliverSome(II)I
def cX8_deliverSome_149 (q0 : Nat) (K5 : Int32 → Int32 → Int32 → Int32 → ev_I → Option (Int32 × ev_I)) (n : Nat) (y1 : Int32) (y2 : Int32) (y3 : Int32) (y4 : Int32) (I : ev_I) : Option (Int32 × ev_I) :=
  ev_lt (y4 + (1 : Int32)) fun v1 =>
  K5 y1 y2 y3 v1 I
def cX8_deliverSome_5 (q0 : Nat) (K5 : Int32 → Int32 → Int32 → Int32 → ev_I → Option (Int32 × ev_I)) (n : Nat) (y1 : Int32) (y2 : Int32) (y3 : Int32) (y4 : Int32) (I : ev_I) : Option (Int32 × ev_I) :=
  if y2 ≤ y4 then
    some (y3, I)
  else
    (pX4_has n (q0 + 11) y1 I).bind fun z3 =>
    if z3 = 0 then
      some (y3, I)
    else
      (pX4_take n (q0 + 11) y1 I).bind fun z5 =>
      (pX4_targetOf n  z5.1 z5.2).bind fun z6 =>
      (pX4_subjectOf n  z5.1 z5.2).bind fun z7 =>
      ev_lt (ev_u2 z5.2 (q0 + 11) 4 ((z5.2 (q0 + 11) 4) + (1 : Int32))) fun I8 =>
      ev_lt (y3 + (1 : Int32)) fun v9 =>
      (pX8_isAwake n q0 z6 I8).bind fun z10 =>
      if z10 = 0 then
        cX8_deliverSome_149 q0 K5 n y1 y2 v9 y4 I8
      else
        (pX4_kindOf n  z5.1 I8).bind fun z12 =>
        if z12 = (1 : Int32) then
          (pX8_takeBlock n q0 z6 z7 I8).bind fun z14 =>
          cX8_deliverSome_149 q0 K5 n y1 y2 v9 y4 z14
        else
        if z12 = (2 : Int32) then
          (pX4_senderOf n  z5.1 I8).bind fun z16 =>
          (pX8_takeMark n q0 z6 z16 z7 I8).bind fun z17 =>
          cX8_deliverSome_149 q0 K5 n y1 y2 v9 y4 z17
        else
        (pX4_senderOf n  z5.1 I8).bind fun z18 =>
        (pX4_highOf n  z5.1 I8).bind fun z19 =>
        (pX8_takeTimeout n q0 z6 z18 z7 z19 I8).bind fun z20 =>
        cX8_deliverSome_149 q0 K5 n y1 y2 v9 y4 z20
def lX8_deliverSome_5 (q0 : Nat) : Nat → Int32 → Int32 → Int32 → Int32 → ev_I → Option (Int32 × ev_I)
  | 0, _, _, _, _, _ => none
  | n + 1, y1, y2, y3, y4, I => cX8_deliverSome_5 q0 (lX8_deliverSome_5 q0 n) n y1 y2 y3 y4 I
def pX8_deliverSome (n : Nat) (q0 : Nat) (x1 : Int32) (x2 : Int32) (I : ev_I) : Option (Int32 × ev_I) :=
  lX8_deliverSome_5 q0 n x1 x2 (0 : Int32) (0 : Int32) I
set_option maxRecDepth 100000 in
set_option maxHeartbeats 4000000 in
theorem tX8_deliverSome_149 {E : ev_N} {σ : ev_H} (q0 : Nat) (g0 : shp tb7 σ q0) (K5 : Int32 → Int32 → Int32 → Int32 → ev_I → Option (Int32 × ev_I)) (k5 : ∀ (y1 : Int32) (y2 : Int32) (y3 : Int32) (y4 : Int32) (I : ev_I) (o : Int32 × ev_I), K5 y1 y2 y3 y4 I = some o → EV E mX8_deliverSome 5 [some (.ref q0), some (.int y1), some (.int y2), some (.int y3), some (.int y4), none, none, none] [] (h_w σ I) (Option.some (Value.int o.1), h_w σ o.2)) (n : Nat) (y1 : Int32) (y2 : Int32) (y3 : Int32) (y4 : Int32) (I : ev_I) (o : Int32 × ev_I) : cX8_deliverSome_149 q0 K5 n y1 y2 y3 y4 I = some o → EV E mX8_deliverSome 149 [some (.ref q0), some (.int y1), some (.int y2), some (.int y3), some (.int y4), none, none, none] [] (h_w σ I) (Option.some (Value.int o.1), h_w σ o.2) := by
  intro h
  unfold cX8_deliverSome_149 at h
  obtain ⟨v1, ev1, h⟩ := ev_ltE h
  refine ew_iinc (L' := [some (.ref q0), some (.int y1), some (.int y2), some (.int y3), some (.int v1), none, none, none]) dX8_deliverSome_149 (Nat.le_of_ble_eq_true rfl) rfl (by decide) ev1 rfl ?_
  refine ev_goto (tgt := 5) dX8_deliverSome_152 (by decide) ?_
  exact ev_weak (sb_s (sb_s (sb_s (sb_s (sb_s (sb_n (sb_n (sb_n sb_0)))))))) (k5 y1 y2 y3 v1 I _ h)
set_option maxRecDepth 100000 in
set_option maxHeartbeats 4000000 in
theorem tX8_deliverSome_5 {E : ev_N} {σ : ev_H} (q0 : Nat) (g0 : shp tb7 σ q0) (K5 : Int32 → Int32 → Int32 → Int32 → ev_I → Option (Int32 × ev_I)) (k5 : ∀ (y1 : Int32) (y2 : Int32) (y3 : Int32) (y4 : Int32) (I : ev_I) (o : Int32 × ev_I), K5 y1 y2 y3 y4 I = some o → EV E mX8_deliverSome 5 [some (.ref q0), some (.int y1), some (.int y2), some (.int y3), some (.int y4), none, none, none] [] (h_w σ I) (Option.some (Value.int o.1), h_w σ o.2)) (n : Nat) (y1 : Int32) (y2 : Int32) (y3 : Int32) (y4 : Int32) (I : ev_I) (o : Int32 × ev_I) : cX8_deliverSome_5 q0 K5 n y1 y2 y3 y4 I = some o → EV E mX8_deliverSome 5 [some (.ref q0), some (.int y1), some (.int y2), some (.int y3), some (.int y4), none, none, none] [] (h_w σ I) (Option.some (Value.int o.1), h_w σ o.2) := by
  intro h
  unfold cX8_deliverSome_5 at h
  refine ev_iload dX8_deliverSome_5 rfl ?_
  refine ev_iload_n dX8_deliverSome_7 rfl ?_
  refine ev_icmp_ge (tgt := 155) dX8_deliverSome_8 (by decide) (fun c2 => ?_) (fun c2 => ?_)
  · have h := ev_ifT h c2
    refine ev_iload_n dX8_deliverSome_155 rfl ?_
    cases h
    exact er_i dX8_deliverSome_156 rfl rfl
  · have h := ev_ifF h c2
    refine ev_aload_n dX8_deliverSome_11 rfl (fun _ e => by cases e) ?_
    refine ew_getr0 dX8_deliverSome_12 fX8_27 g0 rfl rfl rfl rfl ?_
    refine ev_iload_n dX8_deliverSome_15 rfl ?_
    obtain ⟨z3, hz3, h⟩ := ev_bnE h
    refine ec_Vi (Y := mX4_has) (ci := 4) (As := [.int y1]) (rest := []) dX8_deliverSome_16 kX8_176 oX4_has ⟨Nat.le_of_ble_eq_true rfl, Nat.le_of_ble_eq_true rfl⟩ (by decide) rfl (shp_n (s74 g0) 0 rfl) (shp_t (s74 g0) 0 rfl) rfl (Nat.le_of_ble_eq_true rfl) (tX4_has n (q0 + 11) (s74 g0) y1 I z3 hz3) rfl ?_
    refine ev_if_eq (tgt := 155) dX8_deliverSome_19 (by decide) (fun c4 => ?_) (fun c4 => ?_)
    · have h := ev_ifT h c4
      refine ev_iload_n dX8_deliverSome_155 rfl ?_
      cases h
      exact er_i dX8_deliverSome_156 rfl rfl
    · have h := ev_ifF h c4
      refine ev_aload_n dX8_deliverSome_22 rfl (fun _ e => by cases e) ?_
      refine ew_getr0 dX8_deliverSome_23 fX8_27 g0 rfl rfl rfl rfl ?_
      refine ev_iload_n dX8_deliverSome_26 rfl ?_
      obtain ⟨z5, hz5, h⟩ := ev_bnE h
      refine ec_Vi (Y := mX4_take) (ci := 4) (As := [.int y1]) (rest := []) dX8_deliverSome_27 kX8_177 oX4_take ⟨Nat.le_of_ble_eq_true rfl, Nat.le_of_ble_eq_true rfl⟩ (by decide) rfl (shp_n (s74 g0) 0 rfl) (shp_t (s74 g0) 0 rfl) rfl (Nat.le_of_ble_eq_true rfl) (tX4_take n (q0 + 11) (s74 g0) y1 I z5 hz5) rfl ?_
      refine ew_ist (L' := [some (.ref q0), some (.int y1), some (.int y2), some (.int y3), some (.int y4), some (.int z5.1), none, none]) dX8_deliverSome_30 (Nat.le_of_ble_eq_true rfl) rfl ?_
      refine ev_iload dX8_deliverSome_32 rfl ?_
      obtain ⟨z6, hz6, h⟩ := ev_bnE h
      refine ec_Si (Y := mX4_targetOf) (As := [.int z5.1]) (rest := []) dX8_deliverSome_34 kX8_180 oX4_targetOf ⟨Nat.le_of_ble_eq_true rfl, Nat.le_of_ble_eq_true rfl⟩ rfl (Nat.le_of_ble_eq_true rfl) (tX4_targetOf n   z5.1 z5.2 z6 hz6) rfl ?_
      refine ew_ist (L' := [some (.ref q0), some (.int y1), some (.int y2), some (.int y3), some (.int y4), some (.int z5.1), some (.int z6), none]) dX8_deliverSome_37 (Nat.le_of_ble_eq_true rfl) rfl ?_
      refine ev_iload dX8_deliverSome_39 rfl ?_
      obtain ⟨z7, hz7, h⟩ := ev_bnE h
      refine ec_Si (Y := mX4_subjectOf) (As := [.int z5.1]) (rest := []) dX8_deliverSome_41 kX8_183 oX4_subjectOf ⟨Nat.le_of_ble_eq_true rfl, Nat.le_of_ble_eq_true rfl⟩ rfl (Nat.le_of_ble_eq_true rfl) (tX4_subjectOf n   z5.1 z5.2 z7 hz7) rfl ?_
      refine ew_ist (L' := [some (.ref q0), some (.int y1), some (.int y2), some (.int y3), some (.int y4), some (.int z5.1), some (.int z6), some (.int z7)]) dX8_deliverSome_44 (Nat.le_of_ble_eq_true rfl) rfl ?_
      refine ev_aload_n dX8_deliverSome_46 rfl (fun _ e => by cases e) ?_
      refine ew_getr0 dX8_deliverSome_47 fX8_27 g0 rfl rfl rfl rfl ?_
      refine ev_dup dX8_deliverSome_50 ?_
      refine ew_get0 dX8_deliverSome_51 fX8_186 (s74 g0) rfl rfl rfl ?_
      refine ev_iconst (v := (1 : Int32)) dX8_deliverSome_54 (by decide) ?_
      refine ev_iadd dX8_deliverSome_55 ?_
      obtain ⟨I8, eI8, h⟩ := ev_ltE h
      refine ew_put0 dX8_deliverSome_56 fX8_186 (s74 g0) rfl rfl rfl rfl rfl rfl (ew_nh eI8 ?_)
      obtain ⟨v9, ev9, h⟩ := ev_ltE h
      refine ew_iinc (L' := [some (.ref q0), some (.int y1), some (.int y2), some (.int v9), some (.int y4), some (.int z5.1), some (.int z6), some (.int z7)]) dX8_deliverSome_59 (Nat.le_of_ble_eq_true rfl) rfl (by decide) ev9 rfl ?_
      refine ev_aload_n dX8_deliverSome_62 rfl (fun _ e => by cases e) ?_
      refine ev_iload dX8_deliverSome_63 rfl ?_
      obtain ⟨z10, hz10, h⟩ := ev_bnE h
      refine ec_Vi (Y := mX8_isAwake) (ci := 7) (As := [.int z6]) (rest := []) dX8_deliverSome_65 kX8_112 oX8_isAwake ⟨Nat.le_of_ble_eq_true rfl, Nat.le_of_ble_eq_true rfl⟩ (by decide) rfl (shp_n g0 0 rfl) (shp_t g0 0 rfl) rfl (Nat.le_of_ble_eq_true rfl) (tX8_isAwake n q0 g0 z6 I8 z10 hz10) rfl ?_
      refine ev_if_ne (tgt := 74) dX8_deliverSome_68 (by decide) (fun c11 => ?_) (fun c11 => ?_)
      · have h := ev_ifF h c11
        refine ev_iload dX8_deliverSome_74 rfl ?_
        obtain ⟨z12, hz12, h⟩ := ev_bnE h
        refine ec_Si (Y := mX4_kindOf) (As := [.int z5.1]) (rest := []) dX8_deliverSome_76 kX8_189 oX4_kindOf ⟨Nat.le_of_ble_eq_true rfl, Nat.le_of_ble_eq_true rfl⟩ rfl (Nat.le_of_ble_eq_true rfl) (tX4_kindOf n   z5.1 I8 z12 hz12) rfl ?_
        by_cases c13 : z12 = (1 : Int32)
        · have h := ev_ifT h c13
          refine ev_lookup (tgt := 104) dX8_deliverSome_79 (by decide) (by rw [c13]; decide) ?_
          refine ev_aload_n dX8_deliverSome_104 rfl (fun _ e => by cases e) ?_
          refine ev_iload dX8_deliverSome_105 rfl ?_
          refine ev_iload dX8_deliverSome_107 rfl ?_
          obtain ⟨z14, hz14, h⟩ := ev_bnE h
          refine ec_Vv (Y := mX8_takeBlock) (ci := 7) (As := [.int z6, .int z7]) (rest := []) dX8_deliverSome_109 kX8_192 oX8_takeBlock ⟨Nat.le_of_ble_eq_true rfl, Nat.le_of_ble_eq_true rfl⟩ (by decide) rfl (shp_n g0 0 rfl) (shp_t g0 0 rfl) rfl (Nat.le_of_ble_eq_true rfl) (tX8_takeBlock n q0 g0 z6 z7 I8 z14 hz14) rfl ?_
          refine ev_goto (tgt := 149) dX8_deliverSome_112 (by decide) ?_
          exact ev_weak (sb_s (sb_s (sb_s (sb_s (sb_s (sb_n (sb_n (sb_n sb_0)))))))) (tX8_deliverSome_149 q0 g0 K5 k5 n y1 y2 v9 y4 z14 _ h)
        have h := ev_ifF h c13
        by_cases c15 : z12 = (2 : Int32)
        · have h := ev_ifT h c15
          refine ev_lookup (tgt := 115) dX8_deliverSome_79 (by decide) (by rw [c15]; decide) ?_
          refine ev_aload_n dX8_deliverSome_115 rfl (fun _ e => by cases e) ?_
          refine ev_iload dX8_deliverSome_116 rfl ?_
          refine ev_iload dX8_deliverSome_118 rfl ?_
          obtain ⟨z16, hz16, h⟩ := ev_bnE h
          refine ec_Si (Y := mX4_senderOf) (As := [.int z5.1]) (rest := [(.int z6), (.ref q0)]) dX8_deliverSome_120 kX8_195 oX4_senderOf ⟨Nat.le_of_ble_eq_true rfl, Nat.le_of_ble_eq_true rfl⟩ rfl (Nat.le_of_ble_eq_true rfl) (tX4_senderOf n   z5.1 I8 z16 hz16) rfl ?_
          refine ev_iload dX8_deliverSome_123 rfl ?_
          obtain ⟨z17, hz17, h⟩ := ev_bnE h
          refine ec_Vv (Y := mX8_takeMark) (ci := 7) (As := [.int z6, .int z16, .int z7]) (rest := []) dX8_deliverSome_125 kX8_198 oX8_takeMark ⟨Nat.le_of_ble_eq_true rfl, Nat.le_of_ble_eq_true rfl⟩ (by decide) rfl (shp_n g0 0 rfl) (shp_t g0 0 rfl) rfl (Nat.le_of_ble_eq_true rfl) (tX8_takeMark n q0 g0 z6 z16 z7 I8 z17 hz17) rfl ?_
          refine ev_goto (tgt := 149) dX8_deliverSome_128 (by decide) ?_
          exact ev_weak (sb_s (sb_s (sb_s (sb_s (sb_s (sb_n (sb_n (sb_n sb_0)))))))) (tX8_deliverSome_149 q0 g0 K5 k5 n y1 y2 v9 y4 z17 _ h)
        have h := ev_ifF h c15
        refine ev_lookup (tgt := 131) dX8_deliverSome_79 (by decide) (by rw [sw_lk (by intro q hq; simp at hq; rcases hq with rfl | rfl <;> first | exact ⟨_, by decide, c13⟩ | exact ⟨_, by decide, c15⟩)]; decide) ?_
        refine ev_aload_n dX8_deliverSome_131 rfl (fun _ e => by cases e) ?_
        refine ev_iload dX8_deliverSome_132 rfl ?_
        refine ev_iload dX8_deliverSome_134 rfl ?_
        obtain ⟨z18, hz18, h⟩ := ev_bnE h
        refine ec_Si (Y := mX4_senderOf) (As := [.int z5.1]) (rest := [(.int z6), (.ref q0)]) dX8_deliverSome_136 kX8_195 oX4_senderOf ⟨Nat.le_of_ble_eq_true rfl, Nat.le_of_ble_eq_true rfl⟩ rfl (Nat.le_of_ble_eq_true rfl) (tX4_senderOf n   z5.1 I8 z18 hz18) rfl ?_
        refine ev_iload dX8_deliverSome_139 rfl ?_
        refine ev_iload dX8_deliverSome_141 rfl ?_
        obtain ⟨z19, hz19, h⟩ := ev_bnE h
        refine ec_Si (Y := mX4_highOf) (As := [.int z5.1]) (rest := [(.int z7), (.int z18), (.int z6), (.ref q0)]) dX8_deliverSome_143 kX8_202 oX4_highOf ⟨Nat.le_of_ble_eq_true rfl, Nat.le_of_ble_eq_true rfl⟩ rfl (Nat.le_of_ble_eq_true rfl) (tX4_highOf n   z5.1 I8 z19 hz19) rfl ?_
        obtain ⟨z20, hz20, h⟩ := ev_bnE h
        refine ec_Vv (Y := mX8_takeTimeout) (ci := 7) (As := [.int z6, .int z18, .int z7, .int z19]) (rest := []) dX8_deliverSome_146 kX8_205 oX8_takeTimeout ⟨Nat.le_of_ble_eq_true rfl, Nat.le_of_ble_eq_true rfl⟩ (by decide) rfl (shp_n g0 0 rfl) (shp_t g0 0 rfl) rfl (Nat.le_of_ble_eq_true rfl) (tX8_takeTimeout n q0 g0 z6 z18 z7 z19 I8 z20 hz20) rfl ?_
        exact ev_weak (sb_s (sb_s (sb_s (sb_s (sb_s (sb_n (sb_n (sb_n sb_0)))))))) (tX8_deliverSome_149 q0 g0 K5 k5 n y1 y2 v9 y4 z20 _ h)
      · have h := ev_ifT h c11
        refine ev_goto (tgt := 149) dX8_deliverSome_71 (by decide) ?_
        exact ev_weak (sb_s (sb_s (sb_s (sb_s (sb_s (sb_n (sb_n (sb_n sb_0)))))))) (tX8_deliverSome_149 q0 g0 K5 k5 n y1 y2 v9 y4 I8 _ h)
theorem tlX8_deliverSome_5 {E : ev_N} {σ : ev_H} (q0 : Nat) (g0 : shp tb7 σ q0) : ∀ (n : Nat) (y1 : Int32) (y2 : Int32) (y3 : Int32) (y4 : Int32) (I : ev_I) (o : Int32 × ev_I), lX8_deliverSome_5 q0 n y1 y2 y3 y4 I = some o → EV E mX8_deliverSome 5 [some (.ref q0), some (.int y1), some (.int y2), some (.int y3), some (.int y4), none, none, none] [] (h_w σ I) (Option.some (Value.int o.1), h_w σ o.2)
  | 0, _, _, _, _, _, _, h => by cases h
  | n + 1, y1, y2, y3, y4, I, o, h => tX8_deliverSome_5 q0 g0 (lX8_deliverSome_5 q0 n) (tlX8_deliverSome_5 q0 g0 n) n y1 y2 y3 y4 I o h
set_option maxRecDepth 100000 in
set_option maxHeartbeats 4000000 in
theorem tX8_deliverSome {E : ev_N} {σ : ev_H} (n : Nat) (q0 : Nat) (g0 : shp tb7 σ q0) (x1 : Int32) (x2 : Int32) (I : ev_I) (o : Int32 × ev_I) (h : pX8_deliverSome n q0 x1 x2 I = some o) : ev_T E mX8_deliverSome [.ref q0, .int x1, .int x2] (h_w σ I) (Option.some (Value.int o.1), h_w σ o.2) := by
  unfold pX8_deliverSome at h
  refine ev_met rfl rfl (Nat.le_of_ble_eq_true rfl) (ev_L0 (L' := [some (.ref q0), some (.int x1), some (.int x2), none, none, none, none, none]) rfl ?_)
  refine ev_iconst (v := (0 : Int32)) dX8_deliverSome_0 (by decide) ?_
  refine ew_istn (L' := [some (.ref q0), some (.int x1), some (.int x2), some (.int (0 : Int32)), none, none, none, none]) dX8_deliverSome_1 (Nat.le_of_ble_eq_true rfl) rfl ?_
  refine ev_iconst (v := (0 : Int32)) dX8_deliverSome_2 (by decide) ?_
  refine ew_ist (L' := [some (.ref q0), some (.int x1), some (.int x2), some (.int (0 : Int32)), some (.int (0 : Int32)), none, none, none]) dX8_deliverSome_3 (Nat.le_of_ble_eq_true rfl) rfl ?_
  exact ev_weak (sb_s (sb_s (sb_s (sb_s (sb_s (sb_n (sb_n (sb_n sb_0)))))))) (tlX8_deliverSome_5 q0 g0 n x1 x2 (0 : Int32) (0 : Int32) I _ h)
-- ChainVotes$World stormOf(II)I
def cX8_stormOf_67 (q0 : Nat) (K5 : Int32 → Int32 → Int32 → Int32 → ev_I → Option (Int32 × ev_I)) (n : Nat) (y1 : Int32) (y2 : Int32) (y3 : Int32) (y4 : Int32) (I : ev_I) : Option (Int32 × ev_I) :=
  ev_lt (y4 + (1 : Int32)) fun v1 =>
  K5 y1 y2 y3 v1 I
def cX8_stormOf_5 (q0 : Nat) (K5 : Int32 → Int32 → Int32 → Int32 → ev_I → Option (Int32 × ev_I)) (n : Nat) (y1 : Int32) (y2 : Int32) (y3 : Int32) (y4 : Int32) (I : ev_I) : Option (Int32 × ev_I) :=
  if y1 ≤ y4 then
    some (y3, I)
  else
    if (I (q0 + 11) 0) ≤ 0 then
      some (y3, I)
    else
      (pX8_draw n q0 (I (q0 + 11) 0) I).bind fun z4 =>
      (pX8_draw n q0 (10 : Int32) z4.2).bind fun z5 =>
      if y2 ≤ z5.1 then
        (pX8_deliverSome n q0 z4.1 (1 : Int32) z5.2).bind fun z7 =>
        ev_lt (y3 + z7.1) fun v8 =>
        cX8_stormOf_67 q0 K5 n y1 y2 v8 y4 z7.2
      else
        (pX4_take n (q0 + 11) z4.1 z5.2).bind fun z9 =>
        cX8_stormOf_67 q0 K5 n y1 y2 y3 y4 z9.2
def lX8_stormOf_5 (q0 : Nat) : Nat → Int32 → Int32 → Int32 → Int32 → ev_I → Option (Int32 × ev_I)
  | 0, _, _, _, _, _ => none
  | n + 1, y1, y2, y3, y4, I => cX8_stormOf_5 q0 (lX8_stormOf_5 q0 n) n y1 y2 y3 y4 I
def pX8_stormOf (n : Nat) (q0 : Nat) (x1 : Int32) (x2 : Int32) (I : ev_I) : Option (Int32 × ev_I) :=
  lX8_stormOf_5 q0 n x1 x2 (0 : Int32) (0 : Int32) I
set_option maxRecDepth 100000 in
set_option maxHeartbeats 4000000 in
theorem tX8_stormOf_67 {E : ev_N} {σ : ev_H} (q0 : Nat) (g0 : shp tb7 σ q0) (K5 : Int32 → Int32 → Int32 → Int32 → ev_I → Option (Int32 × ev_I)) (k5 : ∀ (y1 : Int32) (y2 : Int32) (y3 : Int32) (y4 : Int32) (I : ev_I) (o : Int32 × ev_I), K5 y1 y2 y3 y4 I = some o → EV E mX8_stormOf 5 [some (.ref q0), some (.int y1), some (.int y2), some (.int y3), some (.int y4), none] [] (h_w σ I) (Option.some (Value.int o.1), h_w σ o.2)) (n : Nat) (y1 : Int32) (y2 : Int32) (y3 : Int32) (y4 : Int32) (I : ev_I) (o : Int32 × ev_I) : cX8_stormOf_67 q0 K5 n y1 y2 y3 y4 I = some o → EV E mX8_stormOf 67 [some (.ref q0), some (.int y1), some (.int y2), some (.int y3), some (.int y4), none] [] (h_w σ I) (Option.some (Value.int o.1), h_w σ o.2) := by
  intro h
  unfold cX8_stormOf_67 at h
  obtain ⟨v1, ev1, h⟩ := ev_ltE h
  refine ew_iinc (L' := [some (.ref q0), some (.int y1), some (.int y2), some (.int y3), some (.int v1), none]) dX8_stormOf_67 (Nat.le_of_ble_eq_true rfl) rfl (by decide) ev1 rfl ?_
  refine ev_goto (tgt := 5) dX8_stormOf_70 (by decide) ?_
  exact ev_weak (sb_s (sb_s (sb_s (sb_s (sb_s (sb_n sb_0)))))) (k5 y1 y2 y3 v1 I _ h)
set_option maxRecDepth 100000 in
set_option maxHeartbeats 4000000 in
theorem tX8_stormOf_5 {E : ev_N} {σ : ev_H} (q0 : Nat) (g0 : shp tb7 σ q0) (K5 : Int32 → Int32 → Int32 → Int32 → ev_I → Option (Int32 × ev_I)) (k5 : ∀ (y1 : Int32) (y2 : Int32) (y3 : Int32) (y4 : Int32) (I : ev_I) (o : Int32 × ev_I), K5 y1 y2 y3 y4 I = some o → EV E mX8_stormOf 5 [some (.ref q0), some (.int y1), some (.int y2), some (.int y3), some (.int y4), none] [] (h_w σ I) (Option.some (Value.int o.1), h_w σ o.2)) (n : Nat) (y1 : Int32) (y2 : Int32) (y3 : Int32) (y4 : Int32) (I : ev_I) (o : Int32 × ev_I) : cX8_stormOf_5 q0 K5 n y1 y2 y3 y4 I = some o → EV E mX8_stormOf 5 [some (.ref q0), some (.int y1), some (.int y2), some (.int y3), some (.int y4), none] [] (h_w σ I) (Option.some (Value.int o.1), h_w σ o.2) := by
  intro h
  unfold cX8_stormOf_5 at h
  refine ev_iload dX8_stormOf_5 rfl ?_
  refine ev_iload_n dX8_stormOf_7 rfl ?_
  refine ev_icmp_ge (tgt := 73) dX8_stormOf_8 (by decide) (fun c2 => ?_) (fun c2 => ?_)
  · have h := ev_ifT h c2
    refine ev_iload_n dX8_stormOf_73 rfl ?_
    cases h
    exact er_i dX8_stormOf_74 rfl rfl
  · have h := ev_ifF h c2
    refine ev_aload_n dX8_stormOf_11 rfl (fun _ e => by cases e) ?_
    refine ew_getr0 dX8_stormOf_12 fX8_27 g0 rfl rfl rfl rfl ?_
    refine ew_get0 dX8_stormOf_15 fX8_77 (s74 g0) rfl rfl rfl ?_
    refine ev_if_le (tgt := 73) dX8_stormOf_18 (by decide) (fun c3 => ?_) (fun c3 => ?_)
    · have h := ev_ifT h c3
      refine ev_iload_n dX8_stormOf_73 rfl ?_
      cases h
      exact er_i dX8_stormOf_74 rfl rfl
    · have h := ev_ifF h c3
      refine ev_aload_n dX8_stormOf_21 rfl (fun _ e => by cases e) ?_
      refine ev_aload_n dX8_stormOf_22 rfl (fun _ e => by cases e) ?_
      refine ew_getr0 dX8_stormOf_23 fX8_27 g0 rfl rfl rfl rfl ?_
      refine ew_get0 dX8_stormOf_26 fX8_77 (s74 g0) rfl rfl rfl ?_
      obtain ⟨z4, hz4, h⟩ := ev_bnE h
      refine ec_Vi (Y := mX8_draw) (ci := 7) (As := [.int (I (q0 + 11) 0)]) (rest := []) dX8_stormOf_29 kX8_298 oX8_draw ⟨Nat.le_of_ble_eq_true rfl, Nat.le_of_ble_eq_true rfl⟩ (by decide) rfl (shp_n g0 0 rfl) (shp_t g0 0 rfl) rfl (Nat.le_of_ble_eq_true rfl) (tX8_draw n q0 g0 (I (q0 + 11) 0) I z4 hz4) rfl ?_
      refine ew_ist (L' := [some (.ref q0), some (.int y1), some (.int y2), some (.int y3), some (.int y4), some (.int z4.1)]) dX8_stormOf_32 (Nat.le_of_ble_eq_true rfl) rfl ?_
      refine ev_aload_n dX8_stormOf_34 rfl (fun _ e => by cases e) ?_
      refine ev_bipush (v := (10 : Int32)) dX8_stormOf_35 (by decide) ?_
      obtain ⟨z5, hz5, h⟩ := ev_bnE h
      refine ec_Vi (Y := mX8_draw) (ci := 7) (As := [.int (10 : Int32)]) (rest := []) dX8_stormOf_37 kX8_298 oX8_draw ⟨Nat.le_of_ble_eq_true rfl, Nat.le_of_ble_eq_true rfl⟩ (by decide) rfl (shp_n g0 0 rfl) (shp_t g0 0 rfl) rfl (Nat.le_of_ble_eq_true rfl) (tX8_draw n q0 g0 (10 : Int32) z4.2 z5 hz5) rfl ?_
      refine ev_iload_n dX8_stormOf_40 rfl ?_
      refine ev_icmp_ge (tgt := 57) dX8_stormOf_41 (by decide) (fun c6 => ?_) (fun c6 => ?_)
      · have h := ev_ifT h c6
        refine ev_iload_n dX8_stormOf_57 rfl ?_
        refine ev_aload_n dX8_stormOf_58 rfl (fun _ e => by cases e) ?_
        refine ev_iload dX8_stormOf_59 rfl ?_
        refine ev_iconst (v := (1 : Int32)) dX8_stormOf_61 (by decide) ?_
        obtain ⟨z7, hz7, h⟩ := ev_bnE h
        refine ec_Vi (Y := mX8_deliverSome) (ci := 7) (As := [.int z4.1, .int (1 : Int32)]) (rest := [(.int y3)]) dX8_stormOf_62 kX8_301 oX8_deliverSome ⟨Nat.le_of_ble_eq_true rfl, Nat.le_of_ble_eq_true rfl⟩ (by decide) rfl (shp_n g0 0 rfl) (shp_t g0 0 rfl) rfl (Nat.le_of_ble_eq_true rfl) (tX8_deliverSome n q0 g0 z4.1 (1 : Int32) z5.2 z7 hz7) rfl ?_
        refine ev_iadd dX8_stormOf_65 ?_
        obtain ⟨v8, ev8, h⟩ := ev_ltE h
        refine ew_nm ev8 ?_
        refine ew_istn (L' := [some (.ref q0), some (.int y1), some (.int y2), some (.int v8), some (.int y4), some (.int z4.1)]) dX8_stormOf_66 (Nat.le_of_ble_eq_true rfl) rfl ?_
        exact ev_weak (sb_s (sb_s (sb_s (sb_s (sb_s (sb_n sb_0)))))) (tX8_stormOf_67 q0 g0 K5 k5 n y1 y2 v8 y4 z7.2 _ h)
      · have h := ev_ifF h c6
        refine ev_aload_n dX8_stormOf_44 rfl (fun _ e => by cases e) ?_
        refine ew_getr0 dX8_stormOf_45 fX8_27 g0 rfl rfl rfl rfl ?_
        refine ev_iload dX8_stormOf_48 rfl ?_
        obtain ⟨z9, hz9, h⟩ := ev_bnE h
        refine ec_Vi (Y := mX4_take) (ci := 4) (As := [.int z4.1]) (rest := []) dX8_stormOf_50 kX8_177 oX4_take ⟨Nat.le_of_ble_eq_true rfl, Nat.le_of_ble_eq_true rfl⟩ (by decide) rfl (shp_n (s74 g0) 0 rfl) (shp_t (s74 g0) 0 rfl) rfl (Nat.le_of_ble_eq_true rfl) (tX4_take n (q0 + 11) (s74 g0) z4.1 z5.2 z9 hz9) rfl ?_
        refine ev_pop dX8_stormOf_53 ?_
        refine ev_goto (tgt := 67) dX8_stormOf_54 (by decide) ?_
        exact ev_weak (sb_s (sb_s (sb_s (sb_s (sb_s (sb_n sb_0)))))) (tX8_stormOf_67 q0 g0 K5 k5 n y1 y2 y3 y4 z9.2 _ h)
theorem tlX8_stormOf_5 {E : ev_N} {σ : ev_H} (q0 : Nat) (g0 : shp tb7 σ q0) : ∀ (n : Nat) (y1 : Int32) (y2 : Int32) (y3 : Int32) (y4 : Int32) (I : ev_I) (o : Int32 × ev_I), lX8_stormOf_5 q0 n y1 y2 y3 y4 I = some o → EV E mX8_stormOf 5 [some (.ref q0), some (.int y1), some (.int y2), some (.int y3), some (.int y4), none] [] (h_w σ I) (Option.some (Value.int o.1), h_w σ o.2)
  | 0, _, _, _, _, _, _, h => by cases h
  | n + 1, y1, y2, y3, y4, I, o, h => tX8_stormOf_5 q0 g0 (lX8_stormOf_5 q0 n) (tlX8_stormOf_5 q0 g0 n) n y1 y2 y3 y4 I o h
set_option maxRecDepth 100000 in
set_option maxHeartbeats 4000000 in
theorem tX8_stormOf {E : ev_N} {σ : ev_H} (n : Nat) (q0 : Nat) (g0 : shp tb7 σ q0) (x1 : Int32) (x2 : Int32) (I : ev_I) (o : Int32 × ev_I) (h : pX8_stormOf n q0 x1 x2 I = some o) : ev_T E mX8_stormOf [.ref q0, .int x1, .int x2] (h_w σ I) (Option.some (Value.int o.1), h_w σ o.2) := by
  unfold pX8_stormOf at h
  refine ev_met rfl rfl (Nat.le_of_ble_eq_true rfl) (ev_L0 (L' := [some (.ref q0), some (.int x1), some (.int x2), none, none, none]) rfl ?_)
  refine ev_iconst (v := (0 : Int32)) dX8_stormOf_0 (by decide) ?_
  refine ew_istn (L' := [some (.ref q0), some (.int x1), some (.int x2), some (.int (0 : Int32)), none, none]) dX8_stormOf_1 (Nat.le_of_ble_eq_true rfl) rfl ?_
  refine ev_iconst (v := (0 : Int32)) dX8_stormOf_2 (by decide) ?_
  refine ew_ist (L' := [some (.ref q0), some (.int x1), some (.int x2), some (.int (0 : Int32)), some (.int (0 : Int32)), none]) dX8_stormOf_3 (Nat.le_of_ble_eq_true rfl) rfl ?_
  exact ev_weak (sb_s (sb_s (sb_s (sb_s (sb_s (sb_n sb_0)))))) (tlX8_stormOf_5 q0 g0 n x1 x2 (0 : Int32) (0 : Int32) I _ h)
-- ChainVotes$World calmRounds(I)I
def cX8_calmRounds_7 (q0 : Nat) (K7 : Int32 → Int32 → Int32 → ev_I → Option (Int32 × ev_I)) (n : Nat) (y1 : Int32) (y2 : Int32) (y3 : Int32) (I : ev_I) : Option (Int32 × ev_I) :=
  if y1 ≤ y3 then
    (pX8_deliverSome n q0 (0 : Int32) (1000000 : Int32) I).bind fun z2 =>
    (pX8_loggedByAll n q0  z2.2).bind fun z3 =>
    some ((z3 - y2), z2.2)
  else
    (pX8_deliverSome n q0 (0 : Int32) (1000000 : Int32) I).bind fun z4 =>
    (pX8_goOn n q0 y3 z4.2).bind fun z5 =>
    ev_lt (y3 + (1 : Int32)) fun v6 =>
    K7 y1 y2 v6 z5
def lX8_calmRounds_7 (q0 : Nat) : Nat → Int32 → Int32 → Int32 → ev_I → Option (Int32 × ev_I)
  | 0, _, _, _, _ => none
  | n + 1, y1, y2, y3, I => cX8_calmRounds_7 q0 (lX8_calmRounds_7 q0 n) n y1 y2 y3 I
def pX8_calmRounds (n : Nat) (q0 : Nat) (x1 : Int32) (I : ev_I) : Option (Int32 × ev_I) :=
  (pX8_loggedByAll n q0  I).bind fun z7 =>
  lX8_calmRounds_7 q0 n x1 z7 (0 : Int32) I
set_option maxRecDepth 100000 in
set_option maxHeartbeats 4000000 in
theorem tX8_calmRounds_7 {E : ev_N} {σ : ev_H} (q0 : Nat) (g0 : shp tb7 σ q0) (K7 : Int32 → Int32 → Int32 → ev_I → Option (Int32 × ev_I)) (k7 : ∀ (y1 : Int32) (y2 : Int32) (y3 : Int32) (I : ev_I) (o : Int32 × ev_I), K7 y1 y2 y3 I = some o → EV E mX8_calmRounds 7 [some (.ref q0), some (.int y1), some (.int y2), some (.int y3)] [] (h_w σ I) (Option.some (Value.int o.1), h_w σ o.2)) (n : Nat) (y1 : Int32) (y2 : Int32) (y3 : Int32) (I : ev_I) (o : Int32 × ev_I) : cX8_calmRounds_7 q0 K7 n y1 y2 y3 I = some o → EV E mX8_calmRounds 7 [some (.ref q0), some (.int y1), some (.int y2), some (.int y3)] [] (h_w σ I) (Option.some (Value.int o.1), h_w σ o.2) := by
  intro h
  unfold cX8_calmRounds_7 at h
  refine ev_iload_n dX8_calmRounds_7 rfl ?_
  refine ev_iload_n dX8_calmRounds_8 rfl ?_
  refine ev_icmp_ge (tgt := 32) dX8_calmRounds_9 (by decide) (fun c1 => ?_) (fun c1 => ?_)
  · have h := ev_ifT h c1
    refine ev_aload_n dX8_calmRounds_32 rfl (fun _ e => by cases e) ?_
    refine ev_iconst (v := (0 : Int32)) dX8_calmRounds_33 (by decide) ?_
    refine ev_ldcw (v := (1000000 : Int32)) dX8_calmRounds_34 vX8_307 ?_
    obtain ⟨z2, hz2, h⟩ := ev_bnE h
    refine ec_Vi (Y := mX8_deliverSome) (ci := 7) (As := [.int (0 : Int32), .int (1000000 : Int32)]) (rest := []) dX8_calmRounds_37 kX8_301 oX8_deliverSome ⟨Nat.le_of_ble_eq_true rfl, Nat.le_of_ble_eq_true rfl⟩ (by decide) rfl (shp_n g0 0 rfl) (shp_t g0 0 rfl) rfl (Nat.le_of_ble_eq_true rfl) (tX8_deliverSome n q0 g0 (0 : Int32) (1000000 : Int32) I z2 hz2) rfl ?_
    refine ev_pop dX8_calmRounds_40 ?_
    refine ev_aload_n dX8_calmRounds_41 rfl (fun _ e => by cases e) ?_
    obtain ⟨z3, hz3, h⟩ := ev_bnE h
    refine ec_Vi (Y := mX8_loggedByAll) (ci := 7) (As := []) (rest := []) dX8_calmRounds_42 kX8_304 oX8_loggedByAll ⟨Nat.le_of_ble_eq_true rfl, Nat.le_of_ble_eq_true rfl⟩ (by decide) rfl (shp_n g0 0 rfl) (shp_t g0 0 rfl) rfl (Nat.le_of_ble_eq_true rfl) (tX8_loggedByAll n q0 g0  z2.2 z3 hz3) rfl ?_
    refine ev_iload_n dX8_calmRounds_45 rfl ?_
    refine ev_isub dX8_calmRounds_46 ?_
    cases h
    exact er_i dX8_calmRounds_47 rfl rfl
  · have h := ev_ifF h c1
    refine ev_aload_n dX8_calmRounds_12 rfl (fun _ e => by cases e) ?_
    refine ev_iconst (v := (0 : Int32)) dX8_calmRounds_13 (by decide) ?_
    refine ev_ldcw (v := (1000000 : Int32)) dX8_calmRounds_14 vX8_307 ?_
    obtain ⟨z4, hz4, h⟩ := ev_bnE h
    refine ec_Vi (Y := mX8_deliverSome) (ci := 7) (As := [.int (0 : Int32), .int (1000000 : Int32)]) (rest := []) dX8_calmRounds_17 kX8_301 oX8_deliverSome ⟨Nat.le_of_ble_eq_true rfl, Nat.le_of_ble_eq_true rfl⟩ (by decide) rfl (shp_n g0 0 rfl) (shp_t g0 0 rfl) rfl (Nat.le_of_ble_eq_true rfl) (tX8_deliverSome n q0 g0 (0 : Int32) (1000000 : Int32) I z4 hz4) rfl ?_
    refine ev_pop dX8_calmRounds_20 ?_
    refine ev_aload_n dX8_calmRounds_21 rfl (fun _ e => by cases e) ?_
    refine ev_iload_n dX8_calmRounds_22 rfl ?_
    obtain ⟨z5, hz5, h⟩ := ev_bnE h
    refine ec_Vv (Y := mX8_goOn) (ci := 7) (As := [.int y3]) (rest := []) dX8_calmRounds_23 kX8_308 oX8_goOn ⟨Nat.le_of_ble_eq_true rfl, Nat.le_of_ble_eq_true rfl⟩ (by decide) rfl (shp_n g0 0 rfl) (shp_t g0 0 rfl) rfl (Nat.le_of_ble_eq_true rfl) (tX8_goOn n q0 g0 y3 z4.2 z5 hz5) rfl ?_
    obtain ⟨v6, ev6, h⟩ := ev_ltE h
    refine ew_iinc (L' := [some (.ref q0), some (.int y1), some (.int y2), some (.int v6)]) dX8_calmRounds_26 (Nat.le_of_ble_eq_true rfl) rfl (by decide) ev6 rfl ?_
    refine ev_goto (tgt := 7) dX8_calmRounds_29 (by decide) ?_
    exact ev_weak (sb_s (sb_s (sb_s (sb_s sb_0)))) (k7 y1 y2 v6 z5 _ h)
theorem tlX8_calmRounds_7 {E : ev_N} {σ : ev_H} (q0 : Nat) (g0 : shp tb7 σ q0) : ∀ (n : Nat) (y1 : Int32) (y2 : Int32) (y3 : Int32) (I : ev_I) (o : Int32 × ev_I), lX8_calmRounds_7 q0 n y1 y2 y3 I = some o → EV E mX8_calmRounds 7 [some (.ref q0), some (.int y1), some (.int y2), some (.int y3)] [] (h_w σ I) (Option.some (Value.int o.1), h_w σ o.2)
  | 0, _, _, _, _, _, h => by cases h
  | n + 1, y1, y2, y3, I, o, h => tX8_calmRounds_7 q0 g0 (lX8_calmRounds_7 q0 n) (tlX8_calmRounds_7 q0 g0 n) n y1 y2 y3 I o h
set_option maxRecDepth 100000 in
set_option maxHeartbeats 4000000 in
theorem tX8_calmRounds {E : ev_N} {σ : ev_H} (n : Nat) (q0 : Nat) (g0 : shp tb7 σ q0) (x1 : Int32) (I : ev_I) (o : Int32 × ev_I) (h : pX8_calmRounds n q0 x1 I = some o) : ev_T E mX8_calmRounds [.ref q0, .int x1] (h_w σ I) (Option.some (Value.int o.1), h_w σ o.2) := by
  unfold pX8_calmRounds at h
  refine ev_met rfl rfl (Nat.le_of_ble_eq_true rfl) (ev_L0 (L' := [some (.ref q0), some (.int x1), none, none]) rfl ?_)
  refine ev_aload_n dX8_calmRounds_0 rfl (fun _ e => by cases e) ?_
  obtain ⟨z7, hz7, h⟩ := ev_bnE h
  refine ec_Vi (Y := mX8_loggedByAll) (ci := 7) (As := []) (rest := []) dX8_calmRounds_1 kX8_304 oX8_loggedByAll ⟨Nat.le_of_ble_eq_true rfl, Nat.le_of_ble_eq_true rfl⟩ (by decide) rfl (shp_n g0 0 rfl) (shp_t g0 0 rfl) rfl (Nat.le_of_ble_eq_true rfl) (tX8_loggedByAll n q0 g0  I z7 hz7) rfl ?_
  refine ew_istn (L' := [some (.ref q0), some (.int x1), some (.int z7), none]) dX8_calmRounds_4 (Nat.le_of_ble_eq_true rfl) rfl ?_
  refine ev_iconst (v := (0 : Int32)) dX8_calmRounds_5 (by decide) ?_
  refine ew_istn (L' := [some (.ref q0), some (.int x1), some (.int z7), some (.int (0 : Int32))]) dX8_calmRounds_6 (Nat.le_of_ble_eq_true rfl) rfl ?_
  exact ev_weak (sb_s (sb_s (sb_s (sb_s sb_0)))) (tlX8_calmRounds_7 q0 g0 n x1 z7 (0 : Int32) I _ h)
-- ChainVotes$World roundsTillMore()I
def cX8_roundsTillMore_16 (q0 : Nat) (K16 : Int32 → Int32 → ev_I → Option (Int32 × ev_I)) (n : Nat) (y1 : Int32) (y2 : Int32) (I : ev_I) : Option (Int32 × ev_I) :=
  if (20 : Int32) ≤ y2 then
    some ((-1 : Int32), I)
  else
    (pX8_goOn n q0 y2 I).bind fun z2 =>
    (pX8_deliverSome n q0 (0 : Int32) (1000000 : Int32) z2).bind fun z3 =>
    (pX8_loggedByHonest n q0  z3.2).bind fun z4 =>
    if z4 ≤ y1 then
      ev_lt (y2 + (1 : Int32)) fun v6 =>
      K16 y1 v6 z3.2
    else
      some ((y2 + (1 : Int32)), z3.2)
def lX8_roundsTillMore_16 (q0 : Nat) : Nat → Int32 → Int32 → ev_I → Option (Int32 × ev_I)
  | 0, _, _, _ => none
  | n + 1, y1, y2, I => cX8_roundsTillMore_16 q0 (lX8_roundsTillMore_16 q0 n) n y1 y2 I
def pX8_roundsTillMore (n : Nat) (q0 : Nat) (I : ev_I) : Option (Int32 × ev_I) :=
  (pX8_loggedByHonest n q0  I).bind fun z7 =>
  (pX8_deliverSome n q0 (0 : Int32) (1000000 : Int32) I).bind fun z8 =>
  lX8_roundsTillMore_16 q0 n z7 (0 : Int32) z8.2
set_option maxRecDepth 100000 in
set_option maxHeartbeats 4000000 in
theorem tX8_roundsTillMore_16 {E : ev_N} {σ : ev_H} (q0 : Nat) (g0 : shp tb7 σ q0) (K16 : Int32 → Int32 → ev_I → Option (Int32 × ev_I)) (k16 : ∀ (y1 : Int32) (y2 : Int32) (I : ev_I) (o : Int32 × ev_I), K16 y1 y2 I = some o → EV E mX8_roundsTillMore 16 [some (.ref q0), some (.int y1), some (.int y2)] [] (h_w σ I) (Option.some (Value.int o.1), h_w σ o.2)) (n : Nat) (y1 : Int32) (y2 : Int32) (I : ev_I) (o : Int32 × ev_I) : cX8_roundsTillMore_16 q0 K16 n y1 y2 I = some o → EV E mX8_roundsTillMore 16 [some (.ref q0), some (.int y1), some (.int y2)] [] (h_w σ I) (Option.some (Value.int o.1), h_w σ o.2) := by
  intro h
  unfold cX8_roundsTillMore_16 at h
  refine ev_iload_n dX8_roundsTillMore_16 rfl ?_
  refine ev_bipush (v := (20 : Int32)) dX8_roundsTillMore_17 (by decide) ?_
  refine ev_icmp_ge (tgt := 54) dX8_roundsTillMore_19 (by decide) (fun c1 => ?_) (fun c1 => ?_)
  · have h := ev_ifT h c1
    refine ev_iconst (v := (-1 : Int32)) dX8_roundsTillMore_54 (by decide) ?_
    cases h
    exact er_i dX8_roundsTillMore_55 rfl rfl
  · have h := ev_ifF h c1
    refine ev_aload_n dX8_roundsTillMore_22 rfl (fun _ e => by cases e) ?_
    refine ev_iload_n dX8_roundsTillMore_23 rfl ?_
    obtain ⟨z2, hz2, h⟩ := ev_bnE h
    refine ec_Vv (Y := mX8_goOn) (ci := 7) (As := [.int y2]) (rest := []) dX8_roundsTillMore_24 kX8_308 oX8_goOn ⟨Nat.le_of_ble_eq_true rfl, Nat.le_of_ble_eq_true rfl⟩ (by decide) rfl (shp_n g0 0 rfl) (shp_t g0 0 rfl) rfl (Nat.le_of_ble_eq_true rfl) (tX8_goOn n q0 g0 y2 I z2 hz2) rfl ?_
    refine ev_aload_n dX8_roundsTillMore_27 rfl (fun _ e => by cases e) ?_
    refine ev_iconst (v := (0 : Int32)) dX8_roundsTillMore_28 (by decide) ?_
    refine ev_ldcw (v := (1000000 : Int32)) dX8_roundsTillMore_29 vX8_307 ?_
    obtain ⟨z3, hz3, h⟩ := ev_bnE h
    refine ec_Vi (Y := mX8_deliverSome) (ci := 7) (As := [.int (0 : Int32), .int (1000000 : Int32)]) (rest := []) dX8_roundsTillMore_32 kX8_301 oX8_deliverSome ⟨Nat.le_of_ble_eq_true rfl, Nat.le_of_ble_eq_true rfl⟩ (by decide) rfl (shp_n g0 0 rfl) (shp_t g0 0 rfl) rfl (Nat.le_of_ble_eq_true rfl) (tX8_deliverSome n q0 g0 (0 : Int32) (1000000 : Int32) z2 z3 hz3) rfl ?_
    refine ev_pop dX8_roundsTillMore_35 ?_
    refine ev_aload_n dX8_roundsTillMore_36 rfl (fun _ e => by cases e) ?_
    obtain ⟨z4, hz4, h⟩ := ev_bnE h
    refine ec_Vi (Y := mX8_loggedByHonest) (ci := 7) (As := []) (rest := []) dX8_roundsTillMore_37 kX8_317 oX8_loggedByHonest ⟨Nat.le_of_ble_eq_true rfl, Nat.le_of_ble_eq_true rfl⟩ (by decide) rfl (shp_n g0 0 rfl) (shp_t g0 0 rfl) rfl (Nat.le_of_ble_eq_true rfl) (tX8_loggedByHonest n q0 g0  z3.2 z4 hz4) rfl ?_
    refine ev_iload_n dX8_roundsTillMore_40 rfl ?_
    refine ev_icmp_le (tgt := 48) dX8_roundsTillMore_41 (by decide) (fun c5 => ?_) (fun c5 => ?_)
    · have h := ev_ifT h c5
      obtain ⟨v6, ev6, h⟩ := ev_ltE h
      refine ew_iinc (L' := [some (.ref q0), some (.int y1), some (.int v6)]) dX8_roundsTillMore_48 (Nat.le_of_ble_eq_true rfl) rfl (by decide) ev6 rfl ?_
      refine ev_goto (tgt := 16) dX8_roundsTillMore_51 (by decide) ?_
      exact ev_weak (sb_s (sb_s (sb_s sb_0))) (k16 y1 v6 z3.2 _ h)
    · have h := ev_ifF h c5
      refine ev_iload_n dX8_roundsTillMore_44 rfl ?_
      refine ev_iconst (v := (1 : Int32)) dX8_roundsTillMore_45 (by decide) ?_
      refine ev_iadd dX8_roundsTillMore_46 ?_
      cases h
      exact er_i dX8_roundsTillMore_47 rfl rfl
theorem tlX8_roundsTillMore_16 {E : ev_N} {σ : ev_H} (q0 : Nat) (g0 : shp tb7 σ q0) : ∀ (n : Nat) (y1 : Int32) (y2 : Int32) (I : ev_I) (o : Int32 × ev_I), lX8_roundsTillMore_16 q0 n y1 y2 I = some o → EV E mX8_roundsTillMore 16 [some (.ref q0), some (.int y1), some (.int y2)] [] (h_w σ I) (Option.some (Value.int o.1), h_w σ o.2)
  | 0, _, _, _, _, h => by cases h
  | n + 1, y1, y2, I, o, h => tX8_roundsTillMore_16 q0 g0 (lX8_roundsTillMore_16 q0 n) (tlX8_roundsTillMore_16 q0 g0 n) n y1 y2 I o h
set_option maxRecDepth 100000 in
set_option maxHeartbeats 4000000 in
theorem tX8_roundsTillMore {E : ev_N} {σ : ev_H} (n : Nat) (q0 : Nat) (g0 : shp tb7 σ q0) (I : ev_I) (o : Int32 × ev_I) (h : pX8_roundsTillMore n q0  I = some o) : ev_T E mX8_roundsTillMore [.ref q0] (h_w σ I) (Option.some (Value.int o.1), h_w σ o.2) := by
  unfold pX8_roundsTillMore at h
  refine ev_met rfl rfl (Nat.le_of_ble_eq_true rfl) (ev_L0 (L' := [some (.ref q0), none, none]) rfl ?_)
  refine ev_aload_n dX8_roundsTillMore_0 rfl (fun _ e => by cases e) ?_
  obtain ⟨z7, hz7, h⟩ := ev_bnE h
  refine ec_Vi (Y := mX8_loggedByHonest) (ci := 7) (As := []) (rest := []) dX8_roundsTillMore_1 kX8_317 oX8_loggedByHonest ⟨Nat.le_of_ble_eq_true rfl, Nat.le_of_ble_eq_true rfl⟩ (by decide) rfl (shp_n g0 0 rfl) (shp_t g0 0 rfl) rfl (Nat.le_of_ble_eq_true rfl) (tX8_loggedByHonest n q0 g0  I z7 hz7) rfl ?_
  refine ew_istn (L' := [some (.ref q0), some (.int z7), none]) dX8_roundsTillMore_4 (Nat.le_of_ble_eq_true rfl) rfl ?_
  refine ev_aload_n dX8_roundsTillMore_5 rfl (fun _ e => by cases e) ?_
  refine ev_iconst (v := (0 : Int32)) dX8_roundsTillMore_6 (by decide) ?_
  refine ev_ldcw (v := (1000000 : Int32)) dX8_roundsTillMore_7 vX8_307 ?_
  obtain ⟨z8, hz8, h⟩ := ev_bnE h
  refine ec_Vi (Y := mX8_deliverSome) (ci := 7) (As := [.int (0 : Int32), .int (1000000 : Int32)]) (rest := []) dX8_roundsTillMore_10 kX8_301 oX8_deliverSome ⟨Nat.le_of_ble_eq_true rfl, Nat.le_of_ble_eq_true rfl⟩ (by decide) rfl (shp_n g0 0 rfl) (shp_t g0 0 rfl) rfl (Nat.le_of_ble_eq_true rfl) (tX8_deliverSome n q0 g0 (0 : Int32) (1000000 : Int32) I z8 hz8) rfl ?_
  refine ev_pop dX8_roundsTillMore_13 ?_
  refine ev_iconst (v := (0 : Int32)) dX8_roundsTillMore_14 (by decide) ?_
  refine ew_istn (L' := [some (.ref q0), some (.int z7), some (.int (0 : Int32))]) dX8_roundsTillMore_15 (Nat.le_of_ble_eq_true rfl) rfl ?_
  exact ev_weak (sb_s (sb_s (sb_s sb_0))) (tlX8_roundsTillMore_16 q0 g0 n z7 (0 : Int32) z8.2 _ h)
-- ChainVotes$World runLine(I)Z
def pX8_runLine (n : Nat) (q0 : Nat) (x1 : Int32) (I : ev_I) : Option (Int32 × ev_I) :=
  ev_ck (ev_in x1 24) <|
  ev_lt (I ((q0 + 18) + 2) x1.toNatClampNeg) fun v2 =>
  ev_ck (ev_in x1 24) <|
  ev_lt (I ((q0 + 18) + 3) x1.toNatClampNeg) fun v4 =>
  ev_ck (ev_in x1 24) <|
  ev_lt (I ((q0 + 18) + 1) x1.toNatClampNeg) fun v6 =>
  if v6 = (1 : Int32) then
    (pX8_proposeBy n q0 v2 v4 I).bind fun z8 =>
    if z8.1 = (-1 : Int32) then
      some ((0 : Int32), z8.2)
    else
      some ((1 : Int32), z8.2)
  else
  if v6 = (2 : Int32) then
    (pX8_deliverSome n q0 (0 : Int32) v2 I).bind fun z11 =>
    if z11.1 ≤ 0 then
      some ((0 : Int32), z11.2)
    else
      some ((1 : Int32), z11.2)
  else
  if v6 = (3 : Int32) then
    (pX4_takeFirst n (q0 + 11) v2 I).bind fun z14 =>
    if z14.1 ≤ 0 then
      some ((0 : Int32), z14.2)
    else
      some ((1 : Int32), z14.2)
  else
  if v6 = (4 : Int32) then
    (pX8_hasNode n q0 v2 I).bind fun z17 =>
    if z17 = 0 then
      some ((0 : Int32), I)
    else
      (pX4_takeAllTo n (q0 + 11) v2 I).bind fun z19 =>
      if z19.1 < 0 then
        some ((0 : Int32), z19.2)
      else
        some ((1 : Int32), z19.2)
  else
  if v6 = (5 : Int32) then
    (pX4_turnFirst n (q0 + 11) v2 I).bind fun z22 =>
    ev_ck (ev_01 z22.1) <|
    some (z22.1, z22.2)
  else
  if v6 = (6 : Int32) then
    (pX8_timeOutBy n q0 v2 I).bind fun z25 =>
    ev_ck (ev_01 z25.1) <|
    some (z25.1, z25.2)
  else
  if v6 = (7 : Int32) then
    (pX8_calmRounds n q0 v2 I).bind fun z28 =>
    if z28.1 < 0 then
      some ((0 : Int32), z28.2)
    else
      some ((1 : Int32), z28.2)
  else
  if v6 = (8 : Int32) then
    some ((0 : Int32), I)
  else
  if v6 = (9 : Int32) then
    (pX8_lieBy n q0 v2 (0 : Int32) v4 (0 : Int32) (0 : Int32) I).bind fun z32 =>
    if z32.1 = (-1 : Int32) then
      some ((0 : Int32), z32.2)
    else
      some ((1 : Int32), z32.2)
  else
  if v6 = (10 : Int32) then
    ev_ck (ev_in x1 24) <|
    (pX8_lieBy n q0 v2 (1 : Int32) v4 (I ((q0 + 18) + 4) x1.toNatClampNeg) (0 : Int32) I).bind fun z36 =>
    if z36.1 = (-1 : Int32) then
      some ((0 : Int32), z36.2)
    else
      some ((1 : Int32), z36.2)
  else
  if v6 = (11 : Int32) then
    (pX8_lieBy n q0 v2 (2 : Int32) (0 : Int32) v4 (0 : Int32) I).bind fun z39 =>
    if z39.1 = (-1 : Int32) then
      some ((0 : Int32), z39.2)
    else
      some ((1 : Int32), z39.2)
  else
  some ((0 : Int32), I)
set_option maxRecDepth 100000 in
set_option maxHeartbeats 4000000 in
theorem tX8_runLine {E : ev_N} {σ : ev_H} (n : Nat) (q0 : Nat) (g0 : shp tb7 σ q0) (x1 : Int32) (I : ev_I) (o : Int32 × ev_I) (h : pX8_runLine n q0 x1 I = some o) : ev_T E mX8_runLine [.ref q0, .int x1] (h_w σ I) (Option.some (Value.int o.1), h_w σ o.2) := by
  unfold pX8_runLine at h
  refine ev_met rfl rfl (Nat.le_of_ble_eq_true rfl) (ev_L0 (L' := [some (.ref q0), some (.int x1), none, none]) rfl ?_)
  refine ev_aload_n dX8_runLine_0 rfl (fun _ e => by cases e) ?_
  refine ew_getr0 dX8_runLine_1 fX8_46 g0 rfl rfl rfl rfl ?_
  refine ew_getr0 dX8_runLine_4 fX8_320 (s75 g0) rfl rfl rfl rfl ?_
  refine ev_iload_n dX8_runLine_7 rfl ?_
  obtain ⟨c1, h⟩ := ev_ckE h
  refine ew_iald dX8_runLine_8 (shp_a (s75 g0) 2 rfl) c1 ?_
  obtain ⟨v2, ev2, h⟩ := ev_ltE h
  refine ew_nm ev2 ?_
  refine ew_istn (L' := [some (.ref q0), some (.int x1), some (.int v2), none]) dX8_runLine_9 (Nat.le_of_ble_eq_true rfl) rfl ?_
  refine ev_aload_n dX8_runLine_10 rfl (fun _ e => by cases e) ?_
  refine ew_getr0 dX8_runLine_11 fX8_46 g0 rfl rfl rfl rfl ?_
  refine ew_getr0 dX8_runLine_14 fX8_323 (s75 g0) rfl rfl rfl rfl ?_
  refine ev_iload_n dX8_runLine_17 rfl ?_
  obtain ⟨c3, h⟩ := ev_ckE h
  refine ew_iald dX8_runLine_18 (shp_a (s75 g0) 3 rfl) c3 ?_
  obtain ⟨v4, ev4, h⟩ := ev_ltE h
  refine ew_nm ev4 ?_
  refine ew_istn (L' := [some (.ref q0), some (.int x1), some (.int v2), some (.int v4)]) dX8_runLine_19 (Nat.le_of_ble_eq_true rfl) rfl ?_
  refine ev_aload_n dX8_runLine_20 rfl (fun _ e => by cases e) ?_
  refine ew_getr0 dX8_runLine_21 fX8_46 g0 rfl rfl rfl rfl ?_
  refine ew_getr0 dX8_runLine_24 fX8_326 (s75 g0) rfl rfl rfl rfl ?_
  refine ev_iload_n dX8_runLine_27 rfl ?_
  obtain ⟨c5, h⟩ := ev_ckE h
  refine ew_iald dX8_runLine_28 (shp_a (s75 g0) 1 rfl) c5 ?_
  obtain ⟨v6, ev6, h⟩ := ev_ltE h
  refine ew_nm ev6 ?_
  by_cases c7 : v6 = (1 : Int32)
  · have h := ev_ifT h c7
    refine ev_table (tgt := 88) dX8_runLine_29 (by rw [c7]; decide) (by decide) ?_
    refine ev_aload_n dX8_runLine_88 rfl (fun _ e => by cases e) ?_
    refine ev_iload_n dX8_runLine_89 rfl ?_
    refine ev_iload_n dX8_runLine_90 rfl ?_
    obtain ⟨z8, hz8, h⟩ := ev_bnE h
    refine ec_Vi (Y := mX8_proposeBy) (ci := 7) (As := [.int v2, .int v4]) (rest := []) dX8_runLine_91 kX8_311 oX8_proposeBy ⟨Nat.le_of_ble_eq_true rfl, Nat.le_of_ble_eq_true rfl⟩ (by decide) rfl (shp_n g0 0 rfl) (shp_t g0 0 rfl) rfl (Nat.le_of_ble_eq_true rfl) (tX8_proposeBy n q0 g0 v2 v4 I z8 hz8) rfl ?_
    refine ev_iconst (v := (-1 : Int32)) dX8_runLine_94 (by decide) ?_
    refine ev_icmp_eq (tgt := 102) dX8_runLine_95 (by decide) (fun c9 => ?_) (fun c9 => ?_)
    · have h := ev_ifT h c9
      refine ev_iconst (v := (0 : Int32)) dX8_runLine_102 (by decide) ?_
      cases h
      exact er_i dX8_runLine_103 rfl rfl
    · have h := ev_ifF h c9
      refine ev_iconst (v := (1 : Int32)) dX8_runLine_98 (by decide) ?_
      refine ev_goto (tgt := 103) dX8_runLine_99 (by decide) ?_
      cases h
      exact er_i dX8_runLine_103 rfl rfl
  have h := ev_ifF h c7
  by_cases c10 : v6 = (2 : Int32)
  · have h := ev_ifT h c10
    refine ev_table (tgt := 104) dX8_runLine_29 (by rw [c10]; decide) (by decide) ?_
    refine ev_aload_n dX8_runLine_104 rfl (fun _ e => by cases e) ?_
    refine ev_iconst (v := (0 : Int32)) dX8_runLine_105 (by decide) ?_
    refine ev_iload_n dX8_runLine_106 rfl ?_
    obtain ⟨z11, hz11, h⟩ := ev_bnE h
    refine ec_Vi (Y := mX8_deliverSome) (ci := 7) (As := [.int (0 : Int32), .int v2]) (rest := []) dX8_runLine_107 kX8_301 oX8_deliverSome ⟨Nat.le_of_ble_eq_true rfl, Nat.le_of_ble_eq_true rfl⟩ (by decide) rfl (shp_n g0 0 rfl) (shp_t g0 0 rfl) rfl (Nat.le_of_ble_eq_true rfl) (tX8_deliverSome n q0 g0 (0 : Int32) v2 I z11 hz11) rfl ?_
    refine ev_if_le (tgt := 117) dX8_runLine_110 (by decide) (fun c12 => ?_) (fun c12 => ?_)
    · have h := ev_ifT h c12
      refine ev_iconst (v := (0 : Int32)) dX8_runLine_117 (by decide) ?_
      cases h
      exact er_i dX8_runLine_118 rfl rfl
    · have h := ev_ifF h c12
      refine ev_iconst (v := (1 : Int32)) dX8_runLine_113 (by decide) ?_
      refine ev_goto (tgt := 118) dX8_runLine_114 (by decide) ?_
      cases h
      exact er_i dX8_runLine_118 rfl rfl
  have h := ev_ifF h c10
  by_cases c13 : v6 = (3 : Int32)
  · have h := ev_ifT h c13
    refine ev_table (tgt := 119) dX8_runLine_29 (by rw [c13]; decide) (by decide) ?_
    refine ev_aload_n dX8_runLine_119 rfl (fun _ e => by cases e) ?_
    refine ew_getr0 dX8_runLine_120 fX8_27 g0 rfl rfl rfl rfl ?_
    refine ev_iload_n dX8_runLine_123 rfl ?_
    obtain ⟨z14, hz14, h⟩ := ev_bnE h
    refine ec_Vi (Y := mX4_takeFirst) (ci := 4) (As := [.int v2]) (rest := []) dX8_runLine_124 kX8_329 oX4_takeFirst ⟨Nat.le_of_ble_eq_true rfl, Nat.le_of_ble_eq_true rfl⟩ (by decide) rfl (shp_n (s74 g0) 0 rfl) (shp_t (s74 g0) 0 rfl) rfl (Nat.le_of_ble_eq_true rfl) (tX4_takeFirst n (q0 + 11) (s74 g0) v2 I z14 hz14) rfl ?_
    refine ev_if_le (tgt := 134) dX8_runLine_127 (by decide) (fun c15 => ?_) (fun c15 => ?_)
    · have h := ev_ifT h c15
      refine ev_iconst (v := (0 : Int32)) dX8_runLine_134 (by decide) ?_
      cases h
      exact er_i dX8_runLine_135 rfl rfl
    · have h := ev_ifF h c15
      refine ev_iconst (v := (1 : Int32)) dX8_runLine_130 (by decide) ?_
      refine ev_goto (tgt := 135) dX8_runLine_131 (by decide) ?_
      cases h
      exact er_i dX8_runLine_135 rfl rfl
  have h := ev_ifF h c13
  by_cases c16 : v6 = (4 : Int32)
  · have h := ev_ifT h c16
    refine ev_table (tgt := 136) dX8_runLine_29 (by rw [c16]; decide) (by decide) ?_
    refine ev_aload_n dX8_runLine_136 rfl (fun _ e => by cases e) ?_
    refine ev_iload_n dX8_runLine_137 rfl ?_
    obtain ⟨z17, hz17, h⟩ := ev_bnE h
    refine ec_Vi (Y := mX8_hasNode) (ci := 7) (As := [.int v2]) (rest := []) dX8_runLine_138 kX8_88 oX8_hasNode ⟨Nat.le_of_ble_eq_true rfl, Nat.le_of_ble_eq_true rfl⟩ (by decide) rfl (shp_n g0 0 rfl) (shp_t g0 0 rfl) rfl (Nat.le_of_ble_eq_true rfl) (tX8_hasNode n q0 g0 v2 I z17 hz17) rfl ?_
    refine ev_if_eq (tgt := 159) dX8_runLine_141 (by decide) (fun c18 => ?_) (fun c18 => ?_)
    · have h := ev_ifT h c18
      refine ev_iconst (v := (0 : Int32)) dX8_runLine_159 (by decide) ?_
      cases h
      exact er_i dX8_runLine_160 rfl rfl
    · have h := ev_ifF h c18
      refine ev_aload_n dX8_runLine_144 rfl (fun _ e => by cases e) ?_
      refine ew_getr0 dX8_runLine_145 fX8_27 g0 rfl rfl rfl rfl ?_
      refine ev_iload_n dX8_runLine_148 rfl ?_
      obtain ⟨z19, hz19, h⟩ := ev_bnE h
      refine ec_Vi (Y := mX4_takeAllTo) (ci := 4) (As := [.int v2]) (rest := []) dX8_runLine_149 kX8_332 oX4_takeAllTo ⟨Nat.le_of_ble_eq_true rfl, Nat.le_of_ble_eq_true rfl⟩ (by decide) rfl (shp_n (s74 g0) 0 rfl) (shp_t (s74 g0) 0 rfl) rfl (Nat.le_of_ble_eq_true rfl) (tX4_takeAllTo n (q0 + 11) (s74 g0) v2 I z19 hz19) rfl ?_
      refine ev_if_lt (tgt := 159) dX8_runLine_152 (by decide) (fun c20 => ?_) (fun c20 => ?_)
      · have h := ev_ifT h c20
        refine ev_iconst (v := (0 : Int32)) dX8_runLine_159 (by decide) ?_
        cases h
        exact er_i dX8_runLine_160 rfl rfl
      · have h := ev_ifF h c20
        refine ev_iconst (v := (1 : Int32)) dX8_runLine_155 (by decide) ?_
        refine ev_goto (tgt := 160) dX8_runLine_156 (by decide) ?_
        cases h
        exact er_i dX8_runLine_160 rfl rfl
  have h := ev_ifF h c16
  by_cases c21 : v6 = (5 : Int32)
  · have h := ev_ifT h c21
    refine ev_table (tgt := 161) dX8_runLine_29 (by rw [c21]; decide) (by decide) ?_
    refine ev_aload_n dX8_runLine_161 rfl (fun _ e => by cases e) ?_
    refine ew_getr0 dX8_runLine_162 fX8_27 g0 rfl rfl rfl rfl ?_
    refine ev_iload_n dX8_runLine_165 rfl ?_
    obtain ⟨z22, hz22, h⟩ := ev_bnE h
    refine ec_Vi (Y := mX4_turnFirst) (ci := 4) (As := [.int v2]) (rest := []) dX8_runLine_166 kX8_335 oX4_turnFirst ⟨Nat.le_of_ble_eq_true rfl, Nat.le_of_ble_eq_true rfl⟩ (by decide) rfl (shp_n (s74 g0) 0 rfl) (shp_t (s74 g0) 0 rfl) rfl (Nat.le_of_ble_eq_true rfl) (tX4_turnFirst n (q0 + 11) (s74 g0) v2 I z22 hz22) rfl ?_
    obtain ⟨c23, h⟩ := ev_ckE h
    cases h
    exact er_i dX8_runLine_169 rfl (ev_01E c23).1
  have h := ev_ifF h c21
  by_cases c24 : v6 = (6 : Int32)
  · have h := ev_ifT h c24
    refine ev_table (tgt := 170) dX8_runLine_29 (by rw [c24]; decide) (by decide) ?_
    refine ev_aload_n dX8_runLine_170 rfl (fun _ e => by cases e) ?_
    refine ev_iload_n dX8_runLine_171 rfl ?_
    obtain ⟨z25, hz25, h⟩ := ev_bnE h
    refine ec_Vi (Y := mX8_timeOutBy) (ci := 7) (As := [.int v2]) (rest := []) dX8_runLine_172 kX8_314 oX8_timeOutBy ⟨Nat.le_of_ble_eq_true rfl, Nat.le_of_ble_eq_true rfl⟩ (by decide) rfl (shp_n g0 0 rfl) (shp_t g0 0 rfl) rfl (Nat.le_of_ble_eq_true rfl) (tX8_timeOutBy n q0 g0 v2 I z25 hz25) rfl ?_
    obtain ⟨c26, h⟩ := ev_ckE h
    cases h
    exact er_i dX8_runLine_175 rfl (ev_01E c26).1
  have h := ev_ifF h c24
  by_cases c27 : v6 = (7 : Int32)
  · have h := ev_ifT h c27
    refine ev_table (tgt := 176) dX8_runLine_29 (by rw [c27]; decide) (by decide) ?_
    refine ev_aload_n dX8_runLine_176 rfl (fun _ e => by cases e) ?_
    refine ev_iload_n dX8_runLine_177 rfl ?_
    obtain ⟨z28, hz28, h⟩ := ev_bnE h
    refine ec_Vi (Y := mX8_calmRounds) (ci := 7) (As := [.int v2]) (rest := []) dX8_runLine_178 kX8_338 oX8_calmRounds ⟨Nat.le_of_ble_eq_true rfl, Nat.le_of_ble_eq_true rfl⟩ (by decide) rfl (shp_n g0 0 rfl) (shp_t g0 0 rfl) rfl (Nat.le_of_ble_eq_true rfl) (tX8_calmRounds n q0 g0 v2 I z28 hz28) rfl ?_
    refine ev_if_lt (tgt := 188) dX8_runLine_181 (by decide) (fun c29 => ?_) (fun c29 => ?_)
    · have h := ev_ifT h c29
      refine ev_iconst (v := (0 : Int32)) dX8_runLine_188 (by decide) ?_
      cases h
      exact er_i dX8_runLine_189 rfl rfl
    · have h := ev_ifF h c29
      refine ev_iconst (v := (1 : Int32)) dX8_runLine_184 (by decide) ?_
      refine ev_goto (tgt := 189) dX8_runLine_185 (by decide) ?_
      cases h
      exact er_i dX8_runLine_189 rfl rfl
  have h := ev_ifF h c27
  by_cases c30 : v6 = (8 : Int32)
  · have h := ev_ifT h c30
    refine ev_table (tgt := 255) dX8_runLine_29 (by rw [c30]; decide) (by decide) ?_
    refine ev_iconst (v := (0 : Int32)) dX8_runLine_255 (by decide) ?_
    cases h
    exact er_i dX8_runLine_256 rfl rfl
  have h := ev_ifF h c30
  by_cases c31 : v6 = (9 : Int32)
  · have h := ev_ifT h c31
    refine ev_table (tgt := 190) dX8_runLine_29 (by rw [c31]; decide) (by decide) ?_
    refine ev_aload_n dX8_runLine_190 rfl (fun _ e => by cases e) ?_
    refine ev_iload_n dX8_runLine_191 rfl ?_
    refine ev_iconst (v := (0 : Int32)) dX8_runLine_192 (by decide) ?_
    refine ev_iload_n dX8_runLine_193 rfl ?_
    refine ev_iconst (v := (0 : Int32)) dX8_runLine_194 (by decide) ?_
    refine ev_iconst (v := (0 : Int32)) dX8_runLine_195 (by decide) ?_
    obtain ⟨z32, hz32, h⟩ := ev_bnE h
    refine ec_Vi (Y := mX8_lieBy) (ci := 7) (As := [.int v2, .int (0 : Int32), .int v4, .int (0 : Int32), .int (0 : Int32)]) (rest := []) dX8_runLine_196 kX8_341 oX8_lieBy ⟨Nat.le_of_ble_eq_true rfl, Nat.le_of_ble_eq_true rfl⟩ (by decide) rfl (shp_n g0 0 rfl) (shp_t g0 0 rfl) rfl (Nat.le_of_ble_eq_true rfl) (tX8_lieBy n q0 g0 v2 (0 : Int32) v4 (0 : Int32) (0 : Int32) I z32 hz32) rfl ?_
    refine ev_iconst (v := (-1 : Int32)) dX8_runLine_199 (by decide) ?_
    refine ev_icmp_eq (tgt := 207) dX8_runLine_200 (by decide) (fun c33 => ?_) (fun c33 => ?_)
    · have h := ev_ifT h c33
      refine ev_iconst (v := (0 : Int32)) dX8_runLine_207 (by decide) ?_
      cases h
      exact er_i dX8_runLine_208 rfl rfl
    · have h := ev_ifF h c33
      refine ev_iconst (v := (1 : Int32)) dX8_runLine_203 (by decide) ?_
      refine ev_goto (tgt := 208) dX8_runLine_204 (by decide) ?_
      cases h
      exact er_i dX8_runLine_208 rfl rfl
  have h := ev_ifF h c31
  by_cases c34 : v6 = (10 : Int32)
  · have h := ev_ifT h c34
    refine ev_table (tgt := 209) dX8_runLine_29 (by rw [c34]; decide) (by decide) ?_
    refine ev_aload_n dX8_runLine_209 rfl (fun _ e => by cases e) ?_
    refine ev_iload_n dX8_runLine_210 rfl ?_
    refine ev_iconst (v := (1 : Int32)) dX8_runLine_211 (by decide) ?_
    refine ev_iload_n dX8_runLine_212 rfl ?_
    refine ev_aload_n dX8_runLine_213 rfl (fun _ e => by cases e) ?_
    refine ew_getr0 dX8_runLine_214 fX8_46 g0 rfl rfl rfl rfl ?_
    refine ew_getr0 dX8_runLine_217 fX8_344 (s75 g0) rfl rfl rfl rfl ?_
    refine ev_iload_n dX8_runLine_220 rfl ?_
    obtain ⟨c35, h⟩ := ev_ckE h
    refine ew_iald dX8_runLine_221 (shp_a (s75 g0) 4 rfl) c35 ?_
    refine ev_iconst (v := (0 : Int32)) dX8_runLine_222 (by decide) ?_
    obtain ⟨z36, hz36, h⟩ := ev_bnE h
    refine ec_Vi (Y := mX8_lieBy) (ci := 7) (As := [.int v2, .int (1 : Int32), .int v4, .int (I ((q0 + 18) + 4) x1.toNatClampNeg), .int (0 : Int32)]) (rest := []) dX8_runLine_223 kX8_341 oX8_lieBy ⟨Nat.le_of_ble_eq_true rfl, Nat.le_of_ble_eq_true rfl⟩ (by decide) rfl (shp_n g0 0 rfl) (shp_t g0 0 rfl) rfl (Nat.le_of_ble_eq_true rfl) (tX8_lieBy n q0 g0 v2 (1 : Int32) v4 (I ((q0 + 18) + 4) x1.toNatClampNeg) (0 : Int32) I z36 hz36) rfl ?_
    refine ev_iconst (v := (-1 : Int32)) dX8_runLine_226 (by decide) ?_
    refine ev_icmp_eq (tgt := 234) dX8_runLine_227 (by decide) (fun c37 => ?_) (fun c37 => ?_)
    · have h := ev_ifT h c37
      refine ev_iconst (v := (0 : Int32)) dX8_runLine_234 (by decide) ?_
      cases h
      exact er_i dX8_runLine_235 rfl rfl
    · have h := ev_ifF h c37
      refine ev_iconst (v := (1 : Int32)) dX8_runLine_230 (by decide) ?_
      refine ev_goto (tgt := 235) dX8_runLine_231 (by decide) ?_
      cases h
      exact er_i dX8_runLine_235 rfl rfl
  have h := ev_ifF h c34
  by_cases c38 : v6 = (11 : Int32)
  · have h := ev_ifT h c38
    refine ev_table (tgt := 236) dX8_runLine_29 (by rw [c38]; decide) (by decide) ?_
    refine ev_aload_n dX8_runLine_236 rfl (fun _ e => by cases e) ?_
    refine ev_iload_n dX8_runLine_237 rfl ?_
    refine ev_iconst (v := (2 : Int32)) dX8_runLine_238 (by decide) ?_
    refine ev_iconst (v := (0 : Int32)) dX8_runLine_239 (by decide) ?_
    refine ev_iload_n dX8_runLine_240 rfl ?_
    refine ev_iconst (v := (0 : Int32)) dX8_runLine_241 (by decide) ?_
    obtain ⟨z39, hz39, h⟩ := ev_bnE h
    refine ec_Vi (Y := mX8_lieBy) (ci := 7) (As := [.int v2, .int (2 : Int32), .int (0 : Int32), .int v4, .int (0 : Int32)]) (rest := []) dX8_runLine_242 kX8_341 oX8_lieBy ⟨Nat.le_of_ble_eq_true rfl, Nat.le_of_ble_eq_true rfl⟩ (by decide) rfl (shp_n g0 0 rfl) (shp_t g0 0 rfl) rfl (Nat.le_of_ble_eq_true rfl) (tX8_lieBy n q0 g0 v2 (2 : Int32) (0 : Int32) v4 (0 : Int32) I z39 hz39) rfl ?_
    refine ev_iconst (v := (-1 : Int32)) dX8_runLine_245 (by decide) ?_
    refine ev_icmp_eq (tgt := 253) dX8_runLine_246 (by decide) (fun c40 => ?_) (fun c40 => ?_)
    · have h := ev_ifT h c40
      refine ev_iconst (v := (0 : Int32)) dX8_runLine_253 (by decide) ?_
      cases h
      exact er_i dX8_runLine_254 rfl rfl
    · have h := ev_ifF h c40
      refine ev_iconst (v := (1 : Int32)) dX8_runLine_249 (by decide) ?_
      refine ev_goto (tgt := 254) dX8_runLine_250 (by decide) ?_
      cases h
      exact er_i dX8_runLine_254 rfl rfl
  have h := ev_ifF h c38
  refine ev_table (tgt := 255) dX8_runLine_29 (by rw [if_pos (sw_out _ _ v6 (by intro i h1 h2; rcases (show i = 1 ∨ i = 2 ∨ i = 3 ∨ i = 4 ∨ i = 5 ∨ i = 6 ∨ i = 7 ∨ i = 8 ∨ i = 9 ∨ i = 10 ∨ i = 11 by omega) with rfl | rfl | rfl | rfl | rfl | rfl | rfl | rfl | rfl | rfl | rfl <;> first | exact ⟨_, by decide, c7⟩ | exact ⟨_, by decide, c10⟩ | exact ⟨_, by decide, c13⟩ | exact ⟨_, by decide, c16⟩ | exact ⟨_, by decide, c21⟩ | exact ⟨_, by decide, c24⟩ | exact ⟨_, by decide, c27⟩ | exact ⟨_, by decide, c30⟩ | exact ⟨_, by decide, c31⟩ | exact ⟨_, by decide, c34⟩ | exact ⟨_, by decide, c38⟩))]; rfl) (by decide) ?_
  refine ev_iconst (v := (0 : Int32)) dX8_runLine_255 (by decide) ?_
  cases h
  exact er_i dX8_runLine_256 rfl rfl
