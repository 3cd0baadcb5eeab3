-- ChainVotes$Blocks copyFrom(LChainVotes$Blocks;)V
def pX1_copyFrom (n : Nat) (q0 : Nat) (q1 : Nat) (I : ev_I) : Option (ev_I) :=
  ev_lt (ev_u2 I q0 0 (I q1 0)) fun I1 =>
  ev_lt (ev_u1 I1 (q0 + 1) (va_cpy (I1 (q1 + 1)) (I1 (q0 + 1)) (0 : Int32).toNatClampNeg (0 : Int32).toNatClampNeg (100 : Int32).toNatClampNeg)) fun I2 =>
  ev_lt (ev_u1 I2 (q0 + 2) (va_cpy (I2 (q1 + 2)) (I2 (q0 + 2)) (0 : Int32).toNatClampNeg (0 : Int32).toNatClampNeg (100 : Int32).toNatClampNeg)) fun I3 =>
  ev_lt (ev_u1 I3 (q0 + 3) (va_cpy (I3 (q1 + 3)) (I3 (q0 + 3)) (0 : Int32).toNatClampNeg (0 : Int32).toNatClampNeg (100 : Int32).toNatClampNeg)) fun I4 =>
  ev_lt (ev_u1 I4 (q0 + 4) (va_cpy (I4 (q1 + 4)) (I4 (q0 + 4)) (0 : Int32).toNatClampNeg (0 : Int32).toNatClampNeg (100 : Int32).toNatClampNeg)) fun I5 =>
  ev_lt (ev_u1 I5 (q0 + 5) (va_cpy (I5 (q1 + 5)) (I5 (q0 + 5)) (0 : Int32).toNatClampNeg (0 : Int32).toNatClampNeg (100 : Int32).toNatClampNeg)) fun I6 =>
  ev_lt (ev_u1 I6 (q0 + 6) (va_cpy (I6 (q1 + 6)) (I6 (q0 + 6)) (0 : Int32).toNatClampNeg (0 : Int32).toNatClampNeg (100 : Int32).toNatClampNeg)) fun I7 =>
  ev_lt (ev_u1 I7 (q0 + 7) (va_cpy (I7 (q1 + 7)) (I7 (q0 + 7)) (0 : Int32).toNatClampNeg (0 : Int32).toNatClampNeg (100 : Int32).toNatClampNeg)) fun I8 =>
  ev_lt (ev_u1 I8 (q0 + 8) (va_cpy (I8 (q1 + 8)) (I8 (q0 + 8)) (0 : Int32).toNatClampNeg (0 : Int32).toNatClampNeg (100 : Int32).toNatClampNeg)) fun I9 =>
  some I9
set_option maxRecDepth 100000 in
set_option maxHeartbeats 4000000 in
theorem tX1_copyFrom {E : ev_N} {σ : ev_H} (n : Nat) (q0 : Nat) (q1 : Nat) (g0 : shp tb1 σ q0) (g1 : shp tb1 σ q1) (I : ev_I) (o : ev_I) (h : pX1_copyFrom n q0 q1  I = some o) : ev_T E mX1_copyFrom [.ref q0, .ref q1] (h_w σ I) (Option.none, h_w σ o) := by
  unfold pX1_copyFrom at h
  refine ev_met rfl rfl (Nat.le_of_ble_eq_true rfl) (ev_L0 (L' := [some (.ref q0), some (.ref q1)]) rfl ?_)
  refine ev_aload_n dX1_copyFrom_0 rfl (fun _ e => by cases e) ?_
  refine ev_aload_n dX1_copyFrom_1 rfl (fun _ e => by cases e) ?_
  refine ew_get0 dX1_copyFrom_2 fX1_36 g1 rfl rfl rfl ?_
  obtain ⟨I1, eI1, h⟩ := ev_ltE h
  refine ew_put0 dX1_copyFrom_5 fX1_36 g0 rfl rfl rfl rfl rfl rfl (ew_nh eI1 ?_)
  refine ev_aload_n dX1_copyFrom_8 rfl (fun _ e => by cases e) ?_
  refine ew_getr0 dX1_copyFrom_9 fX1_9 g1 rfl rfl rfl rfl ?_
  refine ev_iconst (v := (0 : Int32)) dX1_copyFrom_12 (by decide) ?_
  refine ev_aload_n dX1_copyFrom_13 rfl (fun _ e => by cases e) ?_
  refine ew_getr0 dX1_copyFrom_14 fX1_9 g0 rfl rfl rfl rfl ?_
  refine ev_iconst (v := (0 : Int32)) dX1_copyFrom_17 (by decide) ?_
  refine ev_bipush (v := (100 : Int32)) dX1_copyFrom_18 (by decide) ?_
  obtain ⟨I2, eI2, h⟩ := ev_ltE h
  refine ew_copy dX1_copyFrom_20 kX1_40 zA.1 zA.2.1 zA.2.2 (shp_a g1 1 rfl) (shp_a g0 1 rfl) (by decide) (by decide) (by decide) (by decide) (by decide) (Nat.le_of_ble_eq_true rfl) (Nat.le_of_ble_eq_true rfl) (ew_nh eI2 ?_)
  refine ev_aload_n dX1_copyFrom_23 rfl (fun _ e => by cases e) ?_
  refine ew_getr0 dX1_copyFrom_24 fX1_15 g1 rfl rfl rfl rfl ?_
  refine ev_iconst (v := (0 : Int32)) dX1_copyFrom_27 (by decide) ?_
  refine ev_aload_n dX1_copyFrom_28 rfl (fun _ e => by cases e) ?_
  refine ew_getr0 dX1_copyFrom_29 fX1_15 g0 rfl rfl rfl rfl ?_
  refine ev_iconst (v := (0 : Int32)) dX1_copyFrom_32 (by decide) ?_
  refine ev_bipush (v := (100 : Int32)) dX1_copyFrom_33 (by decide) ?_
  obtain ⟨I3, eI3, h⟩ := ev_ltE h
  refine ew_copy dX1_copyFrom_35 kX1_40 zA.1 zA.2.1 zA.2.2 (shp_a g1 2 rfl) (shp_a g0 2 rfl) (by decide) (by decide) (by decide) (by decide) (by decide) (Nat.le_of_ble_eq_true rfl) (Nat.le_of_ble_eq_true rfl) (ew_nh eI3 ?_)
  refine ev_aload_n dX1_copyFrom_38 rfl (fun _ e => by cases e) ?_
  refine ew_getr0 dX1_copyFrom_39 fX1_18 g1 rfl rfl rfl rfl ?_
  refine ev_iconst (v := (0 : Int32)) dX1_copyFrom_42 (by decide) ?_
  refine ev_aload_n dX1_copyFrom_43 rfl (fun _ e => by cases e) ?_
  refine ew_getr0 dX1_copyFrom_44 fX1_18 g0 rfl rfl rfl rfl ?_
  refine ev_iconst (v := (0 : Int32)) dX1_copyFrom_47 (by decide) ?_
  refine ev_bipush (v := (100 : Int32)) dX1_copyFrom_48 (by decide) ?_
  obtain ⟨I4, eI4, h⟩ := ev_ltE h
  refine ew_copy dX1_copyFrom_50 kX1_40 zA.1 zA.2.1 zA.2.2 (shp_a g1 3 rfl) (shp_a g0 3 rfl) (by decide) (by decide) (by decide) (by decide) (by decide) (Nat.le_of_ble_eq_true rfl) (Nat.le_of_ble_eq_true rfl) (ew_nh eI4 ?_)
  refine ev_aload_n dX1_copyFrom_53 rfl (fun _ e => by cases e) ?_
  refine ew_getr0 dX1_copyFrom_54 fX1_21 g1 rfl rfl rfl rfl ?_
  refine ev_iconst (v := (0 : Int32)) dX1_copyFrom_57 (by decide) ?_
  refine ev_aload_n dX1_copyFrom_58 rfl (fun _ e => by cases e) ?_
  refine ew_getr0 dX1_copyFrom_59 fX1_21 g0 rfl rfl rfl rfl ?_
  refine ev_iconst (v := (0 : Int32)) dX1_copyFrom_62 (by decide) ?_
  refine ev_bipush (v := (100 : Int32)) dX1_copyFrom_63 (by decide) ?_
  obtain ⟨I5, eI5, h⟩ := ev_ltE h
  refine ew_copy dX1_copyFrom_65 kX1_40 zA.1 zA.2.1 zA.2.2 (shp_a g1 4 rfl) (shp_a g0 4 rfl) (by decide) (by decide) (by decide) (by decide) (by decide) (Nat.le_of_ble_eq_true rfl) (Nat.le_of_ble_eq_true rfl) (ew_nh eI5 ?_)
  refine ev_aload_n dX1_copyFrom_68 rfl (fun _ e => by cases e) ?_
  refine ew_getr0 dX1_copyFrom_69 fX1_24 g1 rfl rfl rfl rfl ?_
  refine ev_iconst (v := (0 : Int32)) dX1_copyFrom_72 (by decide) ?_
  refine ev_aload_n dX1_copyFrom_73 rfl (fun _ e => by cases e) ?_
  refine ew_getr0 dX1_copyFrom_74 fX1_24 g0 rfl rfl rfl rfl ?_
  refine ev_iconst (v := (0 : Int32)) dX1_copyFrom_77 (by decide) ?_
  refine ev_bipush (v := (100 : Int32)) dX1_copyFrom_78 (by decide) ?_
  obtain ⟨I6, eI6, h⟩ := ev_ltE h
  refine ew_copy dX1_copyFrom_80 kX1_40 zA.1 zA.2.1 zA.2.2 (shp_a g1 5 rfl) (shp_a g0 5 rfl) (by decide) (by decide) (by decide) (by decide) (by decide) (Nat.le_of_ble_eq_true rfl) (Nat.le_of_ble_eq_true rfl) (ew_nh eI6 ?_)
  refine ev_aload_n dX1_copyFrom_83 rfl (fun _ e => by cases e) ?_
  refine ew_getr0 dX1_copyFrom_84 fX1_27 g1 rfl rfl rfl rfl ?_
  refine ev_iconst (v := (0 : Int32)) dX1_copyFrom_87 (by decide) ?_
  refine ev_aload_n dX1_copyFrom_88 rfl (fun _ e => by cases e) ?_
  refine ew_getr0 dX1_copyFrom_89 fX1_27 g0 rfl rfl rfl rfl ?_
  refine ev_iconst (v := (0 : Int32)) dX1_copyFrom_92 (by decide) ?_
  refine ev_bipush (v := (100 : Int32)) dX1_copyFrom_93 (by decide) ?_
  obtain ⟨I7, eI7, h⟩ := ev_ltE h
  refine ew_copy dX1_copyFrom_95 kX1_40 zA.1 zA.2.1 zA.2.2 (shp_a g1 6 rfl) (shp_a g0 6 rfl) (by decide) (by decide) (by decide) (by decide) (by decide) (Nat.le_of_ble_eq_true rfl) (Nat.le_of_ble_eq_true rfl) (ew_nh eI7 ?_)
  refine ev_aload_n dX1_copyFrom_98 rfl (fun _ e => by cases e) ?_
  refine ew_getr0 dX1_copyFrom_99 fX1_30 g1 rfl rfl rfl rfl ?_
  refine ev_iconst (v := (0 : Int32)) dX1_copyFrom_102 (by decide) ?_
  refine ev_aload_n dX1_copyFrom_103 rfl (fun _ e => by cases e) ?_
  refine ew_getr0 dX1_copyFrom_104 fX1_30 g0 rfl rfl rfl rfl ?_
  refine ev_iconst (v := (0 : Int32)) dX1_copyFrom_107 (by decide) ?_
  refine ev_bipush (v := (100 : Int32)) dX1_copyFrom_108 (by decide) ?_
  obtain ⟨I8, eI8, h⟩ := ev_ltE h
  refine ew_copy dX1_copyFrom_110 kX1_40 zA.1 zA.2.1 zA.2.2 (shp_a g1 7 rfl) (shp_a g0 7 rfl) (by decide) (by decide) (by decide) (by decide) (by decide) (Nat.le_of_ble_eq_true rfl) (Nat.le_of_ble_eq_true rfl) (ew_nh eI8 ?_)
  refine ev_aload_n dX1_copyFrom_113 rfl (fun _ e => by cases e) ?_
  refine ew_getr0 dX1_copyFrom_114 fX1_33 g1 rfl rfl rfl rfl ?_
  refine ev_iconst (v := (0 : Int32)) dX1_copyFrom_117 (by decide) ?_
  refine ev_aload_n dX1_copyFrom_118 rfl (fun _ e => by cases e) ?_
  refine ew_getr0 dX1_copyFrom_119 fX1_33 g0 rfl rfl rfl rfl ?_
  refine ev_iconst (v := (0 : Int32)) dX1_copyFrom_122 (by decide) ?_
  refine ev_bipush (v := (100 : Int32)) dX1_copyFrom_123 (by decide) ?_
  obtain ⟨I9, eI9, h⟩ := ev_ltE h
  refine ew_copy dX1_copyFrom_125 kX1_40 zA.1 zA.2.1 zA.2.2 (shp_a g1 8 rfl) (shp_a g0 8 rfl) (by decide) (by decide) (by decide) (by decide) (by decide) (Nat.le_of_ble_eq_true rfl) (Nat.le_of_ble_eq_true rfl) (ew_nh eI9 ?_)
  cases h
  exact er_v dX1_copyFrom_128 rfl
-- ChainVotes$Blocks has(I)Z
def pX1_has (n : Nat) (q0 : Nat) (x1 : Int32) (I : ev_I) : Option (Int32) :=
  if x1 < 0 then
    some (0 : Int32)
  else
    if (I q0 0) ≤ x1 then
      some (0 : Int32)
    else
      some (1 : Int32)
set_option maxRecDepth 100000 in
set_option maxHeartbeats 4000000 in
theorem tX1_has {E : ev_N} {σ : ev_H} (n : Nat) (q0 : Nat) (g0 : shp tb1 σ q0) (x1 : Int32) (I : ev_I) (o : Int32) (h : pX1_has n q0 x1 I = some o) : ev_T E mX1_has [.ref q0, .int x1] (h_w σ I) (Option.some (Value.int o), h_w σ I) := by
  unfold pX1_has at h
  refine ev_met rfl rfl (Nat.le_of_ble_eq_true rfl) (ev_L0 (L' := [some (.ref q0), some (.int x1)]) rfl ?_)
  refine ev_iload_n dX1_has_0 rfl ?_
  refine ev_if_lt (tgt := 16) dX1_has_1 (by decide) (fun c1 => ?_) (fun c1 => ?_)
  · have h := ev_ifT h c1
    refine ev_iconst (v := (0 : Int32)) dX1_has_16 (by decide) ?_
    cases h
    exact er_i dX1_has_17 rfl rfl
  · have h := ev_ifF h c1
    refine ev_iload_n dX1_has_4 rfl ?_
    refine ev_aload_n dX1_has_5 rfl (fun _ e => by cases e) ?_
    refine ew_get0 dX1_has_6 fX1_36 g0 rfl rfl rfl ?_
    refine ev_icmp_ge (tgt := 16) dX1_has_9 (by decide) (fun c2 => ?_) (fun c2 => ?_)
    · have h := ev_ifT h c2
      refine ev_iconst (v := (0 : Int32)) dX1_has_16 (by decide) ?_
      cases h
      exact er_i dX1_has_17 rfl rfl
    · have h := ev_ifF h c2
      refine ev_iconst (v := (1 : Int32)) dX1_has_12 (by decide) ?_
      refine ev_goto (tgt := 17) dX1_has_13 (by decide) ?_
      cases h
      exact er_i dX1_has_17 rfl rfl
-- ChainVotes$Blocks isCertified(I)Z
def pX1_isCertified (n : Nat) (q0 : Nat) (x1 : Int32) (I : ev_I) : Option (Int32) :=
  (pX1_has n q0 x1 I).bind fun z1 =>
  if z1 = 0 then
    some (0 : Int32)
  else
    ev_ck (ev_in x1 100) <|
    if (I (q0 + 8) x1.toNatClampNeg) = (1 : Int32) then
      some (1 : Int32)
    else
      some (0 : Int32)
set_option maxRecDepth 100000 in
set_option maxHeartbeats 4000000 in
theorem tX1_isCertified {E : ev_N} {σ : ev_H} (n : Nat) (q0 : Nat) (g0 : shp tb1 σ q0) (x1 : Int32) (I : ev_I) (o : Int32) (h : pX1_isCertified n q0 x1 I = some o) : ev_T E mX1_isCertified [.ref q0, .int x1] (h_w σ I) (Option.some (Value.int o), h_w σ I) := by
  unfold pX1_isCertified at h
  refine ev_met rfl rfl (Nat.le_of_ble_eq_true rfl) (ev_L0 (L' := [some (.ref q0), some (.int x1)]) rfl ?_)
  refine ev_aload_n dX1_isCertified_0 rfl (fun _ e => by cases e) ?_
  refine ev_iload_n dX1_isCertified_1 rfl ?_
  obtain ⟨z1, hz1, h⟩ := ev_bnE h
  refine ec_Vi (Y := mX1_has) (ci := 1) (As := [.int x1]) (rest := []) dX1_isCertified_2 kX1_46 oX1_has ⟨Nat.le_of_ble_eq_true rfl, Nat.le_of_ble_eq_true rfl⟩ (by decide) rfl (shp_n g0 0 rfl) (shp_t g0 0 rfl) rfl (Nat.le_of_ble_eq_true rfl) (tX1_has n q0 g0 x1 I z1 hz1) rfl ?_
  refine ev_if_eq (tgt := 22) dX1_isCertified_5 (by decide) (fun c2 => ?_) (fun c2 => ?_)
  · have h := ev_ifT h c2
    refine ev_iconst (v := (0 : Int32)) dX1_isCertified_22 (by decide) ?_
    cases h
    exact er_i dX1_isCertified_23 rfl rfl
  · have h := ev_ifF h c2
    refine ev_aload_n dX1_isCertified_8 rfl (fun _ e => by cases e) ?_
    refine ew_getr0 dX1_isCertified_9 fX1_33 g0 rfl rfl rfl rfl ?_
    refine ev_iload_n dX1_isCertified_12 rfl ?_
    obtain ⟨c3, h⟩ := ev_ckE h
    refine ew_iald dX1_isCertified_13 (shp_a g0 8 rfl) c3 ?_
    refine ev_iconst (v := (1 : Int32)) dX1_isCertified_14 (by decide) ?_
    refine ev_icmp_ne (tgt := 22) dX1_isCertified_15 (by decide) (fun c4 => ?_) (fun c4 => ?_)
    · have h := ev_ifF h c4
      refine ev_iconst (v := (0 : Int32)) dX1_isCertified_22 (by decide) ?_
      cases h
      exact er_i dX1_isCertified_23 rfl rfl
    · have h := ev_ifT h c4
      refine ev_iconst (v := (1 : Int32)) dX1_isCertified_18 (by decide) ?_
      refine ev_goto (tgt := 23) dX1_isCertified_19 (by decide) ?_
      cases h
      exact er_i dX1_isCertified_23 rfl rfl
-- ChainVotes$Blocks add(IIIIII)I
def pX1_add (n : Nat) (q0 : Nat) (x1 : Int32) (x2 : Int32) (x3 : Int32) (x4 : Int32) (x5 : Int32) (x6 : Int32) (I : ev_I) : Option (Int32 × ev_I) :=
  ev_lt (I q0 0) fun v1 =>
  ev_ck (ev_in v1 100) <|
  ev_lt (ev_u2 I (q0 + 1) v1.toNatClampNeg x1) fun I3 =>
  ev_ck (ev_in v1 100) <|
  ev_lt (ev_u2 I3 (q0 + 2) v1.toNatClampNeg x2) fun I5 =>
  ev_ck (ev_in v1 100) <|
  ev_lt (ev_u2 I5 (q0 + 3) v1.toNatClampNeg x3) fun I7 =>
  ev_ck (ev_in v1 100) <|
  ev_lt (ev_u2 I7 (q0 + 4) v1.toNatClampNeg x4) fun I9 =>
  ev_ck (ev_in v1 100) <|
  ev_lt (ev_u2 I9 (q0 + 5) v1.toNatClampNeg x5) fun I11 =>
  ev_ck (ev_in x2 100) <|
  ev_ck (ev_in v1 100) <|
  ev_lt (ev_u2 I11 (q0 + 6) v1.toNatClampNeg ((I11 (q0 + 6) x2.toNatClampNeg) + (1 : Int32))) fun I14 =>
  ev_ck (ev_in v1 100) <|
  ev_lt (ev_u2 I14 (q0 + 7) v1.toNatClampNeg x6) fun I16 =>
  ev_ck (ev_in v1 100) <|
  ev_lt (ev_u2 I16 (q0 + 8) v1.toNatClampNeg (0 : Int32)) fun I18 =>
  ev_lt (ev_u2 I18 q0 0 (v1 + (1 : Int32))) fun I19 =>
  some (v1, I19)
set_option maxRecDepth 100000 in
set_option maxHeartbeats 4000000 in
theorem tX1_add {E : ev_N} {σ : ev_H} (n : Nat) (q0 : Nat) (g0 : shp tb1 σ q0) (x1 : Int32) (x2 : Int32) (x3 : Int32) (x4 : Int32) (x5 : Int32) (x6 : Int32) (I : ev_I) (o : Int32 × ev_I) (h : pX1_add n q0 x1 x2 x3 x4 x5 x6 I = some o) : ev_T E mX1_add [.ref q0, .int x1, .int x2, .int x3, .int x4, .int x5, .int x6] (h_w σ I) (Option.some (Value.int o.1), h_w σ o.2) := by
  unfold pX1_add at h
  refine ev_met rfl rfl (Nat.le_of_ble_eq_true rfl) (ev_L0 (L' := [some (.ref q0), some (.int x1), some (.int x2), some (.int x3), some (.int x4), some (.int x5), some (.int x6), none]) rfl ?_)
  refine ev_aload_n dX1_add_0 rfl (fun _ e => by cases e) ?_
  refine ew_get0 dX1_add_1 fX1_36 g0 rfl rfl rfl ?_
  obtain ⟨v1, ev1, h⟩ := ev_ltE h
  refine ew_nm ev1 ?_
  refine ew_ist (L' := [some (.ref q0), some (.int x1), some (.int x2), some (.int x3), some (.int x4), some (.int x5), some (.int x6), some (.int v1)]) dX1_add_4 (Nat.le_of_ble_eq_true rfl) rfl ?_
  refine ev_aload_n dX1_add_6 rfl (fun _ e => by cases e) ?_
  refine ew_getr0 dX1_add_7 fX1_9 g0 rfl rfl rfl rfl ?_
  refine ev_iload dX1_add_10 rfl ?_
  refine ev_iload_n dX1_add_12 rfl ?_
  obtain ⟨c2, h⟩ := ev_ckE h
  obtain ⟨I3, eI3, h⟩ := ev_ltE h
  refine ew_iast dX1_add_13 (shp_a g0 1 rfl) c2 (ew_nh eI3 ?_)
  refine ev_aload_n dX1_add_14 rfl (fun _ e => by cases e) ?_
  refine ew_getr0 dX1_add_15 fX1_15 g0 rfl rfl rfl rfl ?_
  refine ev_iload dX1_add_18 rfl ?_
  refine ev_iload_n dX1_add_20 rfl ?_
  obtain ⟨c4, h⟩ := ev_ckE h
  obtain ⟨I5, eI5, h⟩ := ev_ltE h
  refine ew_iast dX1_add_21 (shp_a g0 2 rfl) c4 (ew_nh eI5 ?_)
  refine ev_aload_n dX1_add_22 rfl (fun _ e => by cases e) ?_
  refine ew_getr0 dX1_add_23 fX1_18 g0 rfl rfl rfl rfl ?_
  refine ev_iload dX1_add_26 rfl ?_
  refine ev_iload_n dX1_add_28 rfl ?_
  obtain ⟨c6, h⟩ := ev_ckE h
  obtain ⟨I7, eI7, h⟩ := ev_ltE h
  refine ew_iast dX1_add_29 (shp_a g0 3 rfl) c6 (ew_nh eI7 ?_)
  refine ev_aload_n dX1_add_30 rfl (fun _ e => by cases e) ?_
  refine ew_getr0 dX1_add_31 fX1_21 g0 rfl rfl rfl rfl ?_
  refine ev_iload dX1_add_34 rfl ?_
  refine ev_iload dX1_add_36 rfl ?_
  obtain ⟨c8, h⟩ := ev_ckE h
  obtain ⟨I9, eI9, h⟩ := ev_ltE h
  refine ew_iast dX1_add_38 (shp_a g0 4 rfl) c8 (ew_nh eI9 ?_)
  refine ev_aload_n dX1_add_39 rfl (fun _ e => by cases e) ?_
  refine ew_getr0 dX1_add_40 fX1_24 g0 rfl rfl rfl rfl ?_
  refine ev_iload dX1_add_43 rfl ?_
  refine ev_iload dX1_add_45 rfl ?_
  obtain ⟨c10, h⟩ := ev_ckE h
  obtain ⟨I11, eI11, h⟩ := ev_ltE h
  refine ew_iast dX1_add_47 (shp_a g0 5 rfl) c10 (ew_nh eI11 ?_)
  refine ev_aload_n dX1_add_48 rfl (fun _ e => by cases e) ?_
  refine ew_getr0 dX1_add_49 fX1_27 g0 rfl rfl rfl rfl ?_
  refine ev_iload dX1_add_52 rfl ?_
  refine ev_aload_n dX1_add_54 rfl (fun _ e => by cases e) ?_
  refine ew_getr0 dX1_add_55 fX1_27 g0 rfl rfl rfl rfl ?_
  refine ev_iload_n dX1_add_58 rfl ?_
  obtain ⟨c12, h⟩ := ev_ckE h
  refine ew_iald dX1_add_59 (shp_a g0 6 rfl) c12 ?_
  refine ev_iconst (v := (1 : Int32)) dX1_add_60 (by decide) ?_
  refine ev_iadd dX1_add_61 ?_
  obtain ⟨c13, h⟩ := ev_ckE h
  obtain ⟨I14, eI14, h⟩ := ev_ltE h
  refine ew_iast dX1_add_62 (shp_a g0 6 rfl) c13 (ew_nh eI14 ?_)
  refine ev_aload_n dX1_add_63 rfl (fun _ e => by cases e) ?_
  refine ew_getr0 dX1_add_64 fX1_30 g0 rfl rfl rfl rfl ?_
  refine ev_iload dX1_add_67 rfl ?_
  refine ev_iload dX1_add_69 rfl ?_
  obtain ⟨c15, h⟩ := ev_ckE h
  obtain ⟨I16, eI16, h⟩ := ev_ltE h
  refine ew_iast dX1_add_71 (shp_a g0 7 rfl) c15 (ew_nh eI16 ?_)
  refine ev_aload_n dX1_add_72 rfl (fun _ e => by cases e) ?_
  refine ew_getr0 dX1_add_73 fX1_33 g0 rfl rfl rfl rfl ?_
  refine ev_iload dX1_add_76 rfl ?_
  refine ev_iconst (v := (0 : Int32)) dX1_add_78 (by decide) ?_
  obtain ⟨c17, h⟩ := ev_ckE h
  obtain ⟨I18, eI18, h⟩ := ev_ltE h
  refine ew_iast dX1_add_79 (shp_a g0 8 rfl) c17 (ew_nh eI18 ?_)
  refine ev_aload_n dX1_add_80 rfl (fun _ e => by cases e) ?_
  refine ev_iload dX1_add_81 rfl ?_
  refine ev_iconst (v := (1 : Int32)) dX1_add_83 (by decide) ?_
  refine ev_iadd dX1_add_84 ?_
  obtain ⟨I19, eI19, h⟩ := ev_ltE h
  refine ew_put0 dX1_add_85 fX1_36 g0 rfl rfl rfl rfl rfl rfl (ew_nh eI19 ?_)
  refine ev_iload dX1_add_88 rfl ?_
  cases h
  exact er_i dX1_add_90 rfl rfl
-- ChainVotes$Blocks reaches(II)Z
def cX1_reaches_30 (q0 : Nat) (n : Nat) (y2 : Int32) (y3 : Int32) (I : ev_I) : Option (Int32) :=
  if y3 = y2 then
    some (1 : Int32)
  else
    some (0 : Int32)
def cX1_reaches_5 (q0 : Nat) (K5 : Int32 → Int32 → Int32 → ev_I → Option (Int32)) (n : Nat) (y2 : Int32) (y3 : Int32) (y4 : Int32) (I : ev_I) : Option (Int32) :=
  if (100 : Int32) ≤ y4 then
    cX1_reaches_30 q0 n y2 y3 I
  else
    if y3 ≤ y2 then
      cX1_reaches_30 q0 n y2 y3 I
    else
      ev_ck (ev_in y3 100) <|
      ev_lt (I (q0 + 2) y3.toNatClampNeg) fun v5 =>
      ev_lt (y4 + (1 : Int32)) fun v6 =>
      K5 y2 v5 v6 I
def lX1_reaches_5 (q0 : Nat) : Nat → Int32 → Int32 → Int32 → ev_I → Option (Int32)
  | 0, _, _, _, _ => none
  | n + 1, y2, y3, y4, I => cX1_reaches_5 q0 (lX1_reaches_5 q0 n) n y2 y3 y4 I
def pX1_reaches (n : Nat) (q0 : Nat) (x1 : Int32) (x2 : Int32) (I : ev_I) : Option (Int32) :=
  lX1_reaches_5 q0 n x2 x1 (0 : Int32) I
set_option maxRecDepth 100000 in
set_option maxHeartbeats 4000000 in
theorem tX1_reaches_30 {E : ev_N} {σ : ev_H} (q0 : Nat) (g0 : shp tb1 σ q0) (n : Nat) (y2 : Int32) (y3 : Int32) (I : ev_I) (o : Int32) : cX1_reaches_30 q0 n y2 y3 I = some o → EV E mX1_reaches 30 [none, none, some (.int y2), some (.int y3), none] [] (h_w σ I) (Option.some (Value.int o), h_w σ I) := by
  intro h
  unfold cX1_reaches_30 at h
  refine ev_iload_n dX1_reaches_30 rfl ?_
  refine ev_iload_n dX1_reaches_31 rfl ?_
  refine ev_icmp_ne (tgt := 39) dX1_reaches_32 (by decide) (fun c1 => ?_) (fun c1 => ?_)
  · have h := ev_ifF h c1
    refine ev_iconst (v := (0 : Int32)) dX1_reaches_39 (by decide) ?_
    cases h
    exact er_i dX1_reaches_40 rfl rfl
  · have h := ev_ifT h c1
    refine ev_iconst (v := (1 : Int32)) dX1_reaches_35 (by decide) ?_
    refine ev_goto (tgt := 40) dX1_reaches_36 (by decide) ?_
    cases h
    exact er_i dX1_reaches_40 rfl rfl
set_option maxRecDepth 100000 in
set_option maxHeartbeats 4000000 in
theorem tX1_reaches_5 {E : ev_N} {σ : ev_H} (q0 : Nat) (g0 : shp tb1 σ q0) (K5 : Int32 → Int32 → Int32 → ev_I → Option (Int32)) (k5 : ∀ (y2 : Int32) (y3 : Int32) (y4 : Int32) (I : ev_I) (o : Int32), K5 y2 y3 y4 I = some o → EV E mX1_reaches 5 [some (.ref q0), none, some (.int y2), some (.int y3), some (.int y4)] [] (h_w σ I) (Option.some (Value.int o), h_w σ I)) (n : Nat) (y2 : Int32) (y3 : Int32) (y4 : Int32) (I : ev_I) (o : Int32) : cX1_reaches_5 q0 K5 n y2 y3 y4 I = some o → EV E mX1_reaches 5 [some (.ref q0), none, some (.int y2), some (.int y3), some (.int y4)] [] (h_w σ I) (Option.some (Value.int o), h_w σ I) := by
  intro h
  unfold cX1_reaches_5 at h
  refine ev_iload dX1_reaches_5 rfl ?_
  refine ev_bipush (v := (100 : Int32)) dX1_reaches_7 (by decide) ?_
  refine ev_icmp_ge (tgt := 30) dX1_reaches_9 (by decide) (fun c2 => ?_) (fun c2 => ?_)
  · have h := ev_ifT h c2
    exact ev_weak (sb_n (sb_n (sb_s (sb_s (sb_n sb_0))))) (tX1_reaches_30 q0 g0 n y2 y3 I _ h)
  · have h := ev_ifF h c2
    refine ev_iload_n dX1_reaches_12 rfl ?_
    refine ev_iload_n dX1_reaches_13 rfl ?_
    refine ev_icmp_le (tgt := 30) dX1_reaches_14 (by decide) (fun c3 => ?_) (fun c3 => ?_)
    · have h := ev_ifT h c3
      exact ev_weak (sb_n (sb_n (sb_s (sb_s (sb_n sb_0))))) (tX1_reaches_30 q0 g0 n y2 y3 I _ h)
    · have h := ev_ifF h c3
      refine ev_aload_n dX1_reaches_17 rfl (fun _ e => by cases e) ?_
      refine ew_getr0 dX1_reaches_18 fX1_15 g0 rfl rfl rfl rfl ?_
      refine ev_iload_n dX1_reaches_21 rfl ?_
      obtain ⟨c4, h⟩ := ev_ckE h
      refine ew_iald dX1_reaches_22 (shp_a g0 2 rfl) c4 ?_
      obtain ⟨v5, ev5, h⟩ := ev_ltE h
      refine ew_nm ev5 ?_
      refine ew_istn (L' := [some (.ref q0), none, some (.int y2), some (.int v5), some (.int y4)]) dX1_reaches_23 (Nat.le_of_ble_eq_true rfl) rfl ?_
      obtain ⟨v6, ev6, h⟩ := ev_ltE h
      refine ew_iinc (L' := [some (.ref q0), none, some (.int y2), some (.int v5), some (.int v6)]) dX1_reaches_24 (Nat.le_of_ble_eq_true rfl) rfl (by decide) ev6 rfl ?_
      refine ev_goto (tgt := 5) dX1_reaches_27 (by decide) ?_
      exact ev_weak (sb_s (sb_n (sb_s (sb_s (sb_s sb_0))))) (k5 y2 v5 v6 I _ h)
theorem tlX1_reaches_5 {E : ev_N} {σ : ev_H} (q0 : Nat) (g0 : shp tb1 σ q0) : ∀ (n : Nat) (y2 : Int32) (y3 : Int32) (y4 : Int32) (I : ev_I) (o : Int32), lX1_reaches_5 q0 n y2 y3 y4 I = some o → EV E mX1_reaches 5 [some (.ref q0), none, some (.int y2), some (.int y3), some (.int y4)] [] (h_w σ I) (Option.some (Value.int o), h_w σ I)
  | 0, _, _, _, _, _, h => by cases h
  | n + 1, y2, y3, y4, I, o, h => tX1_reaches_5 q0 g0 (lX1_reaches_5 q0 n) (tlX1_reaches_5 q0 g0 n) n y2 y3 y4 I o h
set_option maxRecDepth 100000 in
set_option maxHeartbeats 4000000 in
theorem tX1_reaches {E : ev_N} {σ : ev_H} (n : Nat) (q0 : Nat) (g0 : shp tb1 σ q0) (x1 : Int32) (x2 : Int32) (I : ev_I) (o : Int32) (h : pX1_reaches n q0 x1 x2 I = some o) : ev_T E mX1_reaches [.ref q0, .int x1, .int x2] (h_w σ I) (Option.some (Value.int o), h_w σ I) := by
  unfold pX1_reaches at h
  refine ev_met rfl rfl (Nat.le_of_ble_eq_true rfl) (ev_L0 (L' := [some (.ref q0), some (.int x1), some (.int x2), none, none]) rfl ?_)
  refine ev_iload_n dX1_reaches_0 rfl ?_
  refine ew_istn (L' := [some (.ref q0), some (.int x1), some (.int x2), some (.int x1), none]) dX1_reaches_1 (Nat.le_of_ble_eq_true rfl) rfl ?_
  refine ev_iconst (v := (0 : Int32)) dX1_reaches_2 (by decide) ?_
  refine ew_ist (L' := [some (.ref q0), some (.int x1), some (.int x2), some (.int x1), some (.int (0 : Int32))]) dX1_reaches_3 (Nat.le_of_ble_eq_true rfl) rfl ?_
  exact ev_weak (sb_s (sb_n (sb_s (sb_s (sb_s sb_0))))) (tlX1_reaches_5 q0 g0 n x2 x1 (0 : Int32) I _ h)
-- ChainVotes$Blocks ancestorOfHeight(II)I
def cX1_ancestorOfHeight_5 (q0 : Nat) (K5 : Int32 → Int32 → Int32 → ev_I → Option (Int32)) (n : Nat) (y2 : Int32) (y3 : Int32) (y4 : Int32) (I : ev_I) : Option (Int32) :=
  if (100 : Int32) ≤ y4 then
    some y3
  else
    ev_ck (ev_in y3 100) <|
    if (I (q0 + 6) y3.toNatClampNeg) ≤ y2 then
      some y3
    else
      ev_ck (ev_in y3 100) <|
      ev_lt (I (q0 + 2) y3.toNatClampNeg) fun v5 =>
      ev_lt (y4 + (1 : Int32)) fun v6 =>
      K5 y2 v5 v6 I
def lX1_ancestorOfHeight_5 (q0 : Nat) : Nat → Int32 → Int32 → Int32 → ev_I → Option (Int32)
  | 0, _, _, _, _ => none
  | n + 1, y2, y3, y4, I => cX1_ancestorOfHeight_5 q0 (lX1_ancestorOfHeight_5 q0 n) n y2 y3 y4 I
def pX1_ancestorOfHeight (n : Nat) (q0 : Nat) (x1 : Int32) (x2 : Int32) (I : ev_I) : Option (Int32) :=
  lX1_ancestorOfHeight_5 q0 n x2 x1 (0 : Int32) I
set_option maxRecDepth 100000 in
set_option maxHeartbeats 4000000 in
theorem tX1_ancestorOfHeight_5 {E : ev_N} {σ : ev_H} (q0 : Nat) (g0 : shp tb1 σ q0) (K5 : Int32 → Int32 → Int32 → ev_I → Option (Int32)) (k5 : ∀ (y2 : Int32) (y3 : Int32) (y4 : Int32) (I : ev_I) (o : Int32), K5 y2 y3 y4 I = some o → EV E mX1_ancestorOfHeight 5 [some (.ref q0), none, some (.int y2), some (.int y3), some (.int y4)] [] (h_w σ I) (Option.some (Value.int o), h_w σ I)) (n : Nat) (y2 : Int32) (y3 : Int32) (y4 : Int32) (I : ev_I) (o : Int32) : cX1_ancestorOfHeight_5 q0 K5 n y2 y3 y4 I = some o → EV E mX1_ancestorOfHeight 5 [some (.ref q0), none, some (.int y2), some (.int y3), some (.int y4)] [] (h_w σ I) (Option.some (Value.int o), h_w σ I) := by
  intro h
  unfold cX1_ancestorOfHeight_5 at h
  refine ev_iload dX1_ancestorOfHeight_5 rfl ?_
  refine ev_bipush (v := (100 : Int32)) dX1_ancestorOfHeight_7 (by decide) ?_
  refine ev_icmp_ge (tgt := 35) dX1_ancestorOfHeight_9 (by decide) (fun c1 => ?_) (fun c1 => ?_)
  · have h := ev_ifT h c1
    refine ev_iload_n dX1_ancestorOfHeight_35 rfl ?_
    cases h
    exact er_i dX1_ancestorOfHeight_36 rfl rfl
  · have h := ev_ifF h c1
    refine ev_aload_n dX1_ancestorOfHeight_12 rfl (fun _ e => by cases e) ?_
    refine ew_getr0 dX1_ancestorOfHeight_13 fX1_27 g0 rfl rfl rfl rfl ?_
    refine ev_iload_n dX1_ancestorOfHeight_16 rfl ?_
    obtain ⟨c2, h⟩ := ev_ckE h
    refine ew_iald dX1_ancestorOfHeight_17 (shp_a g0 6 rfl) c2 ?_
    refine ev_iload_n dX1_ancestorOfHeight_18 rfl ?_
    refine ev_icmp_le (tgt := 35) dX1_ancestorOfHeight_19 (by decide) (fun c3 => ?_) (fun c3 => ?_)
    · have h := ev_ifT h c3
      refine ev_iload_n dX1_ancestorOfHeight_35 rfl ?_
      cases h
      exact er_i dX1_ancestorOfHeight_36 rfl rfl
    · have h := ev_ifF h c3
      refine ev_aload_n dX1_ancestorOfHeight_22 rfl (fun _ e => by cases e) ?_
      refine ew_getr0 dX1_ancestorOfHeight_23 fX1_15 g0 rfl rfl rfl rfl ?_
      refine ev_iload_n dX1_ancestorOfHeight_26 rfl ?_
      obtain ⟨c4, h⟩ := ev_ckE h
      refine ew_iald dX1_ancestorOfHeight_27 (shp_a g0 2 rfl) c4 ?_
      obtain ⟨v5, ev5, h⟩ := ev_ltE h
      refine ew_nm ev5 ?_
      refine ew_istn (L' := [some (.ref q0), none, some (.int y2), some (.int v5), some (.int y4)]) dX1_ancestorOfHeight_28 (Nat.le_of_ble_eq_true rfl) rfl ?_
      obtain ⟨v6, ev6, h⟩ := ev_ltE h
      refine ew_iinc (L' := [some (.ref q0), none, some (.int y2), some (.int v5), some (.int v6)]) dX1_ancestorOfHeight_29 (Nat.le_of_ble_eq_true rfl) rfl (by decide) ev6 rfl ?_
      refine ev_goto (tgt := 5) dX1_ancestorOfHeight_32 (by decide) ?_
      exact ev_weak (sb_s (sb_n (sb_s (sb_s (sb_s sb_0))))) (k5 y2 v5 v6 I _ h)
theorem tlX1_ancestorOfHeight_5 {E : ev_N} {σ : ev_H} (q0 : Nat) (g0 : shp tb1 σ q0) : ∀ (n : Nat) (y2 : Int32) (y3 : Int32) (y4 : Int32) (I : ev_I) (o : Int32), lX1_ancestorOfHeight_5 q0 n y2 y3 y4 I = some o → EV E mX1_ancestorOfHeight 5 [some (.ref q0), none, some (.int y2), some (.int y3), some (.int y4)] [] (h_w σ I) (Option.some (Value.int o), h_w σ I)
  | 0, _, _, _, _, _, h => by cases h
  | n + 1, y2, y3, y4, I, o, h => tX1_ancestorOfHeight_5 q0 g0 (lX1_ancestorOfHeight_5 q0 n) (tlX1_ancestorOfHeight_5 q0 g0 n) n y2 y3 y4 I o h
set_option maxRecDepth 100000 in
set_option maxHeartbeats 4000000 in
theorem tX1_ancestorOfHeight {E : ev_N} {σ : ev_H} (n : Nat) (q0 : Nat) (g0 : shp tb1 σ q0) (x1 : Int32) (x2 : Int32) (I : ev_I) (o : Int32) (h : pX1_ancestorOfHeight n q0 x1 x2 I = some o) : ev_T E mX1_ancestorOfHeight [.ref q0, .int x1, .int x2] (h_w σ I) (Option.some (Value.int o), h_w σ I) := by
  unfold pX1_ancestorOfHeight at h
  refine ev_met rfl rfl (Nat.le_of_ble_eq_true rfl) (ev_L0 (L' := [some (.ref q0), some (.int x1), some (.int x2), none, none]) rfl ?_)
  refine ev_iload_n dX1_ancestorOfHeight_0 rfl ?_
  refine ew_istn (L' := [some (.ref q0), some (.int x1), some (.int x2), some (.int x1), none]) dX1_ancestorOfHeight_1 (Nat.le_of_ble_eq_true rfl) rfl ?_
  refine ev_iconst (v := (0 : Int32)) dX1_ancestorOfHeight_2 (by decide) ?_
  refine ew_ist (L' := [some (.ref q0), some (.int x1), some (.int x2), some (.int x1), some (.int (0 : Int32))]) dX1_ancestorOfHeight_3 (Nat.le_of_ble_eq_true rfl) rfl ?_
  exact ev_weak (sb_s (sb_n (sb_s (sb_s (sb_s sb_0))))) (tlX1_ancestorOfHeight_5 q0 g0 n x2 x1 (0 : Int32) I _ h)
-- ChainVotes$Blocks commonOf(II)I
def cX1_commonOf_47 (q0 : Nat) (K8 : Int32 → Int32 → Int32 → ev_I → Option (Int32)) (n : Nat) (y3 : Int32) (y4 : Int32) (y5 : Int32) (I : ev_I) : Option (Int32) :=
  ev_lt (y5 + (1 : Int32)) fun v1 =>
  K8 y3 y4 v1 I
def cX1_commonOf_8 (q0 : Nat) (K8 : Int32 → Int32 → Int32 → ev_I → Option (Int32)) (n : Nat) (y3 : Int32) (y4 : Int32) (y5 : Int32) (I : ev_I) : Option (Int32) :=
  if (200 : Int32) ≤ y5 then
    some y3
  else
    if y3 = y4 then
      some y3
    else
      if y3 ≤ y4 then
        ev_ck (ev_in y4 100) <|
        ev_lt (I (q0 + 2) y4.toNatClampNeg) fun v6 =>
        cX1_commonOf_47 q0 K8 n y3 v6 y5 I
      else
        ev_ck (ev_in y3 100) <|
        ev_lt (I (q0 + 2) y3.toNatClampNeg) fun v8 =>
        cX1_commonOf_47 q0 K8 n v8 y4 y5 I
def lX1_commonOf_8 (q0 : Nat) : Nat → Int32 → Int32 → Int32 → ev_I → Option (Int32)
  | 0, _, _, _, _ => none
  | n + 1, y3, y4, y5, I => cX1_commonOf_8 q0 (lX1_commonOf_8 q0 n) n y3 y4 y5 I
def pX1_commonOf (n : Nat) (q0 : Nat) (x1 : Int32) (x2 : Int32) (I : ev_I) : Option (Int32) :=
  lX1_commonOf_8 q0 n x1 x2 (0 : Int32) I
set_option maxRecDepth 100000 in
set_option maxHeartbeats 4000000 in
theorem tX1_commonOf_47 {E : ev_N} {σ : ev_H} (q0 : Nat) (g0 : shp tb1 σ q0) (K8 : Int32 → Int32 → Int32 → ev_I → Option (Int32)) (k8 : ∀ (y3 : Int32) (y4 : Int32) (y5 : Int32) (I : ev_I) (o : Int32), K8 y3 y4 y5 I = some o → EV E mX1_commonOf 8 [some (.ref q0), none, none, some (.int y3), some (.int y4), some (.int y5)] [] (h_w σ I) (Option.some (Value.int o), h_w σ I)) (n : Nat) (y3 : Int32) (y4 : Int32) (y5 : Int32) (I : ev_I) (o : Int32) : cX1_commonOf_47 q0 K8 n y3 y4 y5 I = some o → EV E mX1_commonOf 47 [some (.ref q0), none, none, some (.int y3), some (.int y4), some (.int y5)] [] (h_w σ I) (Option.some (Value.int o), h_w σ I) := by
  intro h
  unfold cX1_commonOf_47 at h
  obtain ⟨v1, ev1, h⟩ := ev_ltE h
  refine ew_iinc (L' := [some (.ref q0), none, none, some (.int y3), some (.int y4), some (.int v1)]) dX1_commonOf_47 (Nat.le_of_ble_eq_true rfl) rfl (by decide) ev1 rfl ?_
  refine ev_goto (tgt := 8) dX1_commonOf_50 (by decide) ?_
  exact ev_weak (sb_s (sb_n (sb_n (sb_s (sb_s (sb_s sb_0)))))) (k8 y3 y4 v1 I _ h)
set_option maxRecDepth 100000 in
set_option maxHeartbeats 4000000 in
theorem tX1_commonOf_8 {E : ev_N} {σ : ev_H} (q0 : Nat) (g0 : shp tb1 σ q0) (K8 : Int32 → Int32 → Int32 → ev_I → Option (Int32)) (k8 : ∀ (y3 : Int32) (y4 : Int32) (y5 : Int32) (I : ev_I) (o : Int32), K8 y3 y4 y5 I = some o → EV E mX1_commonOf 8 [some (.ref q0), none, none, some (.int y3), some (.int y4), some (.int y5)] [] (h_w σ I) (Option.some (Value.int o), h_w σ I)) (n : Nat) (y3 : Int32) (y4 : Int32) (y5 : Int32) (I : ev_I) (o : Int32) : cX1_commonOf_8 q0 K8 n y3 y4 y5 I = some o → EV E mX1_commonOf 8 [some (.ref q0), none, none, some (.int y3), some (.int y4), some (.int y5)] [] (h_w σ I) (Option.some (Value.int o), h_w σ I) := by
  intro h
  unfold cX1_commonOf_8 at h
  refine ev_iload dX1_commonOf_8 rfl ?_
  refine ev_sipush (v := (200 : Int32)) dX1_commonOf_10 (by decide) ?_
  refine ev_icmp_ge (tgt := 53) dX1_commonOf_13 (by decide) (fun c2 => ?_) (fun c2 => ?_)
  · have h := ev_ifT h c2
    refine ev_iload_n dX1_commonOf_53 rfl ?_
    cases h
    exact er_i dX1_commonOf_54 rfl rfl
  · have h := ev_ifF h c2
    refine ev_iload_n dX1_commonOf_16 rfl ?_
    refine ev_iload dX1_commonOf_17 rfl ?_
    refine ev_icmp_eq (tgt := 53) dX1_commonOf_19 (by decide) (fun c3 => ?_) (fun c3 => ?_)
    · have h := ev_ifT h c3
      refine ev_iload_n dX1_commonOf_53 rfl ?_
      cases h
      exact er_i dX1_commonOf_54 rfl rfl
    · have h := ev_ifF h c3
      refine ev_iload_n dX1_commonOf_22 rfl ?_
      refine ev_iload dX1_commonOf_23 rfl ?_
      refine ev_icmp_le (tgt := 38) dX1_commonOf_25 (by decide) (fun c4 => ?_) (fun c4 => ?_)
      · have h := ev_ifT h c4
        refine ev_aload_n dX1_commonOf_38 rfl (fun _ e => by cases e) ?_
        refine ew_getr0 dX1_commonOf_39 fX1_15 g0 rfl rfl rfl rfl ?_
        refine ev_iload dX1_commonOf_42 rfl ?_
        obtain ⟨c5, h⟩ := ev_ckE h
        refine ew_iald dX1_commonOf_44 (shp_a g0 2 rfl) c5 ?_
        obtain ⟨v6, ev6, h⟩ := ev_ltE h
        refine ew_nm ev6 ?_
        refine ew_ist (L' := [some (.ref q0), none, none, some (.int y3), some (.int v6), some (.int y5)]) dX1_commonOf_45 (Nat.le_of_ble_eq_true rfl) rfl ?_
        exact ev_weak (sb_s (sb_n (sb_n (sb_s (sb_s (sb_s sb_0)))))) (tX1_commonOf_47 q0 g0 K8 k8 n y3 v6 y5 I _ h)
      · have h := ev_ifF h c4
        refine ev_aload_n dX1_commonOf_28 rfl (fun _ e => by cases e) ?_
        refine ew_getr0 dX1_commonOf_29 fX1_15 g0 rfl rfl rfl rfl ?_
        refine ev_iload_n dX1_commonOf_32 rfl ?_
        obtain ⟨c7, h⟩ := ev_ckE h
        refine ew_iald dX1_commonOf_33 (shp_a g0 2 rfl) c7 ?_
        obtain ⟨v8, ev8, h⟩ := ev_ltE h
        refine ew_nm ev8 ?_
        refine ew_istn (L' := [some (.ref q0), none, none, some (.int v8), some (.int y4), some (.int y5)]) dX1_commonOf_34 (Nat.le_of_ble_eq_true rfl) rfl ?_
        refine ev_goto (tgt := 47) dX1_commonOf_35 (by decide) ?_
        exact ev_weak (sb_s (sb_n (sb_n (sb_s (sb_s (sb_s sb_0)))))) (tX1_commonOf_47 q0 g0 K8 k8 n v8 y4 y5 I _ h)
theorem tlX1_commonOf_8 {E : ev_N} {σ : ev_H} (q0 : Nat) (g0 : shp tb1 σ q0) : ∀ (n : Nat) (y3 : Int32) (y4 : Int32) (y5 : Int32) (I : ev_I) (o : Int32), lX1_commonOf_8 q0 n y3 y4 y5 I = some o → EV E mX1_commonOf 8 [some (.ref q0), none, none, some (.int y3), some (.int y4), some (.int y5)] [] (h_w σ I) (Option.some (Value.int o), h_w σ I)
  | 0, _, _, _, _, _, h => by cases h
  | n + 1, y3, y4, y5, I, o, h => tX1_commonOf_8 q0 g0 (lX1_commonOf_8 q0 n) (tlX1_commonOf_8 q0 g0 n) n y3 y4 y5 I o h
set_option maxRecDepth 100000 in
set_option maxHeartbeats 4000000 in
theorem tX1_commonOf {E : ev_N} {σ : ev_H} (n : Nat) (q0 : Nat) (g0 : shp tb1 σ q0) (x1 : Int32) (x2 : Int32) (I : ev_I) (o : Int32) (h : pX1_commonOf n q0 x1 x2 I = some o) : ev_T E mX1_commonOf [.ref q0, .int x1, .int x2] (h_w σ I) (Option.some (Value.int o), h_w σ I) := by
  unfold pX1_commonOf at h
  refine ev_met rfl rfl (Nat.le_of_ble_eq_true rfl) (ev_L0 (L' := [some (.ref q0), some (.int x1), some (.int x2), none, none, none]) rfl ?_)
  refine ev_iload_n dX1_commonOf_0 rfl ?_
  refine ew_istn (L' := [some (.ref q0), some (.int x1), some (.int x2), some (.int x1), none, none]) dX1_commonOf_1 (Nat.le_of_ble_eq_true rfl) rfl ?_
  refine ev_iload_n dX1_commonOf_2 rfl ?_
  refine ew_ist (L' := [some (.ref q0), some (.int x1), some (.int x2), some (.int x1), some (.int x2), none]) dX1_commonOf_3 (Nat.le_of_ble_eq_true rfl) rfl ?_
  refine ev_iconst (v := (0 : Int32)) dX1_commonOf_5 (by decide) ?_
  refine ew_ist (L' := [some (.ref q0), some (.int x1), some (.int x2), some (.int x1), some (.int x2), some (.int (0 : Int32))]) dX1_commonOf_6 (Nat.le_of_ble_eq_true rfl) rfl ?_
  exact ev_weak (sb_s (sb_n (sb_n (sb_s (sb_s (sb_s sb_0)))))) (tlX1_commonOf_8 q0 g0 n x1 x2 (0 : Int32) I _ h)
-- ChainVotes$Blocks viewsInARow(I)I
def cX1_viewsInARow_7 (q0 : Nat) (K7 : Int32 → Int32 → Int32 → ev_I → Option (Int32)) (n : Nat) (y2 : Int32) (y3 : Int32) (y4 : Int32) (I : ev_I) : Option (Int32) :=
  if (100 : Int32) ≤ y4 then
    some y3
  else
    if y2 ≤ 0 then
      some y3
    else
      ev_ck (ev_in y2 100) <|
      ev_ck (ev_in y2 100) <|
      ev_ck (ev_in (I (q0 + 2) y2.toNatClampNeg) 100) <|
      if (I (q0 + 1) y2.toNatClampNeg) = ((I (q0 + 1) (I (q0 + 2) y2.toNatClampNeg).toNatClampNeg) + (1 : Int32)) then
        ev_ck (ev_in y2 100) <|
        ev_lt (I (q0 + 2) y2.toNatClampNeg) fun v8 =>
        ev_lt (y3 + (1 : Int32)) fun v9 =>
        ev_lt (y4 + (1 : Int32)) fun v10 =>
        K7 v8 v9 v10 I
      else
        some y3
def lX1_viewsInARow_7 (q0 : Nat) : Nat → Int32 → Int32 → Int32 → ev_I → Option (Int32)
  | 0, _, _, _, _ => none
  | n + 1, y2, y3, y4, I => cX1_viewsInARow_7 q0 (lX1_viewsInARow_7 q0 n) n y2 y3 y4 I
def pX1_viewsInARow (n : Nat) (q0 : Nat) (x1 : Int32) (I : ev_I) : Option (Int32) :=
  lX1_viewsInARow_7 q0 n x1 (1 : Int32) (0 : Int32) I
set_option maxRecDepth 100000 in
set_option maxHeartbeats 4000000 in
theorem tX1_viewsInARow_7 {E : ev_N} {σ : ev_H} (q0 : Nat) (g0 : shp tb1 σ q0) (K7 : Int32 → Int32 → Int32 → ev_I → Option (Int32)) (k7 : ∀ (y2 : Int32) (y3 : Int32) (y4 : Int32) (I : ev_I) (o : Int32), K7 y2 y3 y4 I = some o → EV E mX1_viewsInARow 7 [some (.ref q0), none, some (.int y2), some (.int y3), some (.int y4)] [] (h_w σ I) (Option.some (Value.int o), h_w σ I)) (n : Nat) (y2 : Int32) (y3 : Int32) (y4 : Int32) (I : ev_I) (o : Int32) : cX1_viewsInARow_7 q0 K7 n y2 y3 y4 I = some o → EV E mX1_viewsInARow 7 [some (.ref q0), none, some (.int y2), some (.int y3), some (.int y4)] [] (h_w σ I) (Option.some (Value.int o), h_w σ I) := by
  intro h
  unfold cX1_viewsInARow_7 at h
  refine ev_iload dX1_viewsInARow_7 rfl ?_
  refine ev_bipush (v := (100 : Int32)) dX1_viewsInARow_9 (by decide) ?_
  refine ev_icmp_ge (tgt := 56) dX1_viewsInARow_11 (by decide) (fun c1 => ?_) (fun c1 => ?_)
  · have h := ev_ifT h c1
    refine ev_iload_n dX1_viewsInARow_56 rfl ?_
    cases h
    exact er_i dX1_viewsInARow_57 rfl rfl
  · have h := ev_ifF h c1
    refine ev_iload_n dX1_viewsInARow_14 rfl ?_
    refine ev_if_le (tgt := 56) dX1_viewsInARow_15 (by decide) (fun c2 => ?_) (fun c2 => ?_)
    · have h := ev_ifT h c2
      refine ev_iload_n dX1_viewsInARow_56 rfl ?_
      cases h
      exact er_i dX1_viewsInARow_57 rfl rfl
    · have h := ev_ifF h c2
      refine ev_aload_n dX1_viewsInARow_18 rfl (fun _ e => by cases e) ?_
      refine ew_getr0 dX1_viewsInARow_19 fX1_9 g0 rfl rfl rfl rfl ?_
      refine ev_iload_n dX1_viewsInARow_22 rfl ?_
      obtain ⟨c3, h⟩ := ev_ckE h
      refine ew_iald dX1_viewsInARow_23 (shp_a g0 1 rfl) c3 ?_
      refine ev_aload_n dX1_viewsInARow_24 rfl (fun _ e => by cases e) ?_
      refine ew_getr0 dX1_viewsInARow_25 fX1_9 g0 rfl rfl rfl rfl ?_
      refine ev_aload_n dX1_viewsInARow_28 rfl (fun _ e => by cases e) ?_
      refine ew_getr0 dX1_viewsInARow_29 fX1_15 g0 rfl rfl rfl rfl ?_
      refine ev_iload_n dX1_viewsInARow_32 rfl ?_
      obtain ⟨c4, h⟩ := ev_ckE h
      refine ew_iald dX1_viewsInARow_33 (shp_a g0 2 rfl) c4 ?_
      obtain ⟨c5, h⟩ := ev_ckE h
      refine ew_iald dX1_viewsInARow_34 (shp_a g0 1 rfl) c5 ?_
      refine ev_iconst (v := (1 : Int32)) dX1_viewsInARow_35 (by decide) ?_
      refine ev_iadd dX1_viewsInARow_36 ?_
      refine ev_icmp_ne (tgt := 56) dX1_viewsInARow_37 (by decide) (fun c6 => ?_) (fun c6 => ?_)
      · have h := ev_ifF h c6
        refine ev_iload_n dX1_viewsInARow_56 rfl ?_
        cases h
        exact er_i dX1_viewsInARow_57 rfl rfl
      · have h := ev_ifT h c6
        refine ev_aload_n dX1_viewsInARow_40 rfl (fun _ e => by cases e) ?_
        refine ew_getr0 dX1_viewsInARow_41 fX1_15 g0 rfl rfl rfl rfl ?_
        refine ev_iload_n dX1_viewsInARow_44 rfl ?_
        obtain ⟨c7, h⟩ := ev_ckE h
        refine ew_iald dX1_viewsInARow_45 (shp_a g0 2 rfl) c7 ?_
        obtain ⟨v8, ev8, h⟩ := ev_ltE h
        refine ew_nm ev8 ?_
        refine ew_istn (L' := [some (.ref q0), none, some (.int v8), some (.int y3), some (.int y4)]) dX1_viewsInARow_46 (Nat.le_of_ble_eq_true rfl) rfl ?_
        obtain ⟨v9, ev9, h⟩ := ev_ltE h
        refine ew_iinc (L' := [some (.ref q0), none, some (.int v8), some (.int v9), some (.int y4)]) dX1_viewsInARow_47 (Nat.le_of_ble_eq_true rfl) rfl (by decide) ev9 rfl ?_
        obtain ⟨v10, ev10, h⟩ := ev_ltE h
        refine ew_iinc (L' := [some (.ref q0), none, some (.int v8), some (.int v9), some (.int v10)]) dX1_viewsInARow_50 (Nat.le_of_ble_eq_true rfl) rfl (by decide) ev10 rfl ?_
        refine ev_goto (tgt := 7) dX1_viewsInARow_53 (by decide) ?_
        exact ev_weak (sb_s (sb_n (sb_s (sb_s (sb_s sb_0))))) (k7 v8 v9 v10 I _ h)
theorem tlX1_viewsInARow_7 {E : ev_N} {σ : ev_H} (q0 : Nat) (g0 : shp tb1 σ q0) : ∀ (n : Nat) (y2 : Int32) (y3 : Int32) (y4 : Int32) (I : ev_I) (o : Int32), lX1_viewsInARow_7 q0 n y2 y3 y4 I = some o → EV E mX1_viewsInARow 7 [some (.ref q0), none, some (.int y2), some (.int y3), some (.int y4)] [] (h_w σ I) (Option.some (Value.int o), h_w σ I)
  | 0, _, _, _, _, _, h => by cases h
  | n + 1, y2, y3, y4, I, o, h => tX1_viewsInARow_7 q0 g0 (lX1_viewsInARow_7 q0 n) (tlX1_viewsInARow_7 q0 g0 n) n y2 y3 y4 I o h
set_option maxRecDepth 100000 in
set_option maxHeartbeats 4000000 in
theorem tX1_viewsInARow {E : ev_N} {σ : ev_H} (n : Nat) (q0 : Nat) (g0 : shp tb1 σ q0) (x1 : Int32) (I : ev_I) (o : Int32) (h : pX1_viewsInARow n q0 x1 I = some o) : ev_T E mX1_viewsInARow [.ref q0, .int x1] (h_w σ I) (Option.some (Value.int o), h_w σ I) := by
  unfold pX1_viewsInARow at h
  refine ev_met rfl rfl (Nat.le_of_ble_eq_true rfl) (ev_L0 (L' := [some (.ref q0), some (.int x1), none, none, none]) rfl ?_)
  refine ev_iload_n dX1_viewsInARow_0 rfl ?_
  refine ew_istn (L' := [some (.ref q0), some (.int x1), some (.int x1), none, none]) dX1_viewsInARow_1 (Nat.le_of_ble_eq_true rfl) rfl ?_
  refine ev_iconst (v := (1 : Int32)) dX1_viewsInARow_2 (by decide) ?_
  refine ew_istn (L' := [some (.ref q0), some (.int x1), some (.int x1), some (.int (1 : Int32)), none]) dX1_viewsInARow_3 (Nat.le_of_ble_eq_true rfl) rfl ?_
  refine ev_iconst (v := (0 : Int32)) dX1_viewsInARow_4 (by decide) ?_
  refine ew_ist (L' := [some (.ref q0), some (.int x1), some (.int x1), some (.int (1 : Int32)), some (.int (0 : Int32))]) dX1_viewsInARow_5 (Nat.le_of_ble_eq_true rfl) rfl ?_
  exact ev_weak (sb_s (sb_n (sb_s (sb_s (sb_s sb_0))))) (tlX1_viewsInARow_7 q0 g0 n x1 (1 : Int32) (0 : Int32) I _ h)
-- ChainVotes$Blocks committedBy(I)I
def cX1_committedBy_80 (q0 : Nat) (n : Nat) (y3 : Int32) (y4 : Int32) (s0 : Int32) (I : ev_I) : Option (Int32) :=
  if y4 = 0 then
    some (0 : Int32)
  else
    if s0 = 0 then
      some (0 : Int32)
    else
      some y3
def cX1_committedBy_79 (q0 : Nat) (n : Nat) (y3 : Int32) (y4 : Int32) (I : ev_I) : Option (Int32) :=
  cX1_committedBy_80 q0 n y3 y4 (0 : Int32) I
def cX1_committedBy_39 (q0 : Nat) (n : Nat) (y1 : Int32) (y2 : Int32) (y3 : Int32) (s0 : Int32) (I : ev_I) : Option (Int32) :=
  ev_ck (ev_in y1 100) <|
  ev_ck (ev_in y2 100) <|
  if (I (q0 + 1) y1.toNatClampNeg) = ((I (q0 + 1) y2.toNatClampNeg) + (1 : Int32)) then
    ev_ck (ev_in y2 100) <|
    ev_ck (ev_in y3 100) <|
    if (I (q0 + 1) y2.toNatClampNeg) = ((I (q0 + 1) y3.toNatClampNeg) + (1 : Int32)) then
      cX1_committedBy_80 q0 n y3 s0 (1 : Int32) I
    else
      cX1_committedBy_79 q0 n y3 s0 I
  else
    cX1_committedBy_79 q0 n y3 s0 I
def cX1_committedBy_38 (q0 : Nat) (n : Nat) (y1 : Int32) (y2 : Int32) (y3 : Int32) (I : ev_I) : Option (Int32) :=
  cX1_committedBy_39 q0 n y1 y2 y3 (0 : Int32) I
def pX1_committedBy (n : Nat) (q0 : Nat) (x1 : Int32) (I : ev_I) : Option (Int32) :=
  ev_ck (ev_in x1 100) <|
  ev_lt (I (q0 + 3) x1.toNatClampNeg) fun v10 =>
  ev_ck (ev_in v10 100) <|
  ev_lt (I (q0 + 3) v10.toNatClampNeg) fun v12 =>
  ev_ck (ev_in x1 100) <|
  if (I (q0 + 2) x1.toNatClampNeg) = v10 then
    ev_ck (ev_in v10 100) <|
    if (I (q0 + 2) v10.toNatClampNeg) = v12 then
      cX1_committedBy_39 q0 n x1 v10 v12 (1 : Int32) I
    else
      cX1_committedBy_38 q0 n x1 v10 v12 I
  else
    cX1_committedBy_38 q0 n x1 v10 v12 I
set_option maxRecDepth 100000 in
set_option maxHeartbeats 4000000 in
theorem tX1_committedBy_80 {E : ev_N} {σ : ev_H} (q0 : Nat) (g0 : shp tb1 σ q0) (n : Nat) (y3 : Int32) (y4 : Int32) (s0 : Int32) (I : ev_I) (o : Int32) : cX1_committedBy_80 q0 n y3 y4 s0 I = some o → EV E mX1_committedBy 80 [none, none, none, some (.int y3), some (.int y4), none] [(.int s0)] (h_w σ I) (Option.some (Value.int o), h_w σ I) := by
  intro h
  unfold cX1_committedBy_80 at h
  refine ew_ist (L' := [none, none, none, some (.int y3), some (.int y4), some (.int s0)]) dX1_committedBy_80 (Nat.le_of_ble_eq_true rfl) rfl ?_
  refine ev_iload dX1_committedBy_82 rfl ?_
  refine ev_if_eq (tgt := 96) dX1_committedBy_84 (by decide) (fun c1 => ?_) (fun c1 => ?_)
  · have h := ev_ifT h c1
    refine ev_iconst (v := (0 : Int32)) dX1_committedBy_96 (by decide) ?_
    cases h
    exact er_i dX1_committedBy_97 rfl rfl
  · have h := ev_ifF h c1
    refine ev_iload dX1_committedBy_87 rfl ?_
    refine ev_if_eq (tgt := 96) dX1_committedBy_89 (by decide) (fun c2 => ?_) (fun c2 => ?_)
    · have h := ev_ifT h c2
      refine ev_iconst (v := (0 : Int32)) dX1_committedBy_96 (by decide) ?_
      cases h
      exact er_i dX1_committedBy_97 rfl rfl
    · have h := ev_ifF h c2
      refine ev_iload_n dX1_committedBy_92 rfl ?_
      refine ev_goto (tgt := 97) dX1_committedBy_93 (by decide) ?_
      cases h
      exact er_i dX1_committedBy_97 rfl rfl
set_option maxRecDepth 100000 in
set_option maxHeartbeats 4000000 in
theorem tX1_committedBy_79 {E : ev_N} {σ : ev_H} (q0 : Nat) (g0 : shp tb1 σ q0) (n : Nat) (y3 : Int32) (y4 : Int32) (I : ev_I) (o : Int32) : cX1_committedBy_79 q0 n y3 y4 I = some o → EV E mX1_committedBy 79 [none, none, none, some (.int y3), some (.int y4), none] [] (h_w σ I) (Option.some (Value.int o), h_w σ I) := by
  intro h
  unfold cX1_committedBy_79 at h
  refine ev_iconst (v := (0 : Int32)) dX1_committedBy_79 (by decide) ?_
  exact ev_weak (sb_n (sb_n (sb_n (sb_s (sb_s (sb_n sb_0)))))) (tX1_committedBy_80 q0 g0 n y3 y4 (0 : Int32) I _ h)
set_option maxRecDepth 100000 in
set_option maxHeartbeats 4000000 in
theorem tX1_committedBy_39 {E : ev_N} {σ : ev_H} (q0 : Nat) (g0 : shp tb1 σ q0) (n : Nat) (y1 : Int32) (y2 : Int32) (y3 : Int32) (s0 : Int32) (I : ev_I) (o : Int32) : cX1_committedBy_39 q0 n y1 y2 y3 s0 I = some o → EV E mX1_committedBy 39 [some (.ref q0), some (.int y1), some (.int y2), some (.int y3), none, none] [(.int s0)] (h_w σ I) (Option.some (Value.int o), h_w σ I) := by
  intro h
  unfold cX1_committedBy_39 at h
  refine ew_ist (L' := [some (.ref q0), some (.int y1), some (.int y2), some (.int y3), some (.int s0), none]) dX1_committedBy_39 (Nat.le_of_ble_eq_true rfl) rfl ?_
  refine ev_aload_n dX1_committedBy_41 rfl (fun _ e => by cases e) ?_
  refine ew_getr0 dX1_committedBy_42 fX1_9 g0 rfl rfl rfl rfl ?_
  refine ev_iload_n dX1_committedBy_45 rfl ?_
  obtain ⟨c3, h⟩ := ev_ckE h
  refine ew_iald dX1_committedBy_46 (shp_a g0 1 rfl) c3 ?_
  refine ev_aload_n dX1_committedBy_47 rfl (fun _ e => by cases e) ?_
  refine ew_getr0 dX1_committedBy_48 fX1_9 g0 rfl rfl rfl rfl ?_
  refine ev_iload_n dX1_committedBy_51 rfl ?_
  obtain ⟨c4, h⟩ := ev_ckE h
  refine ew_iald dX1_committedBy_52 (shp_a g0 1 rfl) c4 ?_
  refine ev_iconst (v := (1 : Int32)) dX1_committedBy_53 (by decide) ?_
  refine ev_iadd dX1_committedBy_54 ?_
  refine ev_icmp_ne (tgt := 79) dX1_committedBy_55 (by decide) (fun c5 => ?_) (fun c5 => ?_)
  · have h := ev_ifF h c5
    exact ev_weak (sb_n (sb_n (sb_n (sb_s (sb_s (sb_n sb_0)))))) (tX1_committedBy_79 q0 g0 n y3 s0 I _ h)
  · have h := ev_ifT h c5
    refine ev_aload_n dX1_committedBy_58 rfl (fun _ e => by cases e) ?_
    refine ew_getr0 dX1_committedBy_59 fX1_9 g0 rfl rfl rfl rfl ?_
    refine ev_iload_n dX1_committedBy_62 rfl ?_
    obtain ⟨c6, h⟩ := ev_ckE h
    refine ew_iald dX1_committedBy_63 (shp_a g0 1 rfl) c6 ?_
    refine ev_aload_n dX1_committedBy_64 rfl (fun _ e => by cases e) ?_
    refine ew_getr0 dX1_committedBy_65 fX1_9 g0 rfl rfl rfl rfl ?_
    refine ev_iload_n dX1_committedBy_68 rfl ?_
    obtain ⟨c7, h⟩ := ev_ckE h
    refine ew_iald dX1_committedBy_69 (shp_a g0 1 rfl) c7 ?_
    refine ev_iconst (v := (1 : Int32)) dX1_committedBy_70 (by decide) ?_
    refine ev_iadd dX1_committedBy_71 ?_
    refine ev_icmp_ne (tgt := 79) dX1_committedBy_72 (by decide) (fun c8 => ?_) (fun c8 => ?_)
    · have h := ev_ifF h c8
      exact ev_weak (sb_n (sb_n (sb_n (sb_s (sb_s (sb_n sb_0)))))) (tX1_committedBy_79 q0 g0 n y3 s0 I _ h)
    · have h := ev_ifT h c8
      refine ev_iconst (v := (1 : Int32)) dX1_committedBy_75 (by decide) ?_
      refine ev_goto (tgt := 80) dX1_committedBy_76 (by decide) ?_
      exact ev_weak (sb_n (sb_n (sb_n (sb_s (sb_s (sb_n sb_0)))))) (tX1_committedBy_80 q0 g0 n y3 s0 (1 : Int32) I _ h)
set_option maxRecDepth 100000 in
set_option maxHeartbeats 4000000 in
theorem tX1_committedBy_38 {E : ev_N} {σ : ev_H} (q0 : Nat) (g0 : shp tb1 σ q0) (n : Nat) (y1 : Int32) (y2 : Int32) (y3 : Int32) (I : ev_I) (o : Int32) : cX1_committedBy_38 q0 n y1 y2 y3 I = some o → EV E mX1_committedBy 38 [some (.ref q0), some (.int y1), some (.int y2), some (.int y3), none, none] [] (h_w σ I) (Option.some (Value.int o), h_w σ I) := by
  intro h
  unfold cX1_committedBy_38 at h
  refine ev_iconst (v := (0 : Int32)) dX1_committedBy_38 (by decide) ?_
  exact ev_weak (sb_s (sb_s (sb_s (sb_s (sb_n (sb_n sb_0)))))) (tX1_committedBy_39 q0 g0 n y1 y2 y3 (0 : Int32) I _ h)
set_option maxRecDepth 100000 in
set_option maxHeartbeats 4000000 in
theorem tX1_committedBy {E : ev_N} {σ : ev_H} (n : Nat) (q0 : Nat) (g0 : shp tb1 σ q0) (x1 : Int32) (I : ev_I) (o : Int32) (h : pX1_committedBy n q0 x1 I = some o) : ev_T E mX1_committedBy [.ref q0, .int x1] (h_w σ I) (Option.some (Value.int o), h_w σ I) := by
  unfold pX1_committedBy at h
  refine ev_met rfl rfl (Nat.le_of_ble_eq_true rfl) (ev_L0 (L' := [some (.ref q0), some (.int x1), none, none, none, none]) rfl ?_)
  refine ev_aload_n dX1_committedBy_0 rfl (fun _ e => by cases e) ?_
  refine ew_getr0 dX1_committedBy_1 fX1_18 g0 rfl rfl rfl rfl ?_
  refine ev_iload_n dX1_committedBy_4 rfl ?_
  obtain ⟨c9, h⟩ := ev_ckE h
  refine ew_iald dX1_committedBy_5 (shp_a g0 3 rfl) c9 ?_
  obtain ⟨v10, ev10, h⟩ := ev_ltE h
  refine ew_nm ev10 ?_
  refine ew_istn (L' := [some (.ref q0), some (.int x1), some (.int v10), none, none, none]) dX1_committedBy_6 (Nat.le_of_ble_eq_true rfl) rfl ?_
  refine ev_aload_n dX1_committedBy_7 rfl (fun _ e => by cases e) ?_
  refine ew_getr0 dX1_committedBy_8 fX1_18 g0 rfl rfl rfl rfl ?_
  refine ev_iload_n dX1_committedBy_11 rfl ?_
  obtain ⟨c11, h⟩ := ev_ckE h
  refine ew_iald dX1_committedBy_12 (shp_a g0 3 rfl) c11 ?_
  obtain ⟨v12, ev12, h⟩ := ev_ltE h
  refine ew_nm ev12 ?_
  refine ew_istn (L' := [some (.ref q0), some (.int x1), some (.int v10), some (.int v12), none, none]) dX1_committedBy_13 (Nat.le_of_ble_eq_true rfl) rfl ?_
  refine ev_aload_n dX1_committedBy_14 rfl (fun _ e => by cases e) ?_
  refine ew_getr0 dX1_committedBy_15 fX1_15 g0 rfl rfl rfl rfl ?_
  refine ev_iload_n dX1_committedBy_18 rfl ?_
  obtain ⟨c13, h⟩ := ev_ckE h
  refine ew_iald dX1_committedBy_19 (shp_a g0 2 rfl) c13 ?_
  refine ev_iload_n dX1_committedBy_20 rfl ?_
  refine ev_icmp_ne (tgt := 38) dX1_committedBy_21 (by decide) (fun c14 => ?_) (fun c14 => ?_)
  · have h := ev_ifF h c14
    exact ev_weak (sb_s (sb_s (sb_s (sb_s (sb_n (sb_n sb_0)))))) (tX1_committedBy_38 q0 g0 n x1 v10 v12 I _ h)
  · have h := ev_ifT h c14
    refine ev_aload_n dX1_committedBy_24 rfl (fun _ e => by cases e) ?_
    refine ew_getr0 dX1_committedBy_25 fX1_15 g0 rfl rfl rfl rfl ?_
    refine ev_iload_n dX1_committedBy_28 rfl ?_
    obtain ⟨c15, h⟩ := ev_ckE h
    refine ew_iald dX1_committedBy_29 (shp_a g0 2 rfl) c15 ?_
    refine ev_iload_n dX1_committedBy_30 rfl ?_
    refine ev_icmp_ne (tgt := 38) dX1_committedBy_31 (by decide) (fun c16 => ?_) (fun c16 => ?_)
    · have h := ev_ifF h c16
      exact ev_weak (sb_s (sb_s (sb_s (sb_s (sb_n (sb_n sb_0)))))) (tX1_committedBy_38 q0 g0 n x1 v10 v12 I _ h)
    · have h := ev_ifT h c16
      refine ev_iconst (v := (1 : Int32)) dX1_committedBy_34 (by decide) ?_
      refine ev_goto (tgt := 39) dX1_committedBy_35 (by decide) ?_
      exact ev_weak (sb_s (sb_s (sb_s (sb_s (sb_n (sb_n sb_0)))))) (tX1_committedBy_39 q0 g0 n x1 v10 v12 (1 : Int32) I _ h)
-- java/lang/Integer bitCount(I)I
def pJ6_bitCount_0f7a4 (n : Nat)  (x0 : Int32) (I : ev_I) : Option (Int32) :=
  ev_lt (x0 - ((x0.toUInt32 >>> ((1 : Int32).toUInt32 &&& Int32.toUInt32 31)).toInt32 &&& (1431655765 : Int32))) fun v1 =>
  ev_lt ((v1 &&& (858993459 : Int32)) + ((v1.toUInt32 >>> ((2 : Int32).toUInt32 &&& Int32.toUInt32 31)).toInt32 &&& (858993459 : Int32))) fun v2 =>
  ev_lt ((v2 + (v2.toUInt32 >>> ((4 : Int32).toUInt32 &&& Int32.toUInt32 31)).toInt32) &&& (252645135 : Int32)) fun v3 =>
  ev_lt (v3 + (v3.toUInt32 >>> ((8 : Int32).toUInt32 &&& Int32.toUInt32 31)).toInt32) fun v4 =>
  ev_lt (v4 + (v4.toUInt32 >>> ((16 : Int32).toUInt32 &&& Int32.toUInt32 31)).toInt32) fun v5 =>
  some (v5 &&& (63 : Int32))
set_option maxRecDepth 100000 in
set_option maxHeartbeats 4000000 in
theorem tJ6_bitCount_0f7a4 {E : ev_N} {σ : ev_H} (n : Nat)   (x0 : Int32) (I : ev_I) (o : Int32) (h : pJ6_bitCount_0f7a4 n  x0 I = some o) : ev_T E mJ6_bitCount_0f7a4 [.int x0] (h_w σ I) (Option.some (Value.int o), h_w σ I) := by
  unfold pJ6_bitCount_0f7a4 at h
  refine ev_met rfl rfl (Nat.le_of_ble_eq_true rfl) (ev_L0 (L' := [some (.int x0)]) rfl ?_)
  refine ev_iload_n dJ6_bitCount_0f7a4_0 rfl ?_
  refine ev_iload_n dJ6_bitCount_0f7a4_1 rfl ?_
  refine ev_iconst (v := (1 : Int32)) dJ6_bitCount_0f7a4_2 (by decide) ?_
  refine ev_iushr dJ6_bitCount_0f7a4_3 ?_
  refine ev_ldcw (v := (1431655765 : Int32)) dJ6_bitCount_0f7a4_4 vJ6_265 ?_
  refine ev_iand dJ6_bitCount_0f7a4_7 ?_
  refine ev_isub dJ6_bitCount_0f7a4_8 ?_
  obtain ⟨v1, ev1, h⟩ := ev_ltE h
  refine ew_nm ev1 ?_
  refine ew_istn (L' := [some (.int v1)]) dJ6_bitCount_0f7a4_9 (Nat.le_of_ble_eq_true rfl) rfl ?_
  refine ev_iload_n dJ6_bitCount_0f7a4_10 rfl ?_
  refine ev_ldcw (v := (858993459 : Int32)) dJ6_bitCount_0f7a4_11 vJ6_266 ?_
  refine ev_iand dJ6_bitCount_0f7a4_14 ?_
  refine ev_iload_n dJ6_bitCount_0f7a4_15 rfl ?_
  refine ev_iconst (v := (2 : Int32)) dJ6_bitCount_0f7a4_16 (by decide) ?_
  refine ev_iushr dJ6_bitCount_0f7a4_17 ?_
  refine ev_ldcw (v := (858993459 : Int32)) dJ6_bitCount_0f7a4_18 vJ6_266 ?_
  refine ev_iand dJ6_bitCount_0f7a4_21 ?_
  refine ev_iadd dJ6_bitCount_0f7a4_22 ?_
  obtain ⟨v2, ev2, h⟩ := ev_ltE h
  refine ew_nm ev2 ?_
  refine ew_istn (L' := [some (.int v2)]) dJ6_bitCount_0f7a4_23 (Nat.le_of_ble_eq_true rfl) rfl ?_
  refine ev_iload_n dJ6_bitCount_0f7a4_24 rfl ?_
  refine ev_iload_n dJ6_bitCount_0f7a4_25 rfl ?_
  refine ev_iconst (v := (4 : Int32)) dJ6_bitCount_0f7a4_26 (by decide) ?_
  refine ev_iushr dJ6_bitCount_0f7a4_27 ?_
  refine ev_iadd dJ6_bitCount_0f7a4_28 ?_
  refine ev_ldcw (v := (252645135 : Int32)) dJ6_bitCount_0f7a4_29 vJ6_267 ?_
  refine ev_iand dJ6_bitCount_0f7a4_32 ?_
  obtain ⟨v3, ev3, h⟩ := ev_ltE h
  refine ew_nm ev3 ?_
  refine ew_istn (L' := [some (.int v3)]) dJ6_bitCount_0f7a4_33 (Nat.le_of_ble_eq_true rfl) rfl ?_
  refine ev_iload_n dJ6_bitCount_0f7a4_34 rfl ?_
  refine ev_iload_n dJ6_bitCount_0f7a4_35 rfl ?_
  refine ev_bipush (v := (8 : Int32)) dJ6_bitCount_0f7a4_36 (by decide) ?_
  refine ev_iushr dJ6_bitCount_0f7a4_38 ?_
  refine ev_iadd dJ6_bitCount_0f7a4_39 ?_
  obtain ⟨v4, ev4, h⟩ := ev_ltE h
  refine ew_nm ev4 ?_
  refine ew_istn (L' := [some (.int v4)]) dJ6_bitCount_0f7a4_40 (Nat.le_of_ble_eq_true rfl) rfl ?_
  refine ev_iload_n dJ6_bitCount_0f7a4_41 rfl ?_
  refine ev_iload_n dJ6_bitCount_0f7a4_42 rfl ?_
  refine ev_bipush (v := (16 : Int32)) dJ6_bitCount_0f7a4_43 (by decide) ?_
  refine ev_iushr dJ6_bitCount_0f7a4_45 ?_
  refine ev_iadd dJ6_bitCount_0f7a4_46 ?_
  obtain ⟨v5, ev5, h⟩ := ev_ltE h
  refine ew_nm ev5 ?_
  refine ew_istn (L' := [some (.int v5)]) dJ6_bitCount_0f7a4_47 (Nat.le_of_ble_eq_true rfl) rfl ?_
  refine ev_iload_n dJ6_bitCount_0f7a4_48 rfl ?_
  refine ev_bipush (v := (63 : Int32)) dJ6_bitCount_0f7a4_49 (by decide) ?_
  refine ev_iand dJ6_bitCount_0f7a4_51 ?_
  cases h
  exact er_i dJ6_bitCount_0f7a4_52 rfl rfl
-- java/util/Arrays fill([II)V
def cJ7_fill_53178_5 (q0 z0 : Nat) (K5 : Int32 → Int32 → Int32 → ev_I → Option (ev_I)) (n : Nat) (y1 : Int32) (y2 : Int32) (y3 : Int32) (I : ev_I) : Option (ev_I) :=
  if y3 ≤ y2 then
    some I
  else
    ev_ck (ev_in y2 z0) <|
    ev_lt (ev_u2 I q0 y2.toNatClampNeg y1) fun I3 =>
    ev_lt (y2 + (1 : Int32)) fun v4 =>
    K5 y1 v4 y3 I3
def lJ7_fill_53178_5 (q0 z0 : Nat) : Nat → Int32 → Int32 → Int32 → ev_I → Option (ev_I)
  | 0, _, _, _, _ => none
  | n + 1, y1, y2, y3, I => cJ7_fill_53178_5 q0 z0 (lJ7_fill_53178_5 q0 z0 n) n y1 y2 y3 I
def pJ7_fill_53178 (n : Nat) (q0 z0 : Nat) (x1 : Int32) (I : ev_I) : Option (ev_I) :=
  ev_lt (Int32.ofNat z0) fun v5 =>
  lJ7_fill_53178_5 q0 z0 n x1 (0 : Int32) v5 I
set_option maxRecDepth 100000 in
set_option maxHeartbeats 4000000 in
theorem tJ7_fill_53178_5 {E : ev_N} {σ : ev_H} (q0 z0 : Nat) (g0 : sar 100 σ q0 z0) (K5 : Int32 → Int32 → Int32 → ev_I → Option (ev_I)) (k5 : ∀ (y1 : Int32) (y2 : Int32) (y3 : Int32) (I : ev_I) (o : ev_I), K5 y1 y2 y3 I = some o → EV E mJ7_fill_53178 5 [some (.ref q0), some (.int y1), some (.int y2), some (.int y3)] [] (h_w σ I) (Option.none, h_w σ o)) (n : Nat) (y1 : Int32) (y2 : Int32) (y3 : Int32) (I : ev_I) (o : ev_I) : cJ7_fill_53178_5 q0 z0 K5 n y1 y2 y3 I = some o → EV E mJ7_fill_53178 5 [some (.ref q0), some (.int y1), some (.int y2), some (.int y3)] [] (h_w σ I) (Option.none, h_w σ o) := by
  intro h
  unfold cJ7_fill_53178_5 at h
  refine ev_iload_n dJ7_fill_53178_5 rfl ?_
  refine ev_iload_n dJ7_fill_53178_6 rfl ?_
  refine ev_icmp_ge (tgt := 20) dJ7_fill_53178_7 (by decide) (fun c1 => ?_) (fun c1 => ?_)
  · have h := ev_ifT h c1
    cases h
    exact er_v dJ7_fill_53178_20 rfl
  · have h := ev_ifF h c1
    refine ev_aload_n dJ7_fill_53178_10 rfl (fun _ e => by cases e) ?_
    refine ev_iload_n dJ7_fill_53178_11 rfl ?_
    refine ev_iload_n dJ7_fill_53178_12 rfl ?_
    obtain ⟨c2, h⟩ := ev_ckE h
    obtain ⟨I3, eI3, h⟩ := ev_ltE h
    refine ew_iast dJ7_fill_53178_13 g0 c2 (ew_nh eI3 ?_)
    obtain ⟨v4, ev4, h⟩ := ev_ltE h
    refine ew_iinc (L' := [some (.ref q0), some (.int y1), some (.int v4), some (.int y3)]) dJ7_fill_53178_14 (Nat.le_of_ble_eq_true rfl) rfl (by decide) ev4 rfl ?_
    refine ev_goto (tgt := 5) dJ7_fill_53178_17 (by decide) ?_
    exact ev_weak (sb_s (sb_s (sb_s (sb_s sb_0)))) (k5 y1 v4 y3 I3 _ h)
theorem tlJ7_fill_53178_5 {E : ev_N} {σ : ev_H} (q0 z0 : Nat) (g0 : sar 100 σ q0 z0) : ∀ (n : Nat) (y1 : Int32) (y2 : Int32) (y3 : Int32) (I : ev_I) (o : ev_I), lJ7_fill_53178_5 q0 z0 n y1 y2 y3 I = some o → EV E mJ7_fill_53178 5 [some (.ref q0), some (.int y1), some (.int y2), some (.int y3)] [] (h_w σ I) (Option.none, h_w σ o)
  | 0, _, _, _, _, _, h => by cases h
  | n + 1, y1, y2, y3, I, o, h => tJ7_fill_53178_5 q0 z0 g0 (lJ7_fill_53178_5 q0 z0 n) (tlJ7_fill_53178_5 q0 z0 g0 n) n y1 y2 y3 I o h
set_option maxRecDepth 100000 in
set_option maxHeartbeats 4000000 in
theorem tJ7_fill_53178 {E : ev_N} {σ : ev_H} (n : Nat) (q0 z0 : Nat) (g0 : sar 100 σ q0 z0) (x1 : Int32) (I : ev_I) (o : ev_I) (h : pJ7_fill_53178 n q0 z0 x1 I = some o) : ev_T E mJ7_fill_53178 [.ref q0, .int x1] (h_w σ I) (Option.none, h_w σ o) := by
  unfold pJ7_fill_53178 at h
  refine ev_met rfl rfl (Nat.le_of_ble_eq_true rfl) (ev_L0 (L' := [some (.ref q0), some (.int x1), none, none]) rfl ?_)
  refine ev_iconst (v := (0 : Int32)) dJ7_fill_53178_0 (by decide) ?_
  refine ew_istn (L' := [some (.ref q0), some (.int x1), some (.int (0 : Int32)), none]) dJ7_fill_53178_1 (Nat.le_of_ble_eq_true rfl) rfl ?_
  refine ev_aload_n dJ7_fill_53178_2 rfl (fun _ e => by cases e) ?_
  refine ew_alen dJ7_fill_53178_3 g0 ?_
  obtain ⟨v5, ev5, h⟩ := ev_ltE h
  refine ew_nm ev5 ?_
  refine ew_istn (L' := [some (.ref q0), some (.int x1), some (.int (0 : Int32)), some (.int v5)]) dJ7_fill_53178_4 (Nat.le_of_ble_eq_true rfl) rfl ?_
  exact ev_weak (sb_s (sb_s (sb_s (sb_s sb_0)))) (tlJ7_fill_53178_5 q0 z0 g0 n x1 (0 : Int32) v5 I _ h)
