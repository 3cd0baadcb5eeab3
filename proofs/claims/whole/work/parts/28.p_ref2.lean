-- ChainVotesModel canTimeOut(I)Z
def pX10_canTimeOut (n : Nat) (q0 : Nat) (x1 : Int32) (I : ev_I) : Option (Int32) :=
  (pX10_isSilent n q0 x1 I).bind fun z1 =>
  if z1 = 0 then
    (pX10_viewOf n q0 x1 I).bind fun z3 =>
    if (200 : Int32) < z3 then
      some (0 : Int32)
    else
      (pX10_nodeAt n q0 x1 I).bind fun z5 =>
      ev_ck (ev_in (z5 + (4 : Int32)) 6010) <|
      (pX10_viewOf n q0 x1 I).bind fun z7 =>
      if z7 ≤ (I (q0 + 1) (z5 + (4 : Int32)).toNatClampNeg) then
        some (0 : Int32)
      else
        some (1 : Int32)
  else
    some (0 : Int32)
set_option maxRecDepth 100000 in
set_option maxHeartbeats 4000000 in
theorem tX10_canTimeOut {E : ev_N} {σ : ev_H} (n : Nat) (q0 : Nat) (g0 : shp tb9 σ q0) (x1 : Int32) (I : ev_I) (o : Int32) (h : pX10_canTimeOut n q0 x1 I = some o) : ev_T E mX10_canTimeOut [.ref q0, .int x1] (h_w σ I) (Option.some (Value.int o), h_w σ I) := by
  unfold pX10_canTimeOut at h
  refine ev_met rfl rfl (Nat.le_of_ble_eq_true rfl) (ev_L0 (L' := [some (.ref q0), some (.int x1)]) rfl ?_)
  refine ev_aload_n dX10_canTimeOut_0 rfl (fun _ e => by cases e) ?_
  refine ev_iload_n dX10_canTimeOut_1 rfl ?_
  obtain ⟨z1, hz1, h⟩ := ev_bnE h
  refine ec_Vi (Y := mX10_isSilent) (ci := 9) (As := [.int x1]) (rest := []) dX10_canTimeOut_2 kX10_140 oX10_isSilent ⟨Nat.le_of_ble_eq_true rfl, Nat.le_of_ble_eq_true rfl⟩ (by decide) rfl (shp_n g0 0 rfl) (shp_t g0 0 rfl) rfl (Nat.le_of_ble_eq_true rfl) (tX10_isSilent n q0 g0 x1 I z1 hz1) rfl ?_
  refine ev_if_ne (tgt := 43) dX10_canTimeOut_5 (by decide) (fun c2 => ?_) (fun c2 => ?_)
  · have h := ev_ifF h c2
    refine ev_iconst (v := (0 : Int32)) dX10_canTimeOut_43 (by decide) ?_
    cases h
    exact er_i dX10_canTimeOut_44 rfl rfl
  · have h := ev_ifT h c2
    refine ev_aload_n dX10_canTimeOut_8 rfl (fun _ e => by cases e) ?_
    refine ev_iload_n dX10_canTimeOut_9 rfl ?_
    obtain ⟨z3, hz3, h⟩ := ev_bnE h
    refine ec_Vi (Y := mX10_viewOf) (ci := 9) (As := [.int x1]) (rest := []) dX10_canTimeOut_10 kX10_104 oX10_viewOf ⟨Nat.le_of_ble_eq_true rfl, Nat.le_of_ble_eq_true rfl⟩ (by decide) rfl (shp_n g0 0 rfl) (shp_t g0 0 rfl) rfl (Nat.le_of_ble_eq_true rfl) (tX10_viewOf n q0 g0 x1 I z3 hz3) rfl ?_
    refine ev_sipush (v := (200 : Int32)) dX10_canTimeOut_13 (by decide) ?_
    refine ev_icmp_gt (tgt := 43) dX10_canTimeOut_16 (by decide) (fun c4 => ?_) (fun c4 => ?_)
    · have h := ev_ifT h c4
      refine ev_iconst (v := (0 : Int32)) dX10_canTimeOut_43 (by decide) ?_
      cases h
      exact er_i dX10_canTimeOut_44 rfl rfl
    · have h := ev_ifF h c4
      refine ev_aload_n dX10_canTimeOut_19 rfl (fun _ e => by cases e) ?_
      refine ew_getr0 dX10_canTimeOut_20 fX10_7 g0 rfl rfl rfl rfl ?_
      refine ev_aload_n dX10_canTimeOut_23 rfl (fun _ e => by cases e) ?_
      refine ev_iload_n dX10_canTimeOut_24 rfl ?_
      obtain ⟨z5, hz5, h⟩ := ev_bnE h
      refine ec_Vi (Y := mX10_nodeAt) (ci := 9) (As := [.int x1]) (rest := [(.ref (q0 + 1))]) dX10_canTimeOut_25 kX10_54 oX10_nodeAt ⟨Nat.le_of_ble_eq_true rfl, Nat.le_of_ble_eq_true rfl⟩ (by decide) rfl (shp_n g0 0 rfl) (shp_t g0 0 rfl) rfl (Nat.le_of_ble_eq_true rfl) (tX10_nodeAt n q0 g0 x1 I z5 hz5) rfl ?_
      refine ev_iconst (v := (4 : Int32)) dX10_canTimeOut_28 (by decide) ?_
      refine ev_iadd dX10_canTimeOut_29 ?_
      obtain ⟨c6, h⟩ := ev_ckE h
      refine ew_iald dX10_canTimeOut_30 (shp_a g0 1 rfl) c6 ?_
      refine ev_aload_n dX10_canTimeOut_31 rfl (fun _ e => by cases e) ?_
      refine ev_iload_n dX10_canTimeOut_32 rfl ?_
      obtain ⟨z7, hz7, h⟩ := ev_bnE h
      refine ec_Vi (Y := mX10_viewOf) (ci := 9) (As := [.int x1]) (rest := [(.int (I (q0 + 1) (z5 + (4 : Int32)).toNatClampNeg))]) dX10_canTimeOut_33 kX10_104 oX10_viewOf ⟨Nat.le_of_ble_eq_true rfl, Nat.le_of_ble_eq_true rfl⟩ (by decide) rfl (shp_n g0 0 rfl) (shp_t g0 0 rfl) rfl (Nat.le_of_ble_eq_true rfl) (tX10_viewOf n q0 g0 x1 I z7 hz7) rfl ?_
      refine ev_icmp_ge (tgt := 43) dX10_canTimeOut_36 (by decide) (fun c8 => ?_) (fun c8 => ?_)
      · have h := ev_ifT h c8
        refine ev_iconst (v := (0 : Int32)) dX10_canTimeOut_43 (by decide) ?_
        cases h
        exact er_i dX10_canTimeOut_44 rfl rfl
      · have h := ev_ifF h c8
        refine ev_iconst (v := (1 : Int32)) dX10_canTimeOut_39 (by decide) ?_
        refine ev_goto (tgt := 44) dX10_canTimeOut_40 (by decide) ?_
        cases h
        exact er_i dX10_canTimeOut_44 rfl rfl
-- ChainVotesModel timesOut(I)V
def pX10_timesOut (n : Nat) (q0 : Nat) (x1 : Int32) (I : ev_I) : Option (ev_I) :=
  (pX10_nodeAt n q0 x1 I).bind fun z1 =>
  (pX10_viewOf n q0 x1 I).bind fun z2 =>
  ev_ck (ev_in (z1 + (5 : Int32)) 6010) <|
  (pX10_sendsAll n q0 x1 (3 : Int32) z2 (I (q0 + 1) (z1 + (5 : Int32)).toNatClampNeg) I).bind fun z4 =>
  ev_ck (ev_in (z1 + (4 : Int32)) 6010) <|
  ev_lt (ev_u2 z4 (q0 + 1) (z1 + (4 : Int32)).toNatClampNeg z2) fun I6 =>
  ev_ck (ev_in (z1 + (2 : Int32)) 6010) <|
  (pX10_greater n q0 (I6 (q0 + 1) (z1 + (2 : Int32)).toNatClampNeg) z2 I6).bind fun z8 =>
  ev_ck (ev_in (z1 + (2 : Int32)) 6010) <|
  ev_lt (ev_u2 I6 (q0 + 1) (z1 + (2 : Int32)).toNatClampNeg z8) fun I10 =>
  some I10
set_option maxRecDepth 100000 in
set_option maxHeartbeats 4000000 in
theorem tX10_timesOut {E : ev_N} {σ : ev_H} (n : Nat) (q0 : Nat) (g0 : shp tb9 σ q0) (x1 : Int32) (I : ev_I) (o : ev_I) (h : pX10_timesOut n q0 x1 I = some o) : ev_T E mX10_timesOut [.ref q0, .int x1] (h_w σ I) (Option.none, h_w σ o) := by
  unfold pX10_timesOut at h
  refine ev_met rfl rfl (Nat.le_of_ble_eq_true rfl) (ev_L0 (L' := [some (.ref q0), some (.int x1), none, none]) rfl ?_)
  refine ev_aload_n dX10_timesOut_0 rfl (fun _ e => by cases e) ?_
  refine ev_iload_n dX10_timesOut_1 rfl ?_
  obtain ⟨z1, hz1, h⟩ := ev_bnE h
  refine ec_Vi (Y := mX10_nodeAt) (ci := 9) (As := [.int x1]) (rest := []) dX10_timesOut_2 kX10_54 oX10_nodeAt ⟨Nat.le_of_ble_eq_true rfl, Nat.le_of_ble_eq_true rfl⟩ (by decide) rfl (shp_n g0 0 rfl) (shp_t g0 0 rfl) rfl (Nat.le_of_ble_eq_true rfl) (tX10_nodeAt n q0 g0 x1 I z1 hz1) rfl ?_
  refine ew_istn (L' := [some (.ref q0), some (.int x1), some (.int z1), none]) dX10_timesOut_5 (Nat.le_of_ble_eq_true rfl) rfl ?_
  refine ev_aload_n dX10_timesOut_6 rfl (fun _ e => by cases e) ?_
  refine ev_iload_n dX10_timesOut_7 rfl ?_
  obtain ⟨z2, hz2, h⟩ := ev_bnE h
  refine ec_Vi (Y := mX10_viewOf) (ci := 9) (As := [.int x1]) (rest := []) dX10_timesOut_8 kX10_104 oX10_viewOf ⟨Nat.le_of_ble_eq_true rfl, Nat.le_of_ble_eq_true rfl⟩ (by decide) rfl (shp_n g0 0 rfl) (shp_t g0 0 rfl) rfl (Nat.le_of_ble_eq_true rfl) (tX10_viewOf n q0 g0 x1 I z2 hz2) rfl ?_
  refine ew_istn (L' := [some (.ref q0), some (.int x1), some (.int z1), some (.int z2)]) dX10_timesOut_11 (Nat.le_of_ble_eq_true rfl) rfl ?_
  refine ev_aload_n dX10_timesOut_12 rfl (fun _ e => by cases e) ?_
  refine ev_iload_n dX10_timesOut_13 rfl ?_
  refine ev_iconst (v := (3 : Int32)) dX10_timesOut_14 (by decide) ?_
  refine ev_iload_n dX10_timesOut_15 rfl ?_
  refine ev_aload_n dX10_timesOut_16 rfl (fun _ e => by cases e) ?_
  refine ew_getr0 dX10_timesOut_17 fX10_7 g0 rfl rfl rfl rfl ?_
  refine ev_iload_n dX10_timesOut_20 rfl ?_
  refine ev_iconst (v := (5 : Int32)) dX10_timesOut_21 (by decide) ?_
  refine ev_iadd dX10_timesOut_22 ?_
  obtain ⟨c3, h⟩ := ev_ckE h
  refine ew_iald dX10_timesOut_23 (shp_a g0 1 rfl) c3 ?_
  obtain ⟨z4, hz4, h⟩ := ev_bnE h
  refine ec_Vv (Y := mX10_sendsAll) (ci := 9) (As := [.int x1, .int (3 : Int32), .int z2, .int (I (q0 + 1) (z1 + (5 : Int32)).toNatClampNeg)]) (rest := []) dX10_timesOut_24 kX10_166 oX10_sendsAll ⟨Nat.le_of_ble_eq_true rfl, Nat.le_of_ble_eq_true rfl⟩ (by decide) rfl (shp_n g0 0 rfl) (shp_t g0 0 rfl) rfl (Nat.le_of_ble_eq_true rfl) (tX10_sendsAll n q0 g0 x1 (3 : Int32) z2 (I (q0 + 1) (z1 + (5 : Int32)).toNatClampNeg) I z4 hz4) rfl ?_
  refine ev_aload_n dX10_timesOut_27 rfl (fun _ e => by cases e) ?_
  refine ew_getr0 dX10_timesOut_28 fX10_7 g0 rfl rfl rfl rfl ?_
  refine ev_iload_n dX10_timesOut_31 rfl ?_
  refine ev_iconst (v := (4 : Int32)) dX10_timesOut_32 (by decide) ?_
  refine ev_iadd dX10_timesOut_33 ?_
  refine ev_iload_n dX10_timesOut_34 rfl ?_
  obtain ⟨c5, h⟩ := ev_ckE h
  obtain ⟨I6, eI6, h⟩ := ev_ltE h
  refine ew_iast dX10_timesOut_35 (shp_a g0 1 rfl) c5 (ew_nh eI6 ?_)
  refine ev_aload_n dX10_timesOut_36 rfl (fun _ e => by cases e) ?_
  refine ew_getr0 dX10_timesOut_37 fX10_7 g0 rfl rfl rfl rfl ?_
  refine ev_iload_n dX10_timesOut_40 rfl ?_
  refine ev_iconst (v := (2 : Int32)) dX10_timesOut_41 (by decide) ?_
  refine ev_iadd dX10_timesOut_42 ?_
  refine ev_aload_n dX10_timesOut_43 rfl (fun _ e => by cases e) ?_
  refine ev_aload_n dX10_timesOut_44 rfl (fun _ e => by cases e) ?_
  refine ew_getr0 dX10_timesOut_45 fX10_7 g0 rfl rfl rfl rfl ?_
  refine ev_iload_n dX10_timesOut_48 rfl ?_
  refine ev_iconst (v := (2 : Int32)) dX10_timesOut_49 (by decide) ?_
  refine ev_iadd dX10_timesOut_50 ?_
  obtain ⟨c7, h⟩ := ev_ckE h
  refine ew_iald dX10_timesOut_51 (shp_a g0 1 rfl) c7 ?_
  refine ev_iload_n dX10_timesOut_52 rfl ?_
  obtain ⟨z8, hz8, h⟩ := ev_bnE h
  refine ec_Vi (Y := mX10_greater) (ci := 9) (As := [.int (I6 (q0 + 1) (z1 + (2 : Int32)).toNatClampNeg), .int z2]) (rest := [(.int (z1 + (2 : Int32))), (.ref (q0 + 1))]) dX10_timesOut_53 kX10_180 oX10_greater ⟨Nat.le_of_ble_eq_true rfl, Nat.le_of_ble_eq_true rfl⟩ (by decide) rfl (shp_n g0 0 rfl) (shp_t g0 0 rfl) rfl (Nat.le_of_ble_eq_true rfl) (tX10_greater n q0 g0 (I6 (q0 + 1) (z1 + (2 : Int32)).toNatClampNeg) z2 I6 z8 hz8) rfl ?_
  obtain ⟨c9, h⟩ := ev_ckE h
  obtain ⟨I10, eI10, h⟩ := ev_ltE h
  refine ew_iast dX10_timesOut_56 (shp_a g0 1 rfl) c9 (ew_nh eI10 ?_)
  cases h
  exact er_v dX10_timesOut_57 rfl
-- ChainVotesModel timeout(I)Z
def pX10_timeout (n : Nat) (q0 : Nat) (x1 : Int32) (I : ev_I) : Option (Int32 × ev_I) :=
  ev_lt (ev_u2 I q0 0 (0 : Int32)) fun I1 =>
  (pX10_isNode n q0 x1 I1).bind fun z2 =>
  if z2 = 0 then
    some ((0 : Int32), I1)
  else
    (pX10_canTimeOut n q0 x1 I1).bind fun z4 =>
    if z4 = 0 then
      some ((0 : Int32), I1)
    else
      (pX10_timesOut n q0 x1 I1).bind fun z6 =>
      some ((1 : Int32), z6)
set_option maxRecDepth 100000 in
set_option maxHeartbeats 4000000 in
theorem tX10_timeout {E : ev_N} {σ : ev_H} (n : Nat) (q0 : Nat) (g0 : shp tb9 σ q0) (x1 : Int32) (I : ev_I) (o : Int32 × ev_I) (h : pX10_timeout n q0 x1 I = some o) : ev_T E mX10_timeout [.ref q0, .int x1] (h_w σ I) (Option.some (Value.int o.1), h_w σ o.2) := by
  unfold pX10_timeout at h
  refine ev_met rfl rfl (Nat.le_of_ble_eq_true rfl) (ev_L0 (L' := [some (.ref q0), some (.int x1)]) rfl ?_)
  refine ev_aload_n dX10_timeout_0 rfl (fun _ e => by cases e) ?_
  refine ev_iconst (v := (0 : Int32)) dX10_timeout_1 (by decide) ?_
  obtain ⟨I1, eI1, h⟩ := ev_ltE h
  refine ew_put0 dX10_timeout_2 fX10_44 g0 rfl rfl rfl rfl rfl rfl (ew_nh eI1 ?_)
  refine ev_aload_n dX10_timeout_5 rfl (fun _ e => by cases e) ?_
  refine ev_iload_n dX10_timeout_6 rfl ?_
  obtain ⟨z2, hz2, h⟩ := ev_bnE h
  refine ec_Vi (Y := mX10_isNode) (ci := 9) (As := [.int x1]) (rest := []) dX10_timeout_7 kX10_71 oX10_isNode ⟨Nat.le_of_ble_eq_true rfl, Nat.le_of_ble_eq_true rfl⟩ (by decide) rfl (shp_n g0 0 rfl) (shp_t g0 0 rfl) rfl (Nat.le_of_ble_eq_true rfl) (tX10_isNode n q0 g0 x1 I1 z2 hz2) rfl ?_
  refine ev_if_eq (tgt := 21) dX10_timeout_10 (by decide) (fun c3 => ?_) (fun c3 => ?_)
  · have h := ev_ifT h c3
    refine ev_iconst (v := (0 : Int32)) dX10_timeout_21 (by decide) ?_
    cases h
    exact er_i dX10_timeout_22 rfl rfl
  · have h := ev_ifF h c3
    refine ev_aload_n dX10_timeout_13 rfl (fun _ e => by cases e) ?_
    refine ev_iload_n dX10_timeout_14 rfl ?_
    obtain ⟨z4, hz4, h⟩ := ev_bnE h
    refine ec_Vi (Y := mX10_canTimeOut) (ci := 9) (As := [.int x1]) (rest := []) dX10_timeout_15 kX10_183 oX10_canTimeOut ⟨Nat.le_of_ble_eq_true rfl, Nat.le_of_ble_eq_true rfl⟩ (by decide) rfl (shp_n g0 0 rfl) (shp_t g0 0 rfl) rfl (Nat.le_of_ble_eq_true rfl) (tX10_canTimeOut n q0 g0 x1 I1 z4 hz4) rfl ?_
    refine ev_if_ne (tgt := 23) dX10_timeout_18 (by decide) (fun c5 => ?_) (fun c5 => ?_)
    · have h := ev_ifF h c5
      refine ev_aload_n dX10_timeout_23 rfl (fun _ e => by cases e) ?_
      refine ev_iload_n dX10_timeout_24 rfl ?_
      obtain ⟨z6, hz6, h⟩ := ev_bnE h
      refine ec_Vv (Y := mX10_timesOut) (ci := 9) (As := [.int x1]) (rest := []) dX10_timeout_25 kX10_186 oX10_timesOut ⟨Nat.le_of_ble_eq_true rfl, Nat.le_of_ble_eq_true rfl⟩ (by decide) rfl (shp_n g0 0 rfl) (shp_t g0 0 rfl) rfl (Nat.le_of_ble_eq_true rfl) (tX10_timesOut n q0 g0 x1 I1 z6 hz6) rfl ?_
      refine ev_iconst (v := (1 : Int32)) dX10_timeout_28 (by decide) ?_
      cases h
      exact er_i dX10_timeout_29 rfl rfl
    · have h := ev_ifT h c5
      refine ev_iconst (v := (0 : Int32)) dX10_timeout_21 (by decide) ?_
      cases h
      exact er_i dX10_timeout_22 rfl rfl
-- ChainVotesModel liesBlock(IIIII)I
def cX10_liesBlock_85 (q0 : Nat) (n : Nat) (y5 : Int32) (s1 : Int32) (s2 : Int32) (s3 : Int32) (s4 : Int32) (I : ev_I) : Option (Int32 × ev_I) :=
  (pX10_laysBlock n q0 s1 s2 s3 s4 y5 (0 : Int32) I).bind fun z1 =>
  some (z1.1, z1.2)
def cX10_liesBlock_70 (q0 : Nat) (n : Nat) (y1 : Int32) (y2 : Int32) (y3 : Int32) (y4 : Int32) (y5 : Int32) (I : ev_I) : Option (Int32 × ev_I) :=
  if y2 = (1 : Int32) then
    cX10_liesBlock_85 q0 n y5 y1 y4 y3 y3 I
  else
    cX10_liesBlock_85 q0 n y5 y1 y4 y3 (0 : Int32) I
def pX10_liesBlock (n : Nat) (q0 : Nat) (x1 : Int32) (x2 : Int32) (x3 : Int32) (x4 : Int32) (x5 : Int32) (I : ev_I) : Option (Int32 × ev_I) :=
  ev_ck (ev_in ((16 : Int32) + x3) 6010) <|
  (pX10_isIn n q0 x4 ((I (q0 + 1) ((16 : Int32) + x3).toNatClampNeg) + (1 : Int32)) (200 : Int32) I).bind fun z4 =>
  if z4 = 0 then
    some ((-1 : Int32), I)
  else
    (pX10_leaderOf n q0 x4 I).bind fun z6 =>
    if z6 = x1 then
      (pX10_isIn n q0 x5 (0 : Int32) (999 : Int32) I).bind fun z8 =>
      if z8 = 0 then
        some ((-1 : Int32), I)
      else
        (pX10_blockMany n q0  I).bind fun z10 =>
        if z10 = (100 : Int32) then
          some ((-1 : Int32), I)
        else
          if x2 = (1 : Int32) then
            (pX10_isCertified n q0 x3 I).bind fun z13 =>
            if z13 = 0 then
              some ((-1 : Int32), I)
            else
              cX10_liesBlock_70 q0 n x1 x2 x3 x4 x5 I
          else
            cX10_liesBlock_70 q0 n x1 x2 x3 x4 x5 I
    else
      some ((-1 : Int32), I)
set_option maxRecDepth 100000 in
set_option maxHeartbeats 4000000 in
theorem tX10_liesBlock_85 {E : ev_N} {σ : ev_H} (q0 : Nat) (g0 : shp tb9 σ q0) (n : Nat) (y5 : Int32) (s1 : Int32) (s2 : Int32) (s3 : Int32) (s4 : Int32) (I : ev_I) (o : Int32 × ev_I) : cX10_liesBlock_85 q0 n y5 s1 s2 s3 s4 I = some o → EV E mX10_liesBlock 85 [none, none, none, none, none, some (.int y5)] [(.int s4), (.int s3), (.int s2), (.int s1), (.ref q0)] (h_w σ I) (Option.some (Value.int o.1), h_w σ o.2) := by
  intro h
  unfold cX10_liesBlock_85 at h
  refine ev_iload dX10_liesBlock_85 rfl ?_
  refine ev_iconst (v := (0 : Int32)) dX10_liesBlock_87 (by decide) ?_
  obtain ⟨z1, hz1, h⟩ := ev_bnE h
  refine ec_Vi (Y := mX10_laysBlock) (ci := 9) (As := [.int s1, .int s2, .int s3, .int s4, .int y5, .int (0 : Int32)]) (rest := []) dX10_liesBlock_88 kX10_169 oX10_laysBlock ⟨Nat.le_of_ble_eq_true rfl, Nat.le_of_ble_eq_true rfl⟩ (by decide) rfl (shp_n g0 0 rfl) (shp_t g0 0 rfl) rfl (Nat.le_of_ble_eq_true rfl) (tX10_laysBlock n q0 g0 s1 s2 s3 s4 y5 (0 : Int32) I z1 hz1) rfl ?_
  cases h
  exact er_i dX10_liesBlock_91 rfl rfl
set_option maxRecDepth 100000 in
set_option maxHeartbeats 4000000 in
theorem tX10_liesBlock_70 {E : ev_N} {σ : ev_H} (q0 : Nat) (g0 : shp tb9 σ q0) (n : Nat) (y1 : Int32) (y2 : Int32) (y3 : Int32) (y4 : Int32) (y5 : Int32) (I : ev_I) (o : Int32 × ev_I) : cX10_liesBlock_70 q0 n y1 y2 y3 y4 y5 I = some o → EV E mX10_liesBlock 70 [some (.ref q0), some (.int y1), some (.int y2), some (.int y3), some (.int y4), some (.int y5)] [] (h_w σ I) (Option.some (Value.int o.1), h_w σ o.2) := by
  intro h
  unfold cX10_liesBlock_70 at h
  refine ev_aload_n dX10_liesBlock_70 rfl (fun _ e => by cases e) ?_
  refine ev_iload_n dX10_liesBlock_71 rfl ?_
  refine ev_iload dX10_liesBlock_72 rfl ?_
  refine ev_iload_n dX10_liesBlock_74 rfl ?_
  refine ev_iload_n dX10_liesBlock_75 rfl ?_
  refine ev_iconst (v := (1 : Int32)) dX10_liesBlock_76 (by decide) ?_
  refine ev_icmp_ne (tgt := 84) dX10_liesBlock_77 (by decide) (fun c2 => ?_) (fun c2 => ?_)
  · have h := ev_ifF h c2
    refine ev_iconst (v := (0 : Int32)) dX10_liesBlock_84 (by decide) ?_
    exact ev_weak (sb_n (sb_n (sb_n (sb_n (sb_n (sb_s sb_0)))))) (tX10_liesBlock_85 q0 g0 n y5 y1 y4 y3 (0 : Int32) I _ h)
  · have h := ev_ifT h c2
    refine ev_iload_n dX10_liesBlock_80 rfl ?_
    refine ev_goto (tgt := 85) dX10_liesBlock_81 (by decide) ?_
    exact ev_weak (sb_n (sb_n (sb_n (sb_n (sb_n (sb_s sb_0)))))) (tX10_liesBlock_85 q0 g0 n y5 y1 y4 y3 y3 I _ h)
set_option maxRecDepth 100000 in
set_option maxHeartbeats 4000000 in
theorem tX10_liesBlock {E : ev_N} {σ : ev_H} (n : Nat) (q0 : Nat) (g0 : shp tb9 σ q0) (x1 : Int32) (x2 : Int32) (x3 : Int32) (x4 : Int32) (x5 : Int32) (I : ev_I) (o : Int32 × ev_I) (h : pX10_liesBlock n q0 x1 x2 x3 x4 x5 I = some o) : ev_T E mX10_liesBlock [.ref q0, .int x1, .int x2, .int x3, .int x4, .int x5] (h_w σ I) (Option.some (Value.int o.1), h_w σ o.2) := by
  unfold pX10_liesBlock at h
  refine ev_met rfl rfl (Nat.le_of_ble_eq_true rfl) (ev_L0 (L' := [some (.ref q0), some (.int x1), some (.int x2), some (.int x3), some (.int x4), some (.int x5)]) rfl ?_)
  refine ev_aload_n dX10_liesBlock_0 rfl (fun _ e => by cases e) ?_
  refine ev_iload dX10_liesBlock_1 rfl ?_
  refine ev_aload_n dX10_liesBlock_3 rfl (fun _ e => by cases e) ?_
  refine ew_getr0 dX10_liesBlock_4 fX10_7 g0 rfl rfl rfl rfl ?_
  refine ev_bipush (v := (16 : Int32)) dX10_liesBlock_7 (by decide) ?_
  refine ev_iload_n dX10_liesBlock_9 rfl ?_
  refine ev_iadd dX10_liesBlock_10 ?_
  obtain ⟨c3, h⟩ := ev_ckE h
  refine ew_iald dX10_liesBlock_11 (shp_a g0 1 rfl) c3 ?_
  refine ev_iconst (v := (1 : Int32)) dX10_liesBlock_12 (by decide) ?_
  refine ev_iadd dX10_liesBlock_13 ?_
  refine ev_sipush (v := (200 : Int32)) dX10_liesBlock_14 (by decide) ?_
  obtain ⟨z4, hz4, h⟩ := ev_bnE h
  refine ec_Vi (Y := mX10_isIn) (ci := 9) (As := [.int x4, .int ((I (q0 + 1) ((16 : Int32) + x3).toNatClampNeg) + (1 : Int32)), .int (200 : Int32)]) (rest := []) dX10_liesBlock_17 kX10_61 oX10_isIn ⟨Nat.le_of_ble_eq_true rfl, Nat.le_of_ble_eq_true rfl⟩ (by decide) rfl (shp_n g0 0 rfl) (shp_t g0 0 rfl) rfl (Nat.le_of_ble_eq_true rfl) (tX10_isIn n q0 g0 x4 ((I (q0 + 1) ((16 : Int32) + x3).toNatClampNeg) + (1 : Int32)) (200 : Int32) I z4 hz4) rfl ?_
  refine ev_if_eq (tgt := 68) dX10_liesBlock_20 (by decide) (fun c5 => ?_) (fun c5 => ?_)
  · have h := ev_ifT h c5
    refine ev_iconst (v := (-1 : Int32)) dX10_liesBlock_68 (by decide) ?_
    cases h
    exact er_i dX10_liesBlock_69 rfl rfl
  · have h := ev_ifF h c5
    refine ev_aload_n dX10_liesBlock_23 rfl (fun _ e => by cases e) ?_
    refine ev_iload dX10_liesBlock_24 rfl ?_
    obtain ⟨z6, hz6, h⟩ := ev_bnE h
    refine ec_Vi (Y := mX10_leaderOf) (ci := 9) (As := [.int x4]) (rest := []) dX10_liesBlock_26 kX10_128 oX10_leaderOf ⟨Nat.le_of_ble_eq_true rfl, Nat.le_of_ble_eq_true rfl⟩ (by decide) rfl (shp_n g0 0 rfl) (shp_t g0 0 rfl) rfl (Nat.le_of_ble_eq_true rfl) (tX10_leaderOf n q0 g0 x4 I z6 hz6) rfl ?_
    refine ev_iload_n dX10_liesBlock_29 rfl ?_
    refine ev_icmp_ne (tgt := 68) dX10_liesBlock_30 (by decide) (fun c7 => ?_) (fun c7 => ?_)
    · have h := ev_ifF h c7
      refine ev_iconst (v := (-1 : Int32)) dX10_liesBlock_68 (by decide) ?_
      cases h
      exact er_i dX10_liesBlock_69 rfl rfl
    · have h := ev_ifT h c7
      refine ev_aload_n dX10_liesBlock_33 rfl (fun _ e => by cases e) ?_
      refine ev_iload dX10_liesBlock_34 rfl ?_
      refine ev_iconst (v := (0 : Int32)) dX10_liesBlock_36 (by decide) ?_
      refine ev_sipush (v := (999 : Int32)) dX10_liesBlock_37 (by decide) ?_
      obtain ⟨z8, hz8, h⟩ := ev_bnE h
      refine ec_Vi (Y := mX10_isIn) (ci := 9) (As := [.int x5, .int (0 : Int32), .int (999 : Int32)]) (rest := []) dX10_liesBlock_40 kX10_61 oX10_isIn ⟨Nat.le_of_ble_eq_true rfl, Nat.le_of_ble_eq_true rfl⟩ (by decide) rfl (shp_n g0 0 rfl) (shp_t g0 0 rfl) rfl (Nat.le_of_ble_eq_true rfl) (tX10_isIn n q0 g0 x5 (0 : Int32) (999 : Int32) I z8 hz8) rfl ?_
      refine ev_if_eq (tgt := 68) dX10_liesBlock_43 (by decide) (fun c9 => ?_) (fun c9 => ?_)
      · have h := ev_ifT h c9
        refine ev_iconst (v := (-1 : Int32)) dX10_liesBlock_68 (by decide) ?_
        cases h
        exact er_i dX10_liesBlock_69 rfl rfl
      · have h := ev_ifF h c9
        refine ev_aload_n dX10_liesBlock_46 rfl (fun _ e => by cases e) ?_
        obtain ⟨z10, hz10, h⟩ := ev_bnE h
        refine ec_Vi (Y := mX10_blockMany) (ci := 9) (As := []) (rest := []) dX10_liesBlock_47 kX10_51 oX10_blockMany ⟨Nat.le_of_ble_eq_true rfl, Nat.le_of_ble_eq_true rfl⟩ (by decide) rfl (shp_n g0 0 rfl) (shp_t g0 0 rfl) rfl (Nat.le_of_ble_eq_true rfl) (tX10_blockMany n q0 g0  I z10 hz10) rfl ?_
        refine ev_bipush (v := (100 : Int32)) dX10_liesBlock_50 (by decide) ?_
        refine ev_icmp_eq (tgt := 68) dX10_liesBlock_52 (by decide) (fun c11 => ?_) (fun c11 => ?_)
        · have h := ev_ifT h c11
          refine ev_iconst (v := (-1 : Int32)) dX10_liesBlock_68 (by decide) ?_
          cases h
          exact er_i dX10_liesBlock_69 rfl rfl
        · have h := ev_ifF h c11
          refine ev_iload_n dX10_liesBlock_55 rfl ?_
          refine ev_iconst (v := (1 : Int32)) dX10_liesBlock_56 (by decide) ?_
          refine ev_icmp_ne (tgt := 70) dX10_liesBlock_57 (by decide) (fun c12 => ?_) (fun c12 => ?_)
          · have h := ev_ifF h c12
            exact ev_weak (sb_s (sb_s (sb_s (sb_s (sb_s (sb_s sb_0)))))) (tX10_liesBlock_70 q0 g0 n x1 x2 x3 x4 x5 I _ h)
          · have h := ev_ifT h c12
            refine ev_aload_n dX10_liesBlock_60 rfl (fun _ e => by cases e) ?_
            refine ev_iload_n dX10_liesBlock_61 rfl ?_
            obtain ⟨z13, hz13, h⟩ := ev_bnE h
            refine ec_Vi (Y := mX10_isCertified) (ci := 9) (As := [.int x3]) (rest := []) dX10_liesBlock_62 kX10_189 oX10_isCertified ⟨Nat.le_of_ble_eq_true rfl, Nat.le_of_ble_eq_true rfl⟩ (by decide) rfl (shp_n g0 0 rfl) (shp_t g0 0 rfl) rfl (Nat.le_of_ble_eq_true rfl) (tX10_isCertified n q0 g0 x3 I z13 hz13) rfl ?_
            refine ev_if_ne (tgt := 70) dX10_liesBlock_65 (by decide) (fun c14 => ?_) (fun c14 => ?_)
            · have h := ev_ifF h c14
              exact ev_weak (sb_s (sb_s (sb_s (sb_s (sb_s (sb_s sb_0)))))) (tX10_liesBlock_70 q0 g0 n x1 x2 x3 x4 x5 I _ h)
            · have h := ev_ifT h c14
              refine ev_iconst (v := (-1 : Int32)) dX10_liesBlock_68 (by decide) ?_
              cases h
              exact er_i dX10_liesBlock_69 rfl rfl
-- ChainVotesModel lie(IIIII)I
def cX10_lie_59 (q0 : Nat) (n : Nat) (y1 : Int32) (y2 : Int32) (y3 : Int32) (y4 : Int32) (y5 : Int32) (I : ev_I) : Option (Int32 × ev_I) :=
  (pX10_liesBlock n q0 y1 y2 y3 y4 y5 I).bind fun z1 =>
  some (z1.1, z1.2)
def pX10_lie (n : Nat) (q0 : Nat) (x1 : Int32) (x2 : Int32) (x3 : Int32) (x4 : Int32) (x5 : Int32) (I : ev_I) : Option (Int32 × ev_I) :=
  ev_lt (ev_u2 I q0 0 (0 : Int32)) fun I2 =>
  (pX10_isNode n q0 x1 I2).bind fun z3 =>
  if z3 = 0 then
    some ((-1 : Int32), I2)
  else
    (pX10_nodeAt n q0 x1 I2).bind fun z5 =>
    ev_ck (ev_in (z5 + (0 : Int32)) 6010) <|
    if (I2 (q0 + 1) (z5 + (0 : Int32)).toNatClampNeg) = (2 : Int32) then
      (pX10_isIn n q0 x2 (0 : Int32) (3 : Int32) I2).bind fun z8 =>
      if z8 = 0 then
        some ((-1 : Int32), I2)
      else
        (pX10_isBlock n q0 x3 I2).bind fun z10 =>
        if z10 = 0 then
          some ((-1 : Int32), I2)
        else
          if x2 = (1 : Int32) then
            cX10_lie_59 q0 n x1 x2 x3 x4 x5 I2
          else
            if x2 = (3 : Int32) then
              cX10_lie_59 q0 n x1 x2 x3 x4 x5 I2
            else
              if x2 = 0 then
                if x3 = 0 then
                  some ((-1 : Int32), I2)
                else
                  ev_ck (ev_in ((16 : Int32) + x3) 6010) <|
                  (pX10_leaderOf n q0 ((I2 (q0 + 1) ((16 : Int32) + x3).toNatClampNeg) + (1 : Int32)) I2).bind fun z22 =>
                  (pX10_sends n q0 x1 z22 (2 : Int32) x3 (-1 : Int32) I2).bind fun z23 =>
                  some ((0 : Int32), z23)
              else
                (pX10_isIn n q0 x4 (1 : Int32) (200 : Int32) I2).bind fun z15 =>
                if z15 = 0 then
                  some ((-1 : Int32), I2)
                else
                  (pX10_isCertified n q0 x3 I2).bind fun z17 =>
                  if z17 = 0 then
                    some ((-1 : Int32), I2)
                  else
                    (pX10_sendsAll n q0 x1 (3 : Int32) x4 x3 I2).bind fun z19 =>
                    some ((0 : Int32), z19)
    else
      some ((-1 : Int32), I2)
set_option maxRecDepth 100000 in
set_option maxHeartbeats 4000000 in
theorem tX10_lie_59 {E : ev_N} {σ : ev_H} (q0 : Nat) (g0 : shp tb9 σ q0) (n : Nat) (y1 : Int32) (y2 : Int32) (y3 : Int32) (y4 : Int32) (y5 : Int32) (I : ev_I) (o : Int32 × ev_I) : cX10_lie_59 q0 n y1 y2 y3 y4 y5 I = some o → EV E mX10_lie 59 [some (.ref q0), some (.int y1), some (.int y2), some (.int y3), some (.int y4), some (.int y5)] [] (h_w σ I) (Option.some (Value.int o.1), h_w σ o.2) := by
  intro h
  unfold cX10_lie_59 at h
  refine ev_aload_n dX10_lie_59 rfl (fun _ e => by cases e) ?_
  refine ev_iload_n dX10_lie_60 rfl ?_
  refine ev_iload_n dX10_lie_61 rfl ?_
  refine ev_iload_n dX10_lie_62 rfl ?_
  refine ev_iload dX10_lie_63 rfl ?_
  refine ev_iload dX10_lie_65 rfl ?_
  obtain ⟨z1, hz1, h⟩ := ev_bnE h
  refine ec_Vi (Y := mX10_liesBlock) (ci := 9) (As := [.int y1, .int y2, .int y3, .int y4, .int y5]) (rest := []) dX10_lie_67 kX10_195 oX10_liesBlock ⟨Nat.le_of_ble_eq_true rfl, Nat.le_of_ble_eq_true rfl⟩ (by decide) rfl (shp_n g0 0 rfl) (shp_t g0 0 rfl) rfl (Nat.le_of_ble_eq_true rfl) (tX10_liesBlock n q0 g0 y1 y2 y3 y4 y5 I z1 hz1) rfl ?_
  cases h
  exact er_i dX10_lie_70 rfl rfl
set_option maxRecDepth 100000 in
set_option maxHeartbeats 4000000 in
theorem tX10_lie {E : ev_N} {σ : ev_H} (n : Nat) (q0 : Nat) (g0 : shp tb9 σ q0) (x1 : Int32) (x2 : Int32) (x3 : Int32) (x4 : Int32) (x5 : Int32) (I : ev_I) (o : Int32 × ev_I) (h : pX10_lie n q0 x1 x2 x3 x4 x5 I = some o) : ev_T E mX10_lie [.ref q0, .int x1, .int x2, .int x3, .int x4, .int x5] (h_w σ I) (Option.some (Value.int o.1), h_w σ o.2) := by
  unfold pX10_lie at h
  refine ev_met rfl rfl (Nat.le_of_ble_eq_true rfl) (ev_L0 (L' := [some (.ref q0), some (.int x1), some (.int x2), some (.int x3), some (.int x4), some (.int x5)]) rfl ?_)
  refine ev_aload_n dX10_lie_0 rfl (fun _ e => by cases e) ?_
  refine ev_iconst (v := (0 : Int32)) dX10_lie_1 (by decide) ?_
  obtain ⟨I2, eI2, h⟩ := ev_ltE h
  refine ew_put0 dX10_lie_2 fX10_44 g0 rfl rfl rfl rfl rfl rfl (ew_nh eI2 ?_)
  refine ev_aload_n dX10_lie_5 rfl (fun _ e => by cases e) ?_
  refine ev_iload_n dX10_lie_6 rfl ?_
  obtain ⟨z3, hz3, h⟩ := ev_bnE h
  refine ec_Vi (Y := mX10_isNode) (ci := 9) (As := [.int x1]) (rest := []) dX10_lie_7 kX10_71 oX10_isNode ⟨Nat.le_of_ble_eq_true rfl, Nat.le_of_ble_eq_true rfl⟩ (by decide) rfl (shp_n g0 0 rfl) (shp_t g0 0 rfl) rfl (Nat.le_of_ble_eq_true rfl) (tX10_isNode n q0 g0 x1 I2 z3 hz3) rfl ?_
  refine ev_if_eq (tgt := 47) dX10_lie_10 (by decide) (fun c4 => ?_) (fun c4 => ?_)
  · have h := ev_ifT h c4
    refine ev_iconst (v := (-1 : Int32)) dX10_lie_47 (by decide) ?_
    cases h
    exact er_i dX10_lie_48 rfl rfl
  · have h := ev_ifF h c4
    refine ev_aload_n dX10_lie_13 rfl (fun _ e => by cases e) ?_
    refine ew_getr0 dX10_lie_14 fX10_7 g0 rfl rfl rfl rfl ?_
    refine ev_aload_n dX10_lie_17 rfl (fun _ e => by cases e) ?_
    refine ev_iload_n dX10_lie_18 rfl ?_
    obtain ⟨z5, hz5, h⟩ := ev_bnE h
    refine ec_Vi (Y := mX10_nodeAt) (ci := 9) (As := [.int x1]) (rest := [(.ref (q0 + 1))]) dX10_lie_19 kX10_54 oX10_nodeAt ⟨Nat.le_of_ble_eq_true rfl, Nat.le_of_ble_eq_true rfl⟩ (by decide) rfl (shp_n g0 0 rfl) (shp_t g0 0 rfl) rfl (Nat.le_of_ble_eq_true rfl) (tX10_nodeAt n q0 g0 x1 I2 z5 hz5) rfl ?_
    refine ev_iconst (v := (0 : Int32)) dX10_lie_22 (by decide) ?_
    refine ev_iadd dX10_lie_23 ?_
    obtain ⟨c6, h⟩ := ev_ckE h
    refine ew_iald dX10_lie_24 (shp_a g0 1 rfl) c6 ?_
    refine ev_iconst (v := (2 : Int32)) dX10_lie_25 (by decide) ?_
    refine ev_icmp_ne (tgt := 47) dX10_lie_26 (by decide) (fun c7 => ?_) (fun c7 => ?_)
    · have h := ev_ifF h c7
      refine ev_iconst (v := (-1 : Int32)) dX10_lie_47 (by decide) ?_
      cases h
      exact er_i dX10_lie_48 rfl rfl
    · have h := ev_ifT h c7
      refine ev_aload_n dX10_lie_29 rfl (fun _ e => by cases e) ?_
      refine ev_iload_n dX10_lie_30 rfl ?_
      refine ev_iconst (v := (0 : Int32)) dX10_lie_31 (by decide) ?_
      refine ev_iconst (v := (3 : Int32)) dX10_lie_32 (by decide) ?_
      obtain ⟨z8, hz8, h⟩ := ev_bnE h
      refine ec_Vi (Y := mX10_isIn) (ci := 9) (As := [.int x2, .int (0 : Int32), .int (3 : Int32)]) (rest := []) dX10_lie_33 kX10_61 oX10_isIn ⟨Nat.le_of_ble_eq_true rfl, Nat.le_of_ble_eq_true rfl⟩ (by decide) rfl (shp_n g0 0 rfl) (shp_t g0 0 rfl) rfl (Nat.le_of_ble_eq_true rfl) (tX10_isIn n q0 g0 x2 (0 : Int32) (3 : Int32) I2 z8 hz8) rfl ?_
      refine ev_if_eq (tgt := 47) dX10_lie_36 (by decide) (fun c9 => ?_) (fun c9 => ?_)
      · have h := ev_ifT h c9
        refine ev_iconst (v := (-1 : Int32)) dX10_lie_47 (by decide) ?_
        cases h
        exact er_i dX10_lie_48 rfl rfl
      · have h := ev_ifF h c9
        refine ev_aload_n dX10_lie_39 rfl (fun _ e => by cases e) ?_
        refine ev_iload_n dX10_lie_40 rfl ?_
        obtain ⟨z10, hz10, h⟩ := ev_bnE h
        refine ec_Vi (Y := mX10_isBlock) (ci := 9) (As := [.int x3]) (rest := []) dX10_lie_41 kX10_192 oX10_isBlock ⟨Nat.le_of_ble_eq_true rfl, Nat.le_of_ble_eq_true rfl⟩ (by decide) rfl (shp_n g0 0 rfl) (shp_t g0 0 rfl) rfl (Nat.le_of_ble_eq_true rfl) (tX10_isBlock n q0 g0 x3 I2 z10 hz10) rfl ?_
        refine ev_if_ne (tgt := 49) dX10_lie_44 (by decide) (fun c11 => ?_) (fun c11 => ?_)
        · have h := ev_ifF h c11
          refine ev_iload_n dX10_lie_49 rfl ?_
          refine ev_iconst (v := (1 : Int32)) dX10_lie_50 (by decide) ?_
          refine ev_icmp_eq (tgt := 59) dX10_lie_51 (by decide) (fun c12 => ?_) (fun c12 => ?_)
          · have h := ev_ifT h c12
            exact ev_weak (sb_s (sb_s (sb_s (sb_s (sb_s (sb_s sb_0)))))) (tX10_lie_59 q0 g0 n x1 x2 x3 x4 x5 I2 _ h)
          · have h := ev_ifF h c12
            refine ev_iload_n dX10_lie_54 rfl ?_
            refine ev_iconst (v := (3 : Int32)) dX10_lie_55 (by decide) ?_
            refine ev_icmp_ne (tgt := 71) dX10_lie_56 (by decide) (fun c13 => ?_) (fun c13 => ?_)
            · have h := ev_ifF h c13
              refine ev_iload_n dX10_lie_71 rfl ?_
              refine ev_if_ne (tgt := 106) dX10_lie_72 (by decide) (fun c14 => ?_) (fun c14 => ?_)
              · have h := ev_ifF h c14
                refine ev_aload_n dX10_lie_106 rfl (fun _ e => by cases e) ?_
                refine ev_iload dX10_lie_107 rfl ?_
                refine ev_iconst (v := (1 : Int32)) dX10_lie_109 (by decide) ?_
                refine ev_sipush (v := (200 : Int32)) dX10_lie_110 (by decide) ?_
                obtain ⟨z15, hz15, h⟩ := ev_bnE h
                refine ec_Vi (Y := mX10_isIn) (ci := 9) (As := [.int x4, .int (1 : Int32), .int (200 : Int32)]) (rest := []) dX10_lie_113 kX10_61 oX10_isIn ⟨Nat.le_of_ble_eq_true rfl, Nat.le_of_ble_eq_true rfl⟩ (by decide) rfl (shp_n g0 0 rfl) (shp_t g0 0 rfl) rfl (Nat.le_of_ble_eq_true rfl) (tX10_isIn n q0 g0 x4 (1 : Int32) (200 : Int32) I2 z15 hz15) rfl ?_
                refine ev_if_eq (tgt := 127) dX10_lie_116 (by decide) (fun c16 => ?_) (fun c16 => ?_)
                · have h := ev_ifT h c16
                  refine ev_iconst (v := (-1 : Int32)) dX10_lie_127 (by decide) ?_
                  cases h
                  exact er_i dX10_lie_128 rfl rfl
                · have h := ev_ifF h c16
                  refine ev_aload_n dX10_lie_119 rfl (fun _ e => by cases e) ?_
                  refine ev_iload_n dX10_lie_120 rfl ?_
                  obtain ⟨z17, hz17, h⟩ := ev_bnE h
                  refine ec_Vi (Y := mX10_isCertified) (ci := 9) (As := [.int x3]) (rest := []) dX10_lie_121 kX10_189 oX10_isCertified ⟨Nat.le_of_ble_eq_true rfl, Nat.le_of_ble_eq_true rfl⟩ (by decide) rfl (shp_n g0 0 rfl) (shp_t g0 0 rfl) rfl (Nat.le_of_ble_eq_true rfl) (tX10_isCertified n q0 g0 x3 I2 z17 hz17) rfl ?_
                  refine ev_if_ne (tgt := 129) dX10_lie_124 (by decide) (fun c18 => ?_) (fun c18 => ?_)
                  · have h := ev_ifF h c18
                    refine ev_aload_n dX10_lie_129 rfl (fun _ e => by cases e) ?_
                    refine ev_iload_n dX10_lie_130 rfl ?_
                    refine ev_iconst (v := (3 : Int32)) dX10_lie_131 (by decide) ?_
                    refine ev_iload dX10_lie_132 rfl ?_
                    refine ev_iload_n dX10_lie_134 rfl ?_
                    obtain ⟨z19, hz19, h⟩ := ev_bnE h
                    refine ec_Vv (Y := mX10_sendsAll) (ci := 9) (As := [.int x1, .int (3 : Int32), .int x4, .int x3]) (rest := []) dX10_lie_135 kX10_166 oX10_sendsAll ⟨Nat.le_of_ble_eq_true rfl, Nat.le_of_ble_eq_true rfl⟩ (by decide) rfl (shp_n g0 0 rfl) (shp_t g0 0 rfl) rfl (Nat.le_of_ble_eq_true rfl) (tX10_sendsAll n q0 g0 x1 (3 : Int32) x4 x3 I2 z19 hz19) rfl ?_
                    refine ev_iconst (v := (0 : Int32)) dX10_lie_138 (by decide) ?_
                    cases h
                    exact er_i dX10_lie_139 rfl rfl
                  · have h := ev_ifT h c18
                    refine ev_iconst (v := (-1 : Int32)) dX10_lie_127 (by decide) ?_
                    cases h
                    exact er_i dX10_lie_128 rfl rfl
              · have h := ev_ifT h c14
                refine ev_iload_n dX10_lie_75 rfl ?_
                refine ev_if_ne (tgt := 81) dX10_lie_76 (by decide) (fun c20 => ?_) (fun c20 => ?_)
                · have h := ev_ifF h c20
                  refine ev_aload_n dX10_lie_81 rfl (fun _ e => by cases e) ?_
                  refine ev_iload_n dX10_lie_82 rfl ?_
                  refine ev_aload_n dX10_lie_83 rfl (fun _ e => by cases e) ?_
                  refine ev_aload_n dX10_lie_84 rfl (fun _ e => by cases e) ?_
                  refine ew_getr0 dX10_lie_85 fX10_7 g0 rfl rfl rfl rfl ?_
                  refine ev_bipush (v := (16 : Int32)) dX10_lie_88 (by decide) ?_
                  refine ev_iload_n dX10_lie_90 rfl ?_
                  refine ev_iadd dX10_lie_91 ?_
                  obtain ⟨c21, h⟩ := ev_ckE h
                  refine ew_iald dX10_lie_92 (shp_a g0 1 rfl) c21 ?_
                  refine ev_iconst (v := (1 : Int32)) dX10_lie_93 (by decide) ?_
                  refine ev_iadd dX10_lie_94 ?_
                  obtain ⟨z22, hz22, h⟩ := ev_bnE h
                  refine ec_Vi (Y := mX10_leaderOf) (ci := 9) (As := [.int ((I2 (q0 + 1) ((16 : Int32) + x3).toNatClampNeg) + (1 : Int32))]) (rest := [(.int x1), (.ref q0)]) dX10_lie_95 kX10_128 oX10_leaderOf ⟨Nat.le_of_ble_eq_true rfl, Nat.le_of_ble_eq_true rfl⟩ (by decide) rfl (shp_n g0 0 rfl) (shp_t g0 0 rfl) rfl (Nat.le_of_ble_eq_true rfl) (tX10_leaderOf n q0 g0 ((I2 (q0 + 1) ((16 : Int32) + x3).toNatClampNeg) + (1 : Int32)) I2 z22 hz22) rfl ?_
                  refine ev_iconst (v := (2 : Int32)) dX10_lie_98 (by decide) ?_
                  refine ev_iload_n dX10_lie_99 rfl ?_
                  refine ev_iconst (v := (-1 : Int32)) dX10_lie_100 (by decide) ?_
                  obtain ⟨z23, hz23, h⟩ := ev_bnE h
                  refine ec_Vv (Y := mX10_sends) (ci := 9) (As := [.int x1, .int z22, .int (2 : Int32), .int x3, .int (-1 : Int32)]) (rest := []) dX10_lie_101 kX10_86 oX10_sends ⟨Nat.le_of_ble_eq_true rfl, Nat.le_of_ble_eq_true rfl⟩ (by decide) rfl (shp_n g0 0 rfl) (shp_t g0 0 rfl) rfl (Nat.le_of_ble_eq_true rfl) (tX10_sends n q0 g0 x1 z22 (2 : Int32) x3 (-1 : Int32) I2 z23 hz23) rfl ?_
                  refine ev_iconst (v := (0 : Int32)) dX10_lie_104 (by decide) ?_
                  cases h
                  exact er_i dX10_lie_105 rfl rfl
                · have h := ev_ifT h c20
                  refine ev_iconst (v := (-1 : Int32)) dX10_lie_79 (by decide) ?_
                  cases h
                  exact er_i dX10_lie_80 rfl rfl
            · have h := ev_ifT h c13
              exact ev_weak (sb_s (sb_s (sb_s (sb_s (sb_s (sb_s sb_0)))))) (tX10_lie_59 q0 g0 n x1 x2 x3 x4 x5 I2 _ h)
        · have h := ev_ifT h c11
          refine ev_iconst (v := (-1 : Int32)) dX10_lie_47 (by decide) ?_
          cases h
          exact er_i dX10_lie_48 rfl rfl
-- ChainVotesModel ask(II)Z
def pX10_ask (n : Nat) (q0 : Nat) (x1 : Int32) (x2 : Int32) (I : ev_I) : Option (Int32 × ev_I) :=
  ev_lt (ev_u2 I q0 0 (0 : Int32)) fun I1 =>
  (pX10_isNode n q0 x1 I1).bind fun z2 =>
  if z2 = 0 then
    some ((0 : Int32), I1)
  else
    (pX10_isNode n q0 x2 I1).bind fun z4 =>
    if z4 = 0 then
      some ((0 : Int32), I1)
    else
      if x1 = x2 then
        some ((0 : Int32), I1)
      else
        (pX10_isSilent n q0 x1 I1).bind fun z7 =>
        if z7 = 0 then
          (pX10_isSilent n q0 x2 I1).bind fun z9 =>
          if z9 = 0 then
            (pX10_nodeAt n q0 x1 I1).bind fun z11 =>
            (pX10_nodeAt n q0 x2 I1).bind fun z12 =>
            ev_ck (ev_in (z12 + (5 : Int32)) 6010) <|
            (pX10_learns n q0 x1 (I1 (q0 + 1) (z12 + (5 : Int32)).toNatClampNeg) I1).bind fun z14 =>
            ev_ck (ev_in (z11 + (7 : Int32)) 6010) <|
            (pX10_nodeAt n q0 x2 z14).bind fun z16 =>
            ev_ck (ev_in (z16 + (7 : Int32)) 6010) <|
            (pX10_greater n q0 (z14 (q0 + 1) (z11 + (7 : Int32)).toNatClampNeg) (z14 (q0 + 1) (z16 + (7 : Int32)).toNatClampNeg) z14).bind fun z18 =>
            ev_ck (ev_in (z11 + (7 : Int32)) 6010) <|
            ev_lt (ev_u2 z14 (q0 + 1) (z11 + (7 : Int32)).toNatClampNeg z18) fun I20 =>
            (pX10_viewOf n q0 x1 I20).bind fun z21 =>
            ev_ck (ev_in (z11 + (7 : Int32)) 6010) <|
            ev_ck (ev_in (z11 + (5 : Int32)) 6010) <|
            ev_ck (ev_in ((16 : Int32) + (I20 (q0 + 1) (z11 + (5 : Int32)).toNatClampNeg)) 6010) <|
            (pX10_greater n q0 ((I20 (q0 + 1) (z11 + (7 : Int32)).toNatClampNeg) + (1 : Int32)) ((I20 (q0 + 1) ((16 : Int32) + (I20 (q0 + 1) (z11 + (5 : Int32)).toNatClampNeg)).toNatClampNeg) + (1 : Int32)) I20).bind fun z25 =>
            (pX10_greater n q0 z21 z25 I20).bind fun z26 =>
            (pX10_goesTo n q0 x1 z26 I20).bind fun z27 =>
            some ((1 : Int32), z27)
          else
            some ((0 : Int32), I1)
        else
          some ((0 : Int32), I1)
set_option maxRecDepth 100000 in
set_option maxHeartbeats 4000000 in
theorem tX10_ask {E : ev_N} {σ : ev_H} (n : Nat) (q0 : Nat) (g0 : shp tb9 σ q0) (x1 : Int32) (x2 : Int32) (I : ev_I) (o : Int32 × ev_I) (h : pX10_ask n q0 x1 x2 I = some o) : ev_T E mX10_ask [.ref q0, .int x1, .int x2] (h_w σ I) (Option.some (Value.int o.1), h_w σ o.2) := by
  unfold pX10_ask at h
  refine ev_met rfl rfl (Nat.le_of_ble_eq_true rfl) (ev_L0 (L' := [some (.ref q0), some (.int x1), some (.int x2), none]) rfl ?_)
  refine ev_aload_n dX10_ask_0 rfl (fun _ e => by cases e) ?_
  refine ev_iconst (v := (0 : Int32)) dX10_ask_1 (by decide) ?_
  obtain ⟨I1, eI1, h⟩ := ev_ltE h
  refine ew_put0 dX10_ask_2 fX10_44 g0 rfl rfl rfl rfl rfl rfl (ew_nh eI1 ?_)
  refine ev_aload_n dX10_ask_5 rfl (fun _ e => by cases e) ?_
  refine ev_iload_n dX10_ask_6 rfl ?_
  obtain ⟨z2, hz2, h⟩ := ev_bnE h
  refine ec_Vi (Y := mX10_isNode) (ci := 9) (As := [.int x1]) (rest := []) dX10_ask_7 kX10_71 oX10_isNode ⟨Nat.le_of_ble_eq_true rfl, Nat.le_of_ble_eq_true rfl⟩ (by decide) rfl (shp_n g0 0 rfl) (shp_t g0 0 rfl) rfl (Nat.le_of_ble_eq_true rfl) (tX10_isNode n q0 g0 x1 I1 z2 hz2) rfl ?_
  refine ev_if_eq (tgt := 42) dX10_ask_10 (by decide) (fun c3 => ?_) (fun c3 => ?_)
  · have h := ev_ifT h c3
    refine ev_iconst (v := (0 : Int32)) dX10_ask_42 (by decide) ?_
    cases h
    exact er_i dX10_ask_43 rfl rfl
  · have h := ev_ifF h c3
    refine ev_aload_n dX10_ask_13 rfl (fun _ e => by cases e) ?_
    refine ev_iload_n dX10_ask_14 rfl ?_
    obtain ⟨z4, hz4, h⟩ := ev_bnE h
    refine ec_Vi (Y := mX10_isNode) (ci := 9) (As := [.int x2]) (rest := []) dX10_ask_15 kX10_71 oX10_isNode ⟨Nat.le_of_ble_eq_true rfl, Nat.le_of_ble_eq_true rfl⟩ (by decide) rfl (shp_n g0 0 rfl) (shp_t g0 0 rfl) rfl (Nat.le_of_ble_eq_true rfl) (tX10_isNode n q0 g0 x2 I1 z4 hz4) rfl ?_
    refine ev_if_eq (tgt := 42) dX10_ask_18 (by decide) (fun c5 => ?_) (fun c5 => ?_)
    · have h := ev_ifT h c5
      refine ev_iconst (v := (0 : Int32)) dX10_ask_42 (by decide) ?_
      cases h
      exact er_i dX10_ask_43 rfl rfl
    · have h := ev_ifF h c5
      refine ev_iload_n dX10_ask_21 rfl ?_
      refine ev_iload_n dX10_ask_22 rfl ?_
      refine ev_icmp_eq (tgt := 42) dX10_ask_23 (by decide) (fun c6 => ?_) (fun c6 => ?_)
      · have h := ev_ifT h c6
        refine ev_iconst (v := (0 : Int32)) dX10_ask_42 (by decide) ?_
        cases h
        exact er_i dX10_ask_43 rfl rfl
      · have h := ev_ifF h c6
        refine ev_aload_n dX10_ask_26 rfl (fun _ e => by cases e) ?_
        refine ev_iload_n dX10_ask_27 rfl ?_
        obtain ⟨z7, hz7, h⟩ := ev_bnE h
        refine ec_Vi (Y := mX10_isSilent) (ci := 9) (As := [.int x1]) (rest := []) dX10_ask_28 kX10_140 oX10_isSilent ⟨Nat.le_of_ble_eq_true rfl, Nat.le_of_ble_eq_true rfl⟩ (by decide) rfl (shp_n g0 0 rfl) (shp_t g0 0 rfl) rfl (Nat.le_of_ble_eq_true rfl) (tX10_isSilent n q0 g0 x1 I1 z7 hz7) rfl ?_
        refine ev_if_ne (tgt := 42) dX10_ask_31 (by decide) (fun c8 => ?_) (fun c8 => ?_)
        · have h := ev_ifF h c8
          refine ev_iconst (v := (0 : Int32)) dX10_ask_42 (by decide) ?_
          cases h
          exact er_i dX10_ask_43 rfl rfl
        · have h := ev_ifT h c8
          refine ev_aload_n dX10_ask_34 rfl (fun _ e => by cases e) ?_
          refine ev_iload_n dX10_ask_35 rfl ?_
          obtain ⟨z9, hz9, h⟩ := ev_bnE h
          refine ec_Vi (Y := mX10_isSilent) (ci := 9) (As := [.int x2]) (rest := []) dX10_ask_36 kX10_140 oX10_isSilent ⟨Nat.le_of_ble_eq_true rfl, Nat.le_of_ble_eq_true rfl⟩ (by decide) rfl (shp_n g0 0 rfl) (shp_t g0 0 rfl) rfl (Nat.le_of_ble_eq_true rfl) (tX10_isSilent n q0 g0 x2 I1 z9 hz9) rfl ?_
          refine ev_if_eq (tgt := 44) dX10_ask_39 (by decide) (fun c10 => ?_) (fun c10 => ?_)
          · have h := ev_ifT h c10
            refine ev_aload_n dX10_ask_44 rfl (fun _ e => by cases e) ?_
            refine ev_iload_n dX10_ask_45 rfl ?_
            obtain ⟨z11, hz11, h⟩ := ev_bnE h
            refine ec_Vi (Y := mX10_nodeAt) (ci := 9) (As := [.int x1]) (rest := []) dX10_ask_46 kX10_54 oX10_nodeAt ⟨Nat.le_of_ble_eq_true rfl, Nat.le_of_ble_eq_true rfl⟩ (by decide) rfl (shp_n g0 0 rfl) (shp_t g0 0 rfl) rfl (Nat.le_of_ble_eq_true rfl) (tX10_nodeAt n q0 g0 x1 I1 z11 hz11) rfl ?_
            refine ew_istn (L' := [some (.ref q0), some (.int x1), some (.int x2), some (.int z11)]) dX10_ask_49 (Nat.le_of_ble_eq_true rfl) rfl ?_
            refine ev_aload_n dX10_ask_50 rfl (fun _ e => by cases e) ?_
            refine ev_iload_n dX10_ask_51 rfl ?_
            refine ev_aload_n dX10_ask_52 rfl (fun _ e => by cases e) ?_
            refine ew_getr0 dX10_ask_53 fX10_7 g0 rfl rfl rfl rfl ?_
            refine ev_aload_n dX10_ask_56 rfl (fun _ e => by cases e) ?_
            refine ev_iload_n dX10_ask_57 rfl ?_
            obtain ⟨z12, hz12, h⟩ := ev_bnE h
            refine ec_Vi (Y := mX10_nodeAt) (ci := 9) (As := [.int x2]) (rest := [(.ref (q0 + 1)), (.int x1), (.ref q0)]) dX10_ask_58 kX10_54 oX10_nodeAt ⟨Nat.le_of_ble_eq_true rfl, Nat.le_of_ble_eq_true rfl⟩ (by decide) rfl (shp_n g0 0 rfl) (shp_t g0 0 rfl) rfl (Nat.le_of_ble_eq_true rfl) (tX10_nodeAt n q0 g0 x2 I1 z12 hz12) rfl ?_
            refine ev_iconst (v := (5 : Int32)) dX10_ask_61 (by decide) ?_
            refine ev_iadd dX10_ask_62 ?_
            obtain ⟨c13, h⟩ := ev_ckE h
            refine ew_iald dX10_ask_63 (shp_a g0 1 rfl) c13 ?_
            obtain ⟨z14, hz14, h⟩ := ev_bnE h
            refine ec_Vv (Y := mX10_learns) (ci := 9) (As := [.int x1, .int (I1 (q0 + 1) (z12 + (5 : Int32)).toNatClampNeg)]) (rest := []) dX10_ask_64 kX10_116 oX10_learns ⟨Nat.le_of_ble_eq_true rfl, Nat.le_of_ble_eq_true rfl⟩ (by decide) rfl (shp_n g0 0 rfl) (shp_t g0 0 rfl) rfl (Nat.le_of_ble_eq_true rfl) (tX10_learns n q0 g0 x1 (I1 (q0 + 1) (z12 + (5 : Int32)).toNatClampNeg) I1 z14 hz14) rfl ?_
            refine ev_aload_n dX10_ask_67 rfl (fun _ e => by cases e) ?_
            refine ew_getr0 dX10_ask_68 fX10_7 g0 rfl rfl rfl rfl ?_
            refine ev_iload_n dX10_ask_71 rfl ?_
            refine ev_bipush (v := (7 : Int32)) dX10_ask_72 (by decide) ?_
            refine ev_iadd dX10_ask_74 ?_
            refine ev_aload_n dX10_ask_75 rfl (fun _ e => by cases e) ?_
            refine ev_aload_n dX10_ask_76 rfl (fun _ e => by cases e) ?_
            refine ew_getr0 dX10_ask_77 fX10_7 g0 rfl rfl rfl rfl ?_
            refine ev_iload_n dX10_ask_80 rfl ?_
            refine ev_bipush (v := (7 : Int32)) dX10_ask_81 (by decide) ?_
            refine ev_iadd dX10_ask_83 ?_
            obtain ⟨c15, h⟩ := ev_ckE h
            refine ew_iald dX10_ask_84 (shp_a g0 1 rfl) c15 ?_
            refine ev_aload_n dX10_ask_85 rfl (fun _ e => by cases e) ?_
            refine ew_getr0 dX10_ask_86 fX10_7 g0 rfl rfl rfl rfl ?_
            refine ev_aload_n dX10_ask_89 rfl (fun _ e => by cases e) ?_
            refine ev_iload_n dX10_ask_90 rfl ?_
            obtain ⟨z16, hz16, h⟩ := ev_bnE h
            refine ec_Vi (Y := mX10_nodeAt) (ci := 9) (As := [.int x2]) (rest := [(.ref (q0 + 1)), (.int (z14 (q0 + 1) (z11 + (7 : Int32)).toNatClampNeg)), (.ref q0), (.int (z11 + (7 : Int32))), (.ref (q0 + 1))]) dX10_ask_91 kX10_54 oX10_nodeAt ⟨Nat.le_of_ble_eq_true rfl, Nat.le_of_ble_eq_true rfl⟩ (by decide) rfl (shp_n g0 0 rfl) (shp_t g0 0 rfl) rfl (Nat.le_of_ble_eq_true rfl) (tX10_nodeAt n q0 g0 x2 z14 z16 hz16) rfl ?_
            refine ev_bipush (v := (7 : Int32)) dX10_ask_94 (by decide) ?_
            refine ev_iadd dX10_ask_96 ?_
            obtain ⟨c17, h⟩ := ev_ckE h
            refine ew_iald dX10_ask_97 (shp_a g0 1 rfl) c17 ?_
            obtain ⟨z18, hz18, h⟩ := ev_bnE h
            refine ec_Vi (Y := mX10_greater) (ci := 9) (As := [.int (z14 (q0 + 1) (z11 + (7 : Int32)).toNatClampNeg), .int (z14 (q0 + 1) (z16 + (7 : Int32)).toNatClampNeg)]) (rest := [(.int (z11 + (7 : Int32))), (.ref (q0 + 1))]) dX10_ask_98 kX10_180 oX10_greater ⟨Nat.le_of_ble_eq_true rfl, Nat.le_of_ble_eq_true rfl⟩ (by decide) rfl (shp_n g0 0 rfl) (shp_t g0 0 rfl) rfl (Nat.le_of_ble_eq_true rfl) (tX10_greater n q0 g0 (z14 (q0 + 1) (z11 + (7 : Int32)).toNatClampNeg) (z14 (q0 + 1) (z16 + (7 : Int32)).toNatClampNeg) z14 z18 hz18) rfl ?_
            obtain ⟨c19, h⟩ := ev_ckE h
            obtain ⟨I20, eI20, h⟩ := ev_ltE h
            refine ew_iast dX10_ask_101 (shp_a g0 1 rfl) c19 (ew_nh eI20 ?_)
            refine ev_aload_n dX10_ask_102 rfl (fun _ e => by cases e) ?_
            refine ev_iload_n dX10_ask_103 rfl ?_
            refine ev_aload_n dX10_ask_104 rfl (fun _ e => by cases e) ?_
            refine ev_aload_n dX10_ask_105 rfl (fun _ e => by cases e) ?_
            refine ev_iload_n dX10_ask_106 rfl ?_
            obtain ⟨z21, hz21, h⟩ := ev_bnE h
            refine ec_Vi (Y := mX10_viewOf) (ci := 9) (As := [.int x1]) (rest := [(.ref q0), (.int x1), (.ref q0)]) dX10_ask_107 kX10_104 oX10_viewOf ⟨Nat.le_of_ble_eq_true rfl, Nat.le_of_ble_eq_true rfl⟩ (by decide) rfl (shp_n g0 0 rfl) (shp_t g0 0 rfl) rfl (Nat.le_of_ble_eq_true rfl) (tX10_viewOf n q0 g0 x1 I20 z21 hz21) rfl ?_
            refine ev_aload_n dX10_ask_110 rfl (fun _ e => by cases e) ?_
            refine ev_aload_n dX10_ask_111 rfl (fun _ e => by cases e) ?_
            refine ew_getr0 dX10_ask_112 fX10_7 g0 rfl rfl rfl rfl ?_
            refine ev_iload_n dX10_ask_115 rfl ?_
            refine ev_bipush (v := (7 : Int32)) dX10_ask_116 (by decide) ?_
            refine ev_iadd dX10_ask_118 ?_
            obtain ⟨c22, h⟩ := ev_ckE h
            refine ew_iald dX10_ask_119 (shp_a g0 1 rfl) c22 ?_
            refine ev_iconst (v := (1 : Int32)) dX10_ask_120 (by decide) ?_
            refine ev_iadd dX10_ask_121 ?_
            refine ev_aload_n dX10_ask_122 rfl (fun _ e => by cases e) ?_
            refine ew_getr0 dX10_ask_123 fX10_7 g0 rfl rfl rfl rfl ?_
            refine ev_bipush (v := (16 : Int32)) dX10_ask_126 (by decide) ?_
            refine ev_aload_n dX10_ask_128 rfl (fun _ e => by cases e) ?_
            refine ew_getr0 dX10_ask_129 fX10_7 g0 rfl rfl rfl rfl ?_
            refine ev_iload_n dX10_ask_132 rfl ?_
            refine ev_iconst (v := (5 : Int32)) dX10_ask_133 (by decide) ?_
            refine ev_iadd dX10_ask_134 ?_
            obtain ⟨c23, h⟩ := ev_ckE h
            refine ew_iald dX10_ask_135 (shp_a g0 1 rfl) c23 ?_
            refine ev_iadd dX10_ask_136 ?_
            obtain ⟨c24, h⟩ := ev_ckE h
            refine ew_iald dX10_ask_137 (shp_a g0 1 rfl) c24 ?_
            refine ev_iconst (v := (1 : Int32)) dX10_ask_138 (by decide) ?_
            refine ev_iadd dX10_ask_139 ?_
            obtain ⟨z25, hz25, h⟩ := ev_bnE h
            refine ec_Vi (Y := mX10_greater) (ci := 9) (As := [.int ((I20 (q0 + 1) (z11 + (7 : Int32)).toNatClampNeg) + (1 : Int32)), .int ((I20 (q0 + 1) ((16 : Int32) + (I20 (q0 + 1) (z11 + (5 : Int32)).toNatClampNeg)).toNatClampNeg) + (1 : Int32))]) (rest := [(.int z21), (.ref q0), (.int x1), (.ref q0)]) dX10_ask_140 kX10_180 oX10_greater ⟨Nat.le_of_ble_eq_true rfl, Nat.le_of_ble_eq_true rfl⟩ (by decide) rfl (shp_n g0 0 rfl) (shp_t g0 0 rfl) rfl (Nat.le_of_ble_eq_true rfl) (tX10_greater n q0 g0 ((I20 (q0 + 1) (z11 + (7 : Int32)).toNatClampNeg) + (1 : Int32)) ((I20 (q0 + 1) ((16 : Int32) + (I20 (q0 + 1) (z11 + (5 : Int32)).toNatClampNeg)).toNatClampNeg) + (1 : Int32)) I20 z25 hz25) rfl ?_
            obtain ⟨z26, hz26, h⟩ := ev_bnE h
            refine ec_Vi (Y := mX10_greater) (ci := 9) (As := [.int z21, .int z25]) (rest := [(.int x1), (.ref q0)]) dX10_ask_143 kX10_180 oX10_greater ⟨Nat.le_of_ble_eq_true rfl, Nat.le_of_ble_eq_true rfl⟩ (by decide) rfl (shp_n g0 0 rfl) (shp_t g0 0 rfl) rfl (Nat.le_of_ble_eq_true rfl) (tX10_greater n q0 g0 z21 z25 I20 z26 hz26) rfl ?_
            obtain ⟨z27, hz27, h⟩ := ev_bnE h
            refine ec_Vv (Y := mX10_goesTo) (ci := 9) (As := [.int x1, .int z26]) (rest := []) dX10_ask_146 kX10_107 oX10_goesTo ⟨Nat.le_of_ble_eq_true rfl, Nat.le_of_ble_eq_true rfl⟩ (by decide) rfl (shp_n g0 0 rfl) (shp_t g0 0 rfl) rfl (Nat.le_of_ble_eq_true rfl) (tX10_goesTo n q0 g0 x1 z26 I20 z27 hz27) rfl ?_
            refine ev_iconst (v := (1 : Int32)) dX10_ask_149 (by decide) ?_
            cases h
            exact er_i dX10_ask_150 rfl rfl
          · have h := ev_ifF h c10
            refine ev_iconst (v := (0 : Int32)) dX10_ask_42 (by decide) ?_
            cases h
            exact er_i dX10_ask_43 rfl rfl
-- ChainVotesModel deliversAll()V
def cX10_deliversAll_0 (q0 : Nat) (K0 : ev_I → Option (ev_I)) (n : Nat) (I : ev_I) : Option (ev_I) :=
  if (I (q0 + 1) (4 : Int32).toNatClampNeg) ≤ 0 then
    some I
  else
    (pX10_takesOut n q0 (0 : Int32) I).bind fun z2 =>
    (pX10_isDelivered n q0  z2).bind fun z3 =>
    K0  z3
def lX10_deliversAll_0 (q0 : Nat) : Nat → ev_I → Option (ev_I)
  | 0, _ => none
  | n + 1, I => cX10_deliversAll_0 q0 (lX10_deliversAll_0 q0 n) n  I
def pX10_deliversAll (n : Nat) (q0 : Nat) (I : ev_I) : Option (ev_I) :=
  lX10_deliversAll_0 q0 n  I
set_option maxRecDepth 100000 in
set_option maxHeartbeats 4000000 in
theorem tX10_deliversAll_0 {E : ev_N} {σ : ev_H} (q0 : Nat) (g0 : shp tb9 σ q0) (K0 : ev_I → Option (ev_I)) (k0 : ∀ (I : ev_I) (o : ev_I), K0  I = some o → EV E mX10_deliversAll 0 [some (.ref q0)] [] (h_w σ I) (Option.none, h_w σ o)) (n : Nat) (I : ev_I) (o : ev_I) : cX10_deliversAll_0 q0 K0 n  I = some o → EV E mX10_deliversAll 0 [some (.ref q0)] [] (h_w σ I) (Option.none, h_w σ o) := by
  intro h
  unfold cX10_deliversAll_0 at h
  refine ev_aload_n dX10_deliversAll_0 rfl (fun _ e => by cases e) ?_
  refine ew_getr0 dX10_deliversAll_1 fX10_7 g0 rfl rfl rfl rfl ?_
  refine ev_iconst (v := (4 : Int32)) dX10_deliversAll_4 (by decide) ?_
  refine ew_iald dX10_deliversAll_5 (shp_a g0 1 rfl) (by decide) ?_
  refine ev_if_le (tgt := 21) dX10_deliversAll_6 (by decide) (fun c1 => ?_) (fun c1 => ?_)
  · have h := ev_ifT h c1
    cases h
    exact er_v dX10_deliversAll_21 rfl
  · have h := ev_ifF h c1
    refine ev_aload_n dX10_deliversAll_9 rfl (fun _ e => by cases e) ?_
    refine ev_iconst (v := (0 : Int32)) dX10_deliversAll_10 (by decide) ?_
    obtain ⟨z2, hz2, h⟩ := ev_bnE h
    refine ec_Vv (Y := mX10_takesOut) (ci := 9) (As := [.int (0 : Int32)]) (rest := []) dX10_deliversAll_11 kX10_156 oX10_takesOut ⟨Nat.le_of_ble_eq_true rfl, Nat.le_of_ble_eq_true rfl⟩ (by decide) rfl (shp_n g0 0 rfl) (shp_t g0 0 rfl) rfl (Nat.le_of_ble_eq_true rfl) (tX10_takesOut n q0 g0 (0 : Int32) I z2 hz2) rfl ?_
    refine ev_aload_n dX10_deliversAll_14 rfl (fun _ e => by cases e) ?_
    obtain ⟨z3, hz3, h⟩ := ev_bnE h
    refine ec_Vv (Y := mX10_isDelivered) (ci := 9) (As := []) (rest := []) dX10_deliversAll_15 kX10_160 oX10_isDelivered ⟨Nat.le_of_ble_eq_true rfl, Nat.le_of_ble_eq_true rfl⟩ (by decide) rfl (shp_n g0 0 rfl) (shp_t g0 0 rfl) rfl (Nat.le_of_ble_eq_true rfl) (tX10_isDelivered n q0 g0  z2 z3 hz3) rfl ?_
    refine ev_goto (tgt := 0) dX10_deliversAll_18 (by decide) ?_
    exact ev_weak (sb_s sb_0) (k0  z3 _ h)
theorem tlX10_deliversAll_0 {E : ev_N} {σ : ev_H} (q0 : Nat) (g0 : shp tb9 σ q0) : ∀ (n : Nat) (I : ev_I) (o : ev_I), lX10_deliversAll_0 q0 n  I = some o → EV E mX10_deliversAll 0 [some (.ref q0)] [] (h_w σ I) (Option.none, h_w σ o)
  | 0, _, _, h => by cases h
  | n + 1, I, o, h => tX10_deliversAll_0 q0 g0 (lX10_deliversAll_0 q0 n) (tlX10_deliversAll_0 q0 g0 n) n  I o h
set_option maxRecDepth 100000 in
set_option maxHeartbeats 4000000 in
theorem tX10_deliversAll {E : ev_N} {σ : ev_H} (n : Nat) (q0 : Nat) (g0 : shp tb9 σ q0) (I : ev_I) (o : ev_I) (h : pX10_deliversAll n q0  I = some o) : ev_T E mX10_deliversAll [.ref q0] (h_w σ I) (Option.none, h_w σ o) := by
  unfold pX10_deliversAll at h
  refine ev_met rfl rfl (Nat.le_of_ble_eq_true rfl) (ev_L0 (L' := [some (.ref q0)]) rfl ?_)
  exact ev_weak (sb_s sb_0) (tlX10_deliversAll_0 q0 g0 n  I _ h)
-- ChainVotesModel goesRound(I)V
def cX10_goesRound_69 (q0 : Nat) (K44 : Int32 → Int32 → ev_I → Option (ev_I)) (n : Nat) (y2 : Int32) (y3 : Int32) (I : ev_I) : Option (ev_I) :=
  ev_lt (y3 + (1 : Int32)) fun v1 =>
  K44 y2 v1 I
def cX10_goesRound_44 (q0 : Nat) (K44 : Int32 → Int32 → ev_I → Option (ev_I)) (n : Nat) (y2 : Int32) (y3 : Int32) (I : ev_I) : Option (ev_I) :=
  (pX10_nodeMany n q0  I).bind fun z2 =>
  if z2 ≤ y3 then
    some I
  else
    if y2 = 0 then
      (pX10_canTimeOut n q0 y3 I).bind fun z5 =>
      if z5 = 0 then
        cX10_goesRound_69 q0 K44 n y2 y3 I
      else
        (pX10_timesOut n q0 y3 I).bind fun z7 =>
        cX10_goesRound_69 q0 K44 n y2 y3 z7
    else
      some I
def lX10_goesRound_44 (q0 : Nat) : Nat → Int32 → Int32 → ev_I → Option (ev_I)
  | 0, _, _, _ => none
  | n + 1, y2, y3, I => cX10_goesRound_44 q0 (lX10_goesRound_44 q0 n) n y2 y3 I
def cX10_goesRound_36 (q0 : Nat) (K8 : Int32 → Int32 → Int32 → ev_I → Option (ev_I)) (n : Nat) (y1 : Int32) (y2 : Int32) (y3 : Int32) (I : ev_I) : Option (ev_I) :=
  ev_lt (y3 + (1 : Int32)) fun v8 =>
  K8 y1 y2 v8 I
def cX10_goesRound_8 (q0 : Nat) (K8 : Int32 → Int32 → Int32 → ev_I → Option (ev_I)) (n : Nat) (y1 : Int32) (y2 : Int32) (y3 : Int32) (I : ev_I) : Option (ev_I) :=
  (pX10_nodeMany n q0  I).bind fun z9 =>
  if z9 ≤ y3 then
    lX10_goesRound_44 q0 n y2 (0 : Int32) I
  else
    (pX10_canPropose n q0 y3 I).bind fun z11 =>
    if z11 = 0 then
      cX10_goesRound_36 q0 K8 n y1 y2 y3 I
    else
      (pX10_proposes n q0 y3 y1 I).bind fun z13 =>
      cX10_goesRound_36 q0 K8 n y1 (1 : Int32) y3 z13.2
def lX10_goesRound_8 (q0 : Nat) : Nat → Int32 → Int32 → Int32 → ev_I → Option (ev_I)
  | 0, _, _, _, _ => none
  | n + 1, y1, y2, y3, I => cX10_goesRound_8 q0 (lX10_goesRound_8 q0 n) n y1 y2 y3 I
def pX10_goesRound (n : Nat) (q0 : Nat) (x1 : Int32) (I : ev_I) : Option (ev_I) :=
  (pX10_deliversAll n q0  I).bind fun z14 =>
  lX10_goesRound_8 q0 n x1 (0 : Int32) (0 : Int32) z14
set_option maxRecDepth 100000 in
set_option maxHeartbeats 4000000 in
theorem tX10_goesRound_69 {E : ev_N} {σ : ev_H} (q0 : Nat) (g0 : shp tb9 σ q0) (K44 : Int32 → Int32 → ev_I → Option (ev_I)) (k44 : ∀ (y2 : Int32) (y3 : Int32) (I : ev_I) (o : ev_I), K44 y2 y3 I = some o → EV E mX10_goesRound 44 [some (.ref q0), none, some (.int y2), some (.int y3)] [] (h_w σ I) (Option.none, h_w σ o)) (n : Nat) (y2 : Int32) (y3 : Int32) (I : ev_I) (o : ev_I) : cX10_goesRound_69 q0 K44 n y2 y3 I = some o → EV E mX10_goesRound 69 [some (.ref q0), none, some (.int y2), some (.int y3)] [] (h_w σ I) (Option.none, h_w σ o) := by
  intro h
  unfold cX10_goesRound_69 at h
  obtain ⟨v1, ev1, h⟩ := ev_ltE h
  refine ew_iinc (L' := [some (.ref q0), none, some (.int y2), some (.int v1)]) dX10_goesRound_69 (Nat.le_of_ble_eq_true rfl) rfl (by decide) ev1 rfl ?_
  refine ev_goto (tgt := 44) dX10_goesRound_72 (by decide) ?_
  exact ev_weak (sb_s (sb_n (sb_s (sb_s sb_0)))) (k44 y2 v1 I _ h)
set_option maxRecDepth 100000 in
set_option maxHeartbeats 4000000 in
theorem tX10_goesRound_44 {E : ev_N} {σ : ev_H} (q0 : Nat) (g0 : shp tb9 σ q0) (K44 : Int32 → Int32 → ev_I → Option (ev_I)) (k44 : ∀ (y2 : Int32) (y3 : Int32) (I : ev_I) (o : ev_I), K44 y2 y3 I = some o → EV E mX10_goesRound 44 [some (.ref q0), none, some (.int y2), some (.int y3)] [] (h_w σ I) (Option.none, h_w σ o)) (n : Nat) (y2 : Int32) (y3 : Int32) (I : ev_I) (o : ev_I) : cX10_goesRound_44 q0 K44 n y2 y3 I = some o → EV E mX10_goesRound 44 [some (.ref q0), none, some (.int y2), some (.int y3)] [] (h_w σ I) (Option.none, h_w σ o) := by
  intro h
  unfold cX10_goesRound_44 at h
  refine ev_iload_n dX10_goesRound_44 rfl ?_
  refine ev_aload_n dX10_goesRound_45 rfl (fun _ e => by cases e) ?_
  obtain ⟨z2, hz2, h⟩ := ev_bnE h
  refine ec_Vi (Y := mX10_nodeMany) (ci := 9) (As := []) (rest := [(.int y3)]) dX10_goesRound_46 kX10_47 oX10_nodeMany ⟨Nat.le_of_ble_eq_true rfl, Nat.le_of_ble_eq_true rfl⟩ (by decide) rfl (shp_n g0 0 rfl) (shp_t g0 0 rfl) rfl (Nat.le_of_ble_eq_true rfl) (tX10_nodeMany n q0 g0  I z2 hz2) rfl ?_
  refine ev_icmp_ge (tgt := 75) dX10_goesRound_49 (by decide) (fun c3 => ?_) (fun c3 => ?_)
  · have h := ev_ifT h c3
    cases h
    exact er_v dX10_goesRound_75 rfl
  · have h := ev_ifF h c3
    refine ev_iload_n dX10_goesRound_52 rfl ?_
    refine ev_if_ne (tgt := 75) dX10_goesRound_53 (by decide) (fun c4 => ?_) (fun c4 => ?_)
    · have h := ev_ifF h c4
      cases h
      exact er_v dX10_goesRound_75 rfl
    · have h := ev_ifT h c4
      refine ev_aload_n dX10_goesRound_56 rfl (fun _ e => by cases e) ?_
      refine ev_iload_n dX10_goesRound_57 rfl ?_
      obtain ⟨z5, hz5, h⟩ := ev_bnE h
      refine ec_Vi (Y := mX10_canTimeOut) (ci := 9) (As := [.int y3]) (rest := []) dX10_goesRound_58 kX10_183 oX10_canTimeOut ⟨Nat.le_of_ble_eq_true rfl, Nat.le_of_ble_eq_true rfl⟩ (by decide) rfl (shp_n g0 0 rfl) (shp_t g0 0 rfl) rfl (Nat.le_of_ble_eq_true rfl) (tX10_canTimeOut n q0 g0 y3 I z5 hz5) rfl ?_
      refine ev_if_eq (tgt := 69) dX10_goesRound_61 (by decide) (fun c6 => ?_) (fun c6 => ?_)
      · have h := ev_ifT h c6
        exact ev_weak (sb_s (sb_n (sb_s (sb_s sb_0)))) (tX10_goesRound_69 q0 g0 K44 k44 n y2 y3 I _ h)
      · have h := ev_ifF h c6
        refine ev_aload_n dX10_goesRound_64 rfl (fun _ e => by cases e) ?_
        refine ev_iload_n dX10_goesRound_65 rfl ?_
        obtain ⟨z7, hz7, h⟩ := ev_bnE h
        refine ec_Vv (Y := mX10_timesOut) (ci := 9) (As := [.int y3]) (rest := []) dX10_goesRound_66 kX10_186 oX10_timesOut ⟨Nat.le_of_ble_eq_true rfl, Nat.le_of_ble_eq_true rfl⟩ (by decide) rfl (shp_n g0 0 rfl) (shp_t g0 0 rfl) rfl (Nat.le_of_ble_eq_true rfl) (tX10_timesOut n q0 g0 y3 I z7 hz7) rfl ?_
        exact ev_weak (sb_s (sb_n (sb_s (sb_s sb_0)))) (tX10_goesRound_69 q0 g0 K44 k44 n y2 y3 z7 _ h)
theorem tlX10_goesRound_44 {E : ev_N} {σ : ev_H} (q0 : Nat) (g0 : shp tb9 σ q0) : ∀ (n : Nat) (y2 : Int32) (y3 : Int32) (I : ev_I) (o : ev_I), lX10_goesRound_44 q0 n y2 y3 I = some o → EV E mX10_goesRound 44 [some (.ref q0), none, some (.int y2), some (.int y3)] [] (h_w σ I) (Option.none, h_w σ o)
  | 0, _, _, _, _, h => by cases h
  | n + 1, y2, y3, I, o, h => tX10_goesRound_44 q0 g0 (lX10_goesRound_44 q0 n) (tlX10_goesRound_44 q0 g0 n) n y2 y3 I o h
set_option maxRecDepth 100000 in
set_option maxHeartbeats 4000000 in
theorem tX10_goesRound_36 {E : ev_N} {σ : ev_H} (q0 : Nat) (g0 : shp tb9 σ q0) (K8 : Int32 → Int32 → Int32 → ev_I → Option (ev_I)) (k8 : ∀ (y1 : Int32) (y2 : Int32) (y3 : Int32) (I : ev_I) (o : ev_I), K8 y1 y2 y3 I = some o → EV E mX10_goesRound 8 [some (.ref q0), some (.int y1), some (.int y2), some (.int y3)] [] (h_w σ I) (Option.none, h_w σ o)) (n : Nat) (y1 : Int32) (y2 : Int32) (y3 : Int32) (I : ev_I) (o : ev_I) : cX10_goesRound_36 q0 K8 n y1 y2 y3 I = some o → EV E mX10_goesRound 36 [some (.ref q0), some (.int y1), some (.int y2), some (.int y3)] [] (h_w σ I) (Option.none, h_w σ o) := by
  intro h
  unfold cX10_goesRound_36 at h
  obtain ⟨v8, ev8, h⟩ := ev_ltE h
  refine ew_iinc (L' := [some (.ref q0), some (.int y1), some (.int y2), some (.int v8)]) dX10_goesRound_36 (Nat.le_of_ble_eq_true rfl) rfl (by decide) ev8 rfl ?_
  refine ev_goto (tgt := 8) dX10_goesRound_39 (by decide) ?_
  exact ev_weak (sb_s (sb_s (sb_s (sb_s sb_0)))) (k8 y1 y2 v8 I _ h)
set_option maxRecDepth 100000 in
set_option maxHeartbeats 4000000 in
theorem tX10_goesRound_8 {E : ev_N} {σ : ev_H} (q0 : Nat) (g0 : shp tb9 σ q0) (K8 : Int32 → Int32 → Int32 → ev_I → Option (ev_I)) (k8 : ∀ (y1 : Int32) (y2 : Int32) (y3 : Int32) (I : ev_I) (o : ev_I), K8 y1 y2 y3 I = some o → EV E mX10_goesRound 8 [some (.ref q0), some (.int y1), some (.int y2), some (.int y3)] [] (h_w σ I) (Option.none, h_w σ o)) (n : Nat) (y1 : Int32) (y2 : Int32) (y3 : Int32) (I : ev_I) (o : ev_I) : cX10_goesRound_8 q0 K8 n y1 y2 y3 I = some o → EV E mX10_goesRound 8 [some (.ref q0), some (.int y1), some (.int y2), some (.int y3)] [] (h_w σ I) (Option.none, h_w σ o) := by
  intro h
  unfold cX10_goesRound_8 at h
  refine ev_iload_n dX10_goesRound_8 rfl ?_
  refine ev_aload_n dX10_goesRound_9 rfl (fun _ e => by cases e) ?_
  obtain ⟨z9, hz9, h⟩ := ev_bnE h
  refine ec_Vi (Y := mX10_nodeMany) (ci := 9) (As := []) (rest := [(.int y3)]) dX10_goesRound_10 kX10_47 oX10_nodeMany ⟨Nat.le_of_ble_eq_true rfl, Nat.le_of_ble_eq_true rfl⟩ (by decide) rfl (shp_n g0 0 rfl) (shp_t g0 0 rfl) rfl (Nat.le_of_ble_eq_true rfl) (tX10_nodeMany n q0 g0  I z9 hz9) rfl ?_
  refine ev_icmp_ge (tgt := 42) dX10_goesRound_13 (by decide) (fun c10 => ?_) (fun c10 => ?_)
  · have h := ev_ifT h c10
    refine ev_iconst (v := (0 : Int32)) dX10_goesRound_42 (by decide) ?_
    refine ew_istn (L' := [some (.ref q0), some (.int y1), some (.int y2), some (.int (0 : Int32))]) dX10_goesRound_43 (Nat.le_of_ble_eq_true rfl) rfl ?_
    exact ev_weak (sb_s (sb_n (sb_s (sb_s sb_0)))) (tlX10_goesRound_44 q0 g0 n y2 (0 : Int32) I _ h)
  · have h := ev_ifF h c10
    refine ev_aload_n dX10_goesRound_16 rfl (fun _ e => by cases e) ?_
    refine ev_iload_n dX10_goesRound_17 rfl ?_
    obtain ⟨z11, hz11, h⟩ := ev_bnE h
    refine ec_Vi (Y := mX10_canPropose) (ci := 9) (As := [.int y3]) (rest := []) dX10_goesRound_18 kX10_173 oX10_canPropose ⟨Nat.le_of_ble_eq_true rfl, Nat.le_of_ble_eq_true rfl⟩ (by decide) rfl (shp_n g0 0 rfl) (shp_t g0 0 rfl) rfl (Nat.le_of_ble_eq_true rfl) (tX10_canPropose n q0 g0 y3 I z11 hz11) rfl ?_
    refine ev_if_ne (tgt := 27) dX10_goesRound_21 (by decide) (fun c12 => ?_) (fun c12 => ?_)
    · have h := ev_ifF h c12
      refine ev_aload_n dX10_goesRound_27 rfl (fun _ e => by cases e) ?_
      refine ev_iload_n dX10_goesRound_28 rfl ?_
      refine ev_iload_n dX10_goesRound_29 rfl ?_
      obtain ⟨z13, hz13, h⟩ := ev_bnE h
      refine ec_Vi (Y := mX10_proposes) (ci := 9) (As := [.int y3, .int y1]) (rest := []) dX10_goesRound_30 kX10_176 oX10_proposes ⟨Nat.le_of_ble_eq_true rfl, Nat.le_of_ble_eq_true rfl⟩ (by decide) rfl (shp_n g0 0 rfl) (shp_t g0 0 rfl) rfl (Nat.le_of_ble_eq_true rfl) (tX10_proposes n q0 g0 y3 y1 I z13 hz13) rfl ?_
      refine ev_pop dX10_goesRound_33 ?_
      refine ev_iconst (v := (1 : Int32)) dX10_goesRound_34 (by decide) ?_
      refine ew_istn (L' := [some (.ref q0), some (.int y1), some (.int (1 : Int32)), some (.int y3)]) dX10_goesRound_35 (Nat.le_of_ble_eq_true rfl) rfl ?_
      exact ev_weak (sb_s (sb_s (sb_s (sb_s sb_0)))) (tX10_goesRound_36 q0 g0 K8 k8 n y1 (1 : Int32) y3 z13.2 _ h)
    · have h := ev_ifT h c12
      refine ev_goto (tgt := 36) dX10_goesRound_24 (by decide) ?_
      exact ev_weak (sb_s (sb_s (sb_s (sb_s sb_0)))) (tX10_goesRound_36 q0 g0 K8 k8 n y1 y2 y3 I _ h)
theorem tlX10_goesRound_8 {E : ev_N} {σ : ev_H} (q0 : Nat) (g0 : shp tb9 σ q0) : ∀ (n : Nat) (y1 : Int32) (y2 : Int32) (y3 : Int32) (I : ev_I) (o : ev_I), lX10_goesRound_8 q0 n y1 y2 y3 I = some o → EV E mX10_goesRound 8 [some (.ref q0), some (.int y1), some (.int y2), some (.int y3)] [] (h_w σ I) (Option.none, h_w σ o)
  | 0, _, _, _, _, _, h => by cases h
  | n + 1, y1, y2, y3, I, o, h => tX10_goesRound_8 q0 g0 (lX10_goesRound_8 q0 n) (tlX10_goesRound_8 q0 g0 n) n y1 y2 y3 I o h
set_option maxRecDepth 100000 in
set_option maxHeartbeats 4000000 in
theorem tX10_goesRound {E : ev_N} {σ : ev_H} (n : Nat) (q0 : Nat) (g0 : shp tb9 σ q0) (x1 : Int32) (I : ev_I) (o : ev_I) (h : pX10_goesRound n q0 x1 I = some o) : ev_T E mX10_goesRound [.ref q0, .int x1] (h_w σ I) (Option.none, h_w σ o) := by
  unfold pX10_goesRound at h
  refine ev_met rfl rfl (Nat.le_of_ble_eq_true rfl) (ev_L0 (L' := [some (.ref q0), some (.int x1), none, none]) rfl ?_)
  refine ev_aload_n dX10_goesRound_0 rfl (fun _ e => by cases e) ?_
  obtain ⟨z14, hz14, h⟩ := ev_bnE h
  refine ec_Vv (Y := mX10_deliversAll) (ci := 9) (As := []) (rest := []) dX10_goesRound_1 kX10_199 oX10_deliversAll ⟨Nat.le_of_ble_eq_true rfl, Nat.le_of_ble_eq_true rfl⟩ (by decide) rfl (shp_n g0 0 rfl) (shp_t g0 0 rfl) rfl (Nat.le_of_ble_eq_true rfl) (tX10_deliversAll n q0 g0  I z14 hz14) rfl ?_
  refine ev_iconst (v := (0 : Int32)) dX10_goesRound_4 (by decide) ?_
  refine ew_istn (L' := [some (.ref q0), some (.int x1), some (.int (0 : Int32)), none]) dX10_goesRound_5 (Nat.le_of_ble_eq_true rfl) rfl ?_
  refine ev_iconst (v := (0 : Int32)) dX10_goesRound_6 (by decide) ?_
  refine ew_istn (L' := [some (.ref q0), some (.int x1), some (.int (0 : Int32)), some (.int (0 : Int32))]) dX10_goesRound_7 (Nat.le_of_ble_eq_true rfl) rfl ?_
  exact ev_weak (sb_s (sb_s (sb_s (sb_s sb_0)))) (tlX10_goesRound_8 q0 g0 n x1 (0 : Int32) (0 : Int32) z14 _ h)
-- ChainVotesModel logsTogether()I
def cX10_logsTogether_4 (q0 : Nat) (K4 : Int32 → Int32 → ev_I → Option (Int32)) (n : Nat) (y1 : Int32) (y2 : Int32) (I : ev_I) : Option (Int32) :=
  (pX10_nodeMany n q0  I).bind fun z1 =>
  if z1 ≤ y2 then
    some y1
  else
    (pX10_logMany n q0 y2 I).bind fun z3 =>
    ev_lt (y1 + z3) fun v4 =>
    ev_lt (y2 + (1 : Int32)) fun v5 =>
    K4 v4 v5 I
def lX10_logsTogether_4 (q0 : Nat) : Nat → Int32 → Int32 → ev_I → Option (Int32)
  | 0, _, _, _ => none
  | n + 1, y1, y2, I => cX10_logsTogether_4 q0 (lX10_logsTogether_4 q0 n) n y1 y2 I
def pX10_logsTogether (n : Nat) (q0 : Nat) (I : ev_I) : Option (Int32) :=
  lX10_logsTogether_4 q0 n (0 : Int32) (0 : Int32) I
set_option maxRecDepth 100000 in
set_option maxHeartbeats 4000000 in
theorem tX10_logsTogether_4 {E : ev_N} {σ : ev_H} (q0 : Nat) (g0 : shp tb9 σ q0) (K4 : Int32 → Int32 → ev_I → Option (Int32)) (k4 : ∀ (y1 : Int32) (y2 : Int32) (I : ev_I) (o : Int32), K4 y1 y2 I = some o → EV E mX10_logsTogether 4 [some (.ref q0), some (.int y1), some (.int y2)] [] (h_w σ I) (Option.some (Value.int o), h_w σ I)) (n : Nat) (y1 : Int32) (y2 : Int32) (I : ev_I) (o : Int32) : cX10_logsTogether_4 q0 K4 n y1 y2 I = some o → EV E mX10_logsTogether 4 [some (.ref q0), some (.int y1), some (.int y2)] [] (h_w σ I) (Option.some (Value.int o), h_w σ I) := by
  intro h
  unfold cX10_logsTogether_4 at h
  refine ev_iload_n dX10_logsTogether_4 rfl ?_
  refine ev_aload_n dX10_logsTogether_5 rfl (fun _ e => by cases e) ?_
  obtain ⟨z1, hz1, h⟩ := ev_bnE h
  refine ec_Vi (Y := mX10_nodeMany) (ci := 9) (As := []) (rest := [(.int y2)]) dX10_logsTogether_6 kX10_47 oX10_nodeMany ⟨Nat.le_of_ble_eq_true rfl, Nat.le_of_ble_eq_true rfl⟩ (by decide) rfl (shp_n g0 0 rfl) (shp_t g0 0 rfl) rfl (Nat.le_of_ble_eq_true rfl) (tX10_nodeMany n q0 g0  I z1 hz1) rfl ?_
  refine ev_icmp_ge (tgt := 26) dX10_logsTogether_9 (by decide) (fun c2 => ?_) (fun c2 => ?_)
  · have h := ev_ifT h c2
    refine ev_iload_n dX10_logsTogether_26 rfl ?_
    cases h
    exact er_i dX10_logsTogether_27 rfl rfl
  · have h := ev_ifF h c2
    refine ev_iload_n dX10_logsTogether_12 rfl ?_
    refine ev_aload_n dX10_logsTogether_13 rfl (fun _ e => by cases e) ?_
    refine ev_iload_n dX10_logsTogether_14 rfl ?_
    obtain ⟨z3, hz3, h⟩ := ev_bnE h
    refine ec_Vi (Y := mX10_logMany) (ci := 9) (As := [.int y2]) (rest := [(.int y1)]) dX10_logsTogether_15 kX10_202 oX10_logMany ⟨Nat.le_of_ble_eq_true rfl, Nat.le_of_ble_eq_true rfl⟩ (by decide) rfl (shp_n g0 0 rfl) (shp_t g0 0 rfl) rfl (Nat.le_of_ble_eq_true rfl) (tX10_logMany n q0 g0 y2 I z3 hz3) rfl ?_
    refine ev_iadd dX10_logsTogether_18 ?_
    obtain ⟨v4, ev4, h⟩ := ev_ltE h
    refine ew_nm ev4 ?_
    refine ew_istn (L' := [some (.ref q0), some (.int v4), some (.int y2)]) dX10_logsTogether_19 (Nat.le_of_ble_eq_true rfl) rfl ?_
    obtain ⟨v5, ev5, h⟩ := ev_ltE h
    refine ew_iinc (L' := [some (.ref q0), some (.int v4), some (.int v5)]) dX10_logsTogether_20 (Nat.le_of_ble_eq_true rfl) rfl (by decide) ev5 rfl ?_
    refine ev_goto (tgt := 4) dX10_logsTogether_23 (by decide) ?_
    exact ev_weak (sb_s (sb_s (sb_s sb_0))) (k4 v4 v5 I _ h)
theorem tlX10_logsTogether_4 {E : ev_N} {σ : ev_H} (q0 : Nat) (g0 : shp tb9 σ q0) : ∀ (n : Nat) (y1 : Int32) (y2 : Int32) (I : ev_I) (o : Int32), lX10_logsTogether_4 q0 n y1 y2 I = some o → EV E mX10_logsTogether 4 [some (.ref q0), some (.int y1), some (.int y2)] [] (h_w σ I) (Option.some (Value.int o), h_w σ I)
  | 0, _, _, _, _, h => by cases h
  | n + 1, y1, y2, I, o, h => tX10_logsTogether_4 q0 g0 (lX10_logsTogether_4 q0 n) (tlX10_logsTogether_4 q0 g0 n) n y1 y2 I o h
set_option maxRecDepth 100000 in
set_option maxHeartbeats 4000000 in
theorem tX10_logsTogether {E : ev_N} {σ : ev_H} (n : Nat) (q0 : Nat) (g0 : shp tb9 σ q0) (I : ev_I) (o : Int32) (h : pX10_logsTogether n q0  I = some o) : ev_T E mX10_logsTogether [.ref q0] (h_w σ I) (Option.some (Value.int o), h_w σ I) := by
  unfold pX10_logsTogether at h
  refine ev_met rfl rfl (Nat.le_of_ble_eq_true rfl) (ev_L0 (L' := [some (.ref q0), none, none]) rfl ?_)
  refine ev_iconst (v := (0 : Int32)) dX10_logsTogether_0 (by decide) ?_
  refine ew_istn (L' := [some (.ref q0), some (.int (0 : Int32)), none]) dX10_logsTogether_1 (Nat.le_of_ble_eq_true rfl) rfl ?_
  refine ev_iconst (v := (0 : Int32)) dX10_logsTogether_2 (by decide) ?_
  refine ew_istn (L' := [some (.ref q0), some (.int (0 : Int32)), some (.int (0 : Int32))]) dX10_logsTogether_3 (Nat.le_of_ble_eq_true rfl) rfl ?_
  exact ev_weak (sb_s (sb_s (sb_s sb_0))) (tlX10_logsTogether_4 q0 g0 n (0 : Int32) (0 : Int32) I _ h)
-- ChainVotesModel calm(I)I
def cX10_calm_25 (q0 : Nat) (K25 : Int32 → Int32 → Int32 → ev_I → Option (Int32 × ev_I)) (n : Nat) (y1 : Int32) (y2 : Int32) (y3 : Int32) (I : ev_I) : Option (Int32 × ev_I) :=
  if y1 ≤ y3 then
    (pX10_deliversAll n q0  I).bind fun z2 =>
    (pX10_logsTogether n q0  z2).bind fun z3 =>
    some ((z3 - y2), z2)
  else
    (pX10_goesRound n q0 y3 I).bind fun z4 =>
    ev_lt (y3 + (1 : Int32)) fun v5 =>
    K25 y1 y2 v5 z4
def lX10_calm_25 (q0 : Nat) : Nat → Int32 → Int32 → Int32 → ev_I → Option (Int32 × ev_I)
  | 0, _, _, _, _ => none
  | n + 1, y1, y2, y3, I => cX10_calm_25 q0 (lX10_calm_25 q0 n) n y1 y2 y3 I
def pX10_calm (n : Nat) (q0 : Nat) (x1 : Int32) (I : ev_I) : Option (Int32 × ev_I) :=
  ev_lt (ev_u2 I q0 0 (0 : Int32)) fun I6 =>
  (pX10_isIn n q0 x1 (1 : Int32) (20 : Int32) I6).bind fun z7 =>
  if z7 = 0 then
    some ((-1 : Int32), I6)
  else
    (pX10_logsTogether n q0  I6).bind fun z9 =>
    lX10_calm_25 q0 n x1 z9 (0 : Int32) I6
set_option maxRecDepth 100000 in
set_option maxHeartbeats 4000000 in
theorem tX10_calm_25 {E : ev_N} {σ : ev_H} (q0 : Nat) (g0 : shp tb9 σ q0) (K25 : Int32 → Int32 → Int32 → ev_I → Option (Int32 × ev_I)) (k25 : ∀ (y1 : Int32) (y2 : Int32) (y3 : Int32) (I : ev_I) (o : Int32 × ev_I), K25 y1 y2 y3 I = some o → EV E mX10_calm 25 [some (.ref q0), some (.int y1), some (.int y2), some (.int y3)] [] (h_w σ I) (Option.some (Value.int o.1), h_w σ o.2)) (n : Nat) (y1 : Int32) (y2 : Int32) (y3 : Int32) (I : ev_I) (o : Int32 × ev_I) : cX10_calm_25 q0 K25 n y1 y2 y3 I = some o → EV E mX10_calm 25 [some (.ref q0), some (.int y1), some (.int y2), some (.int y3)] [] (h_w σ I) (Option.some (Value.int o.1), h_w σ o.2) := by
  intro h
  unfold cX10_calm_25 at h
  refine ev_iload_n dX10_calm_25 rfl ?_
  refine ev_iload_n dX10_calm_26 rfl ?_
  refine ev_icmp_ge (tgt := 41) dX10_calm_27 (by decide) (fun c1 => ?_) (fun c1 => ?_)
  · have h := ev_ifT h c1
    refine ev_aload_n dX10_calm_41 rfl (fun _ e => by cases e) ?_
    obtain ⟨z2, hz2, h⟩ := ev_bnE h
    refine ec_Vv (Y := mX10_deliversAll) (ci := 9) (As := []) (rest := []) dX10_calm_42 kX10_199 oX10_deliversAll ⟨Nat.le_of_ble_eq_true rfl, Nat.le_of_ble_eq_true rfl⟩ (by decide) rfl (shp_n g0 0 rfl) (shp_t g0 0 rfl) rfl (Nat.le_of_ble_eq_true rfl) (tX10_deliversAll n q0 g0  I z2 hz2) rfl ?_
    refine ev_aload_n dX10_calm_45 rfl (fun _ e => by cases e) ?_
    obtain ⟨z3, hz3, h⟩ := ev_bnE h
    refine ec_Vi (Y := mX10_logsTogether) (ci := 9) (As := []) (rest := []) dX10_calm_46 kX10_205 oX10_logsTogether ⟨Nat.le_of_ble_eq_true rfl, Nat.le_of_ble_eq_true rfl⟩ (by decide) rfl (shp_n g0 0 rfl) (shp_t g0 0 rfl) rfl (Nat.le_of_ble_eq_true rfl) (tX10_logsTogether n q0 g0  z2 z3 hz3) rfl ?_
    refine ev_iload_n dX10_calm_49 rfl ?_
    refine ev_isub dX10_calm_50 ?_
    cases h
    exact er_i dX10_calm_51 rfl rfl
  · have h := ev_ifF h c1
    refine ev_aload_n dX10_calm_30 rfl (fun _ e => by cases e) ?_
    refine ev_iload_n dX10_calm_31 rfl ?_
    obtain ⟨z4, hz4, h⟩ := ev_bnE h
    refine ec_Vv (Y := mX10_goesRound) (ci := 9) (As := [.int y3]) (rest := []) dX10_calm_32 kX10_208 oX10_goesRound ⟨Nat.le_of_ble_eq_true rfl, Nat.le_of_ble_eq_true rfl⟩ (by decide) rfl (shp_n g0 0 rfl) (shp_t g0 0 rfl) rfl (Nat.le_of_ble_eq_true rfl) (tX10_goesRound n q0 g0 y3 I z4 hz4) rfl ?_
    obtain ⟨v5, ev5, h⟩ := ev_ltE h
    refine ew_iinc (L' := [some (.ref q0), some (.int y1), some (.int y2), some (.int v5)]) dX10_calm_35 (Nat.le_of_ble_eq_true rfl) rfl (by decide) ev5 rfl ?_
    refine ev_goto (tgt := 25) dX10_calm_38 (by decide) ?_
    exact ev_weak (sb_s (sb_s (sb_s (sb_s sb_0)))) (k25 y1 y2 v5 z4 _ h)
theorem tlX10_calm_25 {E : ev_N} {σ : ev_H} (q0 : Nat) (g0 : shp tb9 σ q0) : ∀ (n : Nat) (y1 : Int32) (y2 : Int32) (y3 : Int32) (I : ev_I) (o : Int32 × ev_I), lX10_calm_25 q0 n y1 y2 y3 I = some o → EV E mX10_calm 25 [some (.ref q0), some (.int y1), some (.int y2), some (.int y3)] [] (h_w σ I) (Option.some (Value.int o.1), h_w σ o.2)
  | 0, _, _, _, _, _, h => by cases h
  | n + 1, y1, y2, y3, I, o, h => tX10_calm_25 q0 g0 (lX10_calm_25 q0 n) (tlX10_calm_25 q0 g0 n) n y1 y2 y3 I o h
set_option maxRecDepth 100000 in
set_option maxHeartbeats 4000000 in
theorem tX10_calm {E : ev_N} {σ : ev_H} (n : Nat) (q0 : Nat) (g0 : shp tb9 σ q0) (x1 : Int32) (I : ev_I) (o : Int32 × ev_I) (h : pX10_calm n q0 x1 I = some o) : ev_T E mX10_calm [.ref q0, .int x1] (h_w σ I) (Option.some (Value.int o.1), h_w σ o.2) := by
  unfold pX10_calm at h
  refine ev_met rfl rfl (Nat.le_of_ble_eq_true rfl) (ev_L0 (L' := [some (.ref q0), some (.int x1), none, none]) rfl ?_)
  refine ev_aload_n dX10_calm_0 rfl (fun _ e => by cases e) ?_
  refine ev_iconst (v := (0 : Int32)) dX10_calm_1 (by decide) ?_
  obtain ⟨I6, eI6, h⟩ := ev_ltE h
  refine ew_put0 dX10_calm_2 fX10_44 g0 rfl rfl rfl rfl rfl rfl (ew_nh eI6 ?_)
  refine ev_aload_n dX10_calm_5 rfl (fun _ e => by cases e) ?_
  refine ev_iload_n dX10_calm_6 rfl ?_
  refine ev_iconst (v := (1 : Int32)) dX10_calm_7 (by decide) ?_
  refine ev_bipush (v := (20 : Int32)) dX10_calm_8 (by decide) ?_
  obtain ⟨z7, hz7, h⟩ := ev_bnE h
  refine ec_Vi (Y := mX10_isIn) (ci := 9) (As := [.int x1, .int (1 : Int32), .int (20 : Int32)]) (rest := []) dX10_calm_10 kX10_61 oX10_isIn ⟨Nat.le_of_ble_eq_true rfl, Nat.le_of_ble_eq_true rfl⟩ (by decide) rfl (shp_n g0 0 rfl) (shp_t g0 0 rfl) rfl (Nat.le_of_ble_eq_true rfl) (tX10_isIn n q0 g0 x1 (1 : Int32) (20 : Int32) I6 z7 hz7) rfl ?_
  refine ev_if_ne (tgt := 18) dX10_calm_13 (by decide) (fun c8 => ?_) (fun c8 => ?_)
  · have h := ev_ifF h c8
    refine ev_aload_n dX10_calm_18 rfl (fun _ e => by cases e) ?_
    obtain ⟨z9, hz9, h⟩ := ev_bnE h
    refine ec_Vi (Y := mX10_logsTogether) (ci := 9) (As := []) (rest := []) dX10_calm_19 kX10_205 oX10_logsTogether ⟨Nat.le_of_ble_eq_true rfl, Nat.le_of_ble_eq_true rfl⟩ (by decide) rfl (shp_n g0 0 rfl) (shp_t g0 0 rfl) rfl (Nat.le_of_ble_eq_true rfl) (tX10_logsTogether n q0 g0  I6 z9 hz9) rfl ?_
    refine ew_istn (L' := [some (.ref q0), some (.int x1), some (.int z9), none]) dX10_calm_22 (Nat.le_of_ble_eq_true rfl) rfl ?_
    refine ev_iconst (v := (0 : Int32)) dX10_calm_23 (by decide) ?_
    refine ew_istn (L' := [some (.ref q0), some (.int x1), some (.int z9), some (.int (0 : Int32))]) dX10_calm_24 (Nat.le_of_ble_eq_true rfl) rfl ?_
    exact ev_weak (sb_s (sb_s (sb_s (sb_s sb_0)))) (tlX10_calm_25 q0 g0 n x1 z9 (0 : Int32) I6 _ h)
  · have h := ev_ifT h c8
    refine ev_iconst (v := (-1 : Int32)) dX10_calm_16 (by decide) ?_
    cases h
    exact er_i dX10_calm_17 rfl rfl
-- ChainVotesModel isLonger()Z
def cX10_isLonger_41 (q0 : Nat) (K2 : Int32 → ev_I → Option (Int32)) (n : Nat) (y1 : Int32) (I : ev_I) : Option (Int32) :=
  ev_lt (y1 + (1 : Int32)) fun v1 =>
  K2 v1 I
def cX10_isLonger_2 (q0 : Nat) (K2 : Int32 → ev_I → Option (Int32)) (n : Nat) (y1 : Int32) (I : ev_I) : Option (Int32) :=
  (pX10_nodeMany n q0  I).bind fun z2 =>
  if z2 ≤ y1 then
    some (0 : Int32)
  else
    (pX10_nodeAt n q0 y1 I).bind fun z4 =>
    ev_ck (ev_in (z4 + (0 : Int32)) 6010) <|
    if (I (q0 + 1) (z4 + (0 : Int32)).toNatClampNeg) = 0 then
      (pX10_logMany n q0 y1 I).bind fun z7 =>
      ev_ck (ev_in y1 7) <|
      if z7 ≤ (I (q0 + 5) y1.toNatClampNeg) then
        cX10_isLonger_41 q0 K2 n y1 I
      else
        some (1 : Int32)
    else
      cX10_isLonger_41 q0 K2 n y1 I
def lX10_isLonger_2 (q0 : Nat) : Nat → Int32 → ev_I → Option (Int32)
  | 0, _, _ => none
  | n + 1, y1, I => cX10_isLonger_2 q0 (lX10_isLonger_2 q0 n) n y1 I
def pX10_isLonger (n : Nat) (q0 : Nat) (I : ev_I) : Option (Int32) :=
  lX10_isLonger_2 q0 n (0 : Int32) I
set_option maxRecDepth 100000 in
set_option maxHeartbeats 4000000 in
theorem tX10_isLonger_41 {E : ev_N} {σ : ev_H} (q0 : Nat) (g0 : shp tb9 σ q0) (K2 : Int32 → ev_I → Option (Int32)) (k2 : ∀ (y1 : Int32) (I : ev_I) (o : Int32), K2 y1 I = some o → EV E mX10_isLonger 2 [some (.ref q0), some (.int y1)] [] (h_w σ I) (Option.some (Value.int o), h_w σ I)) (n : Nat) (y1 : Int32) (I : ev_I) (o : Int32) : cX10_isLonger_41 q0 K2 n y1 I = some o → EV E mX10_isLonger 41 [some (.ref q0), some (.int y1)] [] (h_w σ I) (Option.some (Value.int o), h_w σ I) := by
  intro h
  unfold cX10_isLonger_41 at h
  obtain ⟨v1, ev1, h⟩ := ev_ltE h
  refine ew_iinc (L' := [some (.ref q0), some (.int v1)]) dX10_isLonger_41 (Nat.le_of_ble_eq_true rfl) rfl (by decide) ev1 rfl ?_
  refine ev_goto (tgt := 2) dX10_isLonger_44 (by decide) ?_
  exact ev_weak (sb_s (sb_s sb_0)) (k2 v1 I _ h)
set_option maxRecDepth 100000 in
set_option maxHeartbeats 4000000 in
theorem tX10_isLonger_2 {E : ev_N} {σ : ev_H} (q0 : Nat) (g0 : shp tb9 σ q0) (K2 : Int32 → ev_I → Option (Int32)) (k2 : ∀ (y1 : Int32) (I : ev_I) (o : Int32), K2 y1 I = some o → EV E mX10_isLonger 2 [some (.ref q0), some (.int y1)] [] (h_w σ I) (Option.some (Value.int o), h_w σ I)) (n : Nat) (y1 : Int32) (I : ev_I) (o : Int32) : cX10_isLonger_2 q0 K2 n y1 I = some o → EV E mX10_isLonger 2 [some (.ref q0), some (.int y1)] [] (h_w σ I) (Option.some (Value.int o), h_w σ I) := by
  intro h
  unfold cX10_isLonger_2 at h
  refine ev_iload_n dX10_isLonger_2 rfl ?_
  refine ev_aload_n dX10_isLonger_3 rfl (fun _ e => by cases e) ?_
  obtain ⟨z2, hz2, h⟩ := ev_bnE h
  refine ec_Vi (Y := mX10_nodeMany) (ci := 9) (As := []) (rest := [(.int y1)]) dX10_isLonger_4 kX10_47 oX10_nodeMany ⟨Nat.le_of_ble_eq_true rfl, Nat.le_of_ble_eq_true rfl⟩ (by decide) rfl (shp_n g0 0 rfl) (shp_t g0 0 rfl) rfl (Nat.le_of_ble_eq_true rfl) (tX10_nodeMany n q0 g0  I z2 hz2) rfl ?_
  refine ev_icmp_ge (tgt := 47) dX10_isLonger_7 (by decide) (fun c3 => ?_) (fun c3 => ?_)
  · have h := ev_ifT h c3
    refine ev_iconst (v := (0 : Int32)) dX10_isLonger_47 (by decide) ?_
    cases h
    exact er_i dX10_isLonger_48 rfl rfl
  · have h := ev_ifF h c3
    refine ev_aload_n dX10_isLonger_10 rfl (fun _ e => by cases e) ?_
    refine ew_getr0 dX10_isLonger_11 fX10_7 g0 rfl rfl rfl rfl ?_
    refine ev_aload_n dX10_isLonger_14 rfl (fun _ e => by cases e) ?_
    refine ev_iload_n dX10_isLonger_15 rfl ?_
    obtain ⟨z4, hz4, h⟩ := ev_bnE h
    refine ec_Vi (Y := mX10_nodeAt) (ci := 9) (As := [.int y1]) (rest := [(.ref (q0 + 1))]) dX10_isLonger_16 kX10_54 oX10_nodeAt ⟨Nat.le_of_ble_eq_true rfl, Nat.le_of_ble_eq_true rfl⟩ (by decide) rfl (shp_n g0 0 rfl) (shp_t g0 0 rfl) rfl (Nat.le_of_ble_eq_true rfl) (tX10_nodeAt n q0 g0 y1 I z4 hz4) rfl ?_
    refine ev_iconst (v := (0 : Int32)) dX10_isLonger_19 (by decide) ?_
    refine ev_iadd dX10_isLonger_20 ?_
    obtain ⟨c5, h⟩ := ev_ckE h
    refine ew_iald dX10_isLonger_21 (shp_a g0 1 rfl) c5 ?_
    refine ev_if_ne (tgt := 41) dX10_isLonger_22 (by decide) (fun c6 => ?_) (fun c6 => ?_)
    · have h := ev_ifF h c6
      exact ev_weak (sb_s (sb_s sb_0)) (tX10_isLonger_41 q0 g0 K2 k2 n y1 I _ h)
    · have h := ev_ifT h c6
      refine ev_aload_n dX10_isLonger_25 rfl (fun _ e => by cases e) ?_
      refine ev_iload_n dX10_isLonger_26 rfl ?_
      obtain ⟨z7, hz7, h⟩ := ev_bnE h
      refine ec_Vi (Y := mX10_logMany) (ci := 9) (As := [.int y1]) (rest := []) dX10_isLonger_27 kX10_202 oX10_logMany ⟨Nat.le_of_ble_eq_true rfl, Nat.le_of_ble_eq_true rfl⟩ (by decide) rfl (shp_n g0 0 rfl) (shp_t g0 0 rfl) rfl (Nat.le_of_ble_eq_true rfl) (tX10_logMany n q0 g0 y1 I z7 hz7) rfl ?_
      refine ev_aload_n dX10_isLonger_30 rfl (fun _ e => by cases e) ?_
      refine ew_getr0 dX10_isLonger_31 fX10_22 g0 rfl rfl rfl rfl ?_
      refine ev_iload_n dX10_isLonger_34 rfl ?_
      obtain ⟨c8, h⟩ := ev_ckE h
      refine ew_iald dX10_isLonger_35 (shp_a g0 5 rfl) c8 ?_
      refine ev_icmp_le (tgt := 41) dX10_isLonger_36 (by decide) (fun c9 => ?_) (fun c9 => ?_)
      · have h := ev_ifT h c9
        exact ev_weak (sb_s (sb_s sb_0)) (tX10_isLonger_41 q0 g0 K2 k2 n y1 I _ h)
      · have h := ev_ifF h c9
        refine ev_iconst (v := (1 : Int32)) dX10_isLonger_39 (by decide) ?_
        cases h
        exact er_i dX10_isLonger_40 rfl rfl
theorem tlX10_isLonger_2 {E : ev_N} {σ : ev_H} (q0 : Nat) (g0 : shp tb9 σ q0) : ∀ (n : Nat) (y1 : Int32) (I : ev_I) (o : Int32), lX10_isLonger_2 q0 n y1 I = some o → EV E mX10_isLonger 2 [some (.ref q0), some (.int y1)] [] (h_w σ I) (Option.some (Value.int o), h_w σ I)
  | 0, _, _, _, h => by cases h
  | n + 1, y1, I, o, h => tX10_isLonger_2 q0 g0 (lX10_isLonger_2 q0 n) (tlX10_isLonger_2 q0 g0 n) n y1 I o h
set_option maxRecDepth 100000 in
set_option maxHeartbeats 4000000 in
theorem tX10_isLonger {E : ev_N} {σ : ev_H} (n : Nat) (q0 : Nat) (g0 : shp tb9 σ q0) (I : ev_I) (o : Int32) (h : pX10_isLonger n q0  I = some o) : ev_T E mX10_isLonger [.ref q0] (h_w σ I) (Option.some (Value.int o), h_w σ I) := by
  unfold pX10_isLonger at h
  refine ev_met rfl rfl (Nat.le_of_ble_eq_true rfl) (ev_L0 (L' := [some (.ref q0), none]) rfl ?_)
  refine ev_iconst (v := (0 : Int32)) dX10_isLonger_0 (by decide) ?_
  refine ew_istn (L' := [some (.ref q0), some (.int (0 : Int32))]) dX10_isLonger_1 (Nat.le_of_ble_eq_true rfl) rfl ?_
  exact ev_weak (sb_s (sb_s sb_0)) (tlX10_isLonger_2 q0 g0 n (0 : Int32) I _ h)
-- ChainVotesModel soonOf()I
def cX10_soonOf_29 (q0 : Nat) (K29 : Int32 → ev_I → Option (Int32 × ev_I)) (n : Nat) (y1 : Int32) (I : ev_I) : Option (Int32 × ev_I) :=
  if (20 : Int32) ≤ y1 then
    some ((-1 : Int32), I)
  else
    (pX10_goesRound n q0 y1 I).bind fun z2 =>
    (pX10_deliversAll n q0  z2).bind fun z3 =>
    (pX10_isLonger n q0  z3).bind fun z4 =>
    if z4 = 0 then
      ev_lt (y1 + (1 : Int32)) fun v6 =>
      K29 v6 z3
    else
      some ((y1 + (1 : Int32)), z3)
def lX10_soonOf_29 (q0 : Nat) : Nat → Int32 → ev_I → Option (Int32 × ev_I)
  | 0, _, _ => none
  | n + 1, y1, I => cX10_soonOf_29 q0 (lX10_soonOf_29 q0 n) n y1 I
def cX10_soonOf_2 (q0 : Nat) (K2 : Int32 → ev_I → Option (Int32 × ev_I)) (n : Nat) (y1 : Int32) (I : ev_I) : Option (Int32 × ev_I) :=
  (pX10_nodeMany n q0  I).bind fun z7 =>
  if z7 ≤ y1 then
    lX10_soonOf_29 q0 n (0 : Int32) I
  else
    (pX10_logMany n q0 y1 I).bind fun z9 =>
    ev_ck (ev_in y1 7) <|
    ev_lt (ev_u2 I (q0 + 5) y1.toNatClampNeg z9) fun I11 =>
    ev_lt (y1 + (1 : Int32)) fun v12 =>
    K2 v12 I11
def lX10_soonOf_2 (q0 : Nat) : Nat → Int32 → ev_I → Option (Int32 × ev_I)
  | 0, _, _ => none
  | n + 1, y1, I => cX10_soonOf_2 q0 (lX10_soonOf_2 q0 n) n y1 I
def pX10_soonOf (n : Nat) (q0 : Nat) (I : ev_I) : Option (Int32 × ev_I) :=
  lX10_soonOf_2 q0 n (0 : Int32) I
set_option maxRecDepth 100000 in
set_option maxHeartbeats 4000000 in
theorem tX10_soonOf_29 {E : ev_N} {σ : ev_H} (q0 : Nat) (g0 : shp tb9 σ q0) (K29 : Int32 → ev_I → Option (Int32 × ev_I)) (k29 : ∀ (y1 : Int32) (I : ev_I) (o : Int32 × ev_I), K29 y1 I = some o → EV E mX10_soonOf 29 [some (.ref q0), some (.int y1)] [] (h_w σ I) (Option.some (Value.int o.1), h_w σ o.2)) (n : Nat) (y1 : Int32) (I : ev_I) (o : Int32 × ev_I) : cX10_soonOf_29 q0 K29 n y1 I = some o → EV E mX10_soonOf 29 [some (.ref q0), some (.int y1)] [] (h_w σ I) (Option.some (Value.int o.1), h_w σ o.2) := by
  intro h
  unfold cX10_soonOf_29 at h
  refine ev_iload_n dX10_soonOf_29 rfl ?_
  refine ev_bipush (v := (20 : Int32)) dX10_soonOf_30 (by decide) ?_
  refine ev_icmp_ge (tgt := 61) dX10_soonOf_32 (by decide) (fun c1 => ?_) (fun c1 => ?_)
  · have h := ev_ifT h c1
    refine ev_iconst (v := (-1 : Int32)) dX10_soonOf_61 (by decide) ?_
    cases h
    exact er_i dX10_soonOf_62 rfl rfl
  · have h := ev_ifF h c1
    refine ev_aload_n dX10_soonOf_35 rfl (fun _ e => by cases e) ?_
    refine ev_iload_n dX10_soonOf_36 rfl ?_
    obtain ⟨z2, hz2, h⟩ := ev_bnE h
    refine ec_Vv (Y := mX10_goesRound) (ci := 9) (As := [.int y1]) (rest := []) dX10_soonOf_37 kX10_208 oX10_goesRound ⟨Nat.le_of_ble_eq_true rfl, Nat.le_of_ble_eq_true rfl⟩ (by decide) rfl (shp_n g0 0 rfl) (shp_t g0 0 rfl) rfl (Nat.le_of_ble_eq_true rfl) (tX10_goesRound n q0 g0 y1 I z2 hz2) rfl ?_
    refine ev_aload_n dX10_soonOf_40 rfl (fun _ e => by cases e) ?_
    obtain ⟨z3, hz3, h⟩ := ev_bnE h
    refine ec_Vv (Y := mX10_deliversAll) (ci := 9) (As := []) (rest := []) dX10_soonOf_41 kX10_199 oX10_deliversAll ⟨Nat.le_of_ble_eq_true rfl, Nat.le_of_ble_eq_true rfl⟩ (by decide) rfl (shp_n g0 0 rfl) (shp_t g0 0 rfl) rfl (Nat.le_of_ble_eq_true rfl) (tX10_deliversAll n q0 g0  z2 z3 hz3) rfl ?_
    refine ev_aload_n dX10_soonOf_44 rfl (fun _ e => by cases e) ?_
    obtain ⟨z4, hz4, h⟩ := ev_bnE h
    refine ec_Vi (Y := mX10_isLonger) (ci := 9) (As := []) (rest := []) dX10_soonOf_45 kX10_211 oX10_isLonger ⟨Nat.le_of_ble_eq_true rfl, Nat.le_of_ble_eq_true rfl⟩ (by decide) rfl (shp_n g0 0 rfl) (shp_t g0 0 rfl) rfl (Nat.le_of_ble_eq_true rfl) (tX10_isLonger n q0 g0  z3 z4 hz4) rfl ?_
    refine ev_if_eq (tgt := 55) dX10_soonOf_48 (by decide) (fun c5 => ?_) (fun c5 => ?_)
    · have h := ev_ifT h c5
      obtain ⟨v6, ev6, h⟩ := ev_ltE h
      refine ew_iinc (L' := [some (.ref q0), some (.int v6)]) dX10_soonOf_55 (Nat.le_of_ble_eq_true rfl) rfl (by decide) ev6 rfl ?_
      refine ev_goto (tgt := 29) dX10_soonOf_58 (by decide) ?_
      exact ev_weak (sb_s (sb_s sb_0)) (k29 v6 z3 _ h)
    · have h := ev_ifF h c5
      refine ev_iload_n dX10_soonOf_51 rfl ?_
      refine ev_iconst (v := (1 : Int32)) dX10_soonOf_52 (by decide) ?_
      refine ev_iadd dX10_soonOf_53 ?_
      cases h
      exact er_i dX10_soonOf_54 rfl rfl
theorem tlX10_soonOf_29 {E : ev_N} {σ : ev_H} (q0 : Nat) (g0 : shp tb9 σ q0) : ∀ (n : Nat) (y1 : Int32) (I : ev_I) (o : Int32 × ev_I), lX10_soonOf_29 q0 n y1 I = some o → EV E mX10_soonOf 29 [some (.ref q0), some (.int y1)] [] (h_w σ I) (Option.some (Value.int o.1), h_w σ o.2)
  | 0, _, _, _, h => by cases h
  | n + 1, y1, I, o, h => tX10_soonOf_29 q0 g0 (lX10_soonOf_29 q0 n) (tlX10_soonOf_29 q0 g0 n) n y1 I o h
set_option maxRecDepth 100000 in
set_option maxHeartbeats 4000000 in
theorem tX10_soonOf_2 {E : ev_N} {σ : ev_H} (q0 : Nat) (g0 : shp tb9 σ q0) (K2 : Int32 → ev_I → Option (Int32 × ev_I)) (k2 : ∀ (y1 : Int32) (I : ev_I) (o : Int32 × ev_I), K2 y1 I = some o → EV E mX10_soonOf 2 [some (.ref q0), some (.int y1)] [] (h_w σ I) (Option.some (Value.int o.1), h_w σ o.2)) (n : Nat) (y1 : Int32) (I : ev_I) (o : Int32 × ev_I) : cX10_soonOf_2 q0 K2 n y1 I = some o → EV E mX10_soonOf 2 [some (.ref q0), some (.int y1)] [] (h_w σ I) (Option.some (Value.int o.1), h_w σ o.2) := by
  intro h
  unfold cX10_soonOf_2 at h
  refine ev_iload_n dX10_soonOf_2 rfl ?_
  refine ev_aload_n dX10_soonOf_3 rfl (fun _ e => by cases e) ?_
  obtain ⟨z7, hz7, h⟩ := ev_bnE h
  refine ec_Vi (Y := mX10_nodeMany) (ci := 9) (As := []) (rest := [(.int y1)]) dX10_soonOf_4 kX10_47 oX10_nodeMany ⟨Nat.le_of_ble_eq_true rfl, Nat.le_of_ble_eq_true rfl⟩ (by decide) rfl (shp_n g0 0 rfl) (shp_t g0 0 rfl) rfl (Nat.le_of_ble_eq_true rfl) (tX10_nodeMany n q0 g0  I z7 hz7) rfl ?_
  refine ev_icmp_ge (tgt := 27) dX10_soonOf_7 (by decide) (fun c8 => ?_) (fun c8 => ?_)
  · have h := ev_ifT h c8
    refine ev_iconst (v := (0 : Int32)) dX10_soonOf_27 (by decide) ?_
    refine ew_istn (L' := [some (.ref q0), some (.int (0 : Int32))]) dX10_soonOf_28 (Nat.le_of_ble_eq_true rfl) rfl ?_
    exact ev_weak (sb_s (sb_s sb_0)) (tlX10_soonOf_29 q0 g0 n (0 : Int32) I _ h)
  · have h := ev_ifF h c8
    refine ev_aload_n dX10_soonOf_10 rfl (fun _ e => by cases e) ?_
    refine ew_getr0 dX10_soonOf_11 fX10_22 g0 rfl rfl rfl rfl ?_
    refine ev_iload_n dX10_soonOf_14 rfl ?_
    refine ev_aload_n dX10_soonOf_15 rfl (fun _ e => by cases e) ?_
    refine ev_iload_n dX10_soonOf_16 rfl ?_
    obtain ⟨z9, hz9, h⟩ := ev_bnE h
    refine ec_Vi (Y := mX10_logMany) (ci := 9) (As := [.int y1]) (rest := [(.int y1), (.ref (q0 + 5))]) dX10_soonOf_17 kX10_202 oX10_logMany ⟨Nat.le_of_ble_eq_true rfl, Nat.le_of_ble_eq_true rfl⟩ (by decide) rfl (shp_n g0 0 rfl) (shp_t g0 0 rfl) rfl (Nat.le_of_ble_eq_true rfl) (tX10_logMany n q0 g0 y1 I z9 hz9) rfl ?_
    obtain ⟨c10, h⟩ := ev_ckE h
    obtain ⟨I11, eI11, h⟩ := ev_ltE h
    refine ew_iast dX10_soonOf_20 (shp_a g0 5 rfl) c10 (ew_nh eI11 ?_)
    obtain ⟨v12, ev12, h⟩ := ev_ltE h
    refine ew_iinc (L' := [some (.ref q0), some (.int v12)]) dX10_soonOf_21 (Nat.le_of_ble_eq_true rfl) rfl (by decide) ev12 rfl ?_
    refine ev_goto (tgt := 2) dX10_soonOf_24 (by decide) ?_
    exact ev_weak (sb_s (sb_s sb_0)) (k2 v12 I11 _ h)
theorem tlX10_soonOf_2 {E : ev_N} {σ : ev_H} (q0 : Nat) (g0 : shp tb9 σ q0) : ∀ (n : Nat) (y1 : Int32) (I : ev_I) (o : Int32 × ev_I), lX10_soonOf_2 q0 n y1 I = some o → EV E mX10_soonOf 2 [some (.ref q0), some (.int y1)] [] (h_w σ I) (Option.some (Value.int o.1), h_w σ o.2)
  | 0, _, _, _, h => by cases h
  | n + 1, y1, I, o, h => tX10_soonOf_2 q0 g0 (lX10_soonOf_2 q0 n) (tlX10_soonOf_2 q0 g0 n) n y1 I o h
set_option maxRecDepth 100000 in
set_option maxHeartbeats 4000000 in
theorem tX10_soonOf {E : ev_N} {σ : ev_H} (n : Nat) (q0 : Nat) (g0 : shp tb9 σ q0) (I : ev_I) (o : Int32 × ev_I) (h : pX10_soonOf n q0  I = some o) : ev_T E mX10_soonOf [.ref q0] (h_w σ I) (Option.some (Value.int o.1), h_w σ o.2) := by
  unfold pX10_soonOf at h
  refine ev_met rfl rfl (Nat.le_of_ble_eq_true rfl) (ev_L0 (L' := [some (.ref q0), none]) rfl ?_)
  refine ev_iconst (v := (0 : Int32)) dX10_soonOf_0 (by decide) ?_
  refine ew_istn (L' := [some (.ref q0), some (.int (0 : Int32))]) dX10_soonOf_1 (Nat.le_of_ble_eq_true rfl) rfl ?_
  exact ev_weak (sb_s (sb_s sb_0)) (tlX10_soonOf_2 q0 g0 n (0 : Int32) I _ h)
-- ChainVotesModel soon()I
def pX10_soon (n : Nat) (q0 : Nat) (I : ev_I) : Option (Int32 × ev_I) :=
  ev_lt (ev_u2 I q0 0 (0 : Int32)) fun I1 =>
  (pX10_thinks n q0  I1).bind fun z2 =>
  (pX10_soonOf n q0  z2).bind fun z3 =>
  (pX10_endsThought n q0  z3.2).bind fun z4 =>
  some (z3.1, z4)
set_option maxRecDepth 100000 in
set_option maxHeartbeats 4000000 in
theorem tX10_soon {E : ev_N} {σ : ev_H} (n : Nat) (q0 : Nat) (g0 : shp tb9 σ q0) (I : ev_I) (o : Int32 × ev_I) (h : pX10_soon n q0  I = some o) : ev_T E mX10_soon [.ref q0] (h_w σ I) (Option.some (Value.int o.1), h_w σ o.2) := by
  unfold pX10_soon at h
  refine ev_met rfl rfl (Nat.le_of_ble_eq_true rfl) (ev_L0 (L' := [some (.ref q0), none]) rfl ?_)
  refine ev_aload_n dX10_soon_0 rfl (fun _ e => by cases e) ?_
  refine ev_iconst (v := (0 : Int32)) dX10_soon_1 (by decide) ?_
  obtain ⟨I1, eI1, h⟩ := ev_ltE h
  refine ew_put0 dX10_soon_2 fX10_44 g0 rfl rfl rfl rfl rfl rfl (ew_nh eI1 ?_)
  refine ev_aload_n dX10_soon_5 rfl (fun _ e => by cases e) ?_
  obtain ⟨z2, hz2, h⟩ := ev_bnE h
  refine ec_Vv (Y := mX10_thinks) (ci := 9) (As := []) (rest := []) dX10_soon_6 kX10_214 oX10_thinks ⟨Nat.le_of_ble_eq_true rfl, Nat.le_of_ble_eq_true rfl⟩ (by decide) rfl (shp_n g0 0 rfl) (shp_t g0 0 rfl) rfl (Nat.le_of_ble_eq_true rfl) (tX10_thinks n q0 g0  I1 z2 hz2) rfl ?_
  refine ev_aload_n dX10_soon_9 rfl (fun _ e => by cases e) ?_
  obtain ⟨z3, hz3, h⟩ := ev_bnE h
  refine ec_Vi (Y := mX10_soonOf) (ci := 9) (As := []) (rest := []) dX10_soon_10 kX10_217 oX10_soonOf ⟨Nat.le_of_ble_eq_true rfl, Nat.le_of_ble_eq_true rfl⟩ (by decide) rfl (shp_n g0 0 rfl) (shp_t g0 0 rfl) rfl (Nat.le_of_ble_eq_true rfl) (tX10_soonOf n q0 g0  z2 z3 hz3) rfl ?_
  refine ew_istn (L' := [some (.ref q0), some (.int z3.1)]) dX10_soon_13 (Nat.le_of_ble_eq_true rfl) rfl ?_
  refine ev_aload_n dX10_soon_14 rfl (fun _ e => by cases e) ?_
  obtain ⟨z4, hz4, h⟩ := ev_bnE h
  refine ec_Vv (Y := mX10_endsThought) (ci := 9) (As := []) (rest := []) dX10_soon_15 kX10_220 oX10_endsThought ⟨Nat.le_of_ble_eq_true rfl, Nat.le_of_ble_eq_true rfl⟩ (by decide) rfl (shp_n g0 0 rfl) (shp_t g0 0 rfl) rfl (Nat.le_of_ble_eq_true rfl) (tX10_endsThought n q0 g0  z3.2 z4 hz4) rfl ?_
  refine ev_iload_n dX10_soon_18 rfl ?_
  cases h
  exact er_i dX10_soon_19 rfl rfl
-- ChainVotesModel without(I)I
def pX10_without (n : Nat) (q0 : Nat) (x1 : Int32) (I : ev_I) : Option (Int32 × ev_I) :=
  ev_lt (ev_u2 I q0 0 (0 : Int32)) fun I1 =>
  (pX10_isNode n q0 x1 I1).bind fun z2 =>
  if z2 = 0 then
    some ((-1 : Int32), I1)
  else
    (pX10_thinks n q0  I1).bind fun z4 =>
    (pX10_nodeAt n q0 x1 z4).bind fun z5 =>
    ev_ck (ev_in (z5 + (0 : Int32)) 6010) <|
    ev_lt (ev_u2 z4 (q0 + 1) (z5 + (0 : Int32)).toNatClampNeg (1 : Int32)) fun I7 =>
    (pX10_soonOf n q0  I7).bind fun z8 =>
    (pX10_endsThought n q0  z8.2).bind fun z9 =>
    some (z8.1, z9)
set_option maxRecDepth 100000 in
set_option maxHeartbeats 4000000 in
theorem tX10_without {E : ev_N} {σ : ev_H} (n : Nat) (q0 : Nat) (g0 : shp tb9 σ q0) (x1 : Int32) (I : ev_I) (o : Int32 × ev_I) (h : pX10_without n q0 x1 I = some o) : ev_T E mX10_without [.ref q0, .int x1] (h_w σ I) (Option.some (Value.int o.1), h_w σ o.2) := by
  unfold pX10_without at h
  refine ev_met rfl rfl (Nat.le_of_ble_eq_true rfl) (ev_L0 (L' := [some (.ref q0), some (.int x1), none]) rfl ?_)
  refine ev_aload_n dX10_without_0 rfl (fun _ e => by cases e) ?_
  refine ev_iconst (v := (0 : Int32)) dX10_without_1 (by decide) ?_
  obtain ⟨I1, eI1, h⟩ := ev_ltE h
  refine ew_put0 dX10_without_2 fX10_44 g0 rfl rfl rfl rfl rfl rfl (ew_nh eI1 ?_)
  refine ev_aload_n dX10_without_5 rfl (fun _ e => by cases e) ?_
  refine ev_iload_n dX10_without_6 rfl ?_
  obtain ⟨z2, hz2, h⟩ := ev_bnE h
  refine ec_Vi (Y := mX10_isNode) (ci := 9) (As := [.int x1]) (rest := []) dX10_without_7 kX10_71 oX10_isNode ⟨Nat.le_of_ble_eq_true rfl, Nat.le_of_ble_eq_true rfl⟩ (by decide) rfl (shp_n g0 0 rfl) (shp_t g0 0 rfl) rfl (Nat.le_of_ble_eq_true rfl) (tX10_isNode n q0 g0 x1 I1 z2 hz2) rfl ?_
  refine ev_if_ne (tgt := 15) dX10_without_10 (by decide) (fun c3 => ?_) (fun c3 => ?_)
  · have h := ev_ifF h c3
    refine ev_aload_n dX10_without_15 rfl (fun _ e => by cases e) ?_
    obtain ⟨z4, hz4, h⟩ := ev_bnE h
    refine ec_Vv (Y := mX10_thinks) (ci := 9) (As := []) (rest := []) dX10_without_16 kX10_214 oX10_thinks ⟨Nat.le_of_ble_eq_true rfl, Nat.le_of_ble_eq_true rfl⟩ (by decide) rfl (shp_n g0 0 rfl) (shp_t g0 0 rfl) rfl (Nat.le_of_ble_eq_true rfl) (tX10_thinks n q0 g0  I1 z4 hz4) rfl ?_
    refine ev_aload_n dX10_without_19 rfl (fun _ e => by cases e) ?_
    refine ew_getr0 dX10_without_20 fX10_7 g0 rfl rfl rfl rfl ?_
    refine ev_aload_n dX10_without_23 rfl (fun _ e => by cases e) ?_
    refine ev_iload_n dX10_without_24 rfl ?_
    obtain ⟨z5, hz5, h⟩ := ev_bnE h
    refine ec_Vi (Y := mX10_nodeAt) (ci := 9) (As := [.int x1]) (rest := [(.ref (q0 + 1))]) dX10_without_25 kX10_54 oX10_nodeAt ⟨Nat.le_of_ble_eq_true rfl, Nat.le_of_ble_eq_true rfl⟩ (by decide) rfl (shp_n g0 0 rfl) (shp_t g0 0 rfl) rfl (Nat.le_of_ble_eq_true rfl) (tX10_nodeAt n q0 g0 x1 z4 z5 hz5) rfl ?_
    refine ev_iconst (v := (0 : Int32)) dX10_without_28 (by decide) ?_
    refine ev_iadd dX10_without_29 ?_
    refine ev_iconst (v := (1 : Int32)) dX10_without_30 (by decide) ?_
    obtain ⟨c6, h⟩ := ev_ckE h
    obtain ⟨I7, eI7, h⟩ := ev_ltE h
    refine ew_iast dX10_without_31 (shp_a g0 1 rfl) c6 (ew_nh eI7 ?_)
    refine ev_aload_n dX10_without_32 rfl (fun _ e => by cases e) ?_
    obtain ⟨z8, hz8, h⟩ := ev_bnE h
    refine ec_Vi (Y := mX10_soonOf) (ci := 9) (As := []) (rest := []) dX10_without_33 kX10_217 oX10_soonOf ⟨Nat.le_of_ble_eq_true rfl, Nat.le_of_ble_eq_true rfl⟩ (by decide) rfl (shp_n g0 0 rfl) (shp_t g0 0 rfl) rfl (Nat.le_of_ble_eq_true rfl) (tX10_soonOf n q0 g0  I7 z8 hz8) rfl ?_
    refine ew_istn (L' := [some (.ref q0), some (.int x1), some (.int z8.1)]) dX10_without_36 (Nat.le_of_ble_eq_true rfl) rfl ?_
    refine ev_aload_n dX10_without_37 rfl (fun _ e => by cases e) ?_
    obtain ⟨z9, hz9, h⟩ := ev_bnE h
    refine ec_Vv (Y := mX10_endsThought) (ci := 9) (As := []) (rest := []) dX10_without_38 kX10_220 oX10_endsThought ⟨Nat.le_of_ble_eq_true rfl, Nat.le_of_ble_eq_true rfl⟩ (by decide) rfl (shp_n g0 0 rfl) (shp_t g0 0 rfl) rfl (Nat.le_of_ble_eq_true rfl) (tX10_endsThought n q0 g0  z8.2 z9 hz9) rfl ?_
    refine ev_iload_n dX10_without_41 rfl ?_
    cases h
    exact er_i dX10_without_42 rfl rfl
  · have h := ev_ifT h c3
    refine ev_iconst (v := (-1 : Int32)) dX10_without_13 (by decide) ?_
    cases h
    exact er_i dX10_without_14 rfl rfl
-- ChainVotesModel would(II)I
def cX10_would_85 (q0 : Nat) (n : Nat) (s0 : Int32) (I : ev_I) : Option (Int32 × ev_I) :=
  (pX10_endsThought n q0  I).bind fun z1 =>
  some (s0, z1)
def cX10_would_84 (q0 : Nat) (n : Nat) (I : ev_I) : Option (Int32 × ev_I) :=
  cX10_would_85 q0 n (0 : Int32) I
def pX10_would (n : Nat) (q0 : Nat) (x1 : Int32) (x2 : Int32) (I : ev_I) : Option (Int32 × ev_I) :=
  ev_lt (ev_u2 I q0 0 (0 : Int32)) fun I2 =>
  (pX10_isNode n q0 x1 I2).bind fun z3 =>
  if z3 = 0 then
    some ((-1 : Int32), I2)
  else
    if x2 = 0 then
      some ((-1 : Int32), I2)
    else
      (pX10_isBlock n q0 x2 I2).bind fun z6 =>
      if z6 = 0 then
        some ((-1 : Int32), I2)
      else
        (pX10_isSilent n q0 x1 I2).bind fun z8 =>
        if z8 = 0 then
          (pX10_thinks n q0  I2).bind fun z10 =>
          ev_ck (ev_in ((216 : Int32) + x2) 6010) <|
          (pX10_learns n q0 x1 (z10 (q0 + 1) ((216 : Int32) + x2).toNatClampNeg) z10).bind fun z12 =>
          (pX10_comesToView n q0 x1 x2 z12).bind fun z13 =>
          (pX10_couldVote n q0 x1 x2 z13).bind fun z14 =>
          if z14 = 0 then
            cX10_would_84 q0 n  z13
          else
            (pX10_isSafe n q0 x1 x2 z13).bind fun z16 =>
            if z16 = 0 then
              cX10_would_84 q0 n  z13
            else
              cX10_would_85 q0 n (1 : Int32) z13
        else
          some ((0 : Int32), I2)
set_option maxRecDepth 100000 in
set_option maxHeartbeats 4000000 in
theorem tX10_would_85 {E : ev_N} {σ : ev_H} (q0 : Nat) (g0 : shp tb9 σ q0) (n : Nat) (s0 : Int32) (I : ev_I) (o : Int32 × ev_I) : cX10_would_85 q0 n s0 I = some o → EV E mX10_would 85 [some (.ref q0), none, none, none] [(.int s0)] (h_w σ I) (Option.some (Value.int o.1), h_w σ o.2) := by
  intro h
  unfold cX10_would_85 at h
  refine ew_istn (L' := [some (.ref q0), none, none, some (.int s0)]) dX10_would_85 (Nat.le_of_ble_eq_true rfl) rfl ?_
  refine ev_aload_n dX10_would_86 rfl (fun _ e => by cases e) ?_
  obtain ⟨z1, hz1, h⟩ := ev_bnE h
  refine ec_Vv (Y := mX10_endsThought) (ci := 9) (As := []) (rest := []) dX10_would_87 kX10_220 oX10_endsThought ⟨Nat.le_of_ble_eq_true rfl, Nat.le_of_ble_eq_true rfl⟩ (by decide) rfl (shp_n g0 0 rfl) (shp_t g0 0 rfl) rfl (Nat.le_of_ble_eq_true rfl) (tX10_endsThought n q0 g0  I z1 hz1) rfl ?_
  refine ev_iload_n dX10_would_90 rfl ?_
  cases h
  exact er_i dX10_would_91 rfl rfl
set_option maxRecDepth 100000 in
set_option maxHeartbeats 4000000 in
theorem tX10_would_84 {E : ev_N} {σ : ev_H} (q0 : Nat) (g0 : shp tb9 σ q0) (n : Nat) (I : ev_I) (o : Int32 × ev_I) : cX10_would_84 q0 n  I = some o → EV E mX10_would 84 [some (.ref q0), none, none, none] [] (h_w σ I) (Option.some (Value.int o.1), h_w σ o.2) := by
  intro h
  unfold cX10_would_84 at h
  refine ev_iconst (v := (0 : Int32)) dX10_would_84 (by decide) ?_
  exact ev_weak (sb_s (sb_n (sb_n (sb_n sb_0)))) (tX10_would_85 q0 g0 n (0 : Int32) I _ h)
set_option maxRecDepth 100000 in
set_option maxHeartbeats 4000000 in
theorem tX10_would {E : ev_N} {σ : ev_H} (n : Nat) (q0 : Nat) (g0 : shp tb9 σ q0) (x1 : Int32) (x2 : Int32) (I : ev_I) (o : Int32 × ev_I) (h : pX10_would n q0 x1 x2 I = some o) : ev_T E mX10_would [.ref q0, .int x1, .int x2] (h_w σ I) (Option.some (Value.int o.1), h_w σ o.2) := by
  unfold pX10_would at h
  refine ev_met rfl rfl (Nat.le_of_ble_eq_true rfl) (ev_L0 (L' := [some (.ref q0), some (.int x1), some (.int x2), none]) rfl ?_)
  refine ev_aload_n dX10_would_0 rfl (fun _ e => by cases e) ?_
  refine ev_iconst (v := (0 : Int32)) dX10_would_1 (by decide) ?_
  obtain ⟨I2, eI2, h⟩ := ev_ltE h
  refine ew_put0 dX10_would_2 fX10_44 g0 rfl rfl rfl rfl rfl rfl (ew_nh eI2 ?_)
  refine ev_aload_n dX10_would_5 rfl (fun _ e => by cases e) ?_
  refine ev_iload_n dX10_would_6 rfl ?_
  obtain ⟨z3, hz3, h⟩ := ev_bnE h
  refine ec_Vi (Y := mX10_isNode) (ci := 9) (As := [.int x1]) (rest := []) dX10_would_7 kX10_71 oX10_isNode ⟨Nat.le_of_ble_eq_true rfl, Nat.le_of_ble_eq_true rfl⟩ (by decide) rfl (shp_n g0 0 rfl) (shp_t g0 0 rfl) rfl (Nat.le_of_ble_eq_true rfl) (tX10_isNode n q0 g0 x1 I2 z3 hz3) rfl ?_
  refine ev_if_eq (tgt := 25) dX10_would_10 (by decide) (fun c4 => ?_) (fun c4 => ?_)
  · have h := ev_ifT h c4
    refine ev_iconst (v := (-1 : Int32)) dX10_would_25 (by decide) ?_
    cases h
    exact er_i dX10_would_26 rfl rfl
  · have h := ev_ifF h c4
    refine ev_iload_n dX10_would_13 rfl ?_
    refine ev_if_eq (tgt := 25) dX10_would_14 (by decide) (fun c5 => ?_) (fun c5 => ?_)
    · have h := ev_ifT h c5
      refine ev_iconst (v := (-1 : Int32)) dX10_would_25 (by decide) ?_
      cases h
      exact er_i dX10_would_26 rfl rfl
    · have h := ev_ifF h c5
      refine ev_aload_n dX10_would_17 rfl (fun _ e => by cases e) ?_
      refine ev_iload_n dX10_would_18 rfl ?_
      obtain ⟨z6, hz6, h⟩ := ev_bnE h
      refine ec_Vi (Y := mX10_isBlock) (ci := 9) (As := [.int x2]) (rest := []) dX10_would_19 kX10_192 oX10_isBlock ⟨Nat.le_of_ble_eq_true rfl, Nat.le_of_ble_eq_true rfl⟩ (by decide) rfl (shp_n g0 0 rfl) (shp_t g0 0 rfl) rfl (Nat.le_of_ble_eq_true rfl) (tX10_isBlock n q0 g0 x2 I2 z6 hz6) rfl ?_
      refine ev_if_ne (tgt := 27) dX10_would_22 (by decide) (fun c7 => ?_) (fun c7 => ?_)
      · have h := ev_ifF h c7
        refine ev_aload_n dX10_would_27 rfl (fun _ e => by cases e) ?_
        refine ev_iload_n dX10_would_28 rfl ?_
        obtain ⟨z8, hz8, h⟩ := ev_bnE h
        refine ec_Vi (Y := mX10_isSilent) (ci := 9) (As := [.int x1]) (rest := []) dX10_would_29 kX10_140 oX10_isSilent ⟨Nat.le_of_ble_eq_true rfl, Nat.le_of_ble_eq_true rfl⟩ (by decide) rfl (shp_n g0 0 rfl) (shp_t g0 0 rfl) rfl (Nat.le_of_ble_eq_true rfl) (tX10_isSilent n q0 g0 x1 I2 z8 hz8) rfl ?_
        refine ev_if_eq (tgt := 37) dX10_would_32 (by decide) (fun c9 => ?_) (fun c9 => ?_)
        · have h := ev_ifT h c9
          refine ev_aload_n dX10_would_37 rfl (fun _ e => by cases e) ?_
          obtain ⟨z10, hz10, h⟩ := ev_bnE h
          refine ec_Vv (Y := mX10_thinks) (ci := 9) (As := []) (rest := []) dX10_would_38 kX10_214 oX10_thinks ⟨Nat.le_of_ble_eq_true rfl, Nat.le_of_ble_eq_true rfl⟩ (by decide) rfl (shp_n g0 0 rfl) (shp_t g0 0 rfl) rfl (Nat.le_of_ble_eq_true rfl) (tX10_thinks n q0 g0  I2 z10 hz10) rfl ?_
          refine ev_aload_n dX10_would_41 rfl (fun _ e => by cases e) ?_
          refine ev_iload_n dX10_would_42 rfl ?_
          refine ev_aload_n dX10_would_43 rfl (fun _ e => by cases e) ?_
          refine ew_getr0 dX10_would_44 fX10_7 g0 rfl rfl rfl rfl ?_
          refine ev_sipush (v := (216 : Int32)) dX10_would_47 (by decide) ?_
          refine ev_iload_n dX10_would_50 rfl ?_
          refine ev_iadd dX10_would_51 ?_
          obtain ⟨c11, h⟩ := ev_ckE h
          refine ew_iald dX10_would_52 (shp_a g0 1 rfl) c11 ?_
          obtain ⟨z12, hz12, h⟩ := ev_bnE h
          refine ec_Vv (Y := mX10_learns) (ci := 9) (As := [.int x1, .int (z10 (q0 + 1) ((216 : Int32) + x2).toNatClampNeg)]) (rest := []) dX10_would_53 kX10_116 oX10_learns ⟨Nat.le_of_ble_eq_true rfl, Nat.le_of_ble_eq_true rfl⟩ (by decide) rfl (shp_n g0 0 rfl) (shp_t g0 0 rfl) rfl (Nat.le_of_ble_eq_true rfl) (tX10_learns n q0 g0 x1 (z10 (q0 + 1) ((216 : Int32) + x2).toNatClampNeg) z10 z12 hz12) rfl ?_
          refine ev_aload_n dX10_would_56 rfl (fun _ e => by cases e) ?_
          refine ev_iload_n dX10_would_57 rfl ?_
          refine ev_iload_n dX10_would_58 rfl ?_
          obtain ⟨z13, hz13, h⟩ := ev_bnE h
          refine ec_Vv (Y := mX10_comesToView) (ci := 9) (As := [.int x1, .int x2]) (rest := []) dX10_would_59 kX10_119 oX10_comesToView ⟨Nat.le_of_ble_eq_true rfl, Nat.le_of_ble_eq_true rfl⟩ (by decide) rfl (shp_n g0 0 rfl) (shp_t g0 0 rfl) rfl (Nat.le_of_ble_eq_true rfl) (tX10_comesToView n q0 g0 x1 x2 z12 z13 hz13) rfl ?_
          refine ev_aload_n dX10_would_62 rfl (fun _ e => by cases e) ?_
          refine ev_iload_n dX10_would_63 rfl ?_
          refine ev_iload_n dX10_would_64 rfl ?_
          obtain ⟨z14, hz14, h⟩ := ev_bnE h
          refine ec_Vi (Y := mX10_couldVote) (ci := 9) (As := [.int x1, .int x2]) (rest := []) dX10_would_65 kX10_122 oX10_couldVote ⟨Nat.le_of_ble_eq_true rfl, Nat.le_of_ble_eq_true rfl⟩ (by decide) rfl (shp_n g0 0 rfl) (shp_t g0 0 rfl) rfl (Nat.le_of_ble_eq_true rfl) (tX10_couldVote n q0 g0 x1 x2 z13 z14 hz14) rfl ?_
          refine ev_if_eq (tgt := 84) dX10_would_68 (by decide) (fun c15 => ?_) (fun c15 => ?_)
          · have h := ev_ifT h c15
            exact ev_weak (sb_s (sb_n (sb_n (sb_n sb_0)))) (tX10_would_84 q0 g0 n  z13 _ h)
          · have h := ev_ifF h c15
            refine ev_aload_n dX10_would_71 rfl (fun _ e => by cases e) ?_
            refine ev_iload_n dX10_would_72 rfl ?_
            refine ev_iload_n dX10_would_73 rfl ?_
            obtain ⟨z16, hz16, h⟩ := ev_bnE h
            refine ec_Vi (Y := mX10_isSafe) (ci := 9) (As := [.int x1, .int x2]) (rest := []) dX10_would_74 kX10_125 oX10_isSafe ⟨Nat.le_of_ble_eq_true rfl, Nat.le_of_ble_eq_true rfl⟩ (by decide) rfl (shp_n g0 0 rfl) (shp_t g0 0 rfl) rfl (Nat.le_of_ble_eq_true rfl) (tX10_isSafe n q0 g0 x1 x2 z13 z16 hz16) rfl ?_
            refine ev_if_eq (tgt := 84) dX10_would_77 (by decide) (fun c17 => ?_) (fun c17 => ?_)
            · have h := ev_ifT h c17
              exact ev_weak (sb_s (sb_n (sb_n (sb_n sb_0)))) (tX10_would_84 q0 g0 n  z13 _ h)
            · have h := ev_ifF h c17
              refine ev_iconst (v := (1 : Int32)) dX10_would_80 (by decide) ?_
              refine ev_goto (tgt := 85) dX10_would_81 (by decide) ?_
              exact ev_weak (sb_s (sb_n (sb_n (sb_n sb_0)))) (tX10_would_85 q0 g0 n (1 : Int32) z13 _ h)
        · have h := ev_ifF h c9
          refine ev_iconst (v := (0 : Int32)) dX10_would_35 (by decide) ?_
          cases h
          exact er_i dX10_would_36 rfl rfl
      · have h := ev_ifT h c7
        refine ev_iconst (v := (-1 : Int32)) dX10_would_25 (by decide) ?_
        cases h
        exact er_i dX10_would_26 rfl rfl
-- ChainVotesModel means(I)V
def cX10_means_130 (q0 : Nat) (n : Nat) (y6 : Int32) (y7 : Int32) (s0 : Int32) (I : ev_I) : Option (ev_I) :=
  ev_ck (ev_in y6 5) <|
  ev_ck (ev_in y6 5) <|
  ev_lt (ev_u2 I (q0 + 6) y6.toNatClampNeg ((I (q0 + 6) y6.toNatClampNeg) - s0)) fun I3 =>
  ev_ck (ev_in y7 5) <|
  ev_ck (ev_in y7 5) <|
  ev_lt (ev_u2 I3 (q0 + 6) y7.toNatClampNeg ((I3 (q0 + 6) y7.toNatClampNeg) + s0)) fun I6 =>
  some I6
def cX10_means_100 (q0 : Nat) (n : Nat) (y2 : Int32) (y5 : Int32) (y6 : Int32) (s0 : Int32) (I : ev_I) : Option (ev_I) :=
  if y2 = (2 : Int32) then
    ev_ck (ev_in y6 5) <|
    (pX10_lesser n q0 y5 (I (q0 + 6) y6.toNatClampNeg) I).bind fun z10 =>
    cX10_means_130 q0 n y6 s0 z10 I
  else
    ev_ck (ev_in y6 5) <|
    cX10_means_130 q0 n y6 s0 (I (q0 + 6) y6.toNatClampNeg) I
def cX10_means_87 (q0 : Nat) (n : Nat) (y2 : Int32) (y3 : Int32) (y4 : Int32) (y5 : Int32) (s0 : Int32) (I : ev_I) : Option (ev_I) :=
  if y2 = (2 : Int32) then
    cX10_means_100 q0 n y2 y5 s0 y4 I
  else
    cX10_means_100 q0 n y2 y5 s0 y3 I
def cX10_means_70 (q0 : Nat) (n : Nat) (y2 : Int32) (y3 : Int32) (y4 : Int32) (y5 : Int32) (I : ev_I) : Option (ev_I) :=
  if (2 : Int32) ≤ y2 then
    if y2 = (2 : Int32) then
      cX10_means_87 q0 n y2 y3 y4 y5 y3 I
    else
      cX10_means_87 q0 n y2 y3 y4 y5 y4 I
  else
    some I
def cX10_means_45 (q0 : Nat) (n : Nat) (y2 : Int32) (y3 : Int32) (y4 : Int32) (y5 : Int32) (I : ev_I) : Option (ev_I) :=
  if y2 = (1 : Int32) then
    ev_ck (ev_in y3 5) <|
    (pX10_greater n q0 (0 : Int32) ((I (q0 + 6) y3.toNatClampNeg) - y5) I).bind fun z16 =>
    ev_ck (ev_in y3 5) <|
    ev_lt (ev_u2 I (q0 + 6) y3.toNatClampNeg z16) fun I18 =>
    cX10_means_70 q0 n y2 y3 y4 y5 I18
  else
    cX10_means_70 q0 n y2 y3 y4 y5 I
def pX10_means (n : Nat) (q0 : Nat) (x1 : Int32) (I : ev_I) : Option (ev_I) :=
  ev_lt (x1 / (250 : Int32)) fun v19 =>
  ev_lt ((x1 / (50 : Int32)) - (x1 / (50 : Int32)) / (5 : Int32) * (5 : Int32)) fun v20 =>
  ev_lt ((v20 + (1 : Int32)) - (v20 + (1 : Int32)) / (5 : Int32) * (5 : Int32)) fun v21 =>
  ev_lt (x1 - x1 / (50 : Int32) * (50 : Int32)) fun v22 =>
  if v19 = 0 then
    ev_ck (ev_in v20 5) <|
    ev_ck (ev_in v20 5) <|
    ev_lt (ev_u2 I (q0 + 6) v20.toNatClampNeg ((I (q0 + 6) v20.toNatClampNeg) + v22)) fun I26 =>
    cX10_means_45 q0 n v19 v20 v21 v22 I26
  else
    cX10_means_45 q0 n v19 v20 v21 v22 I
set_option maxRecDepth 100000 in
set_option maxHeartbeats 4000000 in
theorem tX10_means_130 {E : ev_N} {σ : ev_H} (q0 : Nat) (g0 : shp tb9 σ q0) (n : Nat) (y6 : Int32) (y7 : Int32) (s0 : Int32) (I : ev_I) (o : ev_I) : cX10_means_130 q0 n y6 y7 s0 I = some o → EV E mX10_means 130 [some (.ref q0), none, none, none, none, none, some (.int y6), some (.int y7), none] [(.int s0)] (h_w σ I) (Option.none, h_w σ o) := by
  intro h
  unfold cX10_means_130 at h
  refine ew_ist (L' := [some (.ref q0), none, none, none, none, none, some (.int y6), some (.int y7), some (.int s0)]) dX10_means_130 (Nat.le_of_ble_eq_true rfl) rfl ?_
  refine ev_aload_n dX10_means_132 rfl (fun _ e => by cases e) ?_
  refine ew_getr0 dX10_means_133 fX10_25 g0 rfl rfl rfl rfl ?_
  refine ev_iload dX10_means_136 rfl ?_
  refine ev_aload_n dX10_means_138 rfl (fun _ e => by cases e) ?_
  refine ew_getr0 dX10_means_139 fX10_25 g0 rfl rfl rfl rfl ?_
  refine ev_iload dX10_means_142 rfl ?_
  obtain ⟨c1, h⟩ := ev_ckE h
  refine ew_iald dX10_means_144 (shp_a g0 6 rfl) c1 ?_
  refine ev_iload dX10_means_145 rfl ?_
  refine ev_isub dX10_means_147 ?_
  obtain ⟨c2, h⟩ := ev_ckE h
  obtain ⟨I3, eI3, h⟩ := ev_ltE h
  refine ew_iast dX10_means_148 (shp_a g0 6 rfl) c2 (ew_nh eI3 ?_)
  refine ev_aload_n dX10_means_149 rfl (fun _ e => by cases e) ?_
  refine ew_getr0 dX10_means_150 fX10_25 g0 rfl rfl rfl rfl ?_
  refine ev_iload dX10_means_153 rfl ?_
  refine ev_aload_n dX10_means_155 rfl (fun _ e => by cases e) ?_
  refine ew_getr0 dX10_means_156 fX10_25 g0 rfl rfl rfl rfl ?_
  refine ev_iload dX10_means_159 rfl ?_
  obtain ⟨c4, h⟩ := ev_ckE h
  refine ew_iald dX10_means_161 (shp_a g0 6 rfl) c4 ?_
  refine ev_iload dX10_means_162 rfl ?_
  refine ev_iadd dX10_means_164 ?_
  obtain ⟨c5, h⟩ := ev_ckE h
  obtain ⟨I6, eI6, h⟩ := ev_ltE h
  refine ew_iast dX10_means_165 (shp_a g0 6 rfl) c5 (ew_nh eI6 ?_)
  cases h
  exact er_v dX10_means_166 rfl
set_option maxRecDepth 100000 in
set_option maxHeartbeats 4000000 in
theorem tX10_means_100 {E : ev_N} {σ : ev_H} (q0 : Nat) (g0 : shp tb9 σ q0) (n : Nat) (y2 : Int32) (y5 : Int32) (y6 : Int32) (s0 : Int32) (I : ev_I) (o : ev_I) : cX10_means_100 q0 n y2 y5 y6 s0 I = some o → EV E mX10_means 100 [some (.ref q0), none, some (.int y2), none, none, some (.int y5), some (.int y6), none, none] [(.int s0)] (h_w σ I) (Option.none, h_w σ o) := by
  intro h
  unfold cX10_means_100 at h
  refine ew_ist (L' := [some (.ref q0), none, some (.int y2), none, none, some (.int y5), some (.int y6), some (.int s0), none]) dX10_means_100 (Nat.le_of_ble_eq_true rfl) rfl ?_
  refine ev_iload_n dX10_means_102 rfl ?_
  refine ev_iconst (v := (2 : Int32)) dX10_means_103 (by decide) ?_
  refine ev_icmp_ne (tgt := 123) dX10_means_104 (by decide) (fun c7 => ?_) (fun c7 => ?_)
  · have h := ev_ifF h c7
    refine ev_aload_n dX10_means_123 rfl (fun _ e => by cases e) ?_
    refine ew_getr0 dX10_means_124 fX10_25 g0 rfl rfl rfl rfl ?_
    refine ev_iload dX10_means_127 rfl ?_
    obtain ⟨c8, h⟩ := ev_ckE h
    refine ew_iald dX10_means_129 (shp_a g0 6 rfl) c8 ?_
    exact ev_weak (sb_s (sb_n (sb_n (sb_n (sb_n (sb_n (sb_s (sb_s (sb_n sb_0))))))))) (tX10_means_130 q0 g0 n y6 s0 (I (q0 + 6) y6.toNatClampNeg) I _ h)
  · have h := ev_ifT h c7
    refine ev_aload_n dX10_means_107 rfl (fun _ e => by cases e) ?_
    refine ev_iload dX10_means_108 rfl ?_
    refine ev_aload_n dX10_means_110 rfl (fun _ e => by cases e) ?_
    refine ew_getr0 dX10_means_111 fX10_25 g0 rfl rfl rfl rfl ?_
    refine ev_iload dX10_means_114 rfl ?_
    obtain ⟨c9, h⟩ := ev_ckE h
    refine ew_iald dX10_means_116 (shp_a g0 6 rfl) c9 ?_
    obtain ⟨z10, hz10, h⟩ := ev_bnE h
    refine ec_Vi (Y := mX10_lesser) (ci := 9) (As := [.int y5, .int (I (q0 + 6) y6.toNatClampNeg)]) (rest := []) dX10_means_117 kX10_223 oX10_lesser ⟨Nat.le_of_ble_eq_true rfl, Nat.le_of_ble_eq_true rfl⟩ (by decide) rfl (shp_n g0 0 rfl) (shp_t g0 0 rfl) rfl (Nat.le_of_ble_eq_true rfl) (tX10_lesser n q0 g0 y5 (I (q0 + 6) y6.toNatClampNeg) I z10 hz10) rfl ?_
    refine ev_goto (tgt := 130) dX10_means_120 (by decide) ?_
    exact ev_weak (sb_s (sb_n (sb_n (sb_n (sb_n (sb_n (sb_s (sb_s (sb_n sb_0))))))))) (tX10_means_130 q0 g0 n y6 s0 z10 I _ h)
set_option maxRecDepth 100000 in
set_option maxHeartbeats 4000000 in
theorem tX10_means_87 {E : ev_N} {σ : ev_H} (q0 : Nat) (g0 : shp tb9 σ q0) (n : Nat) (y2 : Int32) (y3 : Int32) (y4 : Int32) (y5 : Int32) (s0 : Int32) (I : ev_I) (o : ev_I) : cX10_means_87 q0 n y2 y3 y4 y5 s0 I = some o → EV E mX10_means 87 [some (.ref q0), none, some (.int y2), some (.int y3), some (.int y4), some (.int y5), none, none, none] [(.int s0)] (h_w σ I) (Option.none, h_w σ o) := by
  intro h
  unfold cX10_means_87 at h
  refine ew_ist (L' := [some (.ref q0), none, some (.int y2), some (.int y3), some (.int y4), some (.int y5), some (.int s0), none, none]) dX10_means_87 (Nat.le_of_ble_eq_true rfl) rfl ?_
  refine ev_iload_n dX10_means_89 rfl ?_
  refine ev_iconst (v := (2 : Int32)) dX10_means_90 (by decide) ?_
  refine ev_icmp_ne (tgt := 99) dX10_means_91 (by decide) (fun c11 => ?_) (fun c11 => ?_)
  · have h := ev_ifF h c11
    refine ev_iload_n dX10_means_99 rfl ?_
    exact ev_weak (sb_s (sb_n (sb_s (sb_n (sb_n (sb_s (sb_s (sb_n (sb_n sb_0))))))))) (tX10_means_100 q0 g0 n y2 y5 s0 y3 I _ h)
  · have h := ev_ifT h c11
    refine ev_iload dX10_means_94 rfl ?_
    refine ev_goto (tgt := 100) dX10_means_96 (by decide) ?_
    exact ev_weak (sb_s (sb_n (sb_s (sb_n (sb_n (sb_s (sb_s (sb_n (sb_n sb_0))))))))) (tX10_means_100 q0 g0 n y2 y5 s0 y4 I _ h)
set_option maxRecDepth 100000 in
set_option maxHeartbeats 4000000 in
theorem tX10_means_70 {E : ev_N} {σ : ev_H} (q0 : Nat) (g0 : shp tb9 σ q0) (n : Nat) (y2 : Int32) (y3 : Int32) (y4 : Int32) (y5 : Int32) (I : ev_I) (o : ev_I) : cX10_means_70 q0 n y2 y3 y4 y5 I = some o → EV E mX10_means 70 [some (.ref q0), none, some (.int y2), some (.int y3), some (.int y4), some (.int y5), none, none, none] [] (h_w σ I) (Option.none, h_w σ o) := by
  intro h
  unfold cX10_means_70 at h
  refine ev_iload_n dX10_means_70 rfl ?_
  refine ev_iconst (v := (2 : Int32)) dX10_means_71 (by decide) ?_
  refine ev_icmp_ge (tgt := 76) dX10_means_72 (by decide) (fun c12 => ?_) (fun c12 => ?_)
  · have h := ev_ifT h c12
    refine ev_iload_n dX10_means_76 rfl ?_
    refine ev_iconst (v := (2 : Int32)) dX10_means_77 (by decide) ?_
    refine ev_icmp_ne (tgt := 85) dX10_means_78 (by decide) (fun c13 => ?_) (fun c13 => ?_)
    · have h := ev_ifF h c13
      refine ev_iload dX10_means_85 rfl ?_
      exact ev_weak (sb_s (sb_n (sb_s (sb_s (sb_s (sb_s (sb_n (sb_n (sb_n sb_0))))))))) (tX10_means_87 q0 g0 n y2 y3 y4 y5 y4 I _ h)
    · have h := ev_ifT h c13
      refine ev_iload_n dX10_means_81 rfl ?_
      refine ev_goto (tgt := 87) dX10_means_82 (by decide) ?_
      exact ev_weak (sb_s (sb_n (sb_s (sb_s (sb_s (sb_s (sb_n (sb_n (sb_n sb_0))))))))) (tX10_means_87 q0 g0 n y2 y3 y4 y5 y3 I _ h)
  · have h := ev_ifF h c12
    cases h
    exact er_v dX10_means_75 rfl
set_option maxRecDepth 100000 in
set_option maxHeartbeats 4000000 in
theorem tX10_means_45 {E : ev_N} {σ : ev_H} (q0 : Nat) (g0 : shp tb9 σ q0) (n : Nat) (y2 : Int32) (y3 : Int32) (y4 : Int32) (y5 : Int32) (I : ev_I) (o : ev_I) : cX10_means_45 q0 n y2 y3 y4 y5 I = some o → EV E mX10_means 45 [some (.ref q0), none, some (.int y2), some (.int y3), some (.int y4), some (.int y5), none, none, none] [] (h_w σ I) (Option.none, h_w σ o) := by
  intro h
  unfold cX10_means_45 at h
  refine ev_iload_n dX10_means_45 rfl ?_
  refine ev_iconst (v := (1 : Int32)) dX10_means_46 (by decide) ?_
  refine ev_icmp_ne (tgt := 70) dX10_means_47 (by decide) (fun c14 => ?_) (fun c14 => ?_)
  · have h := ev_ifF h c14
    exact ev_weak (sb_s (sb_n (sb_s (sb_s (sb_s (sb_s (sb_n (sb_n (sb_n sb_0))))))))) (tX10_means_70 q0 g0 n y2 y3 y4 y5 I _ h)
  · have h := ev_ifT h c14
    refine ev_aload_n dX10_means_50 rfl (fun _ e => by cases e) ?_
    refine ew_getr0 dX10_means_51 fX10_25 g0 rfl rfl rfl rfl ?_
    refine ev_iload_n dX10_means_54 rfl ?_
    refine ev_aload_n dX10_means_55 rfl (fun _ e => by cases e) ?_
    refine ev_iconst (v := (0 : Int32)) dX10_means_56 (by decide) ?_
    refine ev_aload_n dX10_means_57 rfl (fun _ e => by cases e) ?_
    refine ew_getr0 dX10_means_58 fX10_25 g0 rfl rfl rfl rfl ?_
    refine ev_iload_n dX10_means_61 rfl ?_
    obtain ⟨c15, h⟩ := ev_ckE h
    refine ew_iald dX10_means_62 (shp_a g0 6 rfl) c15 ?_
    refine ev_iload dX10_means_63 rfl ?_
    refine ev_isub dX10_means_65 ?_
    obtain ⟨z16, hz16, h⟩ := ev_bnE h
    refine ec_Vi (Y := mX10_greater) (ci := 9) (As := [.int (0 : Int32), .int ((I (q0 + 6) y3.toNatClampNeg) - y5)]) (rest := [(.int y3), (.ref (q0 + 6))]) dX10_means_66 kX10_180 oX10_greater ⟨Nat.le_of_ble_eq_true rfl, Nat.le_of_ble_eq_true rfl⟩ (by decide) rfl (shp_n g0 0 rfl) (shp_t g0 0 rfl) rfl (Nat.le_of_ble_eq_true rfl) (tX10_greater n q0 g0 (0 : Int32) ((I (q0 + 6) y3.toNatClampNeg) - y5) I z16 hz16) rfl ?_
    obtain ⟨c17, h⟩ := ev_ckE h
    obtain ⟨I18, eI18, h⟩ := ev_ltE h
    refine ew_iast dX10_means_69 (shp_a g0 6 rfl) c17 (ew_nh eI18 ?_)
    exact ev_weak (sb_s (sb_n (sb_s (sb_s (sb_s (sb_s (sb_n (sb_n (sb_n sb_0))))))))) (tX10_means_70 q0 g0 n y2 y3 y4 y5 I18 _ h)
set_option maxRecDepth 100000 in
set_option maxHeartbeats 4000000 in
theorem tX10_means {E : ev_N} {σ : ev_H} (n : Nat) (q0 : Nat) (g0 : shp tb9 σ q0) (x1 : Int32) (I : ev_I) (o : ev_I) (h : pX10_means n q0 x1 I = some o) : ev_T E mX10_means [.ref q0, .int x1] (h_w σ I) (Option.none, h_w σ o) := by
  unfold pX10_means at h
  refine ev_met rfl rfl (Nat.le_of_ble_eq_true rfl) (ev_L0 (L' := [some (.ref q0), some (.int x1), none, none, none, none, none, none, none]) rfl ?_)
  refine ev_iload_n dX10_means_0 rfl ?_
  refine ev_sipush (v := (250 : Int32)) dX10_means_1 (by decide) ?_
  refine ev_idiv dX10_means_4 (by decide) ?_
  obtain ⟨v19, ev19, h⟩ := ev_ltE h
  refine ew_nm ev19 ?_
  refine ew_istn (L' := [some (.ref q0), some (.int x1), some (.int v19), none, none, none, none, none, none]) dX10_means_5 (Nat.le_of_ble_eq_true rfl) rfl ?_
  refine ev_iload_n dX10_means_6 rfl ?_
  refine ev_bipush (v := (50 : Int32)) dX10_means_7 (by decide) ?_
  refine ev_idiv dX10_means_9 (by decide) ?_
  refine ev_iconst (v := (5 : Int32)) dX10_means_10 (by decide) ?_
  refine ev_irem dX10_means_11 (by decide) ?_
  obtain ⟨v20, ev20, h⟩ := ev_ltE h
  refine ew_nm ev20 ?_
  refine ew_istn (L' := [some (.ref q0), some (.int x1), some (.int v19), some (.int v20), none, none, none, none, none]) dX10_means_12 (Nat.le_of_ble_eq_true rfl) rfl ?_
  refine ev_iload_n dX10_means_13 rfl ?_
  refine ev_iconst (v := (1 : Int32)) dX10_means_14 (by decide) ?_
  refine ev_iadd dX10_means_15 ?_
  refine ev_iconst (v := (5 : Int32)) dX10_means_16 (by decide) ?_
  refine ev_irem dX10_means_17 (by decide) ?_
  obtain ⟨v21, ev21, h⟩ := ev_ltE h
  refine ew_nm ev21 ?_
  refine ew_ist (L' := [some (.ref q0), some (.int x1), some (.int v19), some (.int v20), some (.int v21), none, none, none, none]) dX10_means_18 (Nat.le_of_ble_eq_true rfl) rfl ?_
  refine ev_iload_n dX10_means_20 rfl ?_
  refine ev_bipush (v := (50 : Int32)) dX10_means_21 (by decide) ?_
  refine ev_irem dX10_means_23 (by decide) ?_
  obtain ⟨v22, ev22, h⟩ := ev_ltE h
  refine ew_nm ev22 ?_
  refine ew_ist (L' := [some (.ref q0), some (.int x1), some (.int v19), some (.int v20), some (.int v21), some (.int v22), none, none, none]) dX10_means_24 (Nat.le_of_ble_eq_true rfl) rfl ?_
  refine ev_iload_n dX10_means_26 rfl ?_
  refine ev_if_ne (tgt := 45) dX10_means_27 (by decide) (fun c23 => ?_) (fun c23 => ?_)
  · have h := ev_ifF h c23
    exact ev_weak (sb_s (sb_n (sb_s (sb_s (sb_s (sb_s (sb_n (sb_n (sb_n sb_0))))))))) (tX10_means_45 q0 g0 n v19 v20 v21 v22 I _ h)
  · have h := ev_ifT h c23
    refine ev_aload_n dX10_means_30 rfl (fun _ e => by cases e) ?_
    refine ew_getr0 dX10_means_31 fX10_25 g0 rfl rfl rfl rfl ?_
    refine ev_iload_n dX10_means_34 rfl ?_
    refine ev_aload_n dX10_means_35 rfl (fun _ e => by cases e) ?_
    refine ew_getr0 dX10_means_36 fX10_25 g0 rfl rfl rfl rfl ?_
    refine ev_iload_n dX10_means_39 rfl ?_
    obtain ⟨c24, h⟩ := ev_ckE h
    refine ew_iald dX10_means_40 (shp_a g0 6 rfl) c24 ?_
    refine ev_iload dX10_means_41 rfl ?_
    refine ev_iadd dX10_means_43 ?_
    obtain ⟨c25, h⟩ := ev_ckE h
    obtain ⟨I26, eI26, h⟩ := ev_ltE h
    refine ew_iast dX10_means_44 (shp_a g0 6 rfl) c25 (ew_nh eI26 ?_)
    exact ev_weak (sb_s (sb_n (sb_s (sb_s (sb_s (sb_s (sb_n (sb_n (sb_n sb_0))))))))) (tX10_means_45 q0 g0 n v19 v20 v21 v22 I26 _ h)
-- ChainVotesModel atHeight(II)I
def cX10_atHeight_2 (q0 : Nat) (K2 : Int32 → Int32 → ev_I → Option (Int32)) (n : Nat) (y2 : Int32) (y3 : Int32) (I : ev_I) : Option (Int32) :=
  ev_ck (ev_in ((516 : Int32) + y3) 6010) <|
  if (I (q0 + 1) ((516 : Int32) + y3).toNatClampNeg) ≤ y2 then
    some y3
  else
    (pX10_parentOf n q0 y3 I).bind fun z3 =>
    K2 y2 z3 I
def lX10_atHeight_2 (q0 : Nat) : Nat → Int32 → Int32 → ev_I → Option (Int32)
  | 0, _, _, _ => none
  | n + 1, y2, y3, I => cX10_atHeight_2 q0 (lX10_atHeight_2 q0 n) n y2 y3 I
def pX10_atHeight (n : Nat) (q0 : Nat) (x1 : Int32) (x2 : Int32) (I : ev_I) : Option (Int32) :=
  lX10_atHeight_2 q0 n x2 x1 I
set_option maxRecDepth 100000 in
set_option maxHeartbeats 4000000 in
theorem tX10_atHeight_2 {E : ev_N} {σ : ev_H} (q0 : Nat) (g0 : shp tb9 σ q0) (K2 : Int32 → Int32 → ev_I → Option (Int32)) (k2 : ∀ (y2 : Int32) (y3 : Int32) (I : ev_I) (o : Int32), K2 y2 y3 I = some o → EV E mX10_atHeight 2 [some (.ref q0), none, some (.int y2), some (.int y3)] [] (h_w σ I) (Option.some (Value.int o), h_w σ I)) (n : Nat) (y2 : Int32) (y3 : Int32) (I : ev_I) (o : Int32) : cX10_atHeight_2 q0 K2 n y2 y3 I = some o → EV E mX10_atHeight 2 [some (.ref q0), none, some (.int y2), some (.int y3)] [] (h_w σ I) (Option.some (Value.int o), h_w σ I) := by
  intro h
  unfold cX10_atHeight_2 at h
  refine ev_aload_n dX10_atHeight_2 rfl (fun _ e => by cases e) ?_
  refine ew_getr0 dX10_atHeight_3 fX10_7 g0 rfl rfl rfl rfl ?_
  refine ev_sipush (v := (516 : Int32)) dX10_atHeight_6 (by decide) ?_
  refine ev_iload_n dX10_atHeight_9 rfl ?_
  refine ev_iadd dX10_atHeight_10 ?_
  obtain ⟨c1, h⟩ := ev_ckE h
  refine ew_iald dX10_atHeight_11 (shp_a g0 1 rfl) c1 ?_
  refine ev_iload_n dX10_atHeight_12 rfl ?_
  refine ev_icmp_le (tgt := 25) dX10_atHeight_13 (by decide) (fun c2 => ?_) (fun c2 => ?_)
  · have h := ev_ifT h c2
    refine ev_iload_n dX10_atHeight_25 rfl ?_
    cases h
    exact er_i dX10_atHeight_26 rfl rfl
  · have h := ev_ifF h c2
    refine ev_aload_n dX10_atHeight_16 rfl (fun _ e => by cases e) ?_
    refine ev_iload_n dX10_atHeight_17 rfl ?_
    obtain ⟨z3, hz3, h⟩ := ev_bnE h
    refine ec_Vi (Y := mX10_parentOf) (ci := 9) (As := [.int y3]) (rest := []) dX10_atHeight_18 kX10_58 oX10_parentOf ⟨Nat.le_of_ble_eq_true rfl, Nat.le_of_ble_eq_true rfl⟩ (by decide) rfl (shp_n g0 0 rfl) (shp_t g0 0 rfl) rfl (Nat.le_of_ble_eq_true rfl) (tX10_parentOf n q0 g0 y3 I z3 hz3) rfl ?_
    refine ew_istn (L' := [some (.ref q0), none, some (.int y2), some (.int z3)]) dX10_atHeight_21 (Nat.le_of_ble_eq_true rfl) rfl ?_
    refine ev_goto (tgt := 2) dX10_atHeight_22 (by decide) ?_
    exact ev_weak (sb_s (sb_n (sb_s (sb_s sb_0)))) (k2 y2 z3 I _ h)
theorem tlX10_atHeight_2 {E : ev_N} {σ : ev_H} (q0 : Nat) (g0 : shp tb9 σ q0) : ∀ (n : Nat) (y2 : Int32) (y3 : Int32) (I : ev_I) (o : Int32), lX10_atHeight_2 q0 n y2 y3 I = some o → EV E mX10_atHeight 2 [some (.ref q0), none, some (.int y2), some (.int y3)] [] (h_w σ I) (Option.some (Value.int o), h_w σ I)
  | 0, _, _, _, _, h => by cases h
  | n + 1, y2, y3, I, o, h => tX10_atHeight_2 q0 g0 (lX10_atHeight_2 q0 n) (tlX10_atHeight_2 q0 g0 n) n y2 y3 I o h
set_option maxRecDepth 100000 in
set_option maxHeartbeats 4000000 in
theorem tX10_atHeight {E : ev_N} {σ : ev_H} (n : Nat) (q0 : Nat) (g0 : shp tb9 σ q0) (x1 : Int32) (x2 : Int32) (I : ev_I) (o : Int32) (h : pX10_atHeight n q0 x1 x2 I = some o) : ev_T E mX10_atHeight [.ref q0, .int x1, .int x2] (h_w σ I) (Option.some (Value.int o), h_w σ I) := by
  unfold pX10_atHeight at h
  refine ev_met rfl rfl (Nat.le_of_ble_eq_true rfl) (ev_L0 (L' := [some (.ref q0), some (.int x1), some (.int x2), none]) rfl ?_)
  refine ev_iload_n dX10_atHeight_0 rfl ?_
  refine ew_istn (L' := [some (.ref q0), some (.int x1), some (.int x2), some (.int x1)]) dX10_atHeight_1 (Nat.le_of_ble_eq_true rfl) rfl ?_
  exact ev_weak (sb_s (sb_n (sb_s (sb_s sb_0)))) (tlX10_atHeight_2 q0 g0 n x2 x1 I _ h)
-- ChainVotesModel ledger(IZI)I
def cX10_ledger_82 (q0 : Nat) (K82 : Int32 → Int32 → Int32 → ev_I → Option (Int32 × ev_I)) (n : Nat) (y3 : Int32) (y4 : Int32) (y5 : Int32) (I : ev_I) : Option (Int32 × ev_I) :=
  ev_ck (ev_in ((516 : Int32) + y4) 6010) <|
  if (I (q0 + 1) ((516 : Int32) + y4).toNatClampNeg) < y5 then
    ev_ck (ev_in y3 5) <|
    some ((I (q0 + 6) y3.toNatClampNeg), I)
  else
    (pX10_atHeight n q0 y4 y5 I).bind fun z4 =>
    ev_ck (ev_in ((316 : Int32) + z4) 6010) <|
    (pX10_means n q0 (I (q0 + 1) ((316 : Int32) + z4).toNatClampNeg) I).bind fun z6 =>
    ev_lt (y5 + (1 : Int32)) fun v7 =>
    K82 y3 y4 v7 z6
def lX10_ledger_82 (q0 : Nat) : Nat → Int32 → Int32 → Int32 → ev_I → Option (Int32 × ev_I)
  | 0, _, _, _, _ => none
  | n + 1, y3, y4, y5, I => cX10_ledger_82 q0 (lX10_ledger_82 q0 n) n y3 y4 y5 I
def cX10_ledger_77 (q0 : Nat) (n : Nat) (y3 : Int32) (s0 : Int32) (I : ev_I) : Option (Int32 × ev_I) :=
  lX10_ledger_82 q0 n y3 s0 (0 : Int32) I
def cX10_ledger_43 (q0 : Nat) (K43 : Int32 → Int32 → Int32 → Int32 → ev_I → Option (Int32 × ev_I)) (n : Nat) (y1 : Int32) (y2 : Int32) (y3 : Int32) (y4 : Int32) (I : ev_I) : Option (Int32 × ev_I) :=
  if (5 : Int32) ≤ y4 then
    if y2 = 0 then
      (pX10_logLast n q0 y1 I).bind fun z10 =>
      cX10_ledger_77 q0 n y3 z10 I
    else
      cX10_ledger_77 q0 n y3 y1 I
  else
    ev_ck (ev_in y4 5) <|
    ev_lt (ev_u2 I (q0 + 6) y4.toNatClampNeg (10 : Int32)) fun I12 =>
    ev_lt (y4 + (1 : Int32)) fun v13 =>
    K43 y1 y2 y3 v13 I12
def lX10_ledger_43 (q0 : Nat) : Nat → Int32 → Int32 → Int32 → Int32 → ev_I → Option (Int32 × ev_I)
  | 0, _, _, _, _, _ => none
  | n + 1, y1, y2, y3, y4, I => cX10_ledger_43 q0 (lX10_ledger_43 q0 n) n y1 y2 y3 y4 I
def cX10_ledger_40 (q0 : Nat) (n : Nat) (y1 : Int32) (y2 : Int32) (y3 : Int32) (I : ev_I) : Option (Int32 × ev_I) :=
  lX10_ledger_43 q0 n y1 y2 y3 (0 : Int32) I
def pX10_ledger (n : Nat) (q0 : Nat) (x1 : Int32) (x2 : Int32) (x3 : Int32) (I : ev_I) : Option (Int32 × ev_I) :=
  ev_lt (ev_u2 I q0 0 (0 : Int32)) fun I14 =>
  (pX10_isIn n q0 x3 (0 : Int32) (4 : Int32) I14).bind fun z15 =>
  if z15 = 0 then
    some ((-1 : Int32), I14)
  else
    if x2 = 0 then
      (pX10_isNode n q0 x1 I14).bind fun z18 =>
      if z18 = 0 then
        some ((-1 : Int32), I14)
      else
        cX10_ledger_40 q0 n x1 x2 x3 I14
    else
      (pX10_isBlock n q0 x1 I14).bind fun z20 =>
      if z20 = 0 then
        some ((-1 : Int32), I14)
      else
        cX10_ledger_40 q0 n x1 x2 x3 I14
set_option maxRecDepth 100000 in
set_option maxHeartbeats 4000000 in
theorem tX10_ledger_82 {E : ev_N} {σ : ev_H} (q0 : Nat) (g0 : shp tb9 σ q0) (K82 : Int32 → Int32 → Int32 → ev_I → Option (Int32 × ev_I)) (k82 : ∀ (y3 : Int32) (y4 : Int32) (y5 : Int32) (I : ev_I) (o : Int32 × ev_I), K82 y3 y4 y5 I = some o → EV E mX10_ledger 82 [some (.ref q0), none, none, some (.int y3), some (.int y4), some (.int y5)] [] (h_w σ I) (Option.some (Value.int o.1), h_w σ o.2)) (n : Nat) (y3 : Int32) (y4 : Int32) (y5 : Int32) (I : ev_I) (o : Int32 × ev_I) : cX10_ledger_82 q0 K82 n y3 y4 y5 I = some o → EV E mX10_ledger 82 [some (.ref q0), none, none, some (.int y3), some (.int y4), some (.int y5)] [] (h_w σ I) (Option.some (Value.int o.1), h_w σ o.2) := by
  intro h
  unfold cX10_ledger_82 at h
  refine ev_iload dX10_ledger_82 rfl ?_
  refine ev_aload_n dX10_ledger_84 rfl (fun _ e => by cases e) ?_
  refine ew_getr0 dX10_ledger_85 fX10_7 g0 rfl rfl rfl rfl ?_
  refine ev_sipush (v := (516 : Int32)) dX10_ledger_88 (by decide) ?_
  refine ev_iload dX10_ledger_91 rfl ?_
  refine ev_iadd dX10_ledger_93 ?_
  obtain ⟨c1, h⟩ := ev_ckE h
  refine ew_iald dX10_ledger_94 (shp_a g0 1 rfl) c1 ?_
  refine ev_icmp_gt (tgt := 125) dX10_ledger_95 (by decide) (fun c2 => ?_) (fun c2 => ?_)
  · have h := ev_ifT h c2
    refine ev_aload_n dX10_ledger_125 rfl (fun _ e => by cases e) ?_
    refine ew_getr0 dX10_ledger_126 fX10_25 g0 rfl rfl rfl rfl ?_
    refine ev_iload_n dX10_ledger_129 rfl ?_
    obtain ⟨c3, h⟩ := ev_ckE h
    refine ew_iald dX10_ledger_130 (shp_a g0 6 rfl) c3 ?_
    cases h
    exact er_i dX10_ledger_131 rfl rfl
  · have h := ev_ifF h c2
    refine ev_aload_n dX10_ledger_98 rfl (fun _ e => by cases e) ?_
    refine ev_aload_n dX10_ledger_99 rfl (fun _ e => by cases e) ?_
    refine ew_getr0 dX10_ledger_100 fX10_7 g0 rfl rfl rfl rfl ?_
    refine ev_sipush (v := (316 : Int32)) dX10_ledger_103 (by decide) ?_
    refine ev_aload_n dX10_ledger_106 rfl (fun _ e => by cases e) ?_
    refine ev_iload dX10_ledger_107 rfl ?_
    refine ev_iload dX10_ledger_109 rfl ?_
    obtain ⟨z4, hz4, h⟩ := ev_bnE h
    refine ec_Vi (Y := mX10_atHeight) (ci := 9) (As := [.int y4, .int y5]) (rest := [(.int (316 : Int32)), (.ref (q0 + 1)), (.ref q0)]) dX10_ledger_111 kX10_226 oX10_atHeight ⟨Nat.le_of_ble_eq_true rfl, Nat.le_of_ble_eq_true rfl⟩ (by decide) rfl (shp_n g0 0 rfl) (shp_t g0 0 rfl) rfl (Nat.le_of_ble_eq_true rfl) (tX10_atHeight n q0 g0 y4 y5 I z4 hz4) rfl ?_
    refine ev_iadd dX10_ledger_114 ?_
    obtain ⟨c5, h⟩ := ev_ckE h
    refine ew_iald dX10_ledger_115 (shp_a g0 1 rfl) c5 ?_
    obtain ⟨z6, hz6, h⟩ := ev_bnE h
    refine ec_Vv (Y := mX10_means) (ci := 9) (As := [.int (I (q0 + 1) ((316 : Int32) + z4).toNatClampNeg)]) (rest := []) dX10_ledger_116 kX10_229 oX10_means ⟨Nat.le_of_ble_eq_true rfl, Nat.le_of_ble_eq_true rfl⟩ (by decide) rfl (shp_n g0 0 rfl) (shp_t g0 0 rfl) rfl (Nat.le_of_ble_eq_true rfl) (tX10_means n q0 g0 (I (q0 + 1) ((316 : Int32) + z4).toNatClampNeg) I z6 hz6) rfl ?_
    obtain ⟨v7, ev7, h⟩ := ev_ltE h
    refine ew_iinc (L' := [some (.ref q0), none, none, some (.int y3), some (.int y4), some (.int v7)]) dX10_ledger_119 (Nat.le_of_ble_eq_true rfl) rfl (by decide) ev7 rfl ?_
    refine ev_goto (tgt := 82) dX10_ledger_122 (by decide) ?_
    exact ev_weak (sb_s (sb_n (sb_n (sb_s (sb_s (sb_s sb_0)))))) (k82 y3 y4 v7 z6 _ h)
theorem tlX10_ledger_82 {E : ev_N} {σ : ev_H} (q0 : Nat) (g0 : shp tb9 σ q0) : ∀ (n : Nat) (y3 : Int32) (y4 : Int32) (y5 : Int32) (I : ev_I) (o : Int32 × ev_I), lX10_ledger_82 q0 n y3 y4 y5 I = some o → EV E mX10_ledger 82 [some (.ref q0), none, none, some (.int y3), some (.int y4), some (.int y5)] [] (h_w σ I) (Option.some (Value.int o.1), h_w σ o.2)
  | 0, _, _, _, _, _, h => by cases h
  | n + 1, y3, y4, y5, I, o, h => tX10_ledger_82 q0 g0 (lX10_ledger_82 q0 n) (tlX10_ledger_82 q0 g0 n) n y3 y4 y5 I o h
set_option maxRecDepth 100000 in
set_option maxHeartbeats 4000000 in
theorem tX10_ledger_77 {E : ev_N} {σ : ev_H} (q0 : Nat) (g0 : shp tb9 σ q0) (n : Nat) (y3 : Int32) (s0 : Int32) (I : ev_I) (o : Int32 × ev_I) : cX10_ledger_77 q0 n y3 s0 I = some o → EV E mX10_ledger 77 [some (.ref q0), none, none, some (.int y3), none, none] [(.int s0)] (h_w σ I) (Option.some (Value.int o.1), h_w σ o.2) := by
  intro h
  unfold cX10_ledger_77 at h
  refine ew_ist (L' := [some (.ref q0), none, none, some (.int y3), some (.int s0), none]) dX10_ledger_77 (Nat.le_of_ble_eq_true rfl) rfl ?_
  refine ev_iconst (v := (0 : Int32)) dX10_ledger_79 (by decide) ?_
  refine ew_ist (L' := [some (.ref q0), none, none, some (.int y3), some (.int s0), some (.int (0 : Int32))]) dX10_ledger_80 (Nat.le_of_ble_eq_true rfl) rfl ?_
  exact ev_weak (sb_s (sb_n (sb_n (sb_s (sb_s (sb_s sb_0)))))) (tlX10_ledger_82 q0 g0 n y3 s0 (0 : Int32) I _ h)
set_option maxRecDepth 100000 in
set_option maxHeartbeats 4000000 in
theorem tX10_ledger_43 {E : ev_N} {σ : ev_H} (q0 : Nat) (g0 : shp tb9 σ q0) (K43 : Int32 → Int32 → Int32 → Int32 → ev_I → Option (Int32 × ev_I)) (k43 : ∀ (y1 : Int32) (y2 : Int32) (y3 : Int32) (y4 : Int32) (I : ev_I) (o : Int32 × ev_I), K43 y1 y2 y3 y4 I = some o → EV E mX10_ledger 43 [some (.ref q0), some (.int y1), some (.int y2), some (.int y3), some (.int y4), none] [] (h_w σ I) (Option.some (Value.int o.1), h_w σ o.2)) (n : Nat) (y1 : Int32) (y2 : Int32) (y3 : Int32) (y4 : Int32) (I : ev_I) (o : Int32 × ev_I) : cX10_ledger_43 q0 K43 n y1 y2 y3 y4 I = some o → EV E mX10_ledger 43 [some (.ref q0), some (.int y1), some (.int y2), some (.int y3), some (.int y4), none] [] (h_w σ I) (Option.some (Value.int o.1), h_w σ o.2) := by
  intro h
  unfold cX10_ledger_43 at h
  refine ev_iload dX10_ledger_43 rfl ?_
  refine ev_iconst (v := (5 : Int32)) dX10_ledger_45 (by decide) ?_
  refine ev_icmp_ge (tgt := 64) dX10_ledger_46 (by decide) (fun c8 => ?_) (fun c8 => ?_)
  · have h := ev_ifT h c8
    refine ev_iload_n dX10_ledger_64 rfl ?_
    refine ev_if_eq (tgt := 72) dX10_ledger_65 (by decide) (fun c9 => ?_) (fun c9 => ?_)
    · have h := ev_ifT h c9
      refine ev_aload_n dX10_ledger_72 rfl (fun _ e => by cases e) ?_
      refine ev_iload_n dX10_ledger_73 rfl ?_
      obtain ⟨z10, hz10, h⟩ := ev_bnE h
      refine ec_Vi (Y := mX10_logLast) (ci := 9) (As := [.int y1]) (rest := []) dX10_ledger_74 kX10_90 oX10_logLast ⟨Nat.le_of_ble_eq_true rfl, Nat.le_of_ble_eq_true rfl⟩ (by decide) rfl (shp_n g0 0 rfl) (shp_t g0 0 rfl) rfl (Nat.le_of_ble_eq_true rfl) (tX10_logLast n q0 g0 y1 I z10 hz10) rfl ?_
      exact ev_weak (sb_s (sb_n (sb_n (sb_s (sb_n (sb_n sb_0)))))) (tX10_ledger_77 q0 g0 n y3 z10 I _ h)
    · have h := ev_ifF h c9
      refine ev_iload_n dX10_ledger_68 rfl ?_
      refine ev_goto (tgt := 77) dX10_ledger_69 (by decide) ?_
      exact ev_weak (sb_s (sb_n (sb_n (sb_s (sb_n (sb_n sb_0)))))) (tX10_ledger_77 q0 g0 n y3 y1 I _ h)
  · have h := ev_ifF h c8
    refine ev_aload_n dX10_ledger_49 rfl (fun _ e => by cases e) ?_
    refine ew_getr0 dX10_ledger_50 fX10_25 g0 rfl rfl rfl rfl ?_
    refine ev_iload dX10_ledger_53 rfl ?_
    refine ev_bipush (v := (10 : Int32)) dX10_ledger_55 (by decide) ?_
    obtain ⟨c11, h⟩ := ev_ckE h
    obtain ⟨I12, eI12, h⟩ := ev_ltE h
    refine ew_iast dX10_ledger_57 (shp_a g0 6 rfl) c11 (ew_nh eI12 ?_)
    obtain ⟨v13, ev13, h⟩ := ev_ltE h
    refine ew_iinc (L' := [some (.ref q0), some (.int y1), some (.int y2), some (.int y3), some (.int v13), none]) dX10_ledger_58 (Nat.le_of_ble_eq_true rfl) rfl (by decide) ev13 rfl ?_
    refine ev_goto (tgt := 43) dX10_ledger_61 (by decide) ?_
    exact ev_weak (sb_s (sb_s (sb_s (sb_s (sb_s (sb_n sb_0)))))) (k43 y1 y2 y3 v13 I12 _ h)
theorem tlX10_ledger_43 {E : ev_N} {σ : ev_H} (q0 : Nat) (g0 : shp tb9 σ q0) : ∀ (n : Nat) (y1 : Int32) (y2 : Int32) (y3 : Int32) (y4 : Int32) (I : ev_I) (o : Int32 × ev_I), lX10_ledger_43 q0 n y1 y2 y3 y4 I = some o → EV E mX10_ledger 43 [some (.ref q0), some (.int y1), some (.int y2), some (.int y3), some (.int y4), none] [] (h_w σ I) (Option.some (Value.int o.1), h_w σ o.2)
  | 0, _, _, _, _, _, _, h => by cases h
  | n + 1, y1, y2, y3, y4, I, o, h => tX10_ledger_43 q0 g0 (lX10_ledger_43 q0 n) (tlX10_ledger_43 q0 g0 n) n y1 y2 y3 y4 I o h
set_option maxRecDepth 100000 in
set_option maxHeartbeats 4000000 in
theorem tX10_ledger_40 {E : ev_N} {σ : ev_H} (q0 : Nat) (g0 : shp tb9 σ q0) (n : Nat) (y1 : Int32) (y2 : Int32) (y3 : Int32) (I : ev_I) (o : Int32 × ev_I) : cX10_ledger_40 q0 n y1 y2 y3 I = some o → EV E mX10_ledger 40 [some (.ref q0), some (.int y1), some (.int y2), some (.int y3), none, none] [] (h_w σ I) (Option.some (Value.int o.1), h_w σ o.2) := by
  intro h
  unfold cX10_ledger_40 at h
  refine ev_iconst (v := (0 : Int32)) dX10_ledger_40 (by decide) ?_
  refine ew_ist (L' := [some (.ref q0), some (.int y1), some (.int y2), some (.int y3), some (.int (0 : Int32)), none]) dX10_ledger_41 (Nat.le_of_ble_eq_true rfl) rfl ?_
  exact ev_weak (sb_s (sb_s (sb_s (sb_s (sb_s (sb_n sb_0)))))) (tlX10_ledger_43 q0 g0 n y1 y2 y3 (0 : Int32) I _ h)
set_option maxRecDepth 100000 in
set_option maxHeartbeats 4000000 in
theorem tX10_ledger {E : ev_N} {σ : ev_H} (n : Nat) (q0 : Nat) (g0 : shp tb9 σ q0) (x1 : Int32) (x2 : Int32) (x3 : Int32) (I : ev_I) (o : Int32 × ev_I) (h : pX10_ledger n q0 x1 x2 x3 I = some o) : ev_T E mX10_ledger [.ref q0, .int x1, .int x2, .int x3] (h_w σ I) (Option.some (Value.int o.1), h_w σ o.2) := by
  unfold pX10_ledger at h
  refine ev_met rfl rfl (Nat.le_of_ble_eq_true rfl) (ev_L0 (L' := [some (.ref q0), some (.int x1), some (.int x2), some (.int x3), none, none]) rfl ?_)
  refine ev_aload_n dX10_ledger_0 rfl (fun _ e => by cases e) ?_
  refine ev_iconst (v := (0 : Int32)) dX10_ledger_1 (by decide) ?_
  obtain ⟨I14, eI14, h⟩ := ev_ltE h
  refine ew_put0 dX10_ledger_2 fX10_44 g0 rfl rfl rfl rfl rfl rfl (ew_nh eI14 ?_)
  refine ev_aload_n dX10_ledger_5 rfl (fun _ e => by cases e) ?_
  refine ev_iload_n dX10_ledger_6 rfl ?_
  refine ev_iconst (v := (0 : Int32)) dX10_ledger_7 (by decide) ?_
  refine ev_iconst (v := (4 : Int32)) dX10_ledger_8 (by decide) ?_
  obtain ⟨z15, hz15, h⟩ := ev_bnE h
  refine ec_Vi (Y := mX10_isIn) (ci := 9) (As := [.int x3, .int (0 : Int32), .int (4 : Int32)]) (rest := []) dX10_ledger_9 kX10_61 oX10_isIn ⟨Nat.le_of_ble_eq_true rfl, Nat.le_of_ble_eq_true rfl⟩ (by decide) rfl (shp_n g0 0 rfl) (shp_t g0 0 rfl) rfl (Nat.le_of_ble_eq_true rfl) (tX10_isIn n q0 g0 x3 (0 : Int32) (4 : Int32) I14 z15 hz15) rfl ?_
  refine ev_if_eq (tgt := 38) dX10_ledger_12 (by decide) (fun c16 => ?_) (fun c16 => ?_)
  · have h := ev_ifT h c16
    refine ev_iconst (v := (-1 : Int32)) dX10_ledger_38 (by decide) ?_
    cases h
    exact er_i dX10_ledger_39 rfl rfl
  · have h := ev_ifF h c16
    refine ev_iload_n dX10_ledger_15 rfl ?_
    refine ev_if_eq (tgt := 30) dX10_ledger_16 (by decide) (fun c17 => ?_) (fun c17 => ?_)
    · have h := ev_ifT h c17
      refine ev_aload_n dX10_ledger_30 rfl (fun _ e => by cases e) ?_
      refine ev_iload_n dX10_ledger_31 rfl ?_
      obtain ⟨z18, hz18, h⟩ := ev_bnE h
      refine ec_Vi (Y := mX10_isNode) (ci := 9) (As := [.int x1]) (rest := []) dX10_ledger_32 kX10_71 oX10_isNode ⟨Nat.le_of_ble_eq_true rfl, Nat.le_of_ble_eq_true rfl⟩ (by decide) rfl (shp_n g0 0 rfl) (shp_t g0 0 rfl) rfl (Nat.le_of_ble_eq_true rfl) (tX10_isNode n q0 g0 x1 I14 z18 hz18) rfl ?_
      refine ev_if_ne (tgt := 40) dX10_ledger_35 (by decide) (fun c19 => ?_) (fun c19 => ?_)
      · have h := ev_ifF h c19
        exact ev_weak (sb_s (sb_s (sb_s (sb_s (sb_n (sb_n sb_0)))))) (tX10_ledger_40 q0 g0 n x1 x2 x3 I14 _ h)
      · have h := ev_ifT h c19
        refine ev_iconst (v := (-1 : Int32)) dX10_ledger_38 (by decide) ?_
        cases h
        exact er_i dX10_ledger_39 rfl rfl
    · have h := ev_ifF h c17
      refine ev_aload_n dX10_ledger_19 rfl (fun _ e => by cases e) ?_
      refine ev_iload_n dX10_ledger_20 rfl ?_
      obtain ⟨z20, hz20, h⟩ := ev_bnE h
      refine ec_Vi (Y := mX10_isBlock) (ci := 9) (As := [.int x1]) (rest := []) dX10_ledger_21 kX10_192 oX10_isBlock ⟨Nat.le_of_ble_eq_true rfl, Nat.le_of_ble_eq_true rfl⟩ (by decide) rfl (shp_n g0 0 rfl) (shp_t g0 0 rfl) rfl (Nat.le_of_ble_eq_true rfl) (tX10_isBlock n q0 g0 x1 I14 z20 hz20) rfl ?_
      refine ev_if_ne (tgt := 40) dX10_ledger_24 (by decide) (fun c21 => ?_) (fun c21 => ?_)
      · have h := ev_ifF h c21
        exact ev_weak (sb_s (sb_s (sb_s (sb_s (sb_n (sb_n sb_0)))))) (tX10_ledger_40 q0 g0 n x1 x2 x3 I14 _ h)
      · have h := ev_ifT h c21
        refine ev_goto (tgt := 38) dX10_ledger_27 (by decide) ?_
        refine ev_iconst (v := (-1 : Int32)) dX10_ledger_38 (by decide) ?_
        cases h
        exact er_i dX10_ledger_39 rfl rfl
-- ChainVotesModel path(II)I
def pX10_path (n : Nat) (q0 : Nat) (x1 : Int32) (x2 : Int32) (I : ev_I) : Option (Int32 × ev_I) :=
  ev_lt (ev_u2 I q0 0 (0 : Int32)) fun I1 =>
  (pX10_isBlock n q0 x1 I1).bind fun z2 =>
  if z2 = 0 then
    some ((-1 : Int32), I1)
  else
    ev_ck (ev_in ((516 : Int32) + x1) 6010) <|
    (pX10_isIn n q0 x2 (0 : Int32) (I1 (q0 + 1) ((516 : Int32) + x1).toNatClampNeg) I1).bind fun z5 =>
    if z5 = 0 then
      some ((-1 : Int32), I1)
    else
      (pX10_atHeight n q0 x1 x2 I1).bind fun z7 =>
      some (z7, I1)
set_option maxRecDepth 100000 in
set_option maxHeartbeats 4000000 in
theorem tX10_path {E : ev_N} {σ : ev_H} (n : Nat) (q0 : Nat) (g0 : shp tb9 σ q0) (x1 : Int32) (x2 : Int32) (I : ev_I) (o : Int32 × ev_I) (h : pX10_path n q0 x1 x2 I = some o) : ev_T E mX10_path [.ref q0, .int x1, .int x2] (h_w σ I) (Option.some (Value.int o.1), h_w σ o.2) := by
  unfold pX10_path at h
  refine ev_met rfl rfl (Nat.le_of_ble_eq_true rfl) (ev_L0 (L' := [some (.ref q0), some (.int x1), some (.int x2)]) rfl ?_)
  refine ev_aload_n dX10_path_0 rfl (fun _ e => by cases e) ?_
  refine ev_iconst (v := (0 : Int32)) dX10_path_1 (by decide) ?_
  obtain ⟨I1, eI1, h⟩ := ev_ltE h
  refine ew_put0 dX10_path_2 fX10_44 g0 rfl rfl rfl rfl rfl rfl (ew_nh eI1 ?_)
  refine ev_aload_n dX10_path_5 rfl (fun _ e => by cases e) ?_
  refine ev_iload_n dX10_path_6 rfl ?_
  obtain ⟨z2, hz2, h⟩ := ev_bnE h
  refine ec_Vi (Y := mX10_isBlock) (ci := 9) (As := [.int x1]) (rest := []) dX10_path_7 kX10_192 oX10_isBlock ⟨Nat.le_of_ble_eq_true rfl, Nat.le_of_ble_eq_true rfl⟩ (by decide) rfl (shp_n g0 0 rfl) (shp_t g0 0 rfl) rfl (Nat.le_of_ble_eq_true rfl) (tX10_isBlock n q0 g0 x1 I1 z2 hz2) rfl ?_
  refine ev_if_eq (tgt := 41) dX10_path_10 (by decide) (fun c3 => ?_) (fun c3 => ?_)
  · have h := ev_ifT h c3
    refine ev_iconst (v := (-1 : Int32)) dX10_path_41 (by decide) ?_
    cases h
    exact er_i dX10_path_42 rfl rfl
  · have h := ev_ifF h c3
    refine ev_aload_n dX10_path_13 rfl (fun _ e => by cases e) ?_
    refine ev_iload_n dX10_path_14 rfl ?_
    refine ev_iconst (v := (0 : Int32)) dX10_path_15 (by decide) ?_
    refine ev_aload_n dX10_path_16 rfl (fun _ e => by cases e) ?_
    refine ew_getr0 dX10_path_17 fX10_7 g0 rfl rfl rfl rfl ?_
    refine ev_sipush (v := (516 : Int32)) dX10_path_20 (by decide) ?_
    refine ev_iload_n dX10_path_23 rfl ?_
    refine ev_iadd dX10_path_24 ?_
    obtain ⟨c4, h⟩ := ev_ckE h
    refine ew_iald dX10_path_25 (shp_a g0 1 rfl) c4 ?_
    obtain ⟨z5, hz5, h⟩ := ev_bnE h
    refine ec_Vi (Y := mX10_isIn) (ci := 9) (As := [.int x2, .int (0 : Int32), .int (I1 (q0 + 1) ((516 : Int32) + x1).toNatClampNeg)]) (rest := []) dX10_path_26 kX10_61 oX10_isIn ⟨Nat.le_of_ble_eq_true rfl, Nat.le_of_ble_eq_true rfl⟩ (by decide) rfl (shp_n g0 0 rfl) (shp_t g0 0 rfl) rfl (Nat.le_of_ble_eq_true rfl) (tX10_isIn n q0 g0 x2 (0 : Int32) (I1 (q0 + 1) ((516 : Int32) + x1).toNatClampNeg) I1 z5 hz5) rfl ?_
    refine ev_if_eq (tgt := 41) dX10_path_29 (by decide) (fun c6 => ?_) (fun c6 => ?_)
    · have h := ev_ifT h c6
      refine ev_iconst (v := (-1 : Int32)) dX10_path_41 (by decide) ?_
      cases h
      exact er_i dX10_path_42 rfl rfl
    · have h := ev_ifF h c6
      refine ev_aload_n dX10_path_32 rfl (fun _ e => by cases e) ?_
      refine ev_iload_n dX10_path_33 rfl ?_
      refine ev_iload_n dX10_path_34 rfl ?_
      obtain ⟨z7, hz7, h⟩ := ev_bnE h
      refine ec_Vi (Y := mX10_atHeight) (ci := 9) (As := [.int x1, .int x2]) (rest := []) dX10_path_35 kX10_226 oX10_atHeight ⟨Nat.le_of_ble_eq_true rfl, Nat.le_of_ble_eq_true rfl⟩ (by decide) rfl (shp_n g0 0 rfl) (shp_t g0 0 rfl) rfl (Nat.le_of_ble_eq_true rfl) (tX10_atHeight n q0 g0 x1 x2 I1 z7 hz7) rfl ?_
      refine ev_goto (tgt := 42) dX10_path_38 (by decide) ?_
      cases h
      exact er_i dX10_path_42 rfl rfl
-- ChainVotesModel isInLog(II)Z
def pX10_isInLog (n : Nat) (q0 : Nat) (x1 : Int32) (x2 : Int32) (I : ev_I) : Option (Int32) :=
  (pX10_logLast n q0 x1 I).bind fun z1 =>
  (pX10_doesExtend n q0 z1 x2 I).bind fun z2 =>
  ev_ck (ev_01 z2) <|
  some z2
set_option maxRecDepth 100000 in
set_option maxHeartbeats 4000000 in
theorem tX10_isInLog {E : ev_N} {σ : ev_H} (n : Nat) (q0 : Nat) (g0 : shp tb9 σ q0) (x1 : Int32) (x2 : Int32) (I : ev_I) (o : Int32) (h : pX10_isInLog n q0 x1 x2 I = some o) : ev_T E mX10_isInLog [.ref q0, .int x1, .int x2] (h_w σ I) (Option.some (Value.int o), h_w σ I) := by
  unfold pX10_isInLog at h
  refine ev_met rfl rfl (Nat.le_of_ble_eq_true rfl) (ev_L0 (L' := [some (.ref q0), some (.int x1), some (.int x2)]) rfl ?_)
  refine ev_aload_n dX10_isInLog_0 rfl (fun _ e => by cases e) ?_
  refine ev_aload_n dX10_isInLog_1 rfl (fun _ e => by cases e) ?_
  refine ev_iload_n dX10_isInLog_2 rfl ?_
  obtain ⟨z1, hz1, h⟩ := ev_bnE h
  refine ec_Vi (Y := mX10_logLast) (ci := 9) (As := [.int x1]) (rest := [(.ref q0)]) dX10_isInLog_3 kX10_90 oX10_logLast ⟨Nat.le_of_ble_eq_true rfl, Nat.le_of_ble_eq_true rfl⟩ (by decide) rfl (shp_n g0 0 rfl) (shp_t g0 0 rfl) rfl (Nat.le_of_ble_eq_true rfl) (tX10_logLast n q0 g0 x1 I z1 hz1) rfl ?_
  refine ev_iload_n dX10_isInLog_6 rfl ?_
  obtain ⟨z2, hz2, h⟩ := ev_bnE h
  refine ec_Vi (Y := mX10_doesExtend) (ci := 9) (As := [.int z1, .int x2]) (rest := []) dX10_isInLog_7 kX10_93 oX10_doesExtend ⟨Nat.le_of_ble_eq_true rfl, Nat.le_of_ble_eq_true rfl⟩ (by decide) rfl (shp_n g0 0 rfl) (shp_t g0 0 rfl) rfl (Nat.le_of_ble_eq_true rfl) (tX10_doesExtend n q0 g0 z1 x2 I z2 hz2) rfl ?_
  obtain ⟨c3, h⟩ := ev_ckE h
  cases h
  exact er_i dX10_isInLog_10 rfl (ev_01E c3).1
-- ChainVotesModel inRow(I)I
def cX10_inRow_4 (q0 : Nat) (K4 : Int32 → Int32 → ev_I → Option (Int32)) (n : Nat) (y2 : Int32) (y3 : Int32) (I : ev_I) : Option (Int32) :=
  if y3 = 0 then
    some y2
  else
    (pX10_parentOf n q0 y3 I).bind fun z2 =>
    ev_ck (ev_in ((16 : Int32) + z2) 6010) <|
    ev_ck (ev_in ((16 : Int32) + y3) 6010) <|
    if (I (q0 + 1) ((16 : Int32) + z2).toNatClampNeg) = ((I (q0 + 1) ((16 : Int32) + y3).toNatClampNeg) - (1 : Int32)) then
      ev_lt (y2 + (1 : Int32)) fun v6 =>
      (pX10_parentOf n q0 y3 I).bind fun z7 =>
      K4 v6 z7 I
    else
      some y2
def lX10_inRow_4 (q0 : Nat) : Nat → Int32 → Int32 → ev_I → Option (Int32)
  | 0, _, _, _ => none
  | n + 1, y2, y3, I => cX10_inRow_4 q0 (lX10_inRow_4 q0 n) n y2 y3 I
def pX10_inRow (n : Nat) (q0 : Nat) (x1 : Int32) (I : ev_I) : Option (Int32) :=
  lX10_inRow_4 q0 n (1 : Int32) x1 I
set_option maxRecDepth 100000 in
set_option maxHeartbeats 4000000 in
theorem tX10_inRow_4 {E : ev_N} {σ : ev_H} (q0 : Nat) (g0 : shp tb9 σ q0) (K4 : Int32 → Int32 → ev_I → Option (Int32)) (k4 : ∀ (y2 : Int32) (y3 : Int32) (I : ev_I) (o : Int32), K4 y2 y3 I = some o → EV E mX10_inRow 4 [some (.ref q0), none, some (.int y2), some (.int y3)] [] (h_w σ I) (Option.some (Value.int o), h_w σ I)) (n : Nat) (y2 : Int32) (y3 : Int32) (I : ev_I) (o : Int32) : cX10_inRow_4 q0 K4 n y2 y3 I = some o → EV E mX10_inRow 4 [some (.ref q0), none, some (.int y2), some (.int y3)] [] (h_w σ I) (Option.some (Value.int o), h_w σ I) := by
  intro h
  unfold cX10_inRow_4 at h
  refine ev_iload_n dX10_inRow_4 rfl ?_
  refine ev_if_eq (tgt := 48) dX10_inRow_5 (by decide) (fun c1 => ?_) (fun c1 => ?_)
  · have h := ev_ifT h c1
    refine ev_iload_n dX10_inRow_48 rfl ?_
    cases h
    exact er_i dX10_inRow_49 rfl rfl
  · have h := ev_ifF h c1
    refine ev_aload_n dX10_inRow_8 rfl (fun _ e => by cases e) ?_
    refine ew_getr0 dX10_inRow_9 fX10_7 g0 rfl rfl rfl rfl ?_
    refine ev_bipush (v := (16 : Int32)) dX10_inRow_12 (by decide) ?_
    refine ev_aload_n dX10_inRow_14 rfl (fun _ e => by cases e) ?_
    refine ev_iload_n dX10_inRow_15 rfl ?_
    obtain ⟨z2, hz2, h⟩ := ev_bnE h
    refine ec_Vi (Y := mX10_parentOf) (ci := 9) (As := [.int y3]) (rest := [(.int (16 : Int32)), (.ref (q0 + 1))]) dX10_inRow_16 kX10_58 oX10_parentOf ⟨Nat.le_of_ble_eq_true rfl, Nat.le_of_ble_eq_true rfl⟩ (by decide) rfl (shp_n g0 0 rfl) (shp_t g0 0 rfl) rfl (Nat.le_of_ble_eq_true rfl) (tX10_parentOf n q0 g0 y3 I z2 hz2) rfl ?_
    refine ev_iadd dX10_inRow_19 ?_
    obtain ⟨c3, h⟩ := ev_ckE h
    refine ew_iald dX10_inRow_20 (shp_a g0 1 rfl) c3 ?_
    refine ev_aload_n dX10_inRow_21 rfl (fun _ e => by cases e) ?_
    refine ew_getr0 dX10_inRow_22 fX10_7 g0 rfl rfl rfl rfl ?_
    refine ev_bipush (v := (16 : Int32)) dX10_inRow_25 (by decide) ?_
    refine ev_iload_n dX10_inRow_27 rfl ?_
    refine ev_iadd dX10_inRow_28 ?_
    obtain ⟨c4, h⟩ := ev_ckE h
    refine ew_iald dX10_inRow_29 (shp_a g0 1 rfl) c4 ?_
    refine ev_iconst (v := (1 : Int32)) dX10_inRow_30 (by decide) ?_
    refine ev_isub dX10_inRow_31 ?_
    refine ev_icmp_ne (tgt := 48) dX10_inRow_32 (by decide) (fun c5 => ?_) (fun c5 => ?_)
    · have h := ev_ifF h c5
      refine ev_iload_n dX10_inRow_48 rfl ?_
      cases h
      exact er_i dX10_inRow_49 rfl rfl
    · have h := ev_ifT h c5
      refine ev_iload_n dX10_inRow_35 rfl ?_
      refine ev_iconst (v := (1 : Int32)) dX10_inRow_36 (by decide) ?_
      refine ev_iadd dX10_inRow_37 ?_
      obtain ⟨v6, ev6, h⟩ := ev_ltE h
      refine ew_nm ev6 ?_
      refine ew_istn (L' := [some (.ref q0), none, some (.int v6), some (.int y3)]) dX10_inRow_38 (Nat.le_of_ble_eq_true rfl) rfl ?_
      refine ev_aload_n dX10_inRow_39 rfl (fun _ e => by cases e) ?_
      refine ev_iload_n dX10_inRow_40 rfl ?_
      obtain ⟨z7, hz7, h⟩ := ev_bnE h
      refine ec_Vi (Y := mX10_parentOf) (ci := 9) (As := [.int y3]) (rest := []) dX10_inRow_41 kX10_58 oX10_parentOf ⟨Nat.le_of_ble_eq_true rfl, Nat.le_of_ble_eq_true rfl⟩ (by decide) rfl (shp_n g0 0 rfl) (shp_t g0 0 rfl) rfl (Nat.le_of_ble_eq_true rfl) (tX10_parentOf n q0 g0 y3 I z7 hz7) rfl ?_
      refine ew_istn (L' := [some (.ref q0), none, some (.int v6), some (.int z7)]) dX10_inRow_44 (Nat.le_of_ble_eq_true rfl) rfl ?_
      refine ev_goto (tgt := 4) dX10_inRow_45 (by decide) ?_
      exact ev_weak (sb_s (sb_n (sb_s (sb_s sb_0)))) (k4 v6 z7 I _ h)
theorem tlX10_inRow_4 {E : ev_N} {σ : ev_H} (q0 : Nat) (g0 : shp tb9 σ q0) : ∀ (n : Nat) (y2 : Int32) (y3 : Int32) (I : ev_I) (o : Int32), lX10_inRow_4 q0 n y2 y3 I = some o → EV E mX10_inRow 4 [some (.ref q0), none, some (.int y2), some (.int y3)] [] (h_w σ I) (Option.some (Value.int o), h_w σ I)
  | 0, _, _, _, _, h => by cases h
  | n + 1, y2, y3, I, o, h => tX10_inRow_4 q0 g0 (lX10_inRow_4 q0 n) (tlX10_inRow_4 q0 g0 n) n y2 y3 I o h
set_option maxRecDepth 100000 in
set_option maxHeartbeats 4000000 in
theorem tX10_inRow {E : ev_N} {σ : ev_H} (n : Nat) (q0 : Nat) (g0 : shp tb9 σ q0) (x1 : Int32) (I : ev_I) (o : Int32) (h : pX10_inRow n q0 x1 I = some o) : ev_T E mX10_inRow [.ref q0, .int x1] (h_w σ I) (Option.some (Value.int o), h_w σ I) := by
  unfold pX10_inRow at h
  refine ev_met rfl rfl (Nat.le_of_ble_eq_true rfl) (ev_L0 (L' := [some (.ref q0), some (.int x1), none, none]) rfl ?_)
  refine ev_iconst (v := (1 : Int32)) dX10_inRow_0 (by decide) ?_
  refine ew_istn (L' := [some (.ref q0), some (.int x1), some (.int (1 : Int32)), none]) dX10_inRow_1 (Nat.le_of_ble_eq_true rfl) rfl ?_
  refine ev_iload_n dX10_inRow_2 rfl ?_
  refine ew_istn (L' := [some (.ref q0), some (.int x1), some (.int (1 : Int32)), some (.int x1)]) dX10_inRow_3 (Nat.le_of_ble_eq_true rfl) rfl ?_
  exact ev_weak (sb_s (sb_n (sb_s (sb_s sb_0)))) (tlX10_inRow_4 q0 g0 n (1 : Int32) x1 I _ h)
-- ChainVotesModel payloads(I)I
def cX10_payloads_4 (q0 : Nat) (K4 : Int32 → Int32 → ev_I → Option (Int32)) (n : Nat) (y2 : Int32) (y3 : Int32) (I : ev_I) : Option (Int32) :=
  if y3 = (-1 : Int32) then
    some y2
  else
    ev_ck (ev_in ((316 : Int32) + y3) 6010) <|
    ev_lt (y2 + (I (q0 + 1) ((316 : Int32) + y3).toNatClampNeg)) fun v3 =>
    (pX10_parentOf n q0 y3 I).bind fun z4 =>
    K4 v3 z4 I
def lX10_payloads_4 (q0 : Nat) : Nat → Int32 → Int32 → ev_I → Option (Int32)
  | 0, _, _, _ => none
  | n + 1, y2, y3, I => cX10_payloads_4 q0 (lX10_payloads_4 q0 n) n y2 y3 I
def pX10_payloads (n : Nat) (q0 : Nat) (x1 : Int32) (I : ev_I) : Option (Int32) :=
  lX10_payloads_4 q0 n (0 : Int32) x1 I
set_option maxRecDepth 100000 in
set_option maxHeartbeats 4000000 in
theorem tX10_payloads_4 {E : ev_N} {σ : ev_H} (q0 : Nat) (g0 : shp tb9 σ q0) (K4 : Int32 → Int32 → ev_I → Option (Int32)) (k4 : ∀ (y2 : Int32) (y3 : Int32) (I : ev_I) (o : Int32), K4 y2 y3 I = some o → EV E mX10_payloads 4 [some (.ref q0), none, some (.int y2), some (.int y3)] [] (h_w σ I) (Option.some (Value.int o), h_w σ I)) (n : Nat) (y2 : Int32) (y3 : Int32) (I : ev_I) (o : Int32) : cX10_payloads_4 q0 K4 n y2 y3 I = some o → EV E mX10_payloads 4 [some (.ref q0), none, some (.int y2), some (.int y3)] [] (h_w σ I) (Option.some (Value.int o), h_w σ I) := by
  intro h
  unfold cX10_payloads_4 at h
  refine ev_iload_n dX10_payloads_4 rfl ?_
  refine ev_iconst (v := (-1 : Int32)) dX10_payloads_5 (by decide) ?_
  refine ev_icmp_eq (tgt := 31) dX10_payloads_6 (by decide) (fun c1 => ?_) (fun c1 => ?_)
  · have h := ev_ifT h c1
    refine ev_iload_n dX10_payloads_31 rfl ?_
    cases h
    exact er_i dX10_payloads_32 rfl rfl
  · have h := ev_ifF h c1
    refine ev_iload_n dX10_payloads_9 rfl ?_
    refine ev_aload_n dX10_payloads_10 rfl (fun _ e => by cases e) ?_
    refine ew_getr0 dX10_payloads_11 fX10_7 g0 rfl rfl rfl rfl ?_
    refine ev_sipush (v := (316 : Int32)) dX10_payloads_14 (by decide) ?_
    refine ev_iload_n dX10_payloads_17 rfl ?_
    refine ev_iadd dX10_payloads_18 ?_
    obtain ⟨c2, h⟩ := ev_ckE h
    refine ew_iald dX10_payloads_19 (shp_a g0 1 rfl) c2 ?_
    refine ev_iadd dX10_payloads_20 ?_
    obtain ⟨v3, ev3, h⟩ := ev_ltE h
    refine ew_nm ev3 ?_
    refine ew_istn (L' := [some (.ref q0), none, some (.int v3), some (.int y3)]) dX10_payloads_21 (Nat.le_of_ble_eq_true rfl) rfl ?_
    refine ev_aload_n dX10_payloads_22 rfl (fun _ e => by cases e) ?_
    refine ev_iload_n dX10_payloads_23 rfl ?_
    obtain ⟨z4, hz4, h⟩ := ev_bnE h
    refine ec_Vi (Y := mX10_parentOf) (ci := 9) (As := [.int y3]) (rest := []) dX10_payloads_24 kX10_58 oX10_parentOf ⟨Nat.le_of_ble_eq_true rfl, Nat.le_of_ble_eq_true rfl⟩ (by decide) rfl (shp_n g0 0 rfl) (shp_t g0 0 rfl) rfl (Nat.le_of_ble_eq_true rfl) (tX10_parentOf n q0 g0 y3 I z4 hz4) rfl ?_
    refine ew_istn (L' := [some (.ref q0), none, some (.int v3), some (.int z4)]) dX10_payloads_27 (Nat.le_of_ble_eq_true rfl) rfl ?_
    refine ev_goto (tgt := 4) dX10_payloads_28 (by decide) ?_
    exact ev_weak (sb_s (sb_n (sb_s (sb_s sb_0)))) (k4 v3 z4 I _ h)
theorem tlX10_payloads_4 {E : ev_N} {σ : ev_H} (q0 : Nat) (g0 : shp tb9 σ q0) : ∀ (n : Nat) (y2 : Int32) (y3 : Int32) (I : ev_I) (o : Int32), lX10_payloads_4 q0 n y2 y3 I = some o → EV E mX10_payloads 4 [some (.ref q0), none, some (.int y2), some (.int y3)] [] (h_w σ I) (Option.some (Value.int o), h_w σ I)
  | 0, _, _, _, _, h => by cases h
  | n + 1, y2, y3, I, o, h => tX10_payloads_4 q0 g0 (lX10_payloads_4 q0 n) (tlX10_payloads_4 q0 g0 n) n y2 y3 I o h
set_option maxRecDepth 100000 in
set_option maxHeartbeats 4000000 in
theorem tX10_payloads {E : ev_N} {σ : ev_H} (n : Nat) (q0 : Nat) (g0 : shp tb9 σ q0) (x1 : Int32) (I : ev_I) (o : Int32) (h : pX10_payloads n q0 x1 I = some o) : ev_T E mX10_payloads [.ref q0, .int x1] (h_w σ I) (Option.some (Value.int o), h_w σ I) := by
  unfold pX10_payloads at h
  refine ev_met rfl rfl (Nat.le_of_ble_eq_true rfl) (ev_L0 (L' := [some (.ref q0), some (.int x1), none, none]) rfl ?_)
  refine ev_iconst (v := (0 : Int32)) dX10_payloads_0 (by decide) ?_
  refine ew_istn (L' := [some (.ref q0), some (.int x1), some (.int (0 : Int32)), none]) dX10_payloads_1 (Nat.le_of_ble_eq_true rfl) rfl ?_
  refine ev_iload_n dX10_payloads_2 rfl ?_
  refine ew_istn (L' := [some (.ref q0), some (.int x1), some (.int (0 : Int32)), some (.int x1)]) dX10_payloads_3 (Nat.le_of_ble_eq_true rfl) rfl ?_
  exact ev_weak (sb_s (sb_n (sb_s (sb_s sb_0)))) (tlX10_payloads_4 q0 g0 n (0 : Int32) x1 I _ h)
-- ChainVotesModel chain(II)I
def cX10_chain_128 (q0 : Nat) (K83 : Int32 → Int32 → Int32 → Int32 → Int32 → ev_I → Option (Int32 × ev_I)) (n : Nat) (y1 : Int32) (y2 : Int32) (y3 : Int32) (y4 : Int32) (y5 : Int32) (I : ev_I) : Option (Int32 × ev_I) :=
  ev_lt (y5 + (1 : Int32)) fun v1 =>
  K83 y1 y2 y3 y4 v1 I
def cX10_chain_83 (q0 : Nat) (K83 : Int32 → Int32 → Int32 → Int32 → Int32 → ev_I → Option (Int32 × ev_I)) (n : Nat) (y1 : Int32) (y2 : Int32) (y3 : Int32) (y4 : Int32) (y5 : Int32) (I : ev_I) : Option (Int32 × ev_I) :=
  (pX10_blockMany n q0  I).bind fun z2 =>
  if z2 ≤ y5 then
    if y2 = (2 : Int32) then
      some (y3, I)
    else
      some (y4, I)
  else
    (pX10_doesExtend n q0 y5 y1 I).bind fun z5 =>
    if z5 = 0 then
      cX10_chain_128 q0 K83 n y1 y2 y3 y4 y5 I
    else
      ev_lt (y3 + (1 : Int32)) fun v7 =>
      ev_ck (ev_in ((516 : Int32) + y5) 6010) <|
      (pX10_greater n q0 y4 (I (q0 + 1) ((516 : Int32) + y5).toNatClampNeg) I).bind fun z9 =>
      cX10_chain_128 q0 K83 n y1 y2 v7 z9 y5 I
def lX10_chain_83 (q0 : Nat) : Nat → Int32 → Int32 → Int32 → Int32 → Int32 → ev_I → Option (Int32 × ev_I)
  | 0, _, _, _, _, _, _ => none
  | n + 1, y1, y2, y3, y4, y5, I => cX10_chain_83 q0 (lX10_chain_83 q0 n) n y1 y2 y3 y4 y5 I
def cX10_chain_80 (q0 : Nat) (n : Nat) (y1 : Int32) (y2 : Int32) (y3 : Int32) (y4 : Int32) (I : ev_I) : Option (Int32 × ev_I) :=
  lX10_chain_83 q0 n y1 y2 y3 y4 (0 : Int32) I
def cX10_chain_220 (q0 : Nat) (K149 : Int32 → Int32 → Int32 → Int32 → ev_I → Option (Int32 × ev_I)) (n : Nat) (y1 : Int32) (y2 : Int32) (y3 : Int32) (y5 : Int32) (I : ev_I) : Option (Int32 × ev_I) :=
  ev_lt (y5 + (1 : Int32)) fun v10 =>
  K149 y1 y2 y3 v10 I
def cX10_chain_209 (q0 : Nat) (K149 : Int32 → Int32 → Int32 → Int32 → ev_I → Option (Int32 × ev_I)) (n : Nat) (y1 : Int32) (y2 : Int32) (y3 : Int32) (y5 : Int32) (s0 : Int32) (I : ev_I) : Option (Int32 × ev_I) :=
  if s0 = 0 then
    cX10_chain_220 q0 K149 n y1 y2 y3 y5 I
  else
    ev_lt (y3 + (1 : Int32)) fun v12 =>
    cX10_chain_220 q0 K149 n y1 y2 v12 y5 I
def cX10_chain_208 (q0 : Nat) (K149 : Int32 → Int32 → Int32 → Int32 → ev_I → Option (Int32 × ev_I)) (n : Nat) (y1 : Int32) (y2 : Int32) (y3 : Int32) (y5 : Int32) (I : ev_I) : Option (Int32 × ev_I) :=
  cX10_chain_209 q0 K149 n y1 y2 y3 y5 (0 : Int32) I
def cX10_chain_149 (q0 : Nat) (K149 : Int32 → Int32 → Int32 → Int32 → ev_I → Option (Int32 × ev_I)) (n : Nat) (y1 : Int32) (y2 : Int32) (y3 : Int32) (y5 : Int32) (I : ev_I) : Option (Int32 × ev_I) :=
  (pX10_nodeMany n q0  I).bind fun z13 =>
  if z13 ≤ y5 then
    some (y3, I)
  else
    if y2 = (4 : Int32) then
      (pX10_isInLog n q0 y5 y1 I).bind fun z22 =>
      cX10_chain_209 q0 K149 n y1 y2 y3 y5 z22 I
    else
      (pX10_isSilent n q0 y5 I).bind fun z16 =>
      if z16 = 0 then
        (pX10_nodeAt n q0 y5 I).bind fun z18 =>
        ev_ck (ev_in (z18 + (6 : Int32)) 6010) <|
        (pX10_doesExtend n q0 (I (q0 + 1) (z18 + (6 : Int32)).toNatClampNeg) y1 I).bind fun z20 =>
        if z20 = 0 then
          cX10_chain_208 q0 K149 n y1 y2 y3 y5 I
        else
          cX10_chain_209 q0 K149 n y1 y2 y3 y5 (1 : Int32) I
      else
        cX10_chain_208 q0 K149 n y1 y2 y3 y5 I
def lX10_chain_149 (q0 : Nat) : Nat → Int32 → Int32 → Int32 → Int32 → ev_I → Option (Int32 × ev_I)
  | 0, _, _, _, _, _ => none
  | n + 1, y1, y2, y3, y5, I => cX10_chain_149 q0 (lX10_chain_149 q0 n) n y1 y2 y3 y5 I
def pX10_chain (n : Nat) (q0 : Nat) (x1 : Int32) (x2 : Int32) (I : ev_I) : Option (Int32 × ev_I) :=
  ev_lt (ev_u2 I q0 0 (0 : Int32)) fun I23 =>
  (pX10_isBlock n q0 x1 I23).bind fun z24 =>
  if z24 = 0 then
    some ((-1 : Int32), I23)
  else
    (pX10_isIn n q0 x2 (0 : Int32) (6 : Int32) I23).bind fun z26 =>
    if z26 = 0 then
      some ((-1 : Int32), I23)
    else
      if x2 = 0 then
        ev_ck (ev_in ((516 : Int32) + x1) 6010) <|
        some (((I23 (q0 + 1) ((516 : Int32) + x1).toNatClampNeg) + (1 : Int32)), I23)
      else
        if x2 = (1 : Int32) then
          (pX10_payloads n q0 x1 I23).bind fun z34 =>
          some (z34, I23)
        else
          if x2 = (5 : Int32) then
            (pX10_inRow n q0 x1 I23).bind fun z33 =>
            some (z33, I23)
          else
            if x2 = (2 : Int32) then
              cX10_chain_80 q0 n x1 x2 (0 : Int32) (0 : Int32) I23
            else
              if x2 = (3 : Int32) then
                cX10_chain_80 q0 n x1 x2 (0 : Int32) (0 : Int32) I23
              else
                lX10_chain_149 q0 n x1 x2 (0 : Int32) (0 : Int32) I23
set_option maxRecDepth 100000 in
set_option maxHeartbeats 4000000 in
theorem tX10_chain_128 {E : ev_N} {σ : ev_H} (q0 : Nat) (g0 : shp tb9 σ q0) (K83 : Int32 → Int32 → Int32 → Int32 → Int32 → ev_I → Option (Int32 × ev_I)) (k83 : ∀ (y1 : Int32) (y2 : Int32) (y3 : Int32) (y4 : Int32) (y5 : Int32) (I : ev_I) (o : Int32 × ev_I), K83 y1 y2 y3 y4 y5 I = some o → EV E mX10_chain 83 [some (.ref q0), some (.int y1), some (.int y2), some (.int y3), some (.int y4), some (.int y5), none] [] (h_w σ I) (Option.some (Value.int o.1), h_w σ o.2)) (n : Nat) (y1 : Int32) (y2 : Int32) (y3 : Int32) (y4 : Int32) (y5 : Int32) (I : ev_I) (o : Int32 × ev_I) : cX10_chain_128 q0 K83 n y1 y2 y3 y4 y5 I = some o → EV E mX10_chain 128 [some (.ref q0), some (.int y1), some (.int y2), some (.int y3), some (.int y4), some (.int y5), none] [] (h_w σ I) (Option.some (Value.int o.1), h_w σ o.2) := by
  intro h
  unfold cX10_chain_128 at h
  obtain ⟨v1, ev1, h⟩ := ev_ltE h
  refine ew_iinc (L' := [some (.ref q0), some (.int y1), some (.int y2), some (.int y3), some (.int y4), some (.int v1), none]) dX10_chain_128 (Nat.le_of_ble_eq_true rfl) rfl (by decide) ev1 rfl ?_
  refine ev_goto (tgt := 83) dX10_chain_131 (by decide) ?_
  exact ev_weak (sb_s (sb_s (sb_s (sb_s (sb_s (sb_s (sb_n sb_0))))))) (k83 y1 y2 y3 y4 v1 I _ h)
set_option maxRecDepth 100000 in
set_option maxHeartbeats 4000000 in
theorem tX10_chain_83 {E : ev_N} {σ : ev_H} (q0 : Nat) (g0 : shp tb9 σ q0) (K83 : Int32 → Int32 → Int32 → Int32 → Int32 → ev_I → Option (Int32 × ev_I)) (k83 : ∀ (y1 : Int32) (y2 : Int32) (y3 : Int32) (y4 : Int32) (y5 : Int32) (I : ev_I) (o : Int32 × ev_I), K83 y1 y2 y3 y4 y5 I = some o → EV E mX10_chain 83 [some (.ref q0), some (.int y1), some (.int y2), some (.int y3), some (.int y4), some (.int y5), none] [] (h_w σ I) (Option.some (Value.int o.1), h_w σ o.2)) (n : Nat) (y1 : Int32) (y2 : Int32) (y3 : Int32) (y4 : Int32) (y5 : Int32) (I : ev_I) (o : Int32 × ev_I) : cX10_chain_83 q0 K83 n y1 y2 y3 y4 y5 I = some o → EV E mX10_chain 83 [some (.ref q0), some (.int y1), some (.int y2), some (.int y3), some (.int y4), some (.int y5), none] [] (h_w σ I) (Option.some (Value.int o.1), h_w σ o.2) := by
  intro h
  unfold cX10_chain_83 at h
  refine ev_iload dX10_chain_83 rfl ?_
  refine ev_aload_n dX10_chain_85 rfl (fun _ e => by cases e) ?_
  obtain ⟨z2, hz2, h⟩ := ev_bnE h
  refine ec_Vi (Y := mX10_blockMany) (ci := 9) (As := []) (rest := [(.int y5)]) dX10_chain_86 kX10_51 oX10_blockMany ⟨Nat.le_of_ble_eq_true rfl, Nat.le_of_ble_eq_true rfl⟩ (by decide) rfl (shp_n g0 0 rfl) (shp_t g0 0 rfl) rfl (Nat.le_of_ble_eq_true rfl) (tX10_blockMany n q0 g0  I z2 hz2) rfl ?_
  refine ev_icmp_ge (tgt := 134) dX10_chain_89 (by decide) (fun c3 => ?_) (fun c3 => ?_)
  · have h := ev_ifT h c3
    refine ev_iload_n dX10_chain_134 rfl ?_
    refine ev_iconst (v := (2 : Int32)) dX10_chain_135 (by decide) ?_
    refine ev_icmp_ne (tgt := 143) dX10_chain_136 (by decide) (fun c4 => ?_) (fun c4 => ?_)
    · have h := ev_ifF h c4
      refine ev_iload dX10_chain_143 rfl ?_
      cases h
      exact er_i dX10_chain_145 rfl rfl
    · have h := ev_ifT h c4
      refine ev_iload_n dX10_chain_139 rfl ?_
      refine ev_goto (tgt := 145) dX10_chain_140 (by decide) ?_
      cases h
      exact er_i dX10_chain_145 rfl rfl
  · have h := ev_ifF h c3
    refine ev_aload_n dX10_chain_92 rfl (fun _ e => by cases e) ?_
    refine ev_iload dX10_chain_93 rfl ?_
    refine ev_iload_n dX10_chain_95 rfl ?_
    obtain ⟨z5, hz5, h⟩ := ev_bnE h
    refine ec_Vi (Y := mX10_doesExtend) (ci := 9) (As := [.int y5, .int y1]) (rest := []) dX10_chain_96 kX10_93 oX10_doesExtend ⟨Nat.le_of_ble_eq_true rfl, Nat.le_of_ble_eq_true rfl⟩ (by decide) rfl (shp_n g0 0 rfl) (shp_t g0 0 rfl) rfl (Nat.le_of_ble_eq_true rfl) (tX10_doesExtend n q0 g0 y5 y1 I z5 hz5) rfl ?_
    refine ev_if_ne (tgt := 105) dX10_chain_99 (by decide) (fun c6 => ?_) (fun c6 => ?_)
    · have h := ev_ifF h c6
      refine ev_iload_n dX10_chain_105 rfl ?_
      refine ev_iconst (v := (1 : Int32)) dX10_chain_106 (by decide) ?_
      refine ev_iadd dX10_chain_107 ?_
      obtain ⟨v7, ev7, h⟩ := ev_ltE h
      refine ew_nm ev7 ?_
      refine ew_istn (L' := [some (.ref q0), some (.int y1), some (.int y2), some (.int v7), some (.int y4), some (.int y5), none]) dX10_chain_108 (Nat.le_of_ble_eq_true rfl) rfl ?_
      refine ev_aload_n dX10_chain_109 rfl (fun _ e => by cases e) ?_
      refine ev_iload dX10_chain_110 rfl ?_
      refine ev_aload_n dX10_chain_112 rfl (fun _ e => by cases e) ?_
      refine ew_getr0 dX10_chain_113 fX10_7 g0 rfl rfl rfl rfl ?_
      refine ev_sipush (v := (516 : Int32)) dX10_chain_116 (by decide) ?_
      refine ev_iload dX10_chain_119 rfl ?_
      refine ev_iadd dX10_chain_121 ?_
      obtain ⟨c8, h⟩ := ev_ckE h
      refine ew_iald dX10_chain_122 (shp_a g0 1 rfl) c8 ?_
      obtain ⟨z9, hz9, h⟩ := ev_bnE h
      refine ec_Vi (Y := mX10_greater) (ci := 9) (As := [.int y4, .int (I (q0 + 1) ((516 : Int32) + y5).toNatClampNeg)]) (rest := []) dX10_chain_123 kX10_180 oX10_greater ⟨Nat.le_of_ble_eq_true rfl, Nat.le_of_ble_eq_true rfl⟩ (by decide) rfl (shp_n g0 0 rfl) (shp_t g0 0 rfl) rfl (Nat.le_of_ble_eq_true rfl) (tX10_greater n q0 g0 y4 (I (q0 + 1) ((516 : Int32) + y5).toNatClampNeg) I z9 hz9) rfl ?_
      refine ew_ist (L' := [some (.ref q0), some (.int y1), some (.int y2), some (.int v7), some (.int z9), some (.int y5), none]) dX10_chain_126 (Nat.le_of_ble_eq_true rfl) rfl ?_
      exact ev_weak (sb_s (sb_s (sb_s (sb_s (sb_s (sb_s (sb_n sb_0))))))) (tX10_chain_128 q0 g0 K83 k83 n y1 y2 v7 z9 y5 I _ h)
    · have h := ev_ifT h c6
      refine ev_goto (tgt := 128) dX10_chain_102 (by decide) ?_
      exact ev_weak (sb_s (sb_s (sb_s (sb_s (sb_s (sb_s (sb_n sb_0))))))) (tX10_chain_128 q0 g0 K83 k83 n y1 y2 y3 y4 y5 I _ h)
theorem tlX10_chain_83 {E : ev_N} {σ : ev_H} (q0 : Nat) (g0 : shp tb9 σ q0) : ∀ (n : Nat) (y1 : Int32) (y2 : Int32) (y3 : Int32) (y4 : Int32) (y5 : Int32) (I : ev_I) (o : Int32 × ev_I), lX10_chain_83 q0 n y1 y2 y3 y4 y5 I = some o → EV E mX10_chain 83 [some (.ref q0), some (.int y1), some (.int y2), some (.int y3), some (.int y4), some (.int y5), none] [] (h_w σ I) (Option.some (Value.int o.1), h_w σ o.2)
  | 0, _, _, _, _, _, _, _, h => by cases h
  | n + 1, y1, y2, y3, y4, y5, I, o, h => tX10_chain_83 q0 g0 (lX10_chain_83 q0 n) (tlX10_chain_83 q0 g0 n) n y1 y2 y3 y4 y5 I o h
set_option maxRecDepth 100000 in
set_option maxHeartbeats 4000000 in
theorem tX10_chain_80 {E : ev_N} {σ : ev_H} (q0 : Nat) (g0 : shp tb9 σ q0) (n : Nat) (y1 : Int32) (y2 : Int32) (y3 : Int32) (y4 : Int32) (I : ev_I) (o : Int32 × ev_I) : cX10_chain_80 q0 n y1 y2 y3 y4 I = some o → EV E mX10_chain 80 [some (.ref q0), some (.int y1), some (.int y2), some (.int y3), some (.int y4), none, none] [] (h_w σ I) (Option.some (Value.int o.1), h_w σ o.2) := by
  intro h
  unfold cX10_chain_80 at h
  refine ev_iconst (v := (0 : Int32)) dX10_chain_80 (by decide) ?_
  refine ew_ist (L' := [some (.ref q0), some (.int y1), some (.int y2), some (.int y3), some (.int y4), some (.int (0 : Int32)), none]) dX10_chain_81 (Nat.le_of_ble_eq_true rfl) rfl ?_
  exact ev_weak (sb_s (sb_s (sb_s (sb_s (sb_s (sb_s (sb_n sb_0))))))) (tlX10_chain_83 q0 g0 n y1 y2 y3 y4 (0 : Int32) I _ h)
set_option maxRecDepth 100000 in
set_option maxHeartbeats 4000000 in
theorem tX10_chain_220 {E : ev_N} {σ : ev_H} (q0 : Nat) (g0 : shp tb9 σ q0) (K149 : Int32 → Int32 → Int32 → Int32 → ev_I → Option (Int32 × ev_I)) (k149 : ∀ (y1 : Int32) (y2 : Int32) (y3 : Int32) (y5 : Int32) (I : ev_I) (o : Int32 × ev_I), K149 y1 y2 y3 y5 I = some o → EV E mX10_chain 149 [some (.ref q0), some (.int y1), some (.int y2), some (.int y3), none, some (.int y5), none] [] (h_w σ I) (Option.some (Value.int o.1), h_w σ o.2)) (n : Nat) (y1 : Int32) (y2 : Int32) (y3 : Int32) (y5 : Int32) (I : ev_I) (o : Int32 × ev_I) : cX10_chain_220 q0 K149 n y1 y2 y3 y5 I = some o → EV E mX10_chain 220 [some (.ref q0), some (.int y1), some (.int y2), some (.int y3), none, some (.int y5), none] [] (h_w σ I) (Option.some (Value.int o.1), h_w σ o.2) := by
  intro h
  unfold cX10_chain_220 at h
  obtain ⟨v10, ev10, h⟩ := ev_ltE h
  refine ew_iinc (L' := [some (.ref q0), some (.int y1), some (.int y2), some (.int y3), none, some (.int v10), none]) dX10_chain_220 (Nat.le_of_ble_eq_true rfl) rfl (by decide) ev10 rfl ?_
  refine ev_goto (tgt := 149) dX10_chain_223 (by decide) ?_
  exact ev_weak (sb_s (sb_s (sb_s (sb_s (sb_n (sb_s (sb_n sb_0))))))) (k149 y1 y2 y3 v10 I _ h)
set_option maxRecDepth 100000 in
set_option maxHeartbeats 4000000 in
theorem tX10_chain_209 {E : ev_N} {σ : ev_H} (q0 : Nat) (g0 : shp tb9 σ q0) (K149 : Int32 → Int32 → Int32 → Int32 → ev_I → Option (Int32 × ev_I)) (k149 : ∀ (y1 : Int32) (y2 : Int32) (y3 : Int32) (y5 : Int32) (I : ev_I) (o : Int32 × ev_I), K149 y1 y2 y3 y5 I = some o → EV E mX10_chain 149 [some (.ref q0), some (.int y1), some (.int y2), some (.int y3), none, some (.int y5), none] [] (h_w σ I) (Option.some (Value.int o.1), h_w σ o.2)) (n : Nat) (y1 : Int32) (y2 : Int32) (y3 : Int32) (y5 : Int32) (s0 : Int32) (I : ev_I) (o : Int32 × ev_I) : cX10_chain_209 q0 K149 n y1 y2 y3 y5 s0 I = some o → EV E mX10_chain 209 [some (.ref q0), some (.int y1), some (.int y2), some (.int y3), none, some (.int y5), none] [(.int s0)] (h_w σ I) (Option.some (Value.int o.1), h_w σ o.2) := by
  intro h
  unfold cX10_chain_209 at h
  refine ew_ist (L' := [some (.ref q0), some (.int y1), some (.int y2), some (.int y3), none, some (.int y5), some (.int s0)]) dX10_chain_209 (Nat.le_of_ble_eq_true rfl) rfl ?_
  refine ev_iload dX10_chain_211 rfl ?_
  refine ev_if_eq (tgt := 220) dX10_chain_213 (by decide) (fun c11 => ?_) (fun c11 => ?_)
  · have h := ev_ifT h c11
    exact ev_weak (sb_s (sb_s (sb_s (sb_s (sb_n (sb_s (sb_n sb_0))))))) (tX10_chain_220 q0 g0 K149 k149 n y1 y2 y3 y5 I _ h)
  · have h := ev_ifF h c11
    refine ev_iload_n dX10_chain_216 rfl ?_
    refine ev_iconst (v := (1 : Int32)) dX10_chain_217 (by decide) ?_
    refine ev_iadd dX10_chain_218 ?_
    obtain ⟨v12, ev12, h⟩ := ev_ltE h
    refine ew_nm ev12 ?_
    refine ew_istn (L' := [some (.ref q0), some (.int y1), some (.int y2), some (.int v12), none, some (.int y5), some (.int s0)]) dX10_chain_219 (Nat.le_of_ble_eq_true rfl) rfl ?_
    exact ev_weak (sb_s (sb_s (sb_s (sb_s (sb_n (sb_s (sb_n sb_0))))))) (tX10_chain_220 q0 g0 K149 k149 n y1 y2 v12 y5 I _ h)
set_option maxRecDepth 100000 in
set_option maxHeartbeats 4000000 in
theorem tX10_chain_208 {E : ev_N} {σ : ev_H} (q0 : Nat) (g0 : shp tb9 σ q0) (K149 : Int32 → Int32 → Int32 → Int32 → ev_I → Option (Int32 × ev_I)) (k149 : ∀ (y1 : Int32) (y2 : Int32) (y3 : Int32) (y5 : Int32) (I : ev_I) (o : Int32 × ev_I), K149 y1 y2 y3 y5 I = some o → EV E mX10_chain 149 [some (.ref q0), some (.int y1), some (.int y2), some (.int y3), none, some (.int y5), none] [] (h_w σ I) (Option.some (Value.int o.1), h_w σ o.2)) (n : Nat) (y1 : Int32) (y2 : Int32) (y3 : Int32) (y5 : Int32) (I : ev_I) (o : Int32 × ev_I) : cX10_chain_208 q0 K149 n y1 y2 y3 y5 I = some o → EV E mX10_chain 208 [some (.ref q0), some (.int y1), some (.int y2), some (.int y3), none, some (.int y5), none] [] (h_w σ I) (Option.some (Value.int o.1), h_w σ o.2) := by
  intro h
  unfold cX10_chain_208 at h
  refine ev_iconst (v := (0 : Int32)) dX10_chain_208 (by decide) ?_
  exact ev_weak (sb_s (sb_s (sb_s (sb_s (sb_n (sb_s (sb_n sb_0))))))) (tX10_chain_209 q0 g0 K149 k149 n y1 y2 y3 y5 (0 : Int32) I _ h)
set_option maxRecDepth 100000 in
set_option maxHeartbeats 4000000 in
theorem tX10_chain_149 {E : ev_N} {σ : ev_H} (q0 : Nat) (g0 : shp tb9 σ q0) (K149 : Int32 → Int32 → Int32 → Int32 → ev_I → Option (Int32 × ev_I)) (k149 : ∀ (y1 : Int32) (y2 : Int32) (y3 : Int32) (y5 : Int32) (I : ev_I) (o : Int32 × ev_I), K149 y1 y2 y3 y5 I = some o → EV E mX10_chain 149 [some (.ref q0), some (.int y1), some (.int y2), some (.int y3), none, some (.int y5), none] [] (h_w σ I) (Option.some (Value.int o.1), h_w σ o.2)) (n : Nat) (y1 : Int32) (y2 : Int32) (y3 : Int32) (y5 : Int32) (I : ev_I) (o : Int32 × ev_I) : cX10_chain_149 q0 K149 n y1 y2 y3 y5 I = some o → EV E mX10_chain 149 [some (.ref q0), some (.int y1), some (.int y2), some (.int y3), none, some (.int y5), none] [] (h_w σ I) (Option.some (Value.int o.1), h_w σ o.2) := by
  intro h
  unfold cX10_chain_149 at h
  refine ev_iload dX10_chain_149 rfl ?_
  refine ev_aload_n dX10_chain_151 rfl (fun _ e => by cases e) ?_
  obtain ⟨z13, hz13, h⟩ := ev_bnE h
  refine ec_Vi (Y := mX10_nodeMany) (ci := 9) (As := []) (rest := [(.int y5)]) dX10_chain_152 kX10_47 oX10_nodeMany ⟨Nat.le_of_ble_eq_true rfl, Nat.le_of_ble_eq_true rfl⟩ (by decide) rfl (shp_n g0 0 rfl) (shp_t g0 0 rfl) rfl (Nat.le_of_ble_eq_true rfl) (tX10_nodeMany n q0 g0  I z13 hz13) rfl ?_
  refine ev_icmp_ge (tgt := 226) dX10_chain_155 (by decide) (fun c14 => ?_) (fun c14 => ?_)
  · have h := ev_ifT h c14
    refine ev_iload_n dX10_chain_226 rfl ?_
    cases h
    exact er_i dX10_chain_227 rfl rfl
  · have h := ev_ifF h c14
    refine ev_iload_n dX10_chain_158 rfl ?_
    refine ev_iconst (v := (4 : Int32)) dX10_chain_159 (by decide) ?_
    refine ev_icmp_ne (tgt := 173) dX10_chain_160 (by decide) (fun c15 => ?_) (fun c15 => ?_)
    · have h := ev_ifF h c15
      refine ev_aload_n dX10_chain_173 rfl (fun _ e => by cases e) ?_
      refine ev_iload dX10_chain_174 rfl ?_
      obtain ⟨z16, hz16, h⟩ := ev_bnE h
      refine ec_Vi (Y := mX10_isSilent) (ci := 9) (As := [.int y5]) (rest := []) dX10_chain_176 kX10_140 oX10_isSilent ⟨Nat.le_of_ble_eq_true rfl, Nat.le_of_ble_eq_true rfl⟩ (by decide) rfl (shp_n g0 0 rfl) (shp_t g0 0 rfl) rfl (Nat.le_of_ble_eq_true rfl) (tX10_isSilent n q0 g0 y5 I z16 hz16) rfl ?_
      refine ev_if_ne (tgt := 208) dX10_chain_179 (by decide) (fun c17 => ?_) (fun c17 => ?_)
      · have h := ev_ifF h c17
        exact ev_weak (sb_s (sb_s (sb_s (sb_s (sb_n (sb_s (sb_n sb_0))))))) (tX10_chain_208 q0 g0 K149 k149 n y1 y2 y3 y5 I _ h)
      · have h := ev_ifT h c17
        refine ev_aload_n dX10_chain_182 rfl (fun _ e => by cases e) ?_
        refine ev_aload_n dX10_chain_183 rfl (fun _ e => by cases e) ?_
        refine ew_getr0 dX10_chain_184 fX10_7 g0 rfl rfl rfl rfl ?_
        refine ev_aload_n dX10_chain_187 rfl (fun _ e => by cases e) ?_
        refine ev_iload dX10_chain_188 rfl ?_
        obtain ⟨z18, hz18, h⟩ := ev_bnE h
        refine ec_Vi (Y := mX10_nodeAt) (ci := 9) (As := [.int y5]) (rest := [(.ref (q0 + 1)), (.ref q0)]) dX10_chain_190 kX10_54 oX10_nodeAt ⟨Nat.le_of_ble_eq_true rfl, Nat.le_of_ble_eq_true rfl⟩ (by decide) rfl (shp_n g0 0 rfl) (shp_t g0 0 rfl) rfl (Nat.le_of_ble_eq_true rfl) (tX10_nodeAt n q0 g0 y5 I z18 hz18) rfl ?_
        refine ev_bipush (v := (6 : Int32)) dX10_chain_193 (by decide) ?_
        refine ev_iadd dX10_chain_195 ?_
        obtain ⟨c19, h⟩ := ev_ckE h
        refine ew_iald dX10_chain_196 (shp_a g0 1 rfl) c19 ?_
        refine ev_iload_n dX10_chain_197 rfl ?_
        obtain ⟨z20, hz20, h⟩ := ev_bnE h
        refine ec_Vi (Y := mX10_doesExtend) (ci := 9) (As := [.int (I (q0 + 1) (z18 + (6 : Int32)).toNatClampNeg), .int y1]) (rest := []) dX10_chain_198 kX10_93 oX10_doesExtend ⟨Nat.le_of_ble_eq_true rfl, Nat.le_of_ble_eq_true rfl⟩ (by decide) rfl (shp_n g0 0 rfl) (shp_t g0 0 rfl) rfl (Nat.le_of_ble_eq_true rfl) (tX10_doesExtend n q0 g0 (I (q0 + 1) (z18 + (6 : Int32)).toNatClampNeg) y1 I z20 hz20) rfl ?_
        refine ev_if_eq (tgt := 208) dX10_chain_201 (by decide) (fun c21 => ?_) (fun c21 => ?_)
        · have h := ev_ifT h c21
          exact ev_weak (sb_s (sb_s (sb_s (sb_s (sb_n (sb_s (sb_n sb_0))))))) (tX10_chain_208 q0 g0 K149 k149 n y1 y2 y3 y5 I _ h)
        · have h := ev_ifF h c21
          refine ev_iconst (v := (1 : Int32)) dX10_chain_204 (by decide) ?_
          refine ev_goto (tgt := 209) dX10_chain_205 (by decide) ?_
          exact ev_weak (sb_s (sb_s (sb_s (sb_s (sb_n (sb_s (sb_n sb_0))))))) (tX10_chain_209 q0 g0 K149 k149 n y1 y2 y3 y5 (1 : Int32) I _ h)
    · have h := ev_ifT h c15
      refine ev_aload_n dX10_chain_163 rfl (fun _ e => by cases e) ?_
      refine ev_iload dX10_chain_164 rfl ?_
      refine ev_iload_n dX10_chain_166 rfl ?_
      obtain ⟨z22, hz22, h⟩ := ev_bnE h
      refine ec_Vi (Y := mX10_isInLog) (ci := 9) (As := [.int y5, .int y1]) (rest := []) dX10_chain_167 kX10_238 oX10_isInLog ⟨Nat.le_of_ble_eq_true rfl, Nat.le_of_ble_eq_true rfl⟩ (by decide) rfl (shp_n g0 0 rfl) (shp_t g0 0 rfl) rfl (Nat.le_of_ble_eq_true rfl) (tX10_isInLog n q0 g0 y5 y1 I z22 hz22) rfl ?_
      refine ev_goto (tgt := 209) dX10_chain_170 (by decide) ?_
      exact ev_weak (sb_s (sb_s (sb_s (sb_s (sb_n (sb_s (sb_n sb_0))))))) (tX10_chain_209 q0 g0 K149 k149 n y1 y2 y3 y5 z22 I _ h)
theorem tlX10_chain_149 {E : ev_N} {σ : ev_H} (q0 : Nat) (g0 : shp tb9 σ q0) : ∀ (n : Nat) (y1 : Int32) (y2 : Int32) (y3 : Int32) (y5 : Int32) (I : ev_I) (o : Int32 × ev_I), lX10_chain_149 q0 n y1 y2 y3 y5 I = some o → EV E mX10_chain 149 [some (.ref q0), some (.int y1), some (.int y2), some (.int y3), none, some (.int y5), none] [] (h_w σ I) (Option.some (Value.int o.1), h_w σ o.2)
  | 0, _, _, _, _, _, _, h => by cases h
  | n + 1, y1, y2, y3, y5, I, o, h => tX10_chain_149 q0 g0 (lX10_chain_149 q0 n) (tlX10_chain_149 q0 g0 n) n y1 y2 y3 y5 I o h
set_option maxRecDepth 100000 in
set_option maxHeartbeats 4000000 in
theorem tX10_chain {E : ev_N} {σ : ev_H} (n : Nat) (q0 : Nat) (g0 : shp tb9 σ q0) (x1 : Int32) (x2 : Int32) (I : ev_I) (o : Int32 × ev_I) (h : pX10_chain n q0 x1 x2 I = some o) : ev_T E mX10_chain [.ref q0, .int x1, .int x2] (h_w σ I) (Option.some (Value.int o.1), h_w σ o.2) := by
  unfold pX10_chain at h
  refine ev_met rfl rfl (Nat.le_of_ble_eq_true rfl) (ev_L0 (L' := [some (.ref q0), some (.int x1), some (.int x2), none, none, none, none]) rfl ?_)
  refine ev_aload_n dX10_chain_0 rfl (fun _ e => by cases e) ?_
  refine ev_iconst (v := (0 : Int32)) dX10_chain_1 (by decide) ?_
  obtain ⟨I23, eI23, h⟩ := ev_ltE h
  refine ew_put0 dX10_chain_2 fX10_44 g0 rfl rfl rfl rfl rfl rfl (ew_nh eI23 ?_)
  refine ev_aload_n dX10_chain_5 rfl (fun _ e => by cases e) ?_
  refine ev_iload_n dX10_chain_6 rfl ?_
  obtain ⟨z24, hz24, h⟩ := ev_bnE h
  refine ec_Vi (Y := mX10_isBlock) (ci := 9) (As := [.int x1]) (rest := []) dX10_chain_7 kX10_192 oX10_isBlock ⟨Nat.le_of_ble_eq_true rfl, Nat.le_of_ble_eq_true rfl⟩ (by decide) rfl (shp_n g0 0 rfl) (shp_t g0 0 rfl) rfl (Nat.le_of_ble_eq_true rfl) (tX10_isBlock n q0 g0 x1 I23 z24 hz24) rfl ?_
  refine ev_if_eq (tgt := 24) dX10_chain_10 (by decide) (fun c25 => ?_) (fun c25 => ?_)
  · have h := ev_ifT h c25
    refine ev_iconst (v := (-1 : Int32)) dX10_chain_24 (by decide) ?_
    cases h
    exact er_i dX10_chain_25 rfl rfl
  · have h := ev_ifF h c25
    refine ev_aload_n dX10_chain_13 rfl (fun _ e => by cases e) ?_
    refine ev_iload_n dX10_chain_14 rfl ?_
    refine ev_iconst (v := (0 : Int32)) dX10_chain_15 (by decide) ?_
    refine ev_bipush (v := (6 : Int32)) dX10_chain_16 (by decide) ?_
    obtain ⟨z26, hz26, h⟩ := ev_bnE h
    refine ec_Vi (Y := mX10_isIn) (ci := 9) (As := [.int x2, .int (0 : Int32), .int (6 : Int32)]) (rest := []) dX10_chain_18 kX10_61 oX10_isIn ⟨Nat.le_of_ble_eq_true rfl, Nat.le_of_ble_eq_true rfl⟩ (by decide) rfl (shp_n g0 0 rfl) (shp_t g0 0 rfl) rfl (Nat.le_of_ble_eq_true rfl) (tX10_isIn n q0 g0 x2 (0 : Int32) (6 : Int32) I23 z26 hz26) rfl ?_
    refine ev_if_ne (tgt := 26) dX10_chain_21 (by decide) (fun c27 => ?_) (fun c27 => ?_)
    · have h := ev_ifF h c27
      refine ev_iload_n dX10_chain_26 rfl ?_
      refine ev_if_ne (tgt := 43) dX10_chain_27 (by decide) (fun c28 => ?_) (fun c28 => ?_)
      · have h := ev_ifF h c28
        refine ev_iload_n dX10_chain_43 rfl ?_
        refine ev_iconst (v := (1 : Int32)) dX10_chain_44 (by decide) ?_
        refine ev_icmp_ne (tgt := 54) dX10_chain_45 (by decide) (fun c29 => ?_) (fun c29 => ?_)
        · have h := ev_ifF h c29
          refine ev_iload_n dX10_chain_54 rfl ?_
          refine ev_iconst (v := (5 : Int32)) dX10_chain_55 (by decide) ?_
          refine ev_icmp_ne (tgt := 65) dX10_chain_56 (by decide) (fun c30 => ?_) (fun c30 => ?_)
          · have h := ev_ifF h c30
            refine ev_iconst (v := (0 : Int32)) dX10_chain_65 (by decide) ?_
            refine ew_istn (L' := [some (.ref q0), some (.int x1), some (.int x2), some (.int (0 : Int32)), none, none, none]) dX10_chain_66 (Nat.le_of_ble_eq_true rfl) rfl ?_
            refine ev_iconst (v := (0 : Int32)) dX10_chain_67 (by decide) ?_
            refine ew_ist (L' := [some (.ref q0), some (.int x1), some (.int x2), some (.int (0 : Int32)), some (.int (0 : Int32)), none, none]) dX10_chain_68 (Nat.le_of_ble_eq_true rfl) rfl ?_
            refine ev_iload_n dX10_chain_70 rfl ?_
            refine ev_iconst (v := (2 : Int32)) dX10_chain_71 (by decide) ?_
            refine ev_icmp_eq (tgt := 80) dX10_chain_72 (by decide) (fun c31 => ?_) (fun c31 => ?_)
            · have h := ev_ifT h c31
              exact ev_weak (sb_s (sb_s (sb_s (sb_s (sb_s (sb_n (sb_n sb_0))))))) (tX10_chain_80 q0 g0 n x1 x2 (0 : Int32) (0 : Int32) I23 _ h)
            · have h := ev_ifF h c31
              refine ev_iload_n dX10_chain_75 rfl ?_
              refine ev_iconst (v := (3 : Int32)) dX10_chain_76 (by decide) ?_
              refine ev_icmp_ne (tgt := 146) dX10_chain_77 (by decide) (fun c32 => ?_) (fun c32 => ?_)
              · have h := ev_ifF h c32
                refine ev_iconst (v := (0 : Int32)) dX10_chain_146 (by decide) ?_
                refine ew_ist (L' := [some (.ref q0), some (.int x1), some (.int x2), some (.int (0 : Int32)), some (.int (0 : Int32)), some (.int (0 : Int32)), none]) dX10_chain_147 (Nat.le_of_ble_eq_true rfl) rfl ?_
                exact ev_weak (sb_s (sb_s (sb_s (sb_s (sb_n (sb_s (sb_n sb_0))))))) (tlX10_chain_149 q0 g0 n x1 x2 (0 : Int32) (0 : Int32) I23 _ h)
              · have h := ev_ifT h c32
                exact ev_weak (sb_s (sb_s (sb_s (sb_s (sb_s (sb_n (sb_n sb_0))))))) (tX10_chain_80 q0 g0 n x1 x2 (0 : Int32) (0 : Int32) I23 _ h)
          · have h := ev_ifT h c30
            refine ev_aload_n dX10_chain_59 rfl (fun _ e => by cases e) ?_
            refine ev_iload_n dX10_chain_60 rfl ?_
            obtain ⟨z33, hz33, h⟩ := ev_bnE h
            refine ec_Vi (Y := mX10_inRow) (ci := 9) (As := [.int x1]) (rest := []) dX10_chain_61 kX10_235 oX10_inRow ⟨Nat.le_of_ble_eq_true rfl, Nat.le_of_ble_eq_true rfl⟩ (by decide) rfl (shp_n g0 0 rfl) (shp_t g0 0 rfl) rfl (Nat.le_of_ble_eq_true rfl) (tX10_inRow n q0 g0 x1 I23 z33 hz33) rfl ?_
            cases h
            exact er_i dX10_chain_64 rfl rfl
        · have h := ev_ifT h c29
          refine ev_aload_n dX10_chain_48 rfl (fun _ e => by cases e) ?_
          refine ev_iload_n dX10_chain_49 rfl ?_
          obtain ⟨z34, hz34, h⟩ := ev_bnE h
          refine ec_Vi (Y := mX10_payloads) (ci := 9) (As := [.int x1]) (rest := []) dX10_chain_50 kX10_232 oX10_payloads ⟨Nat.le_of_ble_eq_true rfl, Nat.le_of_ble_eq_true rfl⟩ (by decide) rfl (shp_n g0 0 rfl) (shp_t g0 0 rfl) rfl (Nat.le_of_ble_eq_true rfl) (tX10_payloads n q0 g0 x1 I23 z34 hz34) rfl ?_
          cases h
          exact er_i dX10_chain_53 rfl rfl
      · have h := ev_ifT h c28
        refine ev_aload_n dX10_chain_30 rfl (fun _ e => by cases e) ?_
        refine ew_getr0 dX10_chain_31 fX10_7 g0 rfl rfl rfl rfl ?_
        refine ev_sipush (v := (516 : Int32)) dX10_chain_34 (by decide) ?_
        refine ev_iload_n dX10_chain_37 rfl ?_
        refine ev_iadd dX10_chain_38 ?_
        obtain ⟨c35, h⟩ := ev_ckE h
        refine ew_iald dX10_chain_39 (shp_a g0 1 rfl) c35 ?_
        refine ev_iconst (v := (1 : Int32)) dX10_chain_40 (by decide) ?_
        refine ev_iadd dX10_chain_41 ?_
        cases h
        exact er_i dX10_chain_42 rfl rfl
    · have h := ev_ifT h c27
      refine ev_iconst (v := (-1 : Int32)) dX10_chain_24 (by decide) ?_
      cases h
      exact er_i dX10_chain_25 rfl rfl
-- ChainVotesModel two(III)I
def cX10_two_55 (q0 : Nat) (K55 : Int32 → Int32 → ev_I → Option (Int32 × ev_I)) (n : Nat) (y2 : Int32) (y4 : Int32) (I : ev_I) : Option (Int32 × ev_I) :=
  (pX10_doesExtend n q0 y2 y4 I).bind fun z1 =>
  if z1 = 0 then
    (pX10_parentOf n q0 y4 I).bind fun z3 =>
    K55 y2 z3 I
  else
    some (y4, I)
def lX10_two_55 (q0 : Nat) : Nat → Int32 → Int32 → ev_I → Option (Int32 × ev_I)
  | 0, _, _, _ => none
  | n + 1, y2, y4, I => cX10_two_55 q0 (lX10_two_55 q0 n) n y2 y4 I
def pX10_two (n : Nat) (q0 : Nat) (x1 : Int32) (x2 : Int32) (x3 : Int32) (I : ev_I) : Option (Int32 × ev_I) :=
  ev_lt (ev_u2 I q0 0 (0 : Int32)) fun I4 =>
  (pX10_isBlock n q0 x1 I4).bind fun z5 =>
  if z5 = 0 then
    some ((-1 : Int32), I4)
  else
    (pX10_isBlock n q0 x2 I4).bind fun z7 =>
    if z7 = 0 then
      some ((-1 : Int32), I4)
    else
      (pX10_isIn n q0 x3 (0 : Int32) (1 : Int32) I4).bind fun z9 =>
      if z9 = 0 then
        some ((-1 : Int32), I4)
      else
        if x3 = 0 then
          (pX10_doesExtend n q0 x1 x2 I4).bind fun z12 =>
          if z12 = 0 then
            some ((0 : Int32), I4)
          else
            some ((1 : Int32), I4)
        else
          lX10_two_55 q0 n x2 x1 I4
set_option maxRecDepth 100000 in
set_option maxHeartbeats 4000000 in
theorem tX10_two_55 {E : ev_N} {σ : ev_H} (q0 : Nat) (g0 : shp tb9 σ q0) (K55 : Int32 → Int32 → ev_I → Option (Int32 × ev_I)) (k55 : ∀ (y2 : Int32) (y4 : Int32) (I : ev_I) (o : Int32 × ev_I), K55 y2 y4 I = some o → EV E mX10_two 55 [some (.ref q0), none, some (.int y2), none, some (.int y4)] [] (h_w σ I) (Option.some (Value.int o.1), h_w σ o.2)) (n : Nat) (y2 : Int32) (y4 : Int32) (I : ev_I) (o : Int32 × ev_I) : cX10_two_55 q0 K55 n y2 y4 I = some o → EV E mX10_two 55 [some (.ref q0), none, some (.int y2), none, some (.int y4)] [] (h_w σ I) (Option.some (Value.int o.1), h_w σ o.2) := by
  intro h
  unfold cX10_two_55 at h
  refine ev_aload_n dX10_two_55 rfl (fun _ e => by cases e) ?_
  refine ev_iload_n dX10_two_56 rfl ?_
  refine ev_iload dX10_two_57 rfl ?_
  obtain ⟨z1, hz1, h⟩ := ev_bnE h
  refine ec_Vi (Y := mX10_doesExtend) (ci := 9) (As := [.int y2, .int y4]) (rest := []) dX10_two_59 kX10_93 oX10_doesExtend ⟨Nat.le_of_ble_eq_true rfl, Nat.le_of_ble_eq_true rfl⟩ (by decide) rfl (shp_n g0 0 rfl) (shp_t g0 0 rfl) rfl (Nat.le_of_ble_eq_true rfl) (tX10_doesExtend n q0 g0 y2 y4 I z1 hz1) rfl ?_
  refine ev_if_ne (tgt := 76) dX10_two_62 (by decide) (fun c2 => ?_) (fun c2 => ?_)
  · have h := ev_ifF h c2
    refine ev_iload dX10_two_76 rfl ?_
    cases h
    exact er_i dX10_two_78 rfl rfl
  · have h := ev_ifT h c2
    refine ev_aload_n dX10_two_65 rfl (fun _ e => by cases e) ?_
    refine ev_iload dX10_two_66 rfl ?_
    obtain ⟨z3, hz3, h⟩ := ev_bnE h
    refine ec_Vi (Y := mX10_parentOf) (ci := 9) (As := [.int y4]) (rest := []) dX10_two_68 kX10_58 oX10_parentOf ⟨Nat.le_of_ble_eq_true rfl, Nat.le_of_ble_eq_true rfl⟩ (by decide) rfl (shp_n g0 0 rfl) (shp_t g0 0 rfl) rfl (Nat.le_of_ble_eq_true rfl) (tX10_parentOf n q0 g0 y4 I z3 hz3) rfl ?_
    refine ew_ist (L' := [some (.ref q0), none, some (.int y2), none, some (.int z3)]) dX10_two_71 (Nat.le_of_ble_eq_true rfl) rfl ?_
    refine ev_goto (tgt := 55) dX10_two_73 (by decide) ?_
    exact ev_weak (sb_s (sb_n (sb_s (sb_n (sb_s sb_0))))) (k55 y2 z3 I _ h)
theorem tlX10_two_55 {E : ev_N} {σ : ev_H} (q0 : Nat) (g0 : shp tb9 σ q0) : ∀ (n : Nat) (y2 : Int32) (y4 : Int32) (I : ev_I) (o : Int32 × ev_I), lX10_two_55 q0 n y2 y4 I = some o → EV E mX10_two 55 [some (.ref q0), none, some (.int y2), none, some (.int y4)] [] (h_w σ I) (Option.some (Value.int o.1), h_w σ o.2)
  | 0, _, _, _, _, h => by cases h
  | n + 1, y2, y4, I, o, h => tX10_two_55 q0 g0 (lX10_two_55 q0 n) (tlX10_two_55 q0 g0 n) n y2 y4 I o h
set_option maxRecDepth 100000 in
set_option maxHeartbeats 4000000 in
theorem tX10_two {E : ev_N} {σ : ev_H} (n : Nat) (q0 : Nat) (g0 : shp tb9 σ q0) (x1 : Int32) (x2 : Int32) (x3 : Int32) (I : ev_I) (o : Int32 × ev_I) (h : pX10_two n q0 x1 x2 x3 I = some o) : ev_T E mX10_two [.ref q0, .int x1, .int x2, .int x3] (h_w σ I) (Option.some (Value.int o.1), h_w σ o.2) := by
  unfold pX10_two at h
  refine ev_met rfl rfl (Nat.le_of_ble_eq_true rfl) (ev_L0 (L' := [some (.ref q0), some (.int x1), some (.int x2), some (.int x3), none]) rfl ?_)
  refine ev_aload_n dX10_two_0 rfl (fun _ e => by cases e) ?_
  refine ev_iconst (v := (0 : Int32)) dX10_two_1 (by decide) ?_
  obtain ⟨I4, eI4, h⟩ := ev_ltE h
  refine ew_put0 dX10_two_2 fX10_44 g0 rfl rfl rfl rfl rfl rfl (ew_nh eI4 ?_)
  refine ev_aload_n dX10_two_5 rfl (fun _ e => by cases e) ?_
  refine ev_iload_n dX10_two_6 rfl ?_
  obtain ⟨z5, hz5, h⟩ := ev_bnE h
  refine ec_Vi (Y := mX10_isBlock) (ci := 9) (As := [.int x1]) (rest := []) dX10_two_7 kX10_192 oX10_isBlock ⟨Nat.le_of_ble_eq_true rfl, Nat.le_of_ble_eq_true rfl⟩ (by decide) rfl (shp_n g0 0 rfl) (shp_t g0 0 rfl) rfl (Nat.le_of_ble_eq_true rfl) (tX10_isBlock n q0 g0 x1 I4 z5 hz5) rfl ?_
  refine ev_if_eq (tgt := 31) dX10_two_10 (by decide) (fun c6 => ?_) (fun c6 => ?_)
  · have h := ev_ifT h c6
    refine ev_iconst (v := (-1 : Int32)) dX10_two_31 (by decide) ?_
    cases h
    exact er_i dX10_two_32 rfl rfl
  · have h := ev_ifF h c6
    refine ev_aload_n dX10_two_13 rfl (fun _ e => by cases e) ?_
    refine ev_iload_n dX10_two_14 rfl ?_
    obtain ⟨z7, hz7, h⟩ := ev_bnE h
    refine ec_Vi (Y := mX10_isBlock) (ci := 9) (As := [.int x2]) (rest := []) dX10_two_15 kX10_192 oX10_isBlock ⟨Nat.le_of_ble_eq_true rfl, Nat.le_of_ble_eq_true rfl⟩ (by decide) rfl (shp_n g0 0 rfl) (shp_t g0 0 rfl) rfl (Nat.le_of_ble_eq_true rfl) (tX10_isBlock n q0 g0 x2 I4 z7 hz7) rfl ?_
    refine ev_if_eq (tgt := 31) dX10_two_18 (by decide) (fun c8 => ?_) (fun c8 => ?_)
    · have h := ev_ifT h c8
      refine ev_iconst (v := (-1 : Int32)) dX10_two_31 (by decide) ?_
      cases h
      exact er_i dX10_two_32 rfl rfl
    · have h := ev_ifF h c8
      refine ev_aload_n dX10_two_21 rfl (fun _ e => by cases e) ?_
      refine ev_iload_n dX10_two_22 rfl ?_
      refine ev_iconst (v := (0 : Int32)) dX10_two_23 (by decide) ?_
      refine ev_iconst (v := (1 : Int32)) dX10_two_24 (by decide) ?_
      obtain ⟨z9, hz9, h⟩ := ev_bnE h
      refine ec_Vi (Y := mX10_isIn) (ci := 9) (As := [.int x3, .int (0 : Int32), .int (1 : Int32)]) (rest := []) dX10_two_25 kX10_61 oX10_isIn ⟨Nat.le_of_ble_eq_true rfl, Nat.le_of_ble_eq_true rfl⟩ (by decide) rfl (shp_n g0 0 rfl) (shp_t g0 0 rfl) rfl (Nat.le_of_ble_eq_true rfl) (tX10_isIn n q0 g0 x3 (0 : Int32) (1 : Int32) I4 z9 hz9) rfl ?_
      refine ev_if_ne (tgt := 33) dX10_two_28 (by decide) (fun c10 => ?_) (fun c10 => ?_)
      · have h := ev_ifF h c10
        refine ev_iload_n dX10_two_33 rfl ?_
        refine ev_if_ne (tgt := 52) dX10_two_34 (by decide) (fun c11 => ?_) (fun c11 => ?_)
        · have h := ev_ifF h c11
          refine ev_iload_n dX10_two_52 rfl ?_
          refine ew_ist (L' := [some (.ref q0), some (.int x1), some (.int x2), some (.int x3), some (.int x1)]) dX10_two_53 (Nat.le_of_ble_eq_true rfl) rfl ?_
          exact ev_weak (sb_s (sb_n (sb_s (sb_n (sb_s sb_0))))) (tlX10_two_55 q0 g0 n x2 x1 I4 _ h)
        · have h := ev_ifT h c11
          refine ev_aload_n dX10_two_37 rfl (fun _ e => by cases e) ?_
          refine ev_iload_n dX10_two_38 rfl ?_
          refine ev_iload_n dX10_two_39 rfl ?_
          obtain ⟨z12, hz12, h⟩ := ev_bnE h
          refine ec_Vi (Y := mX10_doesExtend) (ci := 9) (As := [.int x1, .int x2]) (rest := []) dX10_two_40 kX10_93 oX10_doesExtend ⟨Nat.le_of_ble_eq_true rfl, Nat.le_of_ble_eq_true rfl⟩ (by decide) rfl (shp_n g0 0 rfl) (shp_t g0 0 rfl) rfl (Nat.le_of_ble_eq_true rfl) (tX10_doesExtend n q0 g0 x1 x2 I4 z12 hz12) rfl ?_
          refine ev_if_eq (tgt := 50) dX10_two_43 (by decide) (fun c13 => ?_) (fun c13 => ?_)
          · have h := ev_ifT h c13
            refine ev_iconst (v := (0 : Int32)) dX10_two_50 (by decide) ?_
            cases h
            exact er_i dX10_two_51 rfl rfl
          · have h := ev_ifF h c13
            refine ev_iconst (v := (1 : Int32)) dX10_two_46 (by decide) ?_
            refine ev_goto (tgt := 51) dX10_two_47 (by decide) ?_
            cases h
            exact er_i dX10_two_51 rfl rfl
      · have h := ev_ifT h c10
        refine ev_iconst (v := (-1 : Int32)) dX10_two_31 (by decide) ?_
        cases h
        exact er_i dX10_two_32 rfl rfl
-- ChainVotesModel unlikeLogs()I
def cX10_unlikeLogs_72 (q0 : Nat) (K2 : Int32 → ev_I → Option (Int32)) (K12 : Int32 → Int32 → ev_I → Option (Int32)) (n : Nat) (y1 : Int32) (y2 : Int32) (I : ev_I) : Option (Int32) :=
  ev_lt (y2 + (1 : Int32)) fun v1 =>
  K12 y1 v1 I
def cX10_unlikeLogs_12 (q0 : Nat) (K2 : Int32 → ev_I → Option (Int32)) (K12 : Int32 → Int32 → ev_I → Option (Int32)) (n : Nat) (y1 : Int32) (y2 : Int32) (I : ev_I) : Option (Int32) :=
  if y1 ≤ y2 then
    ev_lt (y1 + (1 : Int32)) fun v3 =>
    K2 v3 I
  else
    (pX10_isSilent n q0 y1 I).bind fun z4 =>
    if z4 = 0 then
      (pX10_isSilent n q0 y2 I).bind fun z6 =>
      if z6 = 0 then
        (pX10_logLast n q0 y1 I).bind fun z8 =>
        (pX10_logLast n q0 y2 I).bind fun z9 =>
        (pX10_doesExtend n q0 z8 z9 I).bind fun z10 =>
        if z10 = 0 then
          (pX10_logLast n q0 y2 I).bind fun z12 =>
          (pX10_logLast n q0 y1 I).bind fun z13 =>
          (pX10_doesExtend n q0 z12 z13 I).bind fun z14 =>
          if z14 = 0 then
            some (1 : Int32)
          else
            cX10_unlikeLogs_72 q0 K2 K12 n y1 y2 I
        else
          cX10_unlikeLogs_72 q0 K2 K12 n y1 y2 I
      else
        cX10_unlikeLogs_72 q0 K2 K12 n y1 y2 I
    else
      cX10_unlikeLogs_72 q0 K2 K12 n y1 y2 I
def lX10_unlikeLogs_12 (q0 : Nat) (K2 : Int32 → ev_I → Option (Int32)) : Nat → Int32 → Int32 → ev_I → Option (Int32)
  | 0, _, _, _ => none
  | n + 1, y1, y2, I => cX10_unlikeLogs_12 q0 K2 (lX10_unlikeLogs_12 q0 K2 n) n y1 y2 I
def cX10_unlikeLogs_2 (q0 : Nat) (K2 : Int32 → ev_I → Option (Int32)) (n : Nat) (y1 : Int32) (I : ev_I) : Option (Int32) :=
  (pX10_nodeMany n q0  I).bind fun z16 =>
  if z16 ≤ y1 then
    some (0 : Int32)
  else
    lX10_unlikeLogs_12 q0 K2 n y1 (0 : Int32) I
def lX10_unlikeLogs_2 (q0 : Nat) : Nat → Int32 → ev_I → Option (Int32)
  | 0, _, _ => none
  | n + 1, y1, I => cX10_unlikeLogs_2 q0 (lX10_unlikeLogs_2 q0 n) n y1 I
def pX10_unlikeLogs (n : Nat) (q0 : Nat) (I : ev_I) : Option (Int32) :=
  lX10_unlikeLogs_2 q0 n (0 : Int32) I
set_option maxRecDepth 100000 in
set_option maxHeartbeats 4000000 in
theorem tX10_unlikeLogs_72 {E : ev_N} {σ : ev_H} (q0 : Nat) (g0 : shp tb9 σ q0) (K2 : Int32 → ev_I → Option (Int32)) (K12 : Int32 → Int32 → ev_I → Option (Int32)) (k2 : ∀ (y1 : Int32) (I : ev_I) (o : Int32), K2 y1 I = some o → EV E mX10_unlikeLogs 2 [some (.ref q0), some (.int y1), none] [] (h_w σ I) (Option.some (Value.int o), h_w σ I)) (k12 : ∀ (y1 : Int32) (y2 : Int32) (I : ev_I) (o : Int32), K12 y1 y2 I = some o → EV E mX10_unlikeLogs 12 [some (.ref q0), some (.int y1), some (.int y2)] [] (h_w σ I) (Option.some (Value.int o), h_w σ I)) (n : Nat) (y1 : Int32) (y2 : Int32) (I : ev_I) (o : Int32) : cX10_unlikeLogs_72 q0 K2 K12 n y1 y2 I = some o → EV E mX10_unlikeLogs 72 [some (.ref q0), some (.int y1), some (.int y2)] [] (h_w σ I) (Option.some (Value.int o), h_w σ I) := by
  intro h
  unfold cX10_unlikeLogs_72 at h
  obtain ⟨v1, ev1, h⟩ := ev_ltE h
  refine ew_iinc (L' := [some (.ref q0), some (.int y1), some (.int v1)]) dX10_unlikeLogs_72 (Nat.le_of_ble_eq_true rfl) rfl (by decide) ev1 rfl ?_
  refine ev_goto (tgt := 12) dX10_unlikeLogs_75 (by decide) ?_
  exact ev_weak (sb_s (sb_s (sb_s sb_0))) (k12 y1 v1 I _ h)
set_option maxRecDepth 100000 in
set_option maxHeartbeats 4000000 in
theorem tX10_unlikeLogs_12 {E : ev_N} {σ : ev_H} (q0 : Nat) (g0 : shp tb9 σ q0) (K2 : Int32 → ev_I → Option (Int32)) (K12 : Int32 → Int32 → ev_I → Option (Int32)) (k2 : ∀ (y1 : Int32) (I : ev_I) (o : Int32), K2 y1 I = some o → EV E mX10_unlikeLogs 2 [some (.ref q0), some (.int y1), none] [] (h_w σ I) (Option.some (Value.int o), h_w σ I)) (k12 : ∀ (y1 : Int32) (y2 : Int32) (I : ev_I) (o : Int32), K12 y1 y2 I = some o → EV E mX10_unlikeLogs 12 [some (.ref q0), some (.int y1), some (.int y2)] [] (h_w σ I) (Option.some (Value.int o), h_w σ I)) (n : Nat) (y1 : Int32) (y2 : Int32) (I : ev_I) (o : Int32) : cX10_unlikeLogs_12 q0 K2 K12 n y1 y2 I = some o → EV E mX10_unlikeLogs 12 [some (.ref q0), some (.int y1), some (.int y2)] [] (h_w σ I) (Option.some (Value.int o), h_w σ I) := by
  intro h
  unfold cX10_unlikeLogs_12 at h
  refine ev_iload_n dX10_unlikeLogs_12 rfl ?_
  refine ev_iload_n dX10_unlikeLogs_13 rfl ?_
  refine ev_icmp_ge (tgt := 78) dX10_unlikeLogs_14 (by decide) (fun c2 => ?_) (fun c2 => ?_)
  · have h := ev_ifT h c2
    obtain ⟨v3, ev3, h⟩ := ev_ltE h
    refine ew_iinc (L' := [some (.ref q0), some (.int v3), some (.int y2)]) dX10_unlikeLogs_78 (Nat.le_of_ble_eq_true rfl) rfl (by decide) ev3 rfl ?_
    refine ev_goto (tgt := 2) dX10_unlikeLogs_81 (by decide) ?_
    exact ev_weak (sb_s (sb_s (sb_n sb_0))) (k2 v3 I _ h)
  · have h := ev_ifF h c2
    refine ev_aload_n dX10_unlikeLogs_17 rfl (fun _ e => by cases e) ?_
    refine ev_iload_n dX10_unlikeLogs_18 rfl ?_
    obtain ⟨z4, hz4, h⟩ := ev_bnE h
    refine ec_Vi (Y := mX10_isSilent) (ci := 9) (As := [.int y1]) (rest := []) dX10_unlikeLogs_19 kX10_140 oX10_isSilent ⟨Nat.le_of_ble_eq_true rfl, Nat.le_of_ble_eq_true rfl⟩ (by decide) rfl (shp_n g0 0 rfl) (shp_t g0 0 rfl) rfl (Nat.le_of_ble_eq_true rfl) (tX10_isSilent n q0 g0 y1 I z4 hz4) rfl ?_
    refine ev_if_ne (tgt := 72) dX10_unlikeLogs_22 (by decide) (fun c5 => ?_) (fun c5 => ?_)
    · have h := ev_ifF h c5
      exact ev_weak (sb_s (sb_s (sb_s sb_0))) (tX10_unlikeLogs_72 q0 g0 K2 K12 k2 k12 n y1 y2 I _ h)
    · have h := ev_ifT h c5
      refine ev_aload_n dX10_unlikeLogs_25 rfl (fun _ e => by cases e) ?_
      refine ev_iload_n dX10_unlikeLogs_26 rfl ?_
      obtain ⟨z6, hz6, h⟩ := ev_bnE h
      refine ec_Vi (Y := mX10_isSilent) (ci := 9) (As := [.int y2]) (rest := []) dX10_unlikeLogs_27 kX10_140 oX10_isSilent ⟨Nat.le_of_ble_eq_true rfl, Nat.le_of_ble_eq_true rfl⟩ (by decide) rfl (shp_n g0 0 rfl) (shp_t g0 0 rfl) rfl (Nat.le_of_ble_eq_true rfl) (tX10_isSilent n q0 g0 y2 I z6 hz6) rfl ?_
      refine ev_if_eq (tgt := 36) dX10_unlikeLogs_30 (by decide) (fun c7 => ?_) (fun c7 => ?_)
      · have h := ev_ifT h c7
        refine ev_aload_n dX10_unlikeLogs_36 rfl (fun _ e => by cases e) ?_
        refine ev_aload_n dX10_unlikeLogs_37 rfl (fun _ e => by cases e) ?_
        refine ev_iload_n dX10_unlikeLogs_38 rfl ?_
        obtain ⟨z8, hz8, h⟩ := ev_bnE h
        refine ec_Vi (Y := mX10_logLast) (ci := 9) (As := [.int y1]) (rest := [(.ref q0)]) dX10_unlikeLogs_39 kX10_90 oX10_logLast ⟨Nat.le_of_ble_eq_true rfl, Nat.le_of_ble_eq_true rfl⟩ (by decide) rfl (shp_n g0 0 rfl) (shp_t g0 0 rfl) rfl (Nat.le_of_ble_eq_true rfl) (tX10_logLast n q0 g0 y1 I z8 hz8) rfl ?_
        refine ev_aload_n dX10_unlikeLogs_42 rfl (fun _ e => by cases e) ?_
        refine ev_iload_n dX10_unlikeLogs_43 rfl ?_
        obtain ⟨z9, hz9, h⟩ := ev_bnE h
        refine ec_Vi (Y := mX10_logLast) (ci := 9) (As := [.int y2]) (rest := [(.int z8), (.ref q0)]) dX10_unlikeLogs_44 kX10_90 oX10_logLast ⟨Nat.le_of_ble_eq_true rfl, Nat.le_of_ble_eq_true rfl⟩ (by decide) rfl (shp_n g0 0 rfl) (shp_t g0 0 rfl) rfl (Nat.le_of_ble_eq_true rfl) (tX10_logLast n q0 g0 y2 I z9 hz9) rfl ?_
        obtain ⟨z10, hz10, h⟩ := ev_bnE h
        refine ec_Vi (Y := mX10_doesExtend) (ci := 9) (As := [.int z8, .int z9]) (rest := []) dX10_unlikeLogs_47 kX10_93 oX10_doesExtend ⟨Nat.le_of_ble_eq_true rfl, Nat.le_of_ble_eq_true rfl⟩ (by decide) rfl (shp_n g0 0 rfl) (shp_t g0 0 rfl) rfl (Nat.le_of_ble_eq_true rfl) (tX10_doesExtend n q0 g0 z8 z9 I z10 hz10) rfl ?_
        refine ev_if_ne (tgt := 72) dX10_unlikeLogs_50 (by decide) (fun c11 => ?_) (fun c11 => ?_)
        · have h := ev_ifF h c11
          exact ev_weak (sb_s (sb_s (sb_s sb_0))) (tX10_unlikeLogs_72 q0 g0 K2 K12 k2 k12 n y1 y2 I _ h)
        · have h := ev_ifT h c11
          refine ev_aload_n dX10_unlikeLogs_53 rfl (fun _ e => by cases e) ?_
          refine ev_aload_n dX10_unlikeLogs_54 rfl (fun _ e => by cases e) ?_
          refine ev_iload_n dX10_unlikeLogs_55 rfl ?_
          obtain ⟨z12, hz12, h⟩ := ev_bnE h
          refine ec_Vi (Y := mX10_logLast) (ci := 9) (As := [.int y2]) (rest := [(.ref q0)]) dX10_unlikeLogs_56 kX10_90 oX10_logLast ⟨Nat.le_of_ble_eq_true rfl, Nat.le_of_ble_eq_true rfl⟩ (by decide) rfl (shp_n g0 0 rfl) (shp_t g0 0 rfl) rfl (Nat.le_of_ble_eq_true rfl) (tX10_logLast n q0 g0 y2 I z12 hz12) rfl ?_
          refine ev_aload_n dX10_unlikeLogs_59 rfl (fun _ e => by cases e) ?_
          refine ev_iload_n dX10_unlikeLogs_60 rfl ?_
          obtain ⟨z13, hz13, h⟩ := ev_bnE h
          refine ec_Vi (Y := mX10_logLast) (ci := 9) (As := [.int y1]) (rest := [(.int z12), (.ref q0)]) dX10_unlikeLogs_61 kX10_90 oX10_logLast ⟨Nat.le_of_ble_eq_true rfl, Nat.le_of_ble_eq_true rfl⟩ (by decide) rfl (shp_n g0 0 rfl) (shp_t g0 0 rfl) rfl (Nat.le_of_ble_eq_true rfl) (tX10_logLast n q0 g0 y1 I z13 hz13) rfl ?_
          obtain ⟨z14, hz14, h⟩ := ev_bnE h
          refine ec_Vi (Y := mX10_doesExtend) (ci := 9) (As := [.int z12, .int z13]) (rest := []) dX10_unlikeLogs_64 kX10_93 oX10_doesExtend ⟨Nat.le_of_ble_eq_true rfl, Nat.le_of_ble_eq_true rfl⟩ (by decide) rfl (shp_n g0 0 rfl) (shp_t g0 0 rfl) rfl (Nat.le_of_ble_eq_true rfl) (tX10_doesExtend n q0 g0 z12 z13 I z14 hz14) rfl ?_
          refine ev_if_ne (tgt := 72) dX10_unlikeLogs_67 (by decide) (fun c15 => ?_) (fun c15 => ?_)
          · have h := ev_ifF h c15
            exact ev_weak (sb_s (sb_s (sb_s sb_0))) (tX10_unlikeLogs_72 q0 g0 K2 K12 k2 k12 n y1 y2 I _ h)
          · have h := ev_ifT h c15
            refine ev_iconst (v := (1 : Int32)) dX10_unlikeLogs_70 (by decide) ?_
            cases h
            exact er_i dX10_unlikeLogs_71 rfl rfl
      · have h := ev_ifF h c7
        refine ev_goto (tgt := 72) dX10_unlikeLogs_33 (by decide) ?_
        exact ev_weak (sb_s (sb_s (sb_s sb_0))) (tX10_unlikeLogs_72 q0 g0 K2 K12 k2 k12 n y1 y2 I _ h)
theorem tlX10_unlikeLogs_12 {E : ev_N} {σ : ev_H} (q0 : Nat) (g0 : shp tb9 σ q0) (K2 : Int32 → ev_I → Option (Int32)) (k2 : ∀ (y1 : Int32) (I : ev_I) (o : Int32), K2 y1 I = some o → EV E mX10_unlikeLogs 2 [some (.ref q0), some (.int y1), none] [] (h_w σ I) (Option.some (Value.int o), h_w σ I)) : ∀ (n : Nat) (y1 : Int32) (y2 : Int32) (I : ev_I) (o : Int32), lX10_unlikeLogs_12 q0 K2 n y1 y2 I = some o → EV E mX10_unlikeLogs 12 [some (.ref q0), some (.int y1), some (.int y2)] [] (h_w σ I) (Option.some (Value.int o), h_w σ I)
  | 0, _, _, _, _, h => by cases h
  | n + 1, y1, y2, I, o, h => tX10_unlikeLogs_12 q0 g0 K2 (lX10_unlikeLogs_12 q0 K2 n) k2 (tlX10_unlikeLogs_12 q0 g0 K2 k2 n) n y1 y2 I o h
set_option maxRecDepth 100000 in
set_option maxHeartbeats 4000000 in
theorem tX10_unlikeLogs_2 {E : ev_N} {σ : ev_H} (q0 : Nat) (g0 : shp tb9 σ q0) (K2 : Int32 → ev_I → Option (Int32)) (k2 : ∀ (y1 : Int32) (I : ev_I) (o : Int32), K2 y1 I = some o → EV E mX10_unlikeLogs 2 [some (.ref q0), some (.int y1), none] [] (h_w σ I) (Option.some (Value.int o), h_w σ I)) (n : Nat) (y1 : Int32) (I : ev_I) (o : Int32) : cX10_unlikeLogs_2 q0 K2 n y1 I = some o → EV E mX10_unlikeLogs 2 [some (.ref q0), some (.int y1), none] [] (h_w σ I) (Option.some (Value.int o), h_w σ I) := by
  intro h
  unfold cX10_unlikeLogs_2 at h
  refine ev_iload_n dX10_unlikeLogs_2 rfl ?_
  refine ev_aload_n dX10_unlikeLogs_3 rfl (fun _ e => by cases e) ?_
  obtain ⟨z16, hz16, h⟩ := ev_bnE h
  refine ec_Vi (Y := mX10_nodeMany) (ci := 9) (As := []) (rest := [(.int y1)]) dX10_unlikeLogs_4 kX10_47 oX10_nodeMany ⟨Nat.le_of_ble_eq_true rfl, Nat.le_of_ble_eq_true rfl⟩ (by decide) rfl (shp_n g0 0 rfl) (shp_t g0 0 rfl) rfl (Nat.le_of_ble_eq_true rfl) (tX10_nodeMany n q0 g0  I z16 hz16) rfl ?_
  refine ev_icmp_ge (tgt := 84) dX10_unlikeLogs_7 (by decide) (fun c17 => ?_) (fun c17 => ?_)
  · have h := ev_ifT h c17
    refine ev_iconst (v := (0 : Int32)) dX10_unlikeLogs_84 (by decide) ?_
    cases h
    exact er_i dX10_unlikeLogs_85 rfl rfl
  · have h := ev_ifF h c17
    refine ev_iconst (v := (0 : Int32)) dX10_unlikeLogs_10 (by decide) ?_
    refine ew_istn (L' := [some (.ref q0), some (.int y1), some (.int (0 : Int32))]) dX10_unlikeLogs_11 (Nat.le_of_ble_eq_true rfl) rfl ?_
    exact ev_weak (sb_s (sb_s (sb_s sb_0))) (tlX10_unlikeLogs_12 q0 g0 K2 k2 n y1 (0 : Int32) I _ h)
theorem tlX10_unlikeLogs_2 {E : ev_N} {σ : ev_H} (q0 : Nat) (g0 : shp tb9 σ q0) : ∀ (n : Nat) (y1 : Int32) (I : ev_I) (o : Int32), lX10_unlikeLogs_2 q0 n y1 I = some o → EV E mX10_unlikeLogs 2 [some (.ref q0), some (.int y1), none] [] (h_w σ I) (Option.some (Value.int o), h_w σ I)
  | 0, _, _, _, h => by cases h
  | n + 1, y1, I, o, h => tX10_unlikeLogs_2 q0 g0 (lX10_unlikeLogs_2 q0 n) (tlX10_unlikeLogs_2 q0 g0 n) n y1 I o h
set_option maxRecDepth 100000 in
set_option maxHeartbeats 4000000 in
theorem tX10_unlikeLogs {E : ev_N} {σ : ev_H} (n : Nat) (q0 : Nat) (g0 : shp tb9 σ q0) (I : ev_I) (o : Int32) (h : pX10_unlikeLogs n q0  I = some o) : ev_T E mX10_unlikeLogs [.ref q0] (h_w σ I) (Option.some (Value.int o), h_w σ I) := by
  unfold pX10_unlikeLogs at h
  refine ev_met rfl rfl (Nat.le_of_ble_eq_true rfl) (ev_L0 (L' := [some (.ref q0), none, none]) rfl ?_)
  refine ev_iconst (v := (0 : Int32)) dX10_unlikeLogs_0 (by decide) ?_
  refine ew_istn (L' := [some (.ref q0), some (.int (0 : Int32)), none]) dX10_unlikeLogs_1 (Nat.le_of_ble_eq_true rfl) rfl ?_
  exact ev_weak (sb_s (sb_s (sb_n sb_0))) (tlX10_unlikeLogs_2 q0 g0 n (0 : Int32) I _ h)
-- ChainVotesModel twins()I
def cX10_twins_60 (q0 : Nat) (K4 : Int32 → Int32 → ev_I → Option (Int32)) (K14 : Int32 → Int32 → Int32 → ev_I → Option (Int32)) (n : Nat) (y1 : Int32) (y2 : Int32) (y3 : Int32) (I : ev_I) : Option (Int32) :=
  ev_lt (y3 + (1 : Int32)) fun v1 =>
  K14 y1 y2 v1 I
def cX10_twins_14 (q0 : Nat) (K4 : Int32 → Int32 → ev_I → Option (Int32)) (K14 : Int32 → Int32 → Int32 → ev_I → Option (Int32)) (n : Nat) (y1 : Int32) (y2 : Int32) (y3 : Int32) (I : ev_I) : Option (Int32) :=
  if y2 ≤ y3 then
    ev_lt (y2 + (1 : Int32)) fun v3 =>
    K4 y1 v3 I
  else
    (pX10_isCertified n q0 y2 I).bind fun z4 =>
    if z4 = 0 then
      cX10_twins_60 q0 K4 K14 n y1 y2 y3 I
    else
      (pX10_isCertified n q0 y3 I).bind fun z6 =>
      if z6 = 0 then
        cX10_twins_60 q0 K4 K14 n y1 y2 y3 I
      else
        ev_ck (ev_in ((16 : Int32) + y2) 6010) <|
        ev_ck (ev_in ((16 : Int32) + y3) 6010) <|
        if (I (q0 + 1) ((16 : Int32) + y2).toNatClampNeg) = (I (q0 + 1) ((16 : Int32) + y3).toNatClampNeg) then
          ev_lt (y1 + (1 : Int32)) fun v11 =>
          cX10_twins_60 q0 K4 K14 n v11 y2 y3 I
        else
          cX10_twins_60 q0 K4 K14 n y1 y2 y3 I
def lX10_twins_14 (q0 : Nat) (K4 : Int32 → Int32 → ev_I → Option (Int32)) : Nat → Int32 → Int32 → Int32 → ev_I → Option (Int32)
  | 0, _, _, _, _ => none
  | n + 1, y1, y2, y3, I => cX10_twins_14 q0 K4 (lX10_twins_14 q0 K4 n) n y1 y2 y3 I
def cX10_twins_4 (q0 : Nat) (K4 : Int32 → Int32 → ev_I → Option (Int32)) (n : Nat) (y1 : Int32) (y2 : Int32) (I : ev_I) : Option (Int32) :=
  (pX10_blockMany n q0  I).bind fun z12 =>
  if z12 ≤ y2 then
    some y1
  else
    lX10_twins_14 q0 K4 n y1 y2 (0 : Int32) I
def lX10_twins_4 (q0 : Nat) : Nat → Int32 → Int32 → ev_I → Option (Int32)
  | 0, _, _, _ => none
  | n + 1, y1, y2, I => cX10_twins_4 q0 (lX10_twins_4 q0 n) n y1 y2 I
def pX10_twins (n : Nat) (q0 : Nat) (I : ev_I) : Option (Int32) :=
  lX10_twins_4 q0 n (0 : Int32) (0 : Int32) I
set_option maxRecDepth 100000 in
set_option maxHeartbeats 4000000 in
theorem tX10_twins_60 {E : ev_N} {σ : ev_H} (q0 : Nat) (g0 : shp tb9 σ q0) (K4 : Int32 → Int32 → ev_I → Option (Int32)) (K14 : Int32 → Int32 → Int32 → ev_I → Option (Int32)) (k4 : ∀ (y1 : Int32) (y2 : Int32) (I : ev_I) (o : Int32), K4 y1 y2 I = some o → EV E mX10_twins 4 [some (.ref q0), some (.int y1), some (.int y2), none] [] (h_w σ I) (Option.some (Value.int o), h_w σ I)) (k14 : ∀ (y1 : Int32) (y2 : Int32) (y3 : Int32) (I : ev_I) (o : Int32), K14 y1 y2 y3 I = some o → EV E mX10_twins 14 [some (.ref q0), some (.int y1), some (.int y2), some (.int y3)] [] (h_w σ I) (Option.some (Value.int o), h_w σ I)) (n : Nat) (y1 : Int32) (y2 : Int32) (y3 : Int32) (I : ev_I) (o : Int32) : cX10_twins_60 q0 K4 K14 n y1 y2 y3 I = some o → EV E mX10_twins 60 [some (.ref q0), some (.int y1), some (.int y2), some (.int y3)] [] (h_w σ I) (Option.some (Value.int o), h_w σ I) := by
  intro h
  unfold cX10_twins_60 at h
  obtain ⟨v1, ev1, h⟩ := ev_ltE h
  refine ew_iinc (L' := [some (.ref q0), some (.int y1), some (.int y2), some (.int v1)]) dX10_twins_60 (Nat.le_of_ble_eq_true rfl) rfl (by decide) ev1 rfl ?_
  refine ev_goto (tgt := 14) dX10_twins_63 (by decide) ?_
  exact ev_weak (sb_s (sb_s (sb_s (sb_s sb_0)))) (k14 y1 y2 v1 I _ h)
set_option maxRecDepth 100000 in
set_option maxHeartbeats 4000000 in
theorem tX10_twins_14 {E : ev_N} {σ : ev_H} (q0 : Nat) (g0 : shp tb9 σ q0) (K4 : Int32 → Int32 → ev_I → Option (Int32)) (K14 : Int32 → Int32 → Int32 → ev_I → Option (Int32)) (k4 : ∀ (y1 : Int32) (y2 : Int32) (I : ev_I) (o : Int32), K4 y1 y2 I = some o → EV E mX10_twins 4 [some (.ref q0), some (.int y1), some (.int y2), none] [] (h_w σ I) (Option.some (Value.int o), h_w σ I)) (k14 : ∀ (y1 : Int32) (y2 : Int32) (y3 : Int32) (I : ev_I) (o : Int32), K14 y1 y2 y3 I = some o → EV E mX10_twins 14 [some (.ref q0), some (.int y1), some (.int y2), some (.int y3)] [] (h_w σ I) (Option.some (Value.int o), h_w σ I)) (n : Nat) (y1 : Int32) (y2 : Int32) (y3 : Int32) (I : ev_I) (o : Int32) : cX10_twins_14 q0 K4 K14 n y1 y2 y3 I = some o → EV E mX10_twins 14 [some (.ref q0), some (.int y1), some (.int y2), some (.int y3)] [] (h_w σ I) (Option.some (Value.int o), h_w σ I) := by
  intro h
  unfold cX10_twins_14 at h
  refine ev_iload_n dX10_twins_14 rfl ?_
  refine ev_iload_n dX10_twins_15 rfl ?_
  refine ev_icmp_ge (tgt := 66) dX10_twins_16 (by decide) (fun c2 => ?_) (fun c2 => ?_)
  · have h := ev_ifT h c2
    obtain ⟨v3, ev3, h⟩ := ev_ltE h
    refine ew_iinc (L' := [some (.ref q0), some (.int y1), some (.int v3), some (.int y3)]) dX10_twins_66 (Nat.le_of_ble_eq_true rfl) rfl (by decide) ev3 rfl ?_
    refine ev_goto (tgt := 4) dX10_twins_69 (by decide) ?_
    exact ev_weak (sb_s (sb_s (sb_s (sb_n sb_0)))) (k4 y1 v3 I _ h)
  · have h := ev_ifF h c2
    refine ev_aload_n dX10_twins_19 rfl (fun _ e => by cases e) ?_
    refine ev_iload_n dX10_twins_20 rfl ?_
    obtain ⟨z4, hz4, h⟩ := ev_bnE h
    refine ec_Vi (Y := mX10_isCertified) (ci := 9) (As := [.int y2]) (rest := []) dX10_twins_21 kX10_189 oX10_isCertified ⟨Nat.le_of_ble_eq_true rfl, Nat.le_of_ble_eq_true rfl⟩ (by decide) rfl (shp_n g0 0 rfl) (shp_t g0 0 rfl) rfl (Nat.le_of_ble_eq_true rfl) (tX10_isCertified n q0 g0 y2 I z4 hz4) rfl ?_
    refine ev_if_eq (tgt := 60) dX10_twins_24 (by decide) (fun c5 => ?_) (fun c5 => ?_)
    · have h := ev_ifT h c5
      exact ev_weak (sb_s (sb_s (sb_s (sb_s sb_0)))) (tX10_twins_60 q0 g0 K4 K14 k4 k14 n y1 y2 y3 I _ h)
    · have h := ev_ifF h c5
      refine ev_aload_n dX10_twins_27 rfl (fun _ e => by cases e) ?_
      refine ev_iload_n dX10_twins_28 rfl ?_
      obtain ⟨z6, hz6, h⟩ := ev_bnE h
      refine ec_Vi (Y := mX10_isCertified) (ci := 9) (As := [.int y3]) (rest := []) dX10_twins_29 kX10_189 oX10_isCertified ⟨Nat.le_of_ble_eq_true rfl, Nat.le_of_ble_eq_true rfl⟩ (by decide) rfl (shp_n g0 0 rfl) (shp_t g0 0 rfl) rfl (Nat.le_of_ble_eq_true rfl) (tX10_isCertified n q0 g0 y3 I z6 hz6) rfl ?_
      refine ev_if_eq (tgt := 60) dX10_twins_32 (by decide) (fun c7 => ?_) (fun c7 => ?_)
      · have h := ev_ifT h c7
        exact ev_weak (sb_s (sb_s (sb_s (sb_s sb_0)))) (tX10_twins_60 q0 g0 K4 K14 k4 k14 n y1 y2 y3 I _ h)
      · have h := ev_ifF h c7
        refine ev_aload_n dX10_twins_35 rfl (fun _ e => by cases e) ?_
        refine ew_getr0 dX10_twins_36 fX10_7 g0 rfl rfl rfl rfl ?_
        refine ev_bipush (v := (16 : Int32)) dX10_twins_39 (by decide) ?_
        refine ev_iload_n dX10_twins_41 rfl ?_
        refine ev_iadd dX10_twins_42 ?_
        obtain ⟨c8, h⟩ := ev_ckE h
        refine ew_iald dX10_twins_43 (shp_a g0 1 rfl) c8 ?_
        refine ev_aload_n dX10_twins_44 rfl (fun _ e => by cases e) ?_
        refine ew_getr0 dX10_twins_45 fX10_7 g0 rfl rfl rfl rfl ?_
        refine ev_bipush (v := (16 : Int32)) dX10_twins_48 (by decide) ?_
        refine ev_iload_n dX10_twins_50 rfl ?_
        refine ev_iadd dX10_twins_51 ?_
        obtain ⟨c9, h⟩ := ev_ckE h
        refine ew_iald dX10_twins_52 (shp_a g0 1 rfl) c9 ?_
        refine ev_icmp_ne (tgt := 60) dX10_twins_53 (by decide) (fun c10 => ?_) (fun c10 => ?_)
        · have h := ev_ifF h c10
          exact ev_weak (sb_s (sb_s (sb_s (sb_s sb_0)))) (tX10_twins_60 q0 g0 K4 K14 k4 k14 n y1 y2 y3 I _ h)
        · have h := ev_ifT h c10
          refine ev_iload_n dX10_twins_56 rfl ?_
          refine ev_iconst (v := (1 : Int32)) dX10_twins_57 (by decide) ?_
          refine ev_iadd dX10_twins_58 ?_
          obtain ⟨v11, ev11, h⟩ := ev_ltE h
          refine ew_nm ev11 ?_
          refine ew_istn (L' := [some (.ref q0), some (.int v11), some (.int y2), some (.int y3)]) dX10_twins_59 (Nat.le_of_ble_eq_true rfl) rfl ?_
          exact ev_weak (sb_s (sb_s (sb_s (sb_s sb_0)))) (tX10_twins_60 q0 g0 K4 K14 k4 k14 n v11 y2 y3 I _ h)
theorem tlX10_twins_14 {E : ev_N} {σ : ev_H} (q0 : Nat) (g0 : shp tb9 σ q0) (K4 : Int32 → Int32 → ev_I → Option (Int32)) (k4 : ∀ (y1 : Int32) (y2 : Int32) (I : ev_I) (o : Int32), K4 y1 y2 I = some o → EV E mX10_twins 4 [some (.ref q0), some (.int y1), some (.int y2), none] [] (h_w σ I) (Option.some (Value.int o), h_w σ I)) : ∀ (n : Nat) (y1 : Int32) (y2 : Int32) (y3 : Int32) (I : ev_I) (o : Int32), lX10_twins_14 q0 K4 n y1 y2 y3 I = some o → EV E mX10_twins 14 [some (.ref q0), some (.int y1), some (.int y2), some (.int y3)] [] (h_w σ I) (Option.some (Value.int o), h_w σ I)
  | 0, _, _, _, _, _, h => by cases h
  | n + 1, y1, y2, y3, I, o, h => tX10_twins_14 q0 g0 K4 (lX10_twins_14 q0 K4 n) k4 (tlX10_twins_14 q0 g0 K4 k4 n) n y1 y2 y3 I o h
set_option maxRecDepth 100000 in
set_option maxHeartbeats 4000000 in
theorem tX10_twins_4 {E : ev_N} {σ : ev_H} (q0 : Nat) (g0 : shp tb9 σ q0) (K4 : Int32 → Int32 → ev_I → Option (Int32)) (k4 : ∀ (y1 : Int32) (y2 : Int32) (I : ev_I) (o : Int32), K4 y1 y2 I = some o → EV E mX10_twins 4 [some (.ref q0), some (.int y1), some (.int y2), none] [] (h_w σ I) (Option.some (Value.int o), h_w σ I)) (n : Nat) (y1 : Int32) (y2 : Int32) (I : ev_I) (o : Int32) : cX10_twins_4 q0 K4 n y1 y2 I = some o → EV E mX10_twins 4 [some (.ref q0), some (.int y1), some (.int y2), none] [] (h_w σ I) (Option.some (Value.int o), h_w σ I) := by
  intro h
  unfold cX10_twins_4 at h
  refine ev_iload_n dX10_twins_4 rfl ?_
  refine ev_aload_n dX10_twins_5 rfl (fun _ e => by cases e) ?_
  obtain ⟨z12, hz12, h⟩ := ev_bnE h
  refine ec_Vi (Y := mX10_blockMany) (ci := 9) (As := []) (rest := [(.int y2)]) dX10_twins_6 kX10_51 oX10_blockMany ⟨Nat.le_of_ble_eq_true rfl, Nat.le_of_ble_eq_true rfl⟩ (by decide) rfl (shp_n g0 0 rfl) (shp_t g0 0 rfl) rfl (Nat.le_of_ble_eq_true rfl) (tX10_blockMany n q0 g0  I z12 hz12) rfl ?_
  refine ev_icmp_ge (tgt := 72) dX10_twins_9 (by decide) (fun c13 => ?_) (fun c13 => ?_)
  · have h := ev_ifT h c13
    refine ev_iload_n dX10_twins_72 rfl ?_
    cases h
    exact er_i dX10_twins_73 rfl rfl
  · have h := ev_ifF h c13
    refine ev_iconst (v := (0 : Int32)) dX10_twins_12 (by decide) ?_
    refine ew_istn (L' := [some (.ref q0), some (.int y1), some (.int y2), some (.int (0 : Int32))]) dX10_twins_13 (Nat.le_of_ble_eq_true rfl) rfl ?_
    exact ev_weak (sb_s (sb_s (sb_s (sb_s sb_0)))) (tlX10_twins_14 q0 g0 K4 k4 n y1 y2 (0 : Int32) I _ h)
theorem tlX10_twins_4 {E : ev_N} {σ : ev_H} (q0 : Nat) (g0 : shp tb9 σ q0) : ∀ (n : Nat) (y1 : Int32) (y2 : Int32) (I : ev_I) (o : Int32), lX10_twins_4 q0 n y1 y2 I = some o → EV E mX10_twins 4 [some (.ref q0), some (.int y1), some (.int y2), none] [] (h_w σ I) (Option.some (Value.int o), h_w σ I)
  | 0, _, _, _, _, h => by cases h
  | n + 1, y1, y2, I, o, h => tX10_twins_4 q0 g0 (lX10_twins_4 q0 n) (tlX10_twins_4 q0 g0 n) n y1 y2 I o h
set_option maxRecDepth 100000 in
set_option maxHeartbeats 4000000 in
theorem tX10_twins {E : ev_N} {σ : ev_H} (n : Nat) (q0 : Nat) (g0 : shp tb9 σ q0) (I : ev_I) (o : Int32) (h : pX10_twins n q0  I = some o) : ev_T E mX10_twins [.ref q0] (h_w σ I) (Option.some (Value.int o), h_w σ I) := by
  unfold pX10_twins at h
  refine ev_met rfl rfl (Nat.le_of_ble_eq_true rfl) (ev_L0 (L' := [some (.ref q0), none, none, none]) rfl ?_)
  refine ev_iconst (v := (0 : Int32)) dX10_twins_0 (by decide) ?_
  refine ew_istn (L' := [some (.ref q0), some (.int (0 : Int32)), none, none]) dX10_twins_1 (Nat.le_of_ble_eq_true rfl) rfl ?_
  refine ev_iconst (v := (0 : Int32)) dX10_twins_2 (by decide) ?_
  refine ew_istn (L' := [some (.ref q0), some (.int (0 : Int32)), some (.int (0 : Int32)), none]) dX10_twins_3 (Nat.le_of_ble_eq_true rfl) rfl ?_
  exact ev_weak (sb_s (sb_s (sb_s (sb_n sb_0)))) (tlX10_twins_4 q0 g0 n (0 : Int32) (0 : Int32) I _ h)
-- ChainVotesModel accused()I
def cX10_accused_4 (q0 : Nat) (K4 : Int32 → Int32 → ev_I → Option (Int32)) (n : Nat) (y1 : Int32) (y2 : Int32) (I : ev_I) : Option (Int32) :=
  if (I (q0 + 1) (7 : Int32).toNatClampNeg) ≤ y2 then
    (pX10_onesOf n q0 y1 I).bind fun z2 =>
    some z2
  else
    ev_ck (ev_in (((1816 : Int32) + ((5 : Int32) * y2)) + (1 : Int32)) 6010) <|
    ev_lt (y1 ||| ((1 : Int32) <<< ((I (q0 + 1) (((1816 : Int32) + ((5 : Int32) * y2)) + (1 : Int32)).toNatClampNeg) &&& 31))) fun v4 =>
    ev_lt (y2 + (1 : Int32)) fun v5 =>
    K4 v4 v5 I
def lX10_accused_4 (q0 : Nat) : Nat → Int32 → Int32 → ev_I → Option (Int32)
  | 0, _, _, _ => none
  | n + 1, y1, y2, I => cX10_accused_4 q0 (lX10_accused_4 q0 n) n y1 y2 I
def pX10_accused (n : Nat) (q0 : Nat) (I : ev_I) : Option (Int32) :=
  lX10_accused_4 q0 n (0 : Int32) (0 : Int32) I
set_option maxRecDepth 100000 in
set_option maxHeartbeats 4000000 in
theorem tX10_accused_4 {E : ev_N} {σ : ev_H} (q0 : Nat) (g0 : shp tb9 σ q0) (K4 : Int32 → Int32 → ev_I → Option (Int32)) (k4 : ∀ (y1 : Int32) (y2 : Int32) (I : ev_I) (o : Int32), K4 y1 y2 I = some o → EV E mX10_accused 4 [some (.ref q0), some (.int y1), some (.int y2)] [] (h_w σ I) (Option.some (Value.int o), h_w σ I)) (n : Nat) (y1 : Int32) (y2 : Int32) (I : ev_I) (o : Int32) : cX10_accused_4 q0 K4 n y1 y2 I = some o → EV E mX10_accused 4 [some (.ref q0), some (.int y1), some (.int y2)] [] (h_w σ I) (Option.some (Value.int o), h_w σ I) := by
  intro h
  unfold cX10_accused_4 at h
  refine ev_iload_n dX10_accused_4 rfl ?_
  refine ev_aload_n dX10_accused_5 rfl (fun _ e => by cases e) ?_
  refine ew_getr0 dX10_accused_6 fX10_7 g0 rfl rfl rfl rfl ?_
  refine ev_bipush (v := (7 : Int32)) dX10_accused_9 (by decide) ?_
  refine ew_iald dX10_accused_11 (shp_a g0 1 rfl) (by decide) ?_
  refine ev_icmp_ge (tgt := 40) dX10_accused_12 (by decide) (fun c1 => ?_) (fun c1 => ?_)
  · have h := ev_ifT h c1
    refine ev_aload_n dX10_accused_40 rfl (fun _ e => by cases e) ?_
    refine ev_iload_n dX10_accused_41 rfl ?_
    obtain ⟨z2, hz2, h⟩ := ev_bnE h
    refine ec_Vi (Y := mX10_onesOf) (ci := 9) (As := [.int y1]) (rest := []) dX10_accused_42 kX10_131 oX10_onesOf ⟨Nat.le_of_ble_eq_true rfl, Nat.le_of_ble_eq_true rfl⟩ (by decide) rfl (shp_n g0 0 rfl) (shp_t g0 0 rfl) rfl (Nat.le_of_ble_eq_true rfl) (tX10_onesOf n q0 g0 y1 I z2 hz2) rfl ?_
    cases h
    exact er_i dX10_accused_45 rfl rfl
  · have h := ev_ifF h c1
    refine ev_iload_n dX10_accused_15 rfl ?_
    refine ev_iconst (v := (1 : Int32)) dX10_accused_16 (by decide) ?_
    refine ev_aload_n dX10_accused_17 rfl (fun _ e => by cases e) ?_
    refine ew_getr0 dX10_accused_18 fX10_7 g0 rfl rfl rfl rfl ?_
    refine ev_sipush (v := (1816 : Int32)) dX10_accused_21 (by decide) ?_
    refine ev_iconst (v := (5 : Int32)) dX10_accused_24 (by decide) ?_
    refine ev_iload_n dX10_accused_25 rfl ?_
    refine ev_imul dX10_accused_26 ?_
    refine ev_iadd dX10_accused_27 ?_
    refine ev_iconst (v := (1 : Int32)) dX10_accused_28 (by decide) ?_
    refine ev_iadd dX10_accused_29 ?_
    obtain ⟨c3, h⟩ := ev_ckE h
    refine ew_iald dX10_accused_30 (shp_a g0 1 rfl) c3 ?_
    refine ev_ishl dX10_accused_31 ?_
    refine ev_ior dX10_accused_32 ?_
    obtain ⟨v4, ev4, h⟩ := ev_ltE h
    refine ew_nm ev4 ?_
    refine ew_istn (L' := [some (.ref q0), some (.int v4), some (.int y2)]) dX10_accused_33 (Nat.le_of_ble_eq_true rfl) rfl ?_
    obtain ⟨v5, ev5, h⟩ := ev_ltE h
    refine ew_iinc (L' := [some (.ref q0), some (.int v4), some (.int v5)]) dX10_accused_34 (Nat.le_of_ble_eq_true rfl) rfl (by decide) ev5 rfl ?_
    refine ev_goto (tgt := 4) dX10_accused_37 (by decide) ?_
    exact ev_weak (sb_s (sb_s (sb_s sb_0))) (k4 v4 v5 I _ h)
theorem tlX10_accused_4 {E : ev_N} {σ : ev_H} (q0 : Nat) (g0 : shp tb9 σ q0) : ∀ (n : Nat) (y1 : Int32) (y2 : Int32) (I : ev_I) (o : Int32), lX10_accused_4 q0 n y1 y2 I = some o → EV E mX10_accused 4 [some (.ref q0), some (.int y1), some (.int y2)] [] (h_w σ I) (Option.some (Value.int o), h_w σ I)
  | 0, _, _, _, _, h => by cases h
  | n + 1, y1, y2, I, o, h => tX10_accused_4 q0 g0 (lX10_accused_4 q0 n) (tlX10_accused_4 q0 g0 n) n y1 y2 I o h
set_option maxRecDepth 100000 in
set_option maxHeartbeats 4000000 in
theorem tX10_accused {E : ev_N} {σ : ev_H} (n : Nat) (q0 : Nat) (g0 : shp tb9 σ q0) (I : ev_I) (o : Int32) (h : pX10_accused n q0  I = some o) : ev_T E mX10_accused [.ref q0] (h_w σ I) (Option.some (Value.int o), h_w σ I) := by
  unfold pX10_accused at h
  refine ev_met rfl rfl (Nat.le_of_ble_eq_true rfl) (ev_L0 (L' := [some (.ref q0), none, none]) rfl ?_)
  refine ev_iconst (v := (0 : Int32)) dX10_accused_0 (by decide) ?_
  refine ew_istn (L' := [some (.ref q0), some (.int (0 : Int32)), none]) dX10_accused_1 (Nat.le_of_ble_eq_true rfl) rfl ?_
  refine ev_iconst (v := (0 : Int32)) dX10_accused_2 (by decide) ?_
  refine ew_istn (L' := [some (.ref q0), some (.int (0 : Int32)), some (.int (0 : Int32))]) dX10_accused_3 (Nat.le_of_ble_eq_true rfl) rfl ?_
  exact ev_weak (sb_s (sb_s (sb_s sb_0))) (tlX10_accused_4 q0 g0 n (0 : Int32) (0 : Int32) I _ h)
-- ChainVotesModel inCommon()I
def cX10_inCommon_52 (q0 : Nat) (K4 : Int32 → Int32 → ev_I → Option (Int32)) (n : Nat) (y1 : Int32) (y2 : Int32) (I : ev_I) : Option (Int32) :=
  ev_lt (y2 + (1 : Int32)) fun v1 =>
  K4 y1 v1 I
def cX10_inCommon_34 (q0 : Nat) (K4 : Int32 → Int32 → ev_I → Option (Int32)) (K34 : Int32 → Int32 → ev_I → Option (Int32)) (n : Nat) (y1 : Int32) (y2 : Int32) (I : ev_I) : Option (Int32) :=
  (pX10_isInLog n q0 y2 y1 I).bind fun z2 =>
  if z2 = 0 then
    (pX10_parentOf n q0 y1 I).bind fun z4 =>
    K34 z4 y2 I
  else
    cX10_inCommon_52 q0 K4 n y1 y2 I
def lX10_inCommon_34 (q0 : Nat) (K4 : Int32 → Int32 → ev_I → Option (Int32)) : Nat → Int32 → Int32 → ev_I → Option (Int32)
  | 0, _, _, _ => none
  | n + 1, y1, y2, I => cX10_inCommon_34 q0 K4 (lX10_inCommon_34 q0 K4 n) n y1 y2 I
def cX10_inCommon_4 (q0 : Nat) (K4 : Int32 → Int32 → ev_I → Option (Int32)) (n : Nat) (y1 : Int32) (y2 : Int32) (I : ev_I) : Option (Int32) :=
  (pX10_nodeMany n q0  I).bind fun z5 =>
  if z5 ≤ y2 then
    if y1 = (-1 : Int32) then
      some (0 : Int32)
    else
      ev_ck (ev_in ((516 : Int32) + y1) 6010) <|
      some ((I (q0 + 1) ((516 : Int32) + y1).toNatClampNeg) + (1 : Int32))
  else
    (pX10_isSilent n q0 y2 I).bind fun z9 =>
    if z9 = 0 then
      if y1 = (-1 : Int32) then
        (pX10_logLast n q0 y2 I).bind fun z12 =>
        lX10_inCommon_34 q0 K4 n z12 y2 I
      else
        lX10_inCommon_34 q0 K4 n y1 y2 I
    else
      cX10_inCommon_52 q0 K4 n y1 y2 I
def lX10_inCommon_4 (q0 : Nat) : Nat → Int32 → Int32 → ev_I → Option (Int32)
  | 0, _, _, _ => none
  | n + 1, y1, y2, I => cX10_inCommon_4 q0 (lX10_inCommon_4 q0 n) n y1 y2 I
def pX10_inCommon (n : Nat) (q0 : Nat) (I : ev_I) : Option (Int32) :=
  lX10_inCommon_4 q0 n (-1 : Int32) (0 : Int32) I
set_option maxRecDepth 100000 in
set_option maxHeartbeats 4000000 in
theorem tX10_inCommon_52 {E : ev_N} {σ : ev_H} (q0 : Nat) (g0 : shp tb9 σ q0) (K4 : Int32 → Int32 → ev_I → Option (Int32)) (k4 : ∀ (y1 : Int32) (y2 : Int32) (I : ev_I) (o : Int32), K4 y1 y2 I = some o → EV E mX10_inCommon 4 [some (.ref q0), some (.int y1), some (.int y2)] [] (h_w σ I) (Option.some (Value.int o), h_w σ I)) (n : Nat) (y1 : Int32) (y2 : Int32) (I : ev_I) (o : Int32) : cX10_inCommon_52 q0 K4 n y1 y2 I = some o → EV E mX10_inCommon 52 [some (.ref q0), some (.int y1), some (.int y2)] [] (h_w σ I) (Option.some (Value.int o), h_w σ I) := by
  intro h
  unfold cX10_inCommon_52 at h
  obtain ⟨v1, ev1, h⟩ := ev_ltE h
  refine ew_iinc (L' := [some (.ref q0), some (.int y1), some (.int v1)]) dX10_inCommon_52 (Nat.le_of_ble_eq_true rfl) rfl (by decide) ev1 rfl ?_
  refine ev_goto (tgt := 4) dX10_inCommon_55 (by decide) ?_
  exact ev_weak (sb_s (sb_s (sb_s sb_0))) (k4 y1 v1 I _ h)
set_option maxRecDepth 100000 in
set_option maxHeartbeats 4000000 in
theorem tX10_inCommon_34 {E : ev_N} {σ : ev_H} (q0 : Nat) (g0 : shp tb9 σ q0) (K4 : Int32 → Int32 → ev_I → Option (Int32)) (K34 : Int32 → Int32 → ev_I → Option (Int32)) (k4 : ∀ (y1 : Int32) (y2 : Int32) (I : ev_I) (o : Int32), K4 y1 y2 I = some o → EV E mX10_inCommon 4 [some (.ref q0), some (.int y1), some (.int y2)] [] (h_w σ I) (Option.some (Value.int o), h_w σ I)) (k34 : ∀ (y1 : Int32) (y2 : Int32) (I : ev_I) (o : Int32), K34 y1 y2 I = some o → EV E mX10_inCommon 34 [some (.ref q0), some (.int y1), some (.int y2)] [] (h_w σ I) (Option.some (Value.int o), h_w σ I)) (n : Nat) (y1 : Int32) (y2 : Int32) (I : ev_I) (o : Int32) : cX10_inCommon_34 q0 K4 K34 n y1 y2 I = some o → EV E mX10_inCommon 34 [some (.ref q0), some (.int y1), some (.int y2)] [] (h_w σ I) (Option.some (Value.int o), h_w σ I) := by
  intro h
  unfold cX10_inCommon_34 at h
  refine ev_aload_n dX10_inCommon_34 rfl (fun _ e => by cases e) ?_
  refine ev_iload_n dX10_inCommon_35 rfl ?_
  refine ev_iload_n dX10_inCommon_36 rfl ?_
  obtain ⟨z2, hz2, h⟩ := ev_bnE h
  refine ec_Vi (Y := mX10_isInLog) (ci := 9) (As := [.int y2, .int y1]) (rest := []) dX10_inCommon_37 kX10_238 oX10_isInLog ⟨Nat.le_of_ble_eq_true rfl, Nat.le_of_ble_eq_true rfl⟩ (by decide) rfl (shp_n g0 0 rfl) (shp_t g0 0 rfl) rfl (Nat.le_of_ble_eq_true rfl) (tX10_isInLog n q0 g0 y2 y1 I z2 hz2) rfl ?_
  refine ev_if_ne (tgt := 52) dX10_inCommon_40 (by decide) (fun c3 => ?_) (fun c3 => ?_)
  · have h := ev_ifF h c3
    exact ev_weak (sb_s (sb_s (sb_s sb_0))) (tX10_inCommon_52 q0 g0 K4 k4 n y1 y2 I _ h)
  · have h := ev_ifT h c3
    refine ev_aload_n dX10_inCommon_43 rfl (fun _ e => by cases e) ?_
    refine ev_iload_n dX10_inCommon_44 rfl ?_
    obtain ⟨z4, hz4, h⟩ := ev_bnE h
    refine ec_Vi (Y := mX10_parentOf) (ci := 9) (As := [.int y1]) (rest := []) dX10_inCommon_45 kX10_58 oX10_parentOf ⟨Nat.le_of_ble_eq_true rfl, Nat.le_of_ble_eq_true rfl⟩ (by decide) rfl (shp_n g0 0 rfl) (shp_t g0 0 rfl) rfl (Nat.le_of_ble_eq_true rfl) (tX10_parentOf n q0 g0 y1 I z4 hz4) rfl ?_
    refine ew_istn (L' := [some (.ref q0), some (.int z4), some (.int y2)]) dX10_inCommon_48 (Nat.le_of_ble_eq_true rfl) rfl ?_
    refine ev_goto (tgt := 34) dX10_inCommon_49 (by decide) ?_
    exact ev_weak (sb_s (sb_s (sb_s sb_0))) (k34 z4 y2 I _ h)
theorem tlX10_inCommon_34 {E : ev_N} {σ : ev_H} (q0 : Nat) (g0 : shp tb9 σ q0) (K4 : Int32 → Int32 → ev_I → Option (Int32)) (k4 : ∀ (y1 : Int32) (y2 : Int32) (I : ev_I) (o : Int32), K4 y1 y2 I = some o → EV E mX10_inCommon 4 [some (.ref q0), some (.int y1), some (.int y2)] [] (h_w σ I) (Option.some (Value.int o), h_w σ I)) : ∀ (n : Nat) (y1 : Int32) (y2 : Int32) (I : ev_I) (o : Int32), lX10_inCommon_34 q0 K4 n y1 y2 I = some o → EV E mX10_inCommon 34 [some (.ref q0), some (.int y1), some (.int y2)] [] (h_w σ I) (Option.some (Value.int o), h_w σ I)
  | 0, _, _, _, _, h => by cases h
  | n + 1, y1, y2, I, o, h => tX10_inCommon_34 q0 g0 K4 (lX10_inCommon_34 q0 K4 n) k4 (tlX10_inCommon_34 q0 g0 K4 k4 n) n y1 y2 I o h
set_option maxRecDepth 100000 in
set_option maxHeartbeats 4000000 in
theorem tX10_inCommon_4 {E : ev_N} {σ : ev_H} (q0 : Nat) (g0 : shp tb9 σ q0) (K4 : Int32 → Int32 → ev_I → Option (Int32)) (k4 : ∀ (y1 : Int32) (y2 : Int32) (I : ev_I) (o : Int32), K4 y1 y2 I = some o → EV E mX10_inCommon 4 [some (.ref q0), some (.int y1), some (.int y2)] [] (h_w σ I) (Option.some (Value.int o), h_w σ I)) (n : Nat) (y1 : Int32) (y2 : Int32) (I : ev_I) (o : Int32) : cX10_inCommon_4 q0 K4 n y1 y2 I = some o → EV E mX10_inCommon 4 [some (.ref q0), some (.int y1), some (.int y2)] [] (h_w σ I) (Option.some (Value.int o), h_w σ I) := by
  intro h
  unfold cX10_inCommon_4 at h
  refine ev_iload_n dX10_inCommon_4 rfl ?_
  refine ev_aload_n dX10_inCommon_5 rfl (fun _ e => by cases e) ?_
  obtain ⟨z5, hz5, h⟩ := ev_bnE h
  refine ec_Vi (Y := mX10_nodeMany) (ci := 9) (As := []) (rest := [(.int y2)]) dX10_inCommon_6 kX10_47 oX10_nodeMany ⟨Nat.le_of_ble_eq_true rfl, Nat.le_of_ble_eq_true rfl⟩ (by decide) rfl (shp_n g0 0 rfl) (shp_t g0 0 rfl) rfl (Nat.le_of_ble_eq_true rfl) (tX10_nodeMany n q0 g0  I z5 hz5) rfl ?_
  refine ev_icmp_ge (tgt := 58) dX10_inCommon_9 (by decide) (fun c6 => ?_) (fun c6 => ?_)
  · have h := ev_ifT h c6
    refine ev_iload_n dX10_inCommon_58 rfl ?_
    refine ev_iconst (v := (-1 : Int32)) dX10_inCommon_59 (by decide) ?_
    refine ev_icmp_ne (tgt := 67) dX10_inCommon_60 (by decide) (fun c7 => ?_) (fun c7 => ?_)
    · have h := ev_ifF h c7
      refine ev_aload_n dX10_inCommon_67 rfl (fun _ e => by cases e) ?_
      refine ew_getr0 dX10_inCommon_68 fX10_7 g0 rfl rfl rfl rfl ?_
      refine ev_sipush (v := (516 : Int32)) dX10_inCommon_71 (by decide) ?_
      refine ev_iload_n dX10_inCommon_74 rfl ?_
      refine ev_iadd dX10_inCommon_75 ?_
      obtain ⟨c8, h⟩ := ev_ckE h
      refine ew_iald dX10_inCommon_76 (shp_a g0 1 rfl) c8 ?_
      refine ev_iconst (v := (1 : Int32)) dX10_inCommon_77 (by decide) ?_
      refine ev_iadd dX10_inCommon_78 ?_
      cases h
      exact er_i dX10_inCommon_79 rfl rfl
    · have h := ev_ifT h c7
      refine ev_iconst (v := (0 : Int32)) dX10_inCommon_63 (by decide) ?_
      refine ev_goto (tgt := 79) dX10_inCommon_64 (by decide) ?_
      cases h
      exact er_i dX10_inCommon_79 rfl rfl
  · have h := ev_ifF h c6
    refine ev_aload_n dX10_inCommon_12 rfl (fun _ e => by cases e) ?_
    refine ev_iload_n dX10_inCommon_13 rfl ?_
    obtain ⟨z9, hz9, h⟩ := ev_bnE h
    refine ec_Vi (Y := mX10_isSilent) (ci := 9) (As := [.int y2]) (rest := []) dX10_inCommon_14 kX10_140 oX10_isSilent ⟨Nat.le_of_ble_eq_true rfl, Nat.le_of_ble_eq_true rfl⟩ (by decide) rfl (shp_n g0 0 rfl) (shp_t g0 0 rfl) rfl (Nat.le_of_ble_eq_true rfl) (tX10_isSilent n q0 g0 y2 I z9 hz9) rfl ?_
    refine ev_if_eq (tgt := 23) dX10_inCommon_17 (by decide) (fun c10 => ?_) (fun c10 => ?_)
    · have h := ev_ifT h c10
      refine ev_iload_n dX10_inCommon_23 rfl ?_
      refine ev_iconst (v := (-1 : Int32)) dX10_inCommon_24 (by decide) ?_
      refine ev_icmp_ne (tgt := 34) dX10_inCommon_25 (by decide) (fun c11 => ?_) (fun c11 => ?_)
      · have h := ev_ifF h c11
        exact ev_weak (sb_s (sb_s (sb_s sb_0))) (tlX10_inCommon_34 q0 g0 K4 k4 n y1 y2 I _ h)
      · have h := ev_ifT h c11
        refine ev_aload_n dX10_inCommon_28 rfl (fun _ e => by cases e) ?_
        refine ev_iload_n dX10_inCommon_29 rfl ?_
        obtain ⟨z12, hz12, h⟩ := ev_bnE h
        refine ec_Vi (Y := mX10_logLast) (ci := 9) (As := [.int y2]) (rest := []) dX10_inCommon_30 kX10_90 oX10_logLast ⟨Nat.le_of_ble_eq_true rfl, Nat.le_of_ble_eq_true rfl⟩ (by decide) rfl (shp_n g0 0 rfl) (shp_t g0 0 rfl) rfl (Nat.le_of_ble_eq_true rfl) (tX10_logLast n q0 g0 y2 I z12 hz12) rfl ?_
        refine ew_istn (L' := [some (.ref q0), some (.int z12), some (.int y2)]) dX10_inCommon_33 (Nat.le_of_ble_eq_true rfl) rfl ?_
        exact ev_weak (sb_s (sb_s (sb_s sb_0))) (tlX10_inCommon_34 q0 g0 K4 k4 n z12 y2 I _ h)
    · have h := ev_ifF h c10
      refine ev_goto (tgt := 52) dX10_inCommon_20 (by decide) ?_
      exact ev_weak (sb_s (sb_s (sb_s sb_0))) (tX10_inCommon_52 q0 g0 K4 k4 n y1 y2 I _ h)
theorem tlX10_inCommon_4 {E : ev_N} {σ : ev_H} (q0 : Nat) (g0 : shp tb9 σ q0) : ∀ (n : Nat) (y1 : Int32) (y2 : Int32) (I : ev_I) (o : Int32), lX10_inCommon_4 q0 n y1 y2 I = some o → EV E mX10_inCommon 4 [some (.ref q0), some (.int y1), some (.int y2)] [] (h_w σ I) (Option.some (Value.int o), h_w σ I)
  | 0, _, _, _, _, h => by cases h
  | n + 1, y1, y2, I, o, h => tX10_inCommon_4 q0 g0 (lX10_inCommon_4 q0 n) (tlX10_inCommon_4 q0 g0 n) n y1 y2 I o h
set_option maxRecDepth 100000 in
set_option maxHeartbeats 4000000 in
theorem tX10_inCommon {E : ev_N} {σ : ev_H} (n : Nat) (q0 : Nat) (g0 : shp tb9 σ q0) (I : ev_I) (o : Int32) (h : pX10_inCommon n q0  I = some o) : ev_T E mX10_inCommon [.ref q0] (h_w σ I) (Option.some (Value.int o), h_w σ I) := by
  unfold pX10_inCommon at h
  refine ev_met rfl rfl (Nat.le_of_ble_eq_true rfl) (ev_L0 (L' := [some (.ref q0), none, none]) rfl ?_)
  refine ev_iconst (v := (-1 : Int32)) dX10_inCommon_0 (by decide) ?_
  refine ew_istn (L' := [some (.ref q0), some (.int (-1 : Int32)), none]) dX10_inCommon_1 (Nat.le_of_ble_eq_true rfl) rfl ?_
  refine ev_iconst (v := (0 : Int32)) dX10_inCommon_2 (by decide) ?_
  refine ew_istn (L' := [some (.ref q0), some (.int (-1 : Int32)), some (.int (0 : Int32))]) dX10_inCommon_3 (Nat.le_of_ble_eq_true rfl) rfl ?_
  exact ev_weak (sb_s (sb_s (sb_s sb_0))) (tlX10_inCommon_4 q0 g0 n (-1 : Int32) (0 : Int32) I _ h)
-- ChainVotesModel longest()I
def cX10_longest_4 (q0 : Nat) (K4 : Int32 → Int32 → ev_I → Option (Int32)) (n : Nat) (y1 : Int32) (y2 : Int32) (I : ev_I) : Option (Int32) :=
  (pX10_nodeMany n q0  I).bind fun z1 =>
  if z1 ≤ y2 then
    some y1
  else
    (pX10_logMany n q0 y2 I).bind fun z3 =>
    (pX10_greater n q0 y1 z3 I).bind fun z4 =>
    ev_lt (y2 + (1 : Int32)) fun v5 =>
    K4 z4 v5 I
def lX10_longest_4 (q0 : Nat) : Nat → Int32 → Int32 → ev_I → Option (Int32)
  | 0, _, _, _ => none
  | n + 1, y1, y2, I => cX10_longest_4 q0 (lX10_longest_4 q0 n) n y1 y2 I
def pX10_longest (n : Nat) (q0 : Nat) (I : ev_I) : Option (Int32) :=
  lX10_longest_4 q0 n (0 : Int32) (0 : Int32) I
set_option maxRecDepth 100000 in
set_option maxHeartbeats 4000000 in
theorem tX10_longest_4 {E : ev_N} {σ : ev_H} (q0 : Nat) (g0 : shp tb9 σ q0) (K4 : Int32 → Int32 → ev_I → Option (Int32)) (k4 : ∀ (y1 : Int32) (y2 : Int32) (I : ev_I) (o : Int32), K4 y1 y2 I = some o → EV E mX10_longest 4 [some (.ref q0), some (.int y1), some (.int y2)] [] (h_w σ I) (Option.some (Value.int o), h_w σ I)) (n : Nat) (y1 : Int32) (y2 : Int32) (I : ev_I) (o : Int32) : cX10_longest_4 q0 K4 n y1 y2 I = some o → EV E mX10_longest 4 [some (.ref q0), some (.int y1), some (.int y2)] [] (h_w σ I) (Option.some (Value.int o), h_w σ I) := by
  intro h
  unfold cX10_longest_4 at h
  refine ev_iload_n dX10_longest_4 rfl ?_
  refine ev_aload_n dX10_longest_5 rfl (fun _ e => by cases e) ?_
  obtain ⟨z1, hz1, h⟩ := ev_bnE h
  refine ec_Vi (Y := mX10_nodeMany) (ci := 9) (As := []) (rest := [(.int y2)]) dX10_longest_6 kX10_47 oX10_nodeMany ⟨Nat.le_of_ble_eq_true rfl, Nat.le_of_ble_eq_true rfl⟩ (by decide) rfl (shp_n g0 0 rfl) (shp_t g0 0 rfl) rfl (Nat.le_of_ble_eq_true rfl) (tX10_nodeMany n q0 g0  I z1 hz1) rfl ?_
  refine ev_icmp_ge (tgt := 29) dX10_longest_9 (by decide) (fun c2 => ?_) (fun c2 => ?_)
  · have h := ev_ifT h c2
    refine ev_iload_n dX10_longest_29 rfl ?_
    cases h
    exact er_i dX10_longest_30 rfl rfl
  · have h := ev_ifF h c2
    refine ev_aload_n dX10_longest_12 rfl (fun _ e => by cases e) ?_
    refine ev_iload_n dX10_longest_13 rfl ?_
    refine ev_aload_n dX10_longest_14 rfl (fun _ e => by cases e) ?_
    refine ev_iload_n dX10_longest_15 rfl ?_
    obtain ⟨z3, hz3, h⟩ := ev_bnE h
    refine ec_Vi (Y := mX10_logMany) (ci := 9) (As := [.int y2]) (rest := [(.int y1), (.ref q0)]) dX10_longest_16 kX10_202 oX10_logMany ⟨Nat.le_of_ble_eq_true rfl, Nat.le_of_ble_eq_true rfl⟩ (by decide) rfl (shp_n g0 0 rfl) (shp_t g0 0 rfl) rfl (Nat.le_of_ble_eq_true rfl) (tX10_logMany n q0 g0 y2 I z3 hz3) rfl ?_
    obtain ⟨z4, hz4, h⟩ := ev_bnE h
    refine ec_Vi (Y := mX10_greater) (ci := 9) (As := [.int y1, .int z3]) (rest := []) dX10_longest_19 kX10_180 oX10_greater ⟨Nat.le_of_ble_eq_true rfl, Nat.le_of_ble_eq_true rfl⟩ (by decide) rfl (shp_n g0 0 rfl) (shp_t g0 0 rfl) rfl (Nat.le_of_ble_eq_true rfl) (tX10_greater n q0 g0 y1 z3 I z4 hz4) rfl ?_
    refine ew_istn (L' := [some (.ref q0), some (.int z4), some (.int y2)]) dX10_longest_22 (Nat.le_of_ble_eq_true rfl) rfl ?_
    obtain ⟨v5, ev5, h⟩ := ev_ltE h
    refine ew_iinc (L' := [some (.ref q0), some (.int z4), some (.int v5)]) dX10_longest_23 (Nat.le_of_ble_eq_true rfl) rfl (by decide) ev5 rfl ?_
    refine ev_goto (tgt := 4) dX10_longest_26 (by decide) ?_
    exact ev_weak (sb_s (sb_s (sb_s sb_0))) (k4 z4 v5 I _ h)
theorem tlX10_longest_4 {E : ev_N} {σ : ev_H} (q0 : Nat) (g0 : shp tb9 σ q0) : ∀ (n : Nat) (y1 : Int32) (y2 : Int32) (I : ev_I) (o : Int32), lX10_longest_4 q0 n y1 y2 I = some o → EV E mX10_longest 4 [some (.ref q0), some (.int y1), some (.int y2)] [] (h_w σ I) (Option.some (Value.int o), h_w σ I)
  | 0, _, _, _, _, h => by cases h
  | n + 1, y1, y2, I, o, h => tX10_longest_4 q0 g0 (lX10_longest_4 q0 n) (tlX10_longest_4 q0 g0 n) n y1 y2 I o h
set_option maxRecDepth 100000 in
set_option maxHeartbeats 4000000 in
theorem tX10_longest {E : ev_N} {σ : ev_H} (n : Nat) (q0 : Nat) (g0 : shp tb9 σ q0) (I : ev_I) (o : Int32) (h : pX10_longest n q0  I = some o) : ev_T E mX10_longest [.ref q0] (h_w σ I) (Option.some (Value.int o), h_w σ I) := by
  unfold pX10_longest at h
  refine ev_met rfl rfl (Nat.le_of_ble_eq_true rfl) (ev_L0 (L' := [some (.ref q0), none, none]) rfl ?_)
  refine ev_iconst (v := (0 : Int32)) dX10_longest_0 (by decide) ?_
  refine ew_istn (L' := [some (.ref q0), some (.int (0 : Int32)), none]) dX10_longest_1 (Nat.le_of_ble_eq_true rfl) rfl ?_
  refine ev_iconst (v := (0 : Int32)) dX10_longest_2 (by decide) ?_
  refine ew_istn (L' := [some (.ref q0), some (.int (0 : Int32)), some (.int (0 : Int32))]) dX10_longest_3 (Nat.le_of_ble_eq_true rfl) rfl ?_
  exact ev_weak (sb_s (sb_s (sb_s sb_0))) (tlX10_longest_4 q0 g0 n (0 : Int32) (0 : Int32) I _ h)
-- ChainVotesModel strays()I
def cX10_strays_66 (q0 : Nat) (K4 : Int32 → Int32 → ev_I → Option (Int32)) (K17 : Int32 → Int32 → Int32 → Int32 → ev_I → Option (Int32)) (n : Nat) (y1 : Int32) (y2 : Int32) (I : ev_I) : Option (Int32) :=
  ev_lt (y2 + (1 : Int32)) fun v1 =>
  K4 y1 v1 I
def cX10_strays_52 (q0 : Nat) (K4 : Int32 → Int32 → ev_I → Option (Int32)) (K17 : Int32 → Int32 → Int32 → Int32 → ev_I → Option (Int32)) (n : Nat) (y1 : Int32) (y2 : Int32) (y3 : Int32) (y4 : Int32) (I : ev_I) : Option (Int32) :=
  ev_lt (y4 + (1 : Int32)) fun v2 =>
  K17 y1 y2 y3 v2 I
def cX10_strays_50 (q0 : Nat) (K4 : Int32 → Int32 → ev_I → Option (Int32)) (K17 : Int32 → Int32 → Int32 → Int32 → ev_I → Option (Int32)) (n : Nat) (y1 : Int32) (y2 : Int32) (y4 : Int32) (I : ev_I) : Option (Int32) :=
  cX10_strays_52 q0 K4 K17 n y1 y2 (0 : Int32) y4 I
def cX10_strays_17 (q0 : Nat) (K4 : Int32 → Int32 → ev_I → Option (Int32)) (K17 : Int32 → Int32 → Int32 → Int32 → ev_I → Option (Int32)) (n : Nat) (y1 : Int32) (y2 : Int32) (y3 : Int32) (y4 : Int32) (I : ev_I) : Option (Int32) :=
  (pX10_nodeMany n q0  I).bind fun z3 =>
  if z3 ≤ y4 then
    if y3 = 0 then
      cX10_strays_66 q0 K4 K17 n y1 y2 I
    else
      ev_lt (y1 + (1 : Int32)) fun v6 =>
      cX10_strays_66 q0 K4 K17 n v6 y2 I
  else
    (pX10_isInLog n q0 y4 y2 I).bind fun z7 =>
    if z7 = 0 then
      (pX10_logLast n q0 y4 I).bind fun z9 =>
      (pX10_doesExtend n q0 y2 z9 I).bind fun z10 =>
      if z10 = 0 then
        cX10_strays_52 q0 K4 K17 n y1 y2 y3 y4 I
      else
        cX10_strays_50 q0 K4 K17 n y1 y2 y4 I
    else
      cX10_strays_50 q0 K4 K17 n y1 y2 y4 I
def lX10_strays_17 (q0 : Nat) (K4 : Int32 → Int32 → ev_I → Option (Int32)) : Nat → Int32 → Int32 → Int32 → Int32 → ev_I → Option (Int32)
  | 0, _, _, _, _, _ => none
  | n + 1, y1, y2, y3, y4, I => cX10_strays_17 q0 K4 (lX10_strays_17 q0 K4 n) n y1 y2 y3 y4 I
def cX10_strays_4 (q0 : Nat) (K4 : Int32 → Int32 → ev_I → Option (Int32)) (n : Nat) (y1 : Int32) (y2 : Int32) (I : ev_I) : Option (Int32) :=
  (pX10_blockMany n q0  I).bind fun z12 =>
  if z12 ≤ y2 then
    some y1
  else
    lX10_strays_17 q0 K4 n y1 y2 (1 : Int32) (0 : Int32) I
def lX10_strays_4 (q0 : Nat) : Nat → Int32 → Int32 → ev_I → Option (Int32)
  | 0, _, _, _ => none
  | n + 1, y1, y2, I => cX10_strays_4 q0 (lX10_strays_4 q0 n) n y1 y2 I
def pX10_strays (n : Nat) (q0 : Nat) (I : ev_I) : Option (Int32) :=
  lX10_strays_4 q0 n (0 : Int32) (0 : Int32) I
set_option maxRecDepth 100000 in
set_option maxHeartbeats 4000000 in
theorem tX10_strays_66 {E : ev_N} {σ : ev_H} (q0 : Nat) (g0 : shp tb9 σ q0) (K4 : Int32 → Int32 → ev_I → Option (Int32)) (K17 : Int32 → Int32 → Int32 → Int32 → ev_I → Option (Int32)) (k4 : ∀ (y1 : Int32) (y2 : Int32) (I : ev_I) (o : Int32), K4 y1 y2 I = some o → EV E mX10_strays 4 [some (.ref q0), some (.int y1), some (.int y2), none, none] [] (h_w σ I) (Option.some (Value.int o), h_w σ I)) (k17 : ∀ (y1 : Int32) (y2 : Int32) (y3 : Int32) (y4 : Int32) (I : ev_I) (o : Int32), K17 y1 y2 y3 y4 I = some o → EV E mX10_strays 17 [some (.ref q0), some (.int y1), some (.int y2), some (.int y3), some (.int y4)] [] (h_w σ I) (Option.some (Value.int o), h_w σ I)) (n : Nat) (y1 : Int32) (y2 : Int32) (I : ev_I) (o : Int32) : cX10_strays_66 q0 K4 K17 n y1 y2 I = some o → EV E mX10_strays 66 [some (.ref q0), some (.int y1), some (.int y2), none, none] [] (h_w σ I) (Option.some (Value.int o), h_w σ I) := by
  intro h
  unfold cX10_strays_66 at h
  obtain ⟨v1, ev1, h⟩ := ev_ltE h
  refine ew_iinc (L' := [some (.ref q0), some (.int y1), some (.int v1), none, none]) dX10_strays_66 (Nat.le_of_ble_eq_true rfl) rfl (by decide) ev1 rfl ?_
  refine ev_goto (tgt := 4) dX10_strays_69 (by decide) ?_
  exact ev_weak (sb_s (sb_s (sb_s (sb_n (sb_n sb_0))))) (k4 y1 v1 I _ h)
set_option maxRecDepth 100000 in
set_option maxHeartbeats 4000000 in
theorem tX10_strays_52 {E : ev_N} {σ : ev_H} (q0 : Nat) (g0 : shp tb9 σ q0) (K4 : Int32 → Int32 → ev_I → Option (Int32)) (K17 : Int32 → Int32 → Int32 → Int32 → ev_I → Option (Int32)) (k4 : ∀ (y1 : Int32) (y2 : Int32) (I : ev_I) (o : Int32), K4 y1 y2 I = some o → EV E mX10_strays 4 [some (.ref q0), some (.int y1), some (.int y2), none, none] [] (h_w σ I) (Option.some (Value.int o), h_w σ I)) (k17 : ∀ (y1 : Int32) (y2 : Int32) (y3 : Int32) (y4 : Int32) (I : ev_I) (o : Int32), K17 y1 y2 y3 y4 I = some o → EV E mX10_strays 17 [some (.ref q0), some (.int y1), some (.int y2), some (.int y3), some (.int y4)] [] (h_w σ I) (Option.some (Value.int o), h_w σ I)) (n : Nat) (y1 : Int32) (y2 : Int32) (y3 : Int32) (y4 : Int32) (I : ev_I) (o : Int32) : cX10_strays_52 q0 K4 K17 n y1 y2 y3 y4 I = some o → EV E mX10_strays 52 [some (.ref q0), some (.int y1), some (.int y2), some (.int y3), some (.int y4)] [] (h_w σ I) (Option.some (Value.int o), h_w σ I) := by
  intro h
  unfold cX10_strays_52 at h
  obtain ⟨v2, ev2, h⟩ := ev_ltE h
  refine ew_iinc (L' := [some (.ref q0), some (.int y1), some (.int y2), some (.int y3), some (.int v2)]) dX10_strays_52 (Nat.le_of_ble_eq_true rfl) rfl (by decide) ev2 rfl ?_
  refine ev_goto (tgt := 17) dX10_strays_55 (by decide) ?_
  exact ev_weak (sb_s (sb_s (sb_s (sb_s (sb_s sb_0))))) (k17 y1 y2 y3 v2 I _ h)
set_option maxRecDepth 100000 in
set_option maxHeartbeats 4000000 in
theorem tX10_strays_50 {E : ev_N} {σ : ev_H} (q0 : Nat) (g0 : shp tb9 σ q0) (K4 : Int32 → Int32 → ev_I → Option (Int32)) (K17 : Int32 → Int32 → Int32 → Int32 → ev_I → Option (Int32)) (k4 : ∀ (y1 : Int32) (y2 : Int32) (I : ev_I) (o : Int32), K4 y1 y2 I = some o → EV E mX10_strays 4 [some (.ref q0), some (.int y1), some (.int y2), none, none] [] (h_w σ I) (Option.some (Value.int o), h_w σ I)) (k17 : ∀ (y1 : Int32) (y2 : Int32) (y3 : Int32) (y4 : Int32) (I : ev_I) (o : Int32), K17 y1 y2 y3 y4 I = some o → EV E mX10_strays 17 [some (.ref q0), some (.int y1), some (.int y2), some (.int y3), some (.int y4)] [] (h_w σ I) (Option.some (Value.int o), h_w σ I)) (n : Nat) (y1 : Int32) (y2 : Int32) (y4 : Int32) (I : ev_I) (o : Int32) : cX10_strays_50 q0 K4 K17 n y1 y2 y4 I = some o → EV E mX10_strays 50 [some (.ref q0), some (.int y1), some (.int y2), none, some (.int y4)] [] (h_w σ I) (Option.some (Value.int o), h_w σ I) := by
  intro h
  unfold cX10_strays_50 at h
  refine ev_iconst (v := (0 : Int32)) dX10_strays_50 (by decide) ?_
  refine ew_istn (L' := [some (.ref q0), some (.int y1), some (.int y2), some (.int (0 : Int32)), some (.int y4)]) dX10_strays_51 (Nat.le_of_ble_eq_true rfl) rfl ?_
  exact ev_weak (sb_s (sb_s (sb_s (sb_s (sb_s sb_0))))) (tX10_strays_52 q0 g0 K4 K17 k4 k17 n y1 y2 (0 : Int32) y4 I _ h)
set_option maxRecDepth 100000 in
set_option maxHeartbeats 4000000 in
theorem tX10_strays_17 {E : ev_N} {σ : ev_H} (q0 : Nat) (g0 : shp tb9 σ q0) (K4 : Int32 → Int32 → ev_I → Option (Int32)) (K17 : Int32 → Int32 → Int32 → Int32 → ev_I → Option (Int32)) (k4 : ∀ (y1 : Int32) (y2 : Int32) (I : ev_I) (o : Int32), K4 y1 y2 I = some o → EV E mX10_strays 4 [some (.ref q0), some (.int y1), some (.int y2), none, none] [] (h_w σ I) (Option.some (Value.int o), h_w σ I)) (k17 : ∀ (y1 : Int32) (y2 : Int32) (y3 : Int32) (y4 : Int32) (I : ev_I) (o : Int32), K17 y1 y2 y3 y4 I = some o → EV E mX10_strays 17 [some (.ref q0), some (.int y1), some (.int y2), some (.int y3), some (.int y4)] [] (h_w σ I) (Option.some (Value.int o), h_w σ I)) (n : Nat) (y1 : Int32) (y2 : Int32) (y3 : Int32) (y4 : Int32) (I : ev_I) (o : Int32) : cX10_strays_17 q0 K4 K17 n y1 y2 y3 y4 I = some o → EV E mX10_strays 17 [some (.ref q0), some (.int y1), some (.int y2), some (.int y3), some (.int y4)] [] (h_w σ I) (Option.some (Value.int o), h_w σ I) := by
  intro h
  unfold cX10_strays_17 at h
  refine ev_iload dX10_strays_17 rfl ?_
  refine ev_aload_n dX10_strays_19 rfl (fun _ e => by cases e) ?_
  obtain ⟨z3, hz3, h⟩ := ev_bnE h
  refine ec_Vi (Y := mX10_nodeMany) (ci := 9) (As := []) (rest := [(.int y4)]) dX10_strays_20 kX10_47 oX10_nodeMany ⟨Nat.le_of_ble_eq_true rfl, Nat.le_of_ble_eq_true rfl⟩ (by decide) rfl (shp_n g0 0 rfl) (shp_t g0 0 rfl) rfl (Nat.le_of_ble_eq_true rfl) (tX10_nodeMany n q0 g0  I z3 hz3) rfl ?_
  refine ev_icmp_ge (tgt := 58) dX10_strays_23 (by decide) (fun c4 => ?_) (fun c4 => ?_)
  · have h := ev_ifT h c4
    refine ev_iload_n dX10_strays_58 rfl ?_
    refine ev_if_eq (tgt := 66) dX10_strays_59 (by decide) (fun c5 => ?_) (fun c5 => ?_)
    · have h := ev_ifT h c5
      exact ev_weak (sb_s (sb_s (sb_s (sb_n (sb_n sb_0))))) (tX10_strays_66 q0 g0 K4 K17 k4 k17 n y1 y2 I _ h)
    · have h := ev_ifF h c5
      refine ev_iload_n dX10_strays_62 rfl ?_
      refine ev_iconst (v := (1 : Int32)) dX10_strays_63 (by decide) ?_
      refine ev_iadd dX10_strays_64 ?_
      obtain ⟨v6, ev6, h⟩ := ev_ltE h
      refine ew_nm ev6 ?_
      refine ew_istn (L' := [some (.ref q0), some (.int v6), some (.int y2), some (.int y3), some (.int y4)]) dX10_strays_65 (Nat.le_of_ble_eq_true rfl) rfl ?_
      exact ev_weak (sb_s (sb_s (sb_s (sb_n (sb_n sb_0))))) (tX10_strays_66 q0 g0 K4 K17 k4 k17 n v6 y2 I _ h)
  · have h := ev_ifF h c4
    refine ev_aload_n dX10_strays_26 rfl (fun _ e => by cases e) ?_
    refine ev_iload dX10_strays_27 rfl ?_
    refine ev_iload_n dX10_strays_29 rfl ?_
    obtain ⟨z7, hz7, h⟩ := ev_bnE h
    refine ec_Vi (Y := mX10_isInLog) (ci := 9) (As := [.int y4, .int y2]) (rest := []) dX10_strays_30 kX10_238 oX10_isInLog ⟨Nat.le_of_ble_eq_true rfl, Nat.le_of_ble_eq_true rfl⟩ (by decide) rfl (shp_n g0 0 rfl) (shp_t g0 0 rfl) rfl (Nat.le_of_ble_eq_true rfl) (tX10_isInLog n q0 g0 y4 y2 I z7 hz7) rfl ?_
    refine ev_if_ne (tgt := 50) dX10_strays_33 (by decide) (fun c8 => ?_) (fun c8 => ?_)
    · have h := ev_ifF h c8
      exact ev_weak (sb_s (sb_s (sb_s (sb_n (sb_s sb_0))))) (tX10_strays_50 q0 g0 K4 K17 k4 k17 n y1 y2 y4 I _ h)
    · have h := ev_ifT h c8
      refine ev_aload_n dX10_strays_36 rfl (fun _ e => by cases e) ?_
      refine ev_iload_n dX10_strays_37 rfl ?_
      refine ev_aload_n dX10_strays_38 rfl (fun _ e => by cases e) ?_
      refine ev_iload dX10_strays_39 rfl ?_
      obtain ⟨z9, hz9, h⟩ := ev_bnE h
      refine ec_Vi (Y := mX10_logLast) (ci := 9) (As := [.int y4]) (rest := [(.int y2), (.ref q0)]) dX10_strays_41 kX10_90 oX10_logLast ⟨Nat.le_of_ble_eq_true rfl, Nat.le_of_ble_eq_true rfl⟩ (by decide) rfl (shp_n g0 0 rfl) (shp_t g0 0 rfl) rfl (Nat.le_of_ble_eq_true rfl) (tX10_logLast n q0 g0 y4 I z9 hz9) rfl ?_
      obtain ⟨z10, hz10, h⟩ := ev_bnE h
      refine ec_Vi (Y := mX10_doesExtend) (ci := 9) (As := [.int y2, .int z9]) (rest := []) dX10_strays_44 kX10_93 oX10_doesExtend ⟨Nat.le_of_ble_eq_true rfl, Nat.le_of_ble_eq_true rfl⟩ (by decide) rfl (shp_n g0 0 rfl) (shp_t g0 0 rfl) rfl (Nat.le_of_ble_eq_true rfl) (tX10_doesExtend n q0 g0 y2 z9 I z10 hz10) rfl ?_
      refine ev_if_eq (tgt := 52) dX10_strays_47 (by decide) (fun c11 => ?_) (fun c11 => ?_)
      · have h := ev_ifT h c11
        exact ev_weak (sb_s (sb_s (sb_s (sb_s (sb_s sb_0))))) (tX10_strays_52 q0 g0 K4 K17 k4 k17 n y1 y2 y3 y4 I _ h)
      · have h := ev_ifF h c11
        exact ev_weak (sb_s (sb_s (sb_s (sb_n (sb_s sb_0))))) (tX10_strays_50 q0 g0 K4 K17 k4 k17 n y1 y2 y4 I _ h)
theorem tlX10_strays_17 {E : ev_N} {σ : ev_H} (q0 : Nat) (g0 : shp tb9 σ q0) (K4 : Int32 → Int32 → ev_I → Option (Int32)) (k4 : ∀ (y1 : Int32) (y2 : Int32) (I : ev_I) (o : Int32), K4 y1 y2 I = some o → EV E mX10_strays 4 [some (.ref q0), some (.int y1), some (.int y2), none, none] [] (h_w σ I) (Option.some (Value.int o), h_w σ I)) : ∀ (n : Nat) (y1 : Int32) (y2 : Int32) (y3 : Int32) (y4 : Int32) (I : ev_I) (o : Int32), lX10_strays_17 q0 K4 n y1 y2 y3 y4 I = some o → EV E mX10_strays 17 [some (.ref q0), some (.int y1), some (.int y2), some (.int y3), some (.int y4)] [] (h_w σ I) (Option.some (Value.int o), h_w σ I)
  | 0, _, _, _, _, _, _, h => by cases h
  | n + 1, y1, y2, y3, y4, I, o, h => tX10_strays_17 q0 g0 K4 (lX10_strays_17 q0 K4 n) k4 (tlX10_strays_17 q0 g0 K4 k4 n) n y1 y2 y3 y4 I o h
set_option maxRecDepth 100000 in
set_option maxHeartbeats 4000000 in
theorem tX10_strays_4 {E : ev_N} {σ : ev_H} (q0 : Nat) (g0 : shp tb9 σ q0) (K4 : Int32 → Int32 → ev_I → Option (Int32)) (k4 : ∀ (y1 : Int32) (y2 : Int32) (I : ev_I) (o : Int32), K4 y1 y2 I = some o → EV E mX10_strays 4 [some (.ref q0), some (.int y1), some (.int y2), none, none] [] (h_w σ I) (Option.some (Value.int o), h_w σ I)) (n : Nat) (y1 : Int32) (y2 : Int32) (I : ev_I) (o : Int32) : cX10_strays_4 q0 K4 n y1 y2 I = some o → EV E mX10_strays 4 [some (.ref q0), some (.int y1), some (.int y2), none, none] [] (h_w σ I) (Option.some (Value.int o), h_w σ I) := by
  intro h
  unfold cX10_strays_4 at h
  refine ev_iload_n dX10_strays_4 rfl ?_
  refine ev_aload_n dX10_strays_5 rfl (fun _ e => by cases e) ?_
  obtain ⟨z12, hz12, h⟩ := ev_bnE h
  refine ec_Vi (Y := mX10_blockMany) (ci := 9) (As := []) (rest := [(.int y2)]) dX10_strays_6 kX10_51 oX10_blockMany ⟨Nat.le_of_ble_eq_true rfl, Nat.le_of_ble_eq_true rfl⟩ (by decide) rfl (shp_n g0 0 rfl) (shp_t g0 0 rfl) rfl (Nat.le_of_ble_eq_true rfl) (tX10_blockMany n q0 g0  I z12 hz12) rfl ?_
  refine ev_icmp_ge (tgt := 72) dX10_strays_9 (by decide) (fun c13 => ?_) (fun c13 => ?_)
  · have h := ev_ifT h c13
    refine ev_iload_n dX10_strays_72 rfl ?_
    cases h
    exact er_i dX10_strays_73 rfl rfl
  · have h := ev_ifF h c13
    refine ev_iconst (v := (1 : Int32)) dX10_strays_12 (by decide) ?_
    refine ew_istn (L' := [some (.ref q0), some (.int y1), some (.int y2), some (.int (1 : Int32)), none]) dX10_strays_13 (Nat.le_of_ble_eq_true rfl) rfl ?_
    refine ev_iconst (v := (0 : Int32)) dX10_strays_14 (by decide) ?_
    refine ew_ist (L' := [some (.ref q0), some (.int y1), some (.int y2), some (.int (1 : Int32)), some (.int (0 : Int32))]) dX10_strays_15 (Nat.le_of_ble_eq_true rfl) rfl ?_
    exact ev_weak (sb_s (sb_s (sb_s (sb_s (sb_s sb_0))))) (tlX10_strays_17 q0 g0 K4 k4 n y1 y2 (1 : Int32) (0 : Int32) I _ h)
theorem tlX10_strays_4 {E : ev_N} {σ : ev_H} (q0 : Nat) (g0 : shp tb9 σ q0) : ∀ (n : Nat) (y1 : Int32) (y2 : Int32) (I : ev_I) (o : Int32), lX10_strays_4 q0 n y1 y2 I = some o → EV E mX10_strays 4 [some (.ref q0), some (.int y1), some (.int y2), none, none] [] (h_w σ I) (Option.some (Value.int o), h_w σ I)
  | 0, _, _, _, _, h => by cases h
  | n + 1, y1, y2, I, o, h => tX10_strays_4 q0 g0 (lX10_strays_4 q0 n) (tlX10_strays_4 q0 g0 n) n y1 y2 I o h
set_option maxRecDepth 100000 in
set_option maxHeartbeats 4000000 in
theorem tX10_strays {E : ev_N} {σ : ev_H} (n : Nat) (q0 : Nat) (g0 : shp tb9 σ q0) (I : ev_I) (o : Int32) (h : pX10_strays n q0  I = some o) : ev_T E mX10_strays [.ref q0] (h_w σ I) (Option.some (Value.int o), h_w σ I) := by
  unfold pX10_strays at h
  refine ev_met rfl rfl (Nat.le_of_ble_eq_true rfl) (ev_L0 (L' := [some (.ref q0), none, none, none, none]) rfl ?_)
  refine ev_iconst (v := (0 : Int32)) dX10_strays_0 (by decide) ?_
  refine ew_istn (L' := [some (.ref q0), some (.int (0 : Int32)), none, none, none]) dX10_strays_1 (Nat.le_of_ble_eq_true rfl) rfl ?_
  refine ev_iconst (v := (0 : Int32)) dX10_strays_2 (by decide) ?_
  refine ew_istn (L' := [some (.ref q0), some (.int (0 : Int32)), some (.int (0 : Int32)), none, none]) dX10_strays_3 (Nat.le_of_ble_eq_true rfl) rfl ?_
  exact ev_weak (sb_s (sb_s (sb_s (sb_n (sb_n sb_0))))) (tlX10_strays_4 q0 g0 n (0 : Int32) (0 : Int32) I _ h)
-- ChainVotesModel audit(I)I
def pX10_audit (n : Nat) (q0 : Nat) (x1 : Int32) (I : ev_I) : Option (Int32 × ev_I) :=
  ev_lt (ev_u2 I q0 0 (0 : Int32)) fun I1 =>
  if x1 = 0 then
    (pX10_twins n q0  I1).bind fun z11 =>
    some (z11, I1)
  else
    if x1 = (1 : Int32) then
      (pX10_accused n q0  I1).bind fun z10 =>
      some (z10, I1)
    else
      if x1 = (2 : Int32) then
        (pX10_inCommon n q0  I1).bind fun z9 =>
        some (z9, I1)
      else
        if x1 = (3 : Int32) then
          (pX10_longest n q0  I1).bind fun z8 =>
          some (z8, I1)
        else
          if x1 = (4 : Int32) then
            (pX10_strays n q0  I1).bind fun z7 =>
            some (z7, I1)
          else
            some ((-1 : Int32), I1)
set_option maxRecDepth 100000 in
set_option maxHeartbeats 4000000 in
theorem tX10_audit {E : ev_N} {σ : ev_H} (n : Nat) (q0 : Nat) (g0 : shp tb9 σ q0) (x1 : Int32) (I : ev_I) (o : Int32 × ev_I) (h : pX10_audit n q0 x1 I = some o) : ev_T E mX10_audit [.ref q0, .int x1] (h_w σ I) (Option.some (Value.int o.1), h_w σ o.2) := by
  unfold pX10_audit at h
  refine ev_met rfl rfl (Nat.le_of_ble_eq_true rfl) (ev_L0 (L' := [some (.ref q0), some (.int x1)]) rfl ?_)
  refine ev_aload_n dX10_audit_0 rfl (fun _ e => by cases e) ?_
  refine ev_iconst (v := (0 : Int32)) dX10_audit_1 (by decide) ?_
  obtain ⟨I1, eI1, h⟩ := ev_ltE h
  refine ew_put0 dX10_audit_2 fX10_44 g0 rfl rfl rfl rfl rfl rfl (ew_nh eI1 ?_)
  refine ev_iload_n dX10_audit_5 rfl ?_
  refine ev_if_ne (tgt := 14) dX10_audit_6 (by decide) (fun c2 => ?_) (fun c2 => ?_)
  · have h := ev_ifF h c2
    refine ev_iload_n dX10_audit_14 rfl ?_
    refine ev_iconst (v := (1 : Int32)) dX10_audit_15 (by decide) ?_
    refine ev_icmp_ne (tgt := 24) dX10_audit_16 (by decide) (fun c3 => ?_) (fun c3 => ?_)
    · have h := ev_ifF h c3
      refine ev_iload_n dX10_audit_24 rfl ?_
      refine ev_iconst (v := (2 : Int32)) dX10_audit_25 (by decide) ?_
      refine ev_icmp_ne (tgt := 34) dX10_audit_26 (by decide) (fun c4 => ?_) (fun c4 => ?_)
      · have h := ev_ifF h c4
        refine ev_iload_n dX10_audit_34 rfl ?_
        refine ev_iconst (v := (3 : Int32)) dX10_audit_35 (by decide) ?_
        refine ev_icmp_ne (tgt := 46) dX10_audit_36 (by decide) (fun c5 => ?_) (fun c5 => ?_)
        · have h := ev_ifF h c5
          refine ev_iload_n dX10_audit_46 rfl ?_
          refine ev_iconst (v := (4 : Int32)) dX10_audit_47 (by decide) ?_
          refine ev_icmp_ne (tgt := 58) dX10_audit_48 (by decide) (fun c6 => ?_) (fun c6 => ?_)
          · have h := ev_ifF h c6
            refine ev_iconst (v := (-1 : Int32)) dX10_audit_58 (by decide) ?_
            cases h
            exact er_i dX10_audit_59 rfl rfl
          · have h := ev_ifT h c6
            refine ev_aload_n dX10_audit_51 rfl (fun _ e => by cases e) ?_
            obtain ⟨z7, hz7, h⟩ := ev_bnE h
            refine ec_Vi (Y := mX10_strays) (ci := 9) (As := []) (rest := []) dX10_audit_52 kX10_253 oX10_strays ⟨Nat.le_of_ble_eq_true rfl, Nat.le_of_ble_eq_true rfl⟩ (by decide) rfl (shp_n g0 0 rfl) (shp_t g0 0 rfl) rfl (Nat.le_of_ble_eq_true rfl) (tX10_strays n q0 g0  I1 z7 hz7) rfl ?_
            refine ev_goto (tgt := 59) dX10_audit_55 (by decide) ?_
            cases h
            exact er_i dX10_audit_59 rfl rfl
        · have h := ev_ifT h c5
          refine ev_aload_n dX10_audit_39 rfl (fun _ e => by cases e) ?_
          obtain ⟨z8, hz8, h⟩ := ev_bnE h
          refine ec_Vi (Y := mX10_longest) (ci := 9) (As := []) (rest := []) dX10_audit_40 kX10_250 oX10_longest ⟨Nat.le_of_ble_eq_true rfl, Nat.le_of_ble_eq_true rfl⟩ (by decide) rfl (shp_n g0 0 rfl) (shp_t g0 0 rfl) rfl (Nat.le_of_ble_eq_true rfl) (tX10_longest n q0 g0  I1 z8 hz8) rfl ?_
          refine ev_goto (tgt := 59) dX10_audit_43 (by decide) ?_
          cases h
          exact er_i dX10_audit_59 rfl rfl
      · have h := ev_ifT h c4
        refine ev_aload_n dX10_audit_29 rfl (fun _ e => by cases e) ?_
        obtain ⟨z9, hz9, h⟩ := ev_bnE h
        refine ec_Vi (Y := mX10_inCommon) (ci := 9) (As := []) (rest := []) dX10_audit_30 kX10_247 oX10_inCommon ⟨Nat.le_of_ble_eq_true rfl, Nat.le_of_ble_eq_true rfl⟩ (by decide) rfl (shp_n g0 0 rfl) (shp_t g0 0 rfl) rfl (Nat.le_of_ble_eq_true rfl) (tX10_inCommon n q0 g0  I1 z9 hz9) rfl ?_
        cases h
        exact er_i dX10_audit_33 rfl rfl
    · have h := ev_ifT h c3
      refine ev_aload_n dX10_audit_19 rfl (fun _ e => by cases e) ?_
      obtain ⟨z10, hz10, h⟩ := ev_bnE h
      refine ec_Vi (Y := mX10_accused) (ci := 9) (As := []) (rest := []) dX10_audit_20 kX10_244 oX10_accused ⟨Nat.le_of_ble_eq_true rfl, Nat.le_of_ble_eq_true rfl⟩ (by decide) rfl (shp_n g0 0 rfl) (shp_t g0 0 rfl) rfl (Nat.le_of_ble_eq_true rfl) (tX10_accused n q0 g0  I1 z10 hz10) rfl ?_
      cases h
      exact er_i dX10_audit_23 rfl rfl
  · have h := ev_ifT h c2
    refine ev_aload_n dX10_audit_9 rfl (fun _ e => by cases e) ?_
    obtain ⟨z11, hz11, h⟩ := ev_bnE h
    refine ec_Vi (Y := mX10_twins) (ci := 9) (As := []) (rest := []) dX10_audit_10 kX10_241 oX10_twins ⟨Nat.le_of_ble_eq_true rfl, Nat.le_of_ble_eq_true rfl⟩ (by decide) rfl (shp_n g0 0 rfl) (shp_t g0 0 rfl) rfl (Nat.le_of_ble_eq_true rfl) (tX10_twins n q0 g0  I1 z11 hz11) rfl ?_
    cases h
    exact er_i dX10_audit_13 rfl rfl
-- ChainVotesModel ofNode(II)I
def pX10_ofNode (n : Nat) (q0 : Nat) (x1 : Int32) (x2 : Int32) (I : ev_I) : Option (Int32) :=
  if x2 = (1 : Int32) then
    (pX10_nodeAt n q0 x1 I).bind fun z6 =>
    ev_ck (ev_in (z6 + (6 : Int32)) 6010) <|
    some (I (q0 + 1) (z6 + (6 : Int32)).toNatClampNeg)
  else
    if x2 = (2 : Int32) then
      (pX10_nodeAt n q0 x1 I).bind fun z4 =>
      ev_ck (ev_in (z4 + (5 : Int32)) 6010) <|
      some (I (q0 + 1) (z4 + (5 : Int32)).toNatClampNeg)
    else
      (pX10_logLast n q0 x1 I).bind fun z3 =>
      some z3
set_option maxRecDepth 100000 in
set_option maxHeartbeats 4000000 in
theorem tX10_ofNode {E : ev_N} {σ : ev_H} (n : Nat) (q0 : Nat) (g0 : shp tb9 σ q0) (x1 : Int32) (x2 : Int32) (I : ev_I) (o : Int32) (h : pX10_ofNode n q0 x1 x2 I = some o) : ev_T E mX10_ofNode [.ref q0, .int x1, .int x2] (h_w σ I) (Option.some (Value.int o), h_w σ I) := by
  unfold pX10_ofNode at h
  refine ev_met rfl rfl (Nat.le_of_ble_eq_true rfl) (ev_L0 (L' := [some (.ref q0), some (.int x1), some (.int x2)]) rfl ?_)
  refine ev_iload_n dX10_ofNode_0 rfl ?_
  refine ev_iconst (v := (1 : Int32)) dX10_ofNode_1 (by decide) ?_
  refine ev_icmp_ne (tgt := 21) dX10_ofNode_2 (by decide) (fun c1 => ?_) (fun c1 => ?_)
  · have h := ev_ifF h c1
    refine ev_iload_n dX10_ofNode_21 rfl ?_
    refine ev_iconst (v := (2 : Int32)) dX10_ofNode_22 (by decide) ?_
    refine ev_icmp_ne (tgt := 41) dX10_ofNode_23 (by decide) (fun c2 => ?_) (fun c2 => ?_)
    · have h := ev_ifF h c2
      refine ev_aload_n dX10_ofNode_41 rfl (fun _ e => by cases e) ?_
      refine ev_iload_n dX10_ofNode_42 rfl ?_
      obtain ⟨z3, hz3, h⟩ := ev_bnE h
      refine ec_Vi (Y := mX10_logLast) (ci := 9) (As := [.int x1]) (rest := []) dX10_ofNode_43 kX10_90 oX10_logLast ⟨Nat.le_of_ble_eq_true rfl, Nat.le_of_ble_eq_true rfl⟩ (by decide) rfl (shp_n g0 0 rfl) (shp_t g0 0 rfl) rfl (Nat.le_of_ble_eq_true rfl) (tX10_logLast n q0 g0 x1 I z3 hz3) rfl ?_
      cases h
      exact er_i dX10_ofNode_46 rfl rfl
    · have h := ev_ifT h c2
      refine ev_aload_n dX10_ofNode_26 rfl (fun _ e => by cases e) ?_
      refine ew_getr0 dX10_ofNode_27 fX10_7 g0 rfl rfl rfl rfl ?_
      refine ev_aload_n dX10_ofNode_30 rfl (fun _ e => by cases e) ?_
      refine ev_iload_n dX10_ofNode_31 rfl ?_
      obtain ⟨z4, hz4, h⟩ := ev_bnE h
      refine ec_Vi (Y := mX10_nodeAt) (ci := 9) (As := [.int x1]) (rest := [(.ref (q0 + 1))]) dX10_ofNode_32 kX10_54 oX10_nodeAt ⟨Nat.le_of_ble_eq_true rfl, Nat.le_of_ble_eq_true rfl⟩ (by decide) rfl (shp_n g0 0 rfl) (shp_t g0 0 rfl) rfl (Nat.le_of_ble_eq_true rfl) (tX10_nodeAt n q0 g0 x1 I z4 hz4) rfl ?_
      refine ev_iconst (v := (5 : Int32)) dX10_ofNode_35 (by decide) ?_
      refine ev_iadd dX10_ofNode_36 ?_
      obtain ⟨c5, h⟩ := ev_ckE h
      refine ew_iald dX10_ofNode_37 (shp_a g0 1 rfl) c5 ?_
      refine ev_goto (tgt := 46) dX10_ofNode_38 (by decide) ?_
      cases h
      exact er_i dX10_ofNode_46 rfl rfl
  · have h := ev_ifT h c1
    refine ev_aload_n dX10_ofNode_5 rfl (fun _ e => by cases e) ?_
    refine ew_getr0 dX10_ofNode_6 fX10_7 g0 rfl rfl rfl rfl ?_
    refine ev_aload_n dX10_ofNode_9 rfl (fun _ e => by cases e) ?_
    refine ev_iload_n dX10_ofNode_10 rfl ?_
    obtain ⟨z6, hz6, h⟩ := ev_bnE h
    refine ec_Vi (Y := mX10_nodeAt) (ci := 9) (As := [.int x1]) (rest := [(.ref (q0 + 1))]) dX10_ofNode_11 kX10_54 oX10_nodeAt ⟨Nat.le_of_ble_eq_true rfl, Nat.le_of_ble_eq_true rfl⟩ (by decide) rfl (shp_n g0 0 rfl) (shp_t g0 0 rfl) rfl (Nat.le_of_ble_eq_true rfl) (tX10_nodeAt n q0 g0 x1 I z6 hz6) rfl ?_
    refine ev_bipush (v := (6 : Int32)) dX10_ofNode_14 (by decide) ?_
    refine ev_iadd dX10_ofNode_16 ?_
    obtain ⟨c7, h⟩ := ev_ckE h
    refine ew_iald dX10_ofNode_17 (shp_a g0 1 rfl) c7 ?_
    refine ev_goto (tgt := 46) dX10_ofNode_18 (by decide) ?_
    cases h
    exact er_i dX10_ofNode_46 rfl rfl
-- ChainVotesModel rankOf(II)I
def pX10_rankOf (n : Nat) (q0 : Nat) (x1 : Int32) (x2 : Int32) (I : ev_I) : Option (Int32) :=
  if x2 = (2 : Int32) then
    ev_ck (ev_in ((16 : Int32) + x1) 6010) <|
    some (-(I (q0 + 1) ((16 : Int32) + x1).toNatClampNeg))
  else
    if x2 = (3 : Int32) then
      ev_ck (ev_in ((516 : Int32) + x1) 6010) <|
      some (I (q0 + 1) ((516 : Int32) + x1).toNatClampNeg)
    else
      ev_ck (ev_in ((16 : Int32) + x1) 6010) <|
      some (I (q0 + 1) ((16 : Int32) + x1).toNatClampNeg)
set_option maxRecDepth 100000 in
set_option maxHeartbeats 4000000 in
theorem tX10_rankOf {E : ev_N} {σ : ev_H} (n : Nat) (q0 : Nat) (g0 : shp tb9 σ q0) (x1 : Int32) (x2 : Int32) (I : ev_I) (o : Int32) (h : pX10_rankOf n q0 x1 x2 I = some o) : ev_T E mX10_rankOf [.ref q0, .int x1, .int x2] (h_w σ I) (Option.some (Value.int o), h_w σ I) := by
  unfold pX10_rankOf at h
  refine ev_met rfl rfl (Nat.le_of_ble_eq_true rfl) (ev_L0 (L' := [some (.ref q0), some (.int x1), some (.int x2)]) rfl ?_)
  refine ev_iload_n dX10_rankOf_0 rfl ?_
  refine ev_iconst (v := (2 : Int32)) dX10_rankOf_1 (by decide) ?_
  refine ev_icmp_ne (tgt := 18) dX10_rankOf_2 (by decide) (fun c1 => ?_) (fun c1 => ?_)
  · have h := ev_ifF h c1
    refine ev_iload_n dX10_rankOf_18 rfl ?_
    refine ev_iconst (v := (3 : Int32)) dX10_rankOf_19 (by decide) ?_
    refine ev_icmp_ne (tgt := 36) dX10_rankOf_20 (by decide) (fun c2 => ?_) (fun c2 => ?_)
    · have h := ev_ifF h c2
      refine ev_aload_n dX10_rankOf_36 rfl (fun _ e => by cases e) ?_
      refine ew_getr0 dX10_rankOf_37 fX10_7 g0 rfl rfl rfl rfl ?_
      refine ev_bipush (v := (16 : Int32)) dX10_rankOf_40 (by decide) ?_
      refine ev_iload_n dX10_rankOf_42 rfl ?_
      refine ev_iadd dX10_rankOf_43 ?_
      obtain ⟨c3, h⟩ := ev_ckE h
      refine ew_iald dX10_rankOf_44 (shp_a g0 1 rfl) c3 ?_
      cases h
      exact er_i dX10_rankOf_45 rfl rfl
    · have h := ev_ifT h c2
      refine ev_aload_n dX10_rankOf_23 rfl (fun _ e => by cases e) ?_
      refine ew_getr0 dX10_rankOf_24 fX10_7 g0 rfl rfl rfl rfl ?_
      refine ev_sipush (v := (516 : Int32)) dX10_rankOf_27 (by decide) ?_
      refine ev_iload_n dX10_rankOf_30 rfl ?_
      refine ev_iadd dX10_rankOf_31 ?_
      obtain ⟨c4, h⟩ := ev_ckE h
      refine ew_iald dX10_rankOf_32 (shp_a g0 1 rfl) c4 ?_
      refine ev_goto (tgt := 45) dX10_rankOf_33 (by decide) ?_
      cases h
      exact er_i dX10_rankOf_45 rfl rfl
  · have h := ev_ifT h c1
    refine ev_aload_n dX10_rankOf_5 rfl (fun _ e => by cases e) ?_
    refine ew_getr0 dX10_rankOf_6 fX10_7 g0 rfl rfl rfl rfl ?_
    refine ev_bipush (v := (16 : Int32)) dX10_rankOf_9 (by decide) ?_
    refine ev_iload_n dX10_rankOf_11 rfl ?_
    refine ev_iadd dX10_rankOf_12 ?_
    obtain ⟨c5, h⟩ := ev_ckE h
    refine ew_iald dX10_rankOf_13 (shp_a g0 1 rfl) c5 ?_
    refine ev_ineg dX10_rankOf_14 ?_
    refine ev_goto (tgt := 45) dX10_rankOf_15 (by decide) ?_
    cases h
    exact er_i dX10_rankOf_45 rfl rfl
-- ChainVotesModel best(I)I
def cX10_best_128 (q0 : Nat) (K21 : Int32 → Int32 → Int32 → ev_I → Option (Int32 × ev_I)) (n : Nat) (y1 : Int32) (y2 : Int32) (y3 : Int32) (I : ev_I) : Option (Int32 × ev_I) :=
  ev_lt (y3 + (1 : Int32)) fun v1 =>
  K21 y1 y2 v1 I
def cX10_best_125 (q0 : Nat) (K21 : Int32 → Int32 → Int32 → ev_I → Option (Int32 × ev_I)) (n : Nat) (y1 : Int32) (y3 : Int32) (y4 : Int32) (I : ev_I) : Option (Int32 × ev_I) :=
  cX10_best_128 q0 K21 n y1 y4 y3 I
def cX10_best_80 (q0 : Nat) (K21 : Int32 → Int32 → Int32 → ev_I → Option (Int32 × ev_I)) (n : Nat) (y1 : Int32) (y2 : Int32) (y3 : Int32) (s0 : Int32) (I : ev_I) : Option (Int32 × ev_I) :=
  if y2 = (-1 : Int32) then
    cX10_best_125 q0 K21 n y1 y3 s0 I
  else
    (pX10_rankOf n q0 s0 y1 I).bind fun z3 =>
    (pX10_rankOf n q0 y2 y1 I).bind fun z4 =>
    if z4 < z3 then
      cX10_best_125 q0 K21 n y1 y3 s0 I
    else
      (pX10_rankOf n q0 s0 y1 I).bind fun z6 =>
      (pX10_rankOf n q0 y2 y1 I).bind fun z7 =>
      if z6 = z7 then
        if y2 ≤ s0 then
          cX10_best_128 q0 K21 n y1 y2 y3 I
        else
          cX10_best_125 q0 K21 n y1 y3 s0 I
      else
        cX10_best_128 q0 K21 n y1 y2 y3 I
def cX10_best_66 (q0 : Nat) (K21 : Int32 → Int32 → Int32 → ev_I → Option (Int32 × ev_I)) (n : Nat) (y1 : Int32) (y2 : Int32) (y3 : Int32) (I : ev_I) : Option (Int32 × ev_I) :=
  if y1 = 0 then
    cX10_best_80 q0 K21 n y1 y2 y3 y3 I
  else
    (pX10_ofNode n q0 y3 y1 I).bind fun z11 =>
    cX10_best_80 q0 K21 n y1 y2 y3 z11 I
def cX10_best_37 (q0 : Nat) (K21 : Int32 → Int32 → Int32 → ev_I → Option (Int32 × ev_I)) (n : Nat) (y1 : Int32) (y2 : Int32) (y3 : Int32) (s0 : Int32) (s1 : Int32) (I : ev_I) : Option (Int32 × ev_I) :=
  if s1 ≤ s0 then
    some (y2, I)
  else
    if y1 = 0 then
      (pX10_isCertified n q0 y3 I).bind fun z16 =>
      if z16 = 0 then
        cX10_best_128 q0 K21 n y1 y2 y3 I
      else
        cX10_best_66 q0 K21 n y1 y2 y3 I
    else
      (pX10_isSilent n q0 y3 I).bind fun z14 =>
      if z14 = 0 then
        cX10_best_66 q0 K21 n y1 y2 y3 I
      else
        cX10_best_128 q0 K21 n y1 y2 y3 I
def cX10_best_21 (q0 : Nat) (K21 : Int32 → Int32 → Int32 → ev_I → Option (Int32 × ev_I)) (n : Nat) (y1 : Int32) (y2 : Int32) (y3 : Int32) (I : ev_I) : Option (Int32 × ev_I) :=
  if y1 = 0 then
    (pX10_blockMany n q0  I).bind fun z20 =>
    cX10_best_37 q0 K21 n y1 y2 y3 y3 z20 I
  else
    (pX10_nodeMany n q0  I).bind fun z19 =>
    cX10_best_37 q0 K21 n y1 y2 y3 y3 z19 I
def lX10_best_21 (q0 : Nat) : Nat → Int32 → Int32 → Int32 → ev_I → Option (Int32 × ev_I)
  | 0, _, _, _, _ => none
  | n + 1, y1, y2, y3, I => cX10_best_21 q0 (lX10_best_21 q0 n) n y1 y2 y3 I
def pX10_best (n : Nat) (q0 : Nat) (x1 : Int32) (I : ev_I) : Option (Int32 × ev_I) :=
  ev_lt (ev_u2 I q0 0 (0 : Int32)) fun I21 =>
  (pX10_isIn n q0 x1 (0 : Int32) (3 : Int32) I21).bind fun z22 =>
  if z22 = 0 then
    some ((-1 : Int32), I21)
  else
    lX10_best_21 q0 n x1 (-1 : Int32) (0 : Int32) I21
set_option maxRecDepth 100000 in
set_option maxHeartbeats 4000000 in
theorem tX10_best_128 {E : ev_N} {σ : ev_H} (q0 : Nat) (g0 : shp tb9 σ q0) (K21 : Int32 → Int32 → Int32 → ev_I → Option (Int32 × ev_I)) (k21 : ∀ (y1 : Int32) (y2 : Int32) (y3 : Int32) (I : ev_I) (o : Int32 × ev_I), K21 y1 y2 y3 I = some o → EV E mX10_best 21 [some (.ref q0), some (.int y1), some (.int y2), some (.int y3), none] [] (h_w σ I) (Option.some (Value.int o.1), h_w σ o.2)) (n : Nat) (y1 : Int32) (y2 : Int32) (y3 : Int32) (I : ev_I) (o : Int32 × ev_I) : cX10_best_128 q0 K21 n y1 y2 y3 I = some o → EV E mX10_best 128 [some (.ref q0), some (.int y1), some (.int y2), some (.int y3), none] [] (h_w σ I) (Option.some (Value.int o.1), h_w σ o.2) := by
  intro h
  unfold cX10_best_128 at h
  obtain ⟨v1, ev1, h⟩ := ev_ltE h
  refine ew_iinc (L' := [some (.ref q0), some (.int y1), some (.int y2), some (.int v1), none]) dX10_best_128 (Nat.le_of_ble_eq_true rfl) rfl (by decide) ev1 rfl ?_
  refine ev_goto (tgt := 21) dX10_best_131 (by decide) ?_
  exact ev_weak (sb_s (sb_s (sb_s (sb_s (sb_n sb_0))))) (k21 y1 y2 v1 I _ h)
set_option maxRecDepth 100000 in
set_option maxHeartbeats 4000000 in
theorem tX10_best_125 {E : ev_N} {σ : ev_H} (q0 : Nat) (g0 : shp tb9 σ q0) (K21 : Int32 → Int32 → Int32 → ev_I → Option (Int32 × ev_I)) (k21 : ∀ (y1 : Int32) (y2 : Int32) (y3 : Int32) (I : ev_I) (o : Int32 × ev_I), K21 y1 y2 y3 I = some o → EV E mX10_best 21 [some (.ref q0), some (.int y1), some (.int y2), some (.int y3), none] [] (h_w σ I) (Option.some (Value.int o.1), h_w σ o.2)) (n : Nat) (y1 : Int32) (y3 : Int32) (y4 : Int32) (I : ev_I) (o : Int32 × ev_I) : cX10_best_125 q0 K21 n y1 y3 y4 I = some o → EV E mX10_best 125 [some (.ref q0), some (.int y1), none, some (.int y3), some (.int y4)] [] (h_w σ I) (Option.some (Value.int o.1), h_w σ o.2) := by
  intro h
  unfold cX10_best_125 at h
  refine ev_iload dX10_best_125 rfl ?_
  refine ew_istn (L' := [some (.ref q0), some (.int y1), some (.int y4), some (.int y3), some (.int y4)]) dX10_best_127 (Nat.le_of_ble_eq_true rfl) rfl ?_
  exact ev_weak (sb_s (sb_s (sb_s (sb_s (sb_n sb_0))))) (tX10_best_128 q0 g0 K21 k21 n y1 y4 y3 I _ h)
set_option maxRecDepth 100000 in
set_option maxHeartbeats 4000000 in
theorem tX10_best_80 {E : ev_N} {σ : ev_H} (q0 : Nat) (g0 : shp tb9 σ q0) (K21 : Int32 → Int32 → Int32 → ev_I → Option (Int32 × ev_I)) (k21 : ∀ (y1 : Int32) (y2 : Int32) (y3 : Int32) (I : ev_I) (o : Int32 × ev_I), K21 y1 y2 y3 I = some o → EV E mX10_best 21 [some (.ref q0), some (.int y1), some (.int y2), some (.int y3), none] [] (h_w σ I) (Option.some (Value.int o.1), h_w σ o.2)) (n : Nat) (y1 : Int32) (y2 : Int32) (y3 : Int32) (s0 : Int32) (I : ev_I) (o : Int32 × ev_I) : cX10_best_80 q0 K21 n y1 y2 y3 s0 I = some o → EV E mX10_best 80 [some (.ref q0), some (.int y1), some (.int y2), some (.int y3), none] [(.int s0)] (h_w σ I) (Option.some (Value.int o.1), h_w σ o.2) := by
  intro h
  unfold cX10_best_80 at h
  refine ew_ist (L' := [some (.ref q0), some (.int y1), some (.int y2), some (.int y3), some (.int s0)]) dX10_best_80 (Nat.le_of_ble_eq_true rfl) rfl ?_
  refine ev_iload_n dX10_best_82 rfl ?_
  refine ev_iconst (v := (-1 : Int32)) dX10_best_83 (by decide) ?_
  refine ev_icmp_eq (tgt := 125) dX10_best_84 (by decide) (fun c2 => ?_) (fun c2 => ?_)
  · have h := ev_ifT h c2
    exact ev_weak (sb_s (sb_s (sb_n (sb_s (sb_s sb_0))))) (tX10_best_125 q0 g0 K21 k21 n y1 y3 s0 I _ h)
  · have h := ev_ifF h c2
    refine ev_aload_n dX10_best_87 rfl (fun _ e => by cases e) ?_
    refine ev_iload dX10_best_88 rfl ?_
    refine ev_iload_n dX10_best_90 rfl ?_
    obtain ⟨z3, hz3, h⟩ := ev_bnE h
    refine ec_Vi (Y := mX10_rankOf) (ci := 9) (As := [.int s0, .int y1]) (rest := []) dX10_best_91 kX10_259 oX10_rankOf ⟨Nat.le_of_ble_eq_true rfl, Nat.le_of_ble_eq_true rfl⟩ (by decide) rfl (shp_n g0 0 rfl) (shp_t g0 0 rfl) rfl (Nat.le_of_ble_eq_true rfl) (tX10_rankOf n q0 g0 s0 y1 I z3 hz3) rfl ?_
    refine ev_aload_n dX10_best_94 rfl (fun _ e => by cases e) ?_
    refine ev_iload_n dX10_best_95 rfl ?_
    refine ev_iload_n dX10_best_96 rfl ?_
    obtain ⟨z4, hz4, h⟩ := ev_bnE h
    refine ec_Vi (Y := mX10_rankOf) (ci := 9) (As := [.int y2, .int y1]) (rest := [(.int z3)]) dX10_best_97 kX10_259 oX10_rankOf ⟨Nat.le_of_ble_eq_true rfl, Nat.le_of_ble_eq_true rfl⟩ (by decide) rfl (shp_n g0 0 rfl) (shp_t g0 0 rfl) rfl (Nat.le_of_ble_eq_true rfl) (tX10_rankOf n q0 g0 y2 y1 I z4 hz4) rfl ?_
    refine ev_icmp_gt (tgt := 125) dX10_best_100 (by decide) (fun c5 => ?_) (fun c5 => ?_)
    · have h := ev_ifT h c5
      exact ev_weak (sb_s (sb_s (sb_n (sb_s (sb_s sb_0))))) (tX10_best_125 q0 g0 K21 k21 n y1 y3 s0 I _ h)
    · have h := ev_ifF h c5
      refine ev_aload_n dX10_best_103 rfl (fun _ e => by cases e) ?_
      refine ev_iload dX10_best_104 rfl ?_
      refine ev_iload_n dX10_best_106 rfl ?_
      obtain ⟨z6, hz6, h⟩ := ev_bnE h
      refine ec_Vi (Y := mX10_rankOf) (ci := 9) (As := [.int s0, .int y1]) (rest := []) dX10_best_107 kX10_259 oX10_rankOf ⟨Nat.le_of_ble_eq_true rfl, Nat.le_of_ble_eq_true rfl⟩ (by decide) rfl (shp_n g0 0 rfl) (shp_t g0 0 rfl) rfl (Nat.le_of_ble_eq_true rfl) (tX10_rankOf n q0 g0 s0 y1 I z6 hz6) rfl ?_
      refine ev_aload_n dX10_best_110 rfl (fun _ e => by cases e) ?_
      refine ev_iload_n dX10_best_111 rfl ?_
      refine ev_iload_n dX10_best_112 rfl ?_
      obtain ⟨z7, hz7, h⟩ := ev_bnE h
      refine ec_Vi (Y := mX10_rankOf) (ci := 9) (As := [.int y2, .int y1]) (rest := [(.int z6)]) dX10_best_113 kX10_259 oX10_rankOf ⟨Nat.le_of_ble_eq_true rfl, Nat.le_of_ble_eq_true rfl⟩ (by decide) rfl (shp_n g0 0 rfl) (shp_t g0 0 rfl) rfl (Nat.le_of_ble_eq_true rfl) (tX10_rankOf n q0 g0 y2 y1 I z7 hz7) rfl ?_
      refine ev_icmp_ne (tgt := 128) dX10_best_116 (by decide) (fun c8 => ?_) (fun c8 => ?_)
      · have h := ev_ifF h c8
        exact ev_weak (sb_s (sb_s (sb_s (sb_s (sb_n sb_0))))) (tX10_best_128 q0 g0 K21 k21 n y1 y2 y3 I _ h)
      · have h := ev_ifT h c8
        refine ev_iload dX10_best_119 rfl ?_
        refine ev_iload_n dX10_best_121 rfl ?_
        refine ev_icmp_ge (tgt := 128) dX10_best_122 (by decide) (fun c9 => ?_) (fun c9 => ?_)
        · have h := ev_ifT h c9
          exact ev_weak (sb_s (sb_s (sb_s (sb_s (sb_n sb_0))))) (tX10_best_128 q0 g0 K21 k21 n y1 y2 y3 I _ h)
        · have h := ev_ifF h c9
          exact ev_weak (sb_s (sb_s (sb_n (sb_s (sb_s sb_0))))) (tX10_best_125 q0 g0 K21 k21 n y1 y3 s0 I _ h)
set_option maxRecDepth 100000 in
set_option maxHeartbeats 4000000 in
theorem tX10_best_66 {E : ev_N} {σ : ev_H} (q0 : Nat) (g0 : shp tb9 σ q0) (K21 : Int32 → Int32 → Int32 → ev_I → Option (Int32 × ev_I)) (k21 : ∀ (y1 : Int32) (y2 : Int32) (y3 : Int32) (I : ev_I) (o : Int32 × ev_I), K21 y1 y2 y3 I = some o → EV E mX10_best 21 [some (.ref q0), some (.int y1), some (.int y2), some (.int y3), none] [] (h_w σ I) (Option.some (Value.int o.1), h_w σ o.2)) (n : Nat) (y1 : Int32) (y2 : Int32) (y3 : Int32) (I : ev_I) (o : Int32 × ev_I) : cX10_best_66 q0 K21 n y1 y2 y3 I = some o → EV E mX10_best 66 [some (.ref q0), some (.int y1), some (.int y2), some (.int y3), none] [] (h_w σ I) (Option.some (Value.int o.1), h_w σ o.2) := by
  intro h
  unfold cX10_best_66 at h
  refine ev_iload_n dX10_best_66 rfl ?_
  refine ev_if_ne (tgt := 74) dX10_best_67 (by decide) (fun c10 => ?_) (fun c10 => ?_)
  · have h := ev_ifF h c10
    refine ev_aload_n dX10_best_74 rfl (fun _ e => by cases e) ?_
    refine ev_iload_n dX10_best_75 rfl ?_
    refine ev_iload_n dX10_best_76 rfl ?_
    obtain ⟨z11, hz11, h⟩ := ev_bnE h
    refine ec_Vi (Y := mX10_ofNode) (ci := 9) (As := [.int y3, .int y1]) (rest := []) dX10_best_77 kX10_256 oX10_ofNode ⟨Nat.le_of_ble_eq_true rfl, Nat.le_of_ble_eq_true rfl⟩ (by decide) rfl (shp_n g0 0 rfl) (shp_t g0 0 rfl) rfl (Nat.le_of_ble_eq_true rfl) (tX10_ofNode n q0 g0 y3 y1 I z11 hz11) rfl ?_
    exact ev_weak (sb_s (sb_s (sb_s (sb_s (sb_n sb_0))))) (tX10_best_80 q0 g0 K21 k21 n y1 y2 y3 z11 I _ h)
  · have h := ev_ifT h c10
    refine ev_iload_n dX10_best_70 rfl ?_
    refine ev_goto (tgt := 80) dX10_best_71 (by decide) ?_
    exact ev_weak (sb_s (sb_s (sb_s (sb_s (sb_n sb_0))))) (tX10_best_80 q0 g0 K21 k21 n y1 y2 y3 y3 I _ h)
set_option maxRecDepth 100000 in
set_option maxHeartbeats 4000000 in
theorem tX10_best_37 {E : ev_N} {σ : ev_H} (q0 : Nat) (g0 : shp tb9 σ q0) (K21 : Int32 → Int32 → Int32 → ev_I → Option (Int32 × ev_I)) (k21 : ∀ (y1 : Int32) (y2 : Int32) (y3 : Int32) (I : ev_I) (o : Int32 × ev_I), K21 y1 y2 y3 I = some o → EV E mX10_best 21 [some (.ref q0), some (.int y1), some (.int y2), some (.int y3), none] [] (h_w σ I) (Option.some (Value.int o.1), h_w σ o.2)) (n : Nat) (y1 : Int32) (y2 : Int32) (y3 : Int32) (s0 : Int32) (s1 : Int32) (I : ev_I) (o : Int32 × ev_I) : cX10_best_37 q0 K21 n y1 y2 y3 s0 s1 I = some o → EV E mX10_best 37 [some (.ref q0), some (.int y1), some (.int y2), some (.int y3), none] [(.int s1), (.int s0)] (h_w σ I) (Option.some (Value.int o.1), h_w σ o.2) := by
  intro h
  unfold cX10_best_37 at h
  refine ev_icmp_ge (tgt := 134) dX10_best_37 (by decide) (fun c12 => ?_) (fun c12 => ?_)
  · have h := ev_ifT h c12
    refine ev_iload_n dX10_best_134 rfl ?_
    cases h
    exact er_i dX10_best_135 rfl rfl
  · have h := ev_ifF h c12
    refine ev_iload_n dX10_best_40 rfl ?_
    refine ev_if_ne (tgt := 55) dX10_best_41 (by decide) (fun c13 => ?_) (fun c13 => ?_)
    · have h := ev_ifF h c13
      refine ev_aload_n dX10_best_55 rfl (fun _ e => by cases e) ?_
      refine ev_iload_n dX10_best_56 rfl ?_
      obtain ⟨z14, hz14, h⟩ := ev_bnE h
      refine ec_Vi (Y := mX10_isSilent) (ci := 9) (As := [.int y3]) (rest := []) dX10_best_57 kX10_140 oX10_isSilent ⟨Nat.le_of_ble_eq_true rfl, Nat.le_of_ble_eq_true rfl⟩ (by decide) rfl (shp_n g0 0 rfl) (shp_t g0 0 rfl) rfl (Nat.le_of_ble_eq_true rfl) (tX10_isSilent n q0 g0 y3 I z14 hz14) rfl ?_
      refine ev_if_eq (tgt := 66) dX10_best_60 (by decide) (fun c15 => ?_) (fun c15 => ?_)
      · have h := ev_ifT h c15
        exact ev_weak (sb_s (sb_s (sb_s (sb_s (sb_n sb_0))))) (tX10_best_66 q0 g0 K21 k21 n y1 y2 y3 I _ h)
      · have h := ev_ifF h c15
        refine ev_goto (tgt := 128) dX10_best_63 (by decide) ?_
        exact ev_weak (sb_s (sb_s (sb_s (sb_s (sb_n sb_0))))) (tX10_best_128 q0 g0 K21 k21 n y1 y2 y3 I _ h)
    · have h := ev_ifT h c13
      refine ev_aload_n dX10_best_44 rfl (fun _ e => by cases e) ?_
      refine ev_iload_n dX10_best_45 rfl ?_
      obtain ⟨z16, hz16, h⟩ := ev_bnE h
      refine ec_Vi (Y := mX10_isCertified) (ci := 9) (As := [.int y3]) (rest := []) dX10_best_46 kX10_189 oX10_isCertified ⟨Nat.le_of_ble_eq_true rfl, Nat.le_of_ble_eq_true rfl⟩ (by decide) rfl (shp_n g0 0 rfl) (shp_t g0 0 rfl) rfl (Nat.le_of_ble_eq_true rfl) (tX10_isCertified n q0 g0 y3 I z16 hz16) rfl ?_
      refine ev_if_ne (tgt := 66) dX10_best_49 (by decide) (fun c17 => ?_) (fun c17 => ?_)
      · have h := ev_ifF h c17
        exact ev_weak (sb_s (sb_s (sb_s (sb_s (sb_n sb_0))))) (tX10_best_66 q0 g0 K21 k21 n y1 y2 y3 I _ h)
      · have h := ev_ifT h c17
        refine ev_goto (tgt := 128) dX10_best_52 (by decide) ?_
        exact ev_weak (sb_s (sb_s (sb_s (sb_s (sb_n sb_0))))) (tX10_best_128 q0 g0 K21 k21 n y1 y2 y3 I _ h)
set_option maxRecDepth 100000 in
set_option maxHeartbeats 4000000 in
theorem tX10_best_21 {E : ev_N} {σ : ev_H} (q0 : Nat) (g0 : shp tb9 σ q0) (K21 : Int32 → Int32 → Int32 → ev_I → Option (Int32 × ev_I)) (k21 : ∀ (y1 : Int32) (y2 : Int32) (y3 : Int32) (I : ev_I) (o : Int32 × ev_I), K21 y1 y2 y3 I = some o → EV E mX10_best 21 [some (.ref q0), some (.int y1), some (.int y2), some (.int y3), none] [] (h_w σ I) (Option.some (Value.int o.1), h_w σ o.2)) (n : Nat) (y1 : Int32) (y2 : Int32) (y3 : Int32) (I : ev_I) (o : Int32 × ev_I) : cX10_best_21 q0 K21 n y1 y2 y3 I = some o → EV E mX10_best 21 [some (.ref q0), some (.int y1), some (.int y2), some (.int y3), none] [] (h_w σ I) (Option.some (Value.int o.1), h_w σ o.2) := by
  intro h
  unfold cX10_best_21 at h
  refine ev_iload_n dX10_best_21 rfl ?_
  refine ev_iload_n dX10_best_22 rfl ?_
  refine ev_if_ne (tgt := 33) dX10_best_23 (by decide) (fun c18 => ?_) (fun c18 => ?_)
  · have h := ev_ifF h c18
    refine ev_aload_n dX10_best_33 rfl (fun _ e => by cases e) ?_
    obtain ⟨z19, hz19, h⟩ := ev_bnE h
    refine ec_Vi (Y := mX10_nodeMany) (ci := 9) (As := []) (rest := [(.int y3)]) dX10_best_34 kX10_47 oX10_nodeMany ⟨Nat.le_of_ble_eq_true rfl, Nat.le_of_ble_eq_true rfl⟩ (by decide) rfl (shp_n g0 0 rfl) (shp_t g0 0 rfl) rfl (Nat.le_of_ble_eq_true rfl) (tX10_nodeMany n q0 g0  I z19 hz19) rfl ?_
    exact ev_weak (sb_s (sb_s (sb_s (sb_s (sb_n sb_0))))) (tX10_best_37 q0 g0 K21 k21 n y1 y2 y3 y3 z19 I _ h)
  · have h := ev_ifT h c18
    refine ev_aload_n dX10_best_26 rfl (fun _ e => by cases e) ?_
    obtain ⟨z20, hz20, h⟩ := ev_bnE h
    refine ec_Vi (Y := mX10_blockMany) (ci := 9) (As := []) (rest := [(.int y3)]) dX10_best_27 kX10_51 oX10_blockMany ⟨Nat.le_of_ble_eq_true rfl, Nat.le_of_ble_eq_true rfl⟩ (by decide) rfl (shp_n g0 0 rfl) (shp_t g0 0 rfl) rfl (Nat.le_of_ble_eq_true rfl) (tX10_blockMany n q0 g0  I z20 hz20) rfl ?_
    refine ev_goto (tgt := 37) dX10_best_30 (by decide) ?_
    exact ev_weak (sb_s (sb_s (sb_s (sb_s (sb_n sb_0))))) (tX10_best_37 q0 g0 K21 k21 n y1 y2 y3 y3 z20 I _ h)
theorem tlX10_best_21 {E : ev_N} {σ : ev_H} (q0 : Nat) (g0 : shp tb9 σ q0) : ∀ (n : Nat) (y1 : Int32) (y2 : Int32) (y3 : Int32) (I : ev_I) (o : Int32 × ev_I), lX10_best_21 q0 n y1 y2 y3 I = some o → EV E mX10_best 21 [some (.ref q0), some (.int y1), some (.int y2), some (.int y3), none] [] (h_w σ I) (Option.some (Value.int o.1), h_w σ o.2)
  | 0, _, _, _, _, _, h => by cases h
  | n + 1, y1, y2, y3, I, o, h => tX10_best_21 q0 g0 (lX10_best_21 q0 n) (tlX10_best_21 q0 g0 n) n y1 y2 y3 I o h
set_option maxRecDepth 100000 in
set_option maxHeartbeats 4000000 in
theorem tX10_best {E : ev_N} {σ : ev_H} (n : Nat) (q0 : Nat) (g0 : shp tb9 σ q0) (x1 : Int32) (I : ev_I) (o : Int32 × ev_I) (h : pX10_best n q0 x1 I = some o) : ev_T E mX10_best [.ref q0, .int x1] (h_w σ I) (Option.some (Value.int o.1), h_w σ o.2) := by
  unfold pX10_best at h
  refine ev_met rfl rfl (Nat.le_of_ble_eq_true rfl) (ev_L0 (L' := [some (.ref q0), some (.int x1), none, none, none]) rfl ?_)
  refine ev_aload_n dX10_best_0 rfl (fun _ e => by cases e) ?_
  refine ev_iconst (v := (0 : Int32)) dX10_best_1 (by decide) ?_
  obtain ⟨I21, eI21, h⟩ := ev_ltE h
  refine ew_put0 dX10_best_2 fX10_44 g0 rfl rfl rfl rfl rfl rfl (ew_nh eI21 ?_)
  refine ev_aload_n dX10_best_5 rfl (fun _ e => by cases e) ?_
  refine ev_iload_n dX10_best_6 rfl ?_
  refine ev_iconst (v := (0 : Int32)) dX10_best_7 (by decide) ?_
  refine ev_iconst (v := (3 : Int32)) dX10_best_8 (by decide) ?_
  obtain ⟨z22, hz22, h⟩ := ev_bnE h
  refine ec_Vi (Y := mX10_isIn) (ci := 9) (As := [.int x1, .int (0 : Int32), .int (3 : Int32)]) (rest := []) dX10_best_9 kX10_61 oX10_isIn ⟨Nat.le_of_ble_eq_true rfl, Nat.le_of_ble_eq_true rfl⟩ (by decide) rfl (shp_n g0 0 rfl) (shp_t g0 0 rfl) rfl (Nat.le_of_ble_eq_true rfl) (tX10_isIn n q0 g0 x1 (0 : Int32) (3 : Int32) I21 z22 hz22) rfl ?_
  refine ev_if_ne (tgt := 17) dX10_best_12 (by decide) (fun c23 => ?_) (fun c23 => ?_)
  · have h := ev_ifF h c23
    refine ev_iconst (v := (-1 : Int32)) dX10_best_17 (by decide) ?_
    refine ew_istn (L' := [some (.ref q0), some (.int x1), some (.int (-1 : Int32)), none, none]) dX10_best_18 (Nat.le_of_ble_eq_true rfl) rfl ?_
    refine ev_iconst (v := (0 : Int32)) dX10_best_19 (by decide) ?_
    refine ew_istn (L' := [some (.ref q0), some (.int x1), some (.int (-1 : Int32)), some (.int (0 : Int32)), none]) dX10_best_20 (Nat.le_of_ble_eq_true rfl) rfl ?_
    exact ev_weak (sb_s (sb_s (sb_s (sb_s (sb_n sb_0))))) (tlX10_best_21 q0 g0 n x1 (-1 : Int32) (0 : Int32) I21 _ h)
  · have h := ev_ifT h c23
    refine ev_iconst (v := (-1 : Int32)) dX10_best_15 (by decide) ?_
    cases h
    exact er_i dX10_best_16 rfl rfl
-- ChainVotesModel node(II)I
def pX10_node (n : Nat) (q0 : Nat) (x1 : Int32) (x2 : Int32) (I : ev_I) : Option (Int32 × ev_I) :=
  ev_lt (ev_u2 I q0 0 (0 : Int32)) fun I1 =>
  (pX10_isNode n q0 x1 I1).bind fun z2 =>
  if z2 = 0 then
    some ((-1 : Int32), I1)
  else
    (pX10_isIn n q0 x2 (0 : Int32) (12 : Int32) I1).bind fun z4 =>
    if z4 = 0 then
      some ((-1 : Int32), I1)
    else
      (pX10_nodeAt n q0 x1 I1).bind fun z6 =>
      if x2 = (1 : Int32) then
        (pX10_viewOf n q0 x1 I1).bind fun z21 =>
        some (z21, I1)
      else
        if x2 = (8 : Int32) then
          (pX10_logMany n q0 x1 I1).bind fun z20 =>
          some (z20, I1)
        else
          if x2 = (9 : Int32) then
            (pX10_logLast n q0 x1 I1).bind fun z19 =>
            some (z19, I1)
          else
            if x2 = (10 : Int32) then
              ev_ck (ev_in (z6 + (9 : Int32)) 6010) <|
              some ((I1 (q0 + 1) (z6 + (9 : Int32)).toNatClampNeg), I1)
            else
              if x2 = (11 : Int32) then
                (pX10_canPropose n q0 x1 I1).bind fun z16 =>
                if z16 = 0 then
                  some ((0 : Int32), I1)
                else
                  some ((1 : Int32), I1)
              else
                if x2 = (12 : Int32) then
                  (pX10_canTimeOut n q0 x1 I1).bind fun z14 =>
                  if z14 = 0 then
                    some ((0 : Int32), I1)
                  else
                    some ((1 : Int32), I1)
                else
                  ev_ck (ev_in (z6 + x2) 6010) <|
                  some ((I1 (q0 + 1) (z6 + x2).toNatClampNeg), I1)
set_option maxRecDepth 100000 in
set_option maxHeartbeats 4000000 in
theorem tX10_node {E : ev_N} {σ : ev_H} (n : Nat) (q0 : Nat) (g0 : shp tb9 σ q0) (x1 : Int32) (x2 : Int32) (I : ev_I) (o : Int32 × ev_I) (h : pX10_node n q0 x1 x2 I = some o) : ev_T E mX10_node [.ref q0, .int x1, .int x2] (h_w σ I) (Option.some (Value.int o.1), h_w σ o.2) := by
  unfold pX10_node at h
  refine ev_met rfl rfl (Nat.le_of_ble_eq_true rfl) (ev_L0 (L' := [some (.ref q0), some (.int x1), some (.int x2), none]) rfl ?_)
  refine ev_aload_n dX10_node_0 rfl (fun _ e => by cases e) ?_
  refine ev_iconst (v := (0 : Int32)) dX10_node_1 (by decide) ?_
  obtain ⟨I1, eI1, h⟩ := ev_ltE h
  refine ew_put0 dX10_node_2 fX10_44 g0 rfl rfl rfl rfl rfl rfl (ew_nh eI1 ?_)
  refine ev_aload_n dX10_node_5 rfl (fun _ e => by cases e) ?_
  refine ev_iload_n dX10_node_6 rfl ?_
  obtain ⟨z2, hz2, h⟩ := ev_bnE h
  refine ec_Vi (Y := mX10_isNode) (ci := 9) (As := [.int x1]) (rest := []) dX10_node_7 kX10_71 oX10_isNode ⟨Nat.le_of_ble_eq_true rfl, Nat.le_of_ble_eq_true rfl⟩ (by decide) rfl (shp_n g0 0 rfl) (shp_t g0 0 rfl) rfl (Nat.le_of_ble_eq_true rfl) (tX10_isNode n q0 g0 x1 I1 z2 hz2) rfl ?_
  refine ev_if_eq (tgt := 24) dX10_node_10 (by decide) (fun c3 => ?_) (fun c3 => ?_)
  · have h := ev_ifT h c3
    refine ev_iconst (v := (-1 : Int32)) dX10_node_24 (by decide) ?_
    cases h
    exact er_i dX10_node_25 rfl rfl
  · have h := ev_ifF h c3
    refine ev_aload_n dX10_node_13 rfl (fun _ e => by cases e) ?_
    refine ev_iload_n dX10_node_14 rfl ?_
    refine ev_iconst (v := (0 : Int32)) dX10_node_15 (by decide) ?_
    refine ev_bipush (v := (12 : Int32)) dX10_node_16 (by decide) ?_
    obtain ⟨z4, hz4, h⟩ := ev_bnE h
    refine ec_Vi (Y := mX10_isIn) (ci := 9) (As := [.int x2, .int (0 : Int32), .int (12 : Int32)]) (rest := []) dX10_node_18 kX10_61 oX10_isIn ⟨Nat.le_of_ble_eq_true rfl, Nat.le_of_ble_eq_true rfl⟩ (by decide) rfl (shp_n g0 0 rfl) (shp_t g0 0 rfl) rfl (Nat.le_of_ble_eq_true rfl) (tX10_isIn n q0 g0 x2 (0 : Int32) (12 : Int32) I1 z4 hz4) rfl ?_
    refine ev_if_ne (tgt := 26) dX10_node_21 (by decide) (fun c5 => ?_) (fun c5 => ?_)
    · have h := ev_ifF h c5
      refine ev_aload_n dX10_node_26 rfl (fun _ e => by cases e) ?_
      refine ev_iload_n dX10_node_27 rfl ?_
      obtain ⟨z6, hz6, h⟩ := ev_bnE h
      refine ec_Vi (Y := mX10_nodeAt) (ci := 9) (As := [.int x1]) (rest := []) dX10_node_28 kX10_54 oX10_nodeAt ⟨Nat.le_of_ble_eq_true rfl, Nat.le_of_ble_eq_true rfl⟩ (by decide) rfl (shp_n g0 0 rfl) (shp_t g0 0 rfl) rfl (Nat.le_of_ble_eq_true rfl) (tX10_nodeAt n q0 g0 x1 I1 z6 hz6) rfl ?_
      refine ew_istn (L' := [some (.ref q0), some (.int x1), some (.int x2), some (.int z6)]) dX10_node_31 (Nat.le_of_ble_eq_true rfl) rfl ?_
      refine ev_iload_n dX10_node_32 rfl ?_
      refine ev_iconst (v := (1 : Int32)) dX10_node_33 (by decide) ?_
      refine ev_icmp_ne (tgt := 43) dX10_node_34 (by decide) (fun c7 => ?_) (fun c7 => ?_)
      · have h := ev_ifF h c7
        refine ev_iload_n dX10_node_43 rfl ?_
        refine ev_bipush (v := (8 : Int32)) dX10_node_44 (by decide) ?_
        refine ev_icmp_ne (tgt := 55) dX10_node_46 (by decide) (fun c8 => ?_) (fun c8 => ?_)
        · have h := ev_ifF h c8
          refine ev_iload_n dX10_node_55 rfl ?_
          refine ev_bipush (v := (9 : Int32)) dX10_node_56 (by decide) ?_
          refine ev_icmp_ne (tgt := 67) dX10_node_58 (by decide) (fun c9 => ?_) (fun c9 => ?_)
          · have h := ev_ifF h c9
            refine ev_iload_n dX10_node_67 rfl ?_
            refine ev_bipush (v := (10 : Int32)) dX10_node_68 (by decide) ?_
            refine ev_icmp_ne (tgt := 83) dX10_node_70 (by decide) (fun c10 => ?_) (fun c10 => ?_)
            · have h := ev_ifF h c10
              refine ev_iload_n dX10_node_83 rfl ?_
              refine ev_bipush (v := (11 : Int32)) dX10_node_84 (by decide) ?_
              refine ev_icmp_ne (tgt := 103) dX10_node_86 (by decide) (fun c11 => ?_) (fun c11 => ?_)
              · have h := ev_ifF h c11
                refine ev_iload_n dX10_node_103 rfl ?_
                refine ev_bipush (v := (12 : Int32)) dX10_node_104 (by decide) ?_
                refine ev_icmp_ne (tgt := 125) dX10_node_106 (by decide) (fun c12 => ?_) (fun c12 => ?_)
                · have h := ev_ifF h c12
                  refine ev_aload_n dX10_node_125 rfl (fun _ e => by cases e) ?_
                  refine ew_getr0 dX10_node_126 fX10_7 g0 rfl rfl rfl rfl ?_
                  refine ev_iload_n dX10_node_129 rfl ?_
                  refine ev_iload_n dX10_node_130 rfl ?_
                  refine ev_iadd dX10_node_131 ?_
                  obtain ⟨c13, h⟩ := ev_ckE h
                  refine ew_iald dX10_node_132 (shp_a g0 1 rfl) c13 ?_
                  cases h
                  exact er_i dX10_node_133 rfl rfl
                · have h := ev_ifT h c12
                  refine ev_aload_n dX10_node_109 rfl (fun _ e => by cases e) ?_
                  refine ev_iload_n dX10_node_110 rfl ?_
                  obtain ⟨z14, hz14, h⟩ := ev_bnE h
                  refine ec_Vi (Y := mX10_canTimeOut) (ci := 9) (As := [.int x1]) (rest := []) dX10_node_111 kX10_183 oX10_canTimeOut ⟨Nat.le_of_ble_eq_true rfl, Nat.le_of_ble_eq_true rfl⟩ (by decide) rfl (shp_n g0 0 rfl) (shp_t g0 0 rfl) rfl (Nat.le_of_ble_eq_true rfl) (tX10_canTimeOut n q0 g0 x1 I1 z14 hz14) rfl ?_
                  refine ev_if_eq (tgt := 121) dX10_node_114 (by decide) (fun c15 => ?_) (fun c15 => ?_)
                  · have h := ev_ifT h c15
                    refine ev_iconst (v := (0 : Int32)) dX10_node_121 (by decide) ?_
                    refine ev_goto (tgt := 133) dX10_node_122 (by decide) ?_
                    cases h
                    exact er_i dX10_node_133 rfl rfl
                  · have h := ev_ifF h c15
                    refine ev_iconst (v := (1 : Int32)) dX10_node_117 (by decide) ?_
                    refine ev_goto (tgt := 133) dX10_node_118 (by decide) ?_
                    cases h
                    exact er_i dX10_node_133 rfl rfl
              · have h := ev_ifT h c11
                refine ev_aload_n dX10_node_89 rfl (fun _ e => by cases e) ?_
                refine ev_iload_n dX10_node_90 rfl ?_
                obtain ⟨z16, hz16, h⟩ := ev_bnE h
                refine ec_Vi (Y := mX10_canPropose) (ci := 9) (As := [.int x1]) (rest := []) dX10_node_91 kX10_173 oX10_canPropose ⟨Nat.le_of_ble_eq_true rfl, Nat.le_of_ble_eq_true rfl⟩ (by decide) rfl (shp_n g0 0 rfl) (shp_t g0 0 rfl) rfl (Nat.le_of_ble_eq_true rfl) (tX10_canPropose n q0 g0 x1 I1 z16 hz16) rfl ?_
                refine ev_if_eq (tgt := 101) dX10_node_94 (by decide) (fun c17 => ?_) (fun c17 => ?_)
                · have h := ev_ifT h c17
                  refine ev_iconst (v := (0 : Int32)) dX10_node_101 (by decide) ?_
                  cases h
                  exact er_i dX10_node_102 rfl rfl
                · have h := ev_ifF h c17
                  refine ev_iconst (v := (1 : Int32)) dX10_node_97 (by decide) ?_
                  refine ev_goto (tgt := 102) dX10_node_98 (by decide) ?_
                  cases h
                  exact er_i dX10_node_102 rfl rfl
            · have h := ev_ifT h c10
              refine ev_aload_n dX10_node_73 rfl (fun _ e => by cases e) ?_
              refine ew_getr0 dX10_node_74 fX10_7 g0 rfl rfl rfl rfl ?_
              refine ev_iload_n dX10_node_77 rfl ?_
              refine ev_bipush (v := (9 : Int32)) dX10_node_78 (by decide) ?_
              refine ev_iadd dX10_node_80 ?_
              obtain ⟨c18, h⟩ := ev_ckE h
              refine ew_iald dX10_node_81 (shp_a g0 1 rfl) c18 ?_
              cases h
              exact er_i dX10_node_82 rfl rfl
          · have h := ev_ifT h c9
            refine ev_aload_n dX10_node_61 rfl (fun _ e => by cases e) ?_
            refine ev_iload_n dX10_node_62 rfl ?_
            obtain ⟨z19, hz19, h⟩ := ev_bnE h
            refine ec_Vi (Y := mX10_logLast) (ci := 9) (As := [.int x1]) (rest := []) dX10_node_63 kX10_90 oX10_logLast ⟨Nat.le_of_ble_eq_true rfl, Nat.le_of_ble_eq_true rfl⟩ (by decide) rfl (shp_n g0 0 rfl) (shp_t g0 0 rfl) rfl (Nat.le_of_ble_eq_true rfl) (tX10_logLast n q0 g0 x1 I1 z19 hz19) rfl ?_
            cases h
            exact er_i dX10_node_66 rfl rfl
        · have h := ev_ifT h c8
          refine ev_aload_n dX10_node_49 rfl (fun _ e => by cases e) ?_
          refine ev_iload_n dX10_node_50 rfl ?_
          obtain ⟨z20, hz20, h⟩ := ev_bnE h
          refine ec_Vi (Y := mX10_logMany) (ci := 9) (As := [.int x1]) (rest := []) dX10_node_51 kX10_202 oX10_logMany ⟨Nat.le_of_ble_eq_true rfl, Nat.le_of_ble_eq_true rfl⟩ (by decide) rfl (shp_n g0 0 rfl) (shp_t g0 0 rfl) rfl (Nat.le_of_ble_eq_true rfl) (tX10_logMany n q0 g0 x1 I1 z20 hz20) rfl ?_
          cases h
          exact er_i dX10_node_54 rfl rfl
      · have h := ev_ifT h c7
        refine ev_aload_n dX10_node_37 rfl (fun _ e => by cases e) ?_
        refine ev_iload_n dX10_node_38 rfl ?_
        obtain ⟨z21, hz21, h⟩ := ev_bnE h
        refine ec_Vi (Y := mX10_viewOf) (ci := 9) (As := [.int x1]) (rest := []) dX10_node_39 kX10_104 oX10_viewOf ⟨Nat.le_of_ble_eq_true rfl, Nat.le_of_ble_eq_true rfl⟩ (by decide) rfl (shp_n g0 0 rfl) (shp_t g0 0 rfl) rfl (Nat.le_of_ble_eq_true rfl) (tX10_viewOf n q0 g0 x1 I1 z21 hz21) rfl ?_
        cases h
        exact er_i dX10_node_42 rfl rfl
    · have h := ev_ifT h c5
      refine ev_iconst (v := (-1 : Int32)) dX10_node_24 (by decide) ?_
      cases h
      exact er_i dX10_node_25 rfl rfl
-- ChainVotesModel notEmpty(II)I
def cX10_notEmpty_27 (q0 : Nat) (K5 : Int32 → Int32 → Int32 → Int32 → ev_I → Option (Int32)) (n : Nat) (y1 : Int32) (y2 : Int32) (y3 : Int32) (y4 : Int32) (I : ev_I) : Option (Int32) :=
  ev_lt (y4 + (1 : Int32)) fun v1 =>
  K5 y1 y2 y3 v1 I
def cX10_notEmpty_5 (q0 : Nat) (K5 : Int32 → Int32 → Int32 → Int32 → ev_I → Option (Int32)) (n : Nat) (y1 : Int32) (y2 : Int32) (y3 : Int32) (y4 : Int32) (I : ev_I) : Option (Int32) :=
  if y2 ≤ y4 then
    some y3
  else
    ev_ck (ev_in (y1 + y4) 6010) <|
    if (I (q0 + 1) (y1 + y4).toNatClampNeg) = 0 then
      cX10_notEmpty_27 q0 K5 n y1 y2 y3 y4 I
    else
      ev_lt (y3 + (1 : Int32)) fun v5 =>
      cX10_notEmpty_27 q0 K5 n y1 y2 v5 y4 I
def lX10_notEmpty_5 (q0 : Nat) : Nat → Int32 → Int32 → Int32 → Int32 → ev_I → Option (Int32)
  | 0, _, _, _, _, _ => none
  | n + 1, y1, y2, y3, y4, I => cX10_notEmpty_5 q0 (lX10_notEmpty_5 q0 n) n y1 y2 y3 y4 I
def pX10_notEmpty (n : Nat) (q0 : Nat) (x1 : Int32) (x2 : Int32) (I : ev_I) : Option (Int32) :=
  lX10_notEmpty_5 q0 n x1 x2 (0 : Int32) (0 : Int32) I
set_option maxRecDepth 100000 in
set_option maxHeartbeats 4000000 in
theorem tX10_notEmpty_27 {E : ev_N} {σ : ev_H} (q0 : Nat) (g0 : shp tb9 σ q0) (K5 : Int32 → Int32 → Int32 → Int32 → ev_I → Option (Int32)) (k5 : ∀ (y1 : Int32) (y2 : Int32) (y3 : Int32) (y4 : Int32) (I : ev_I) (o : Int32), K5 y1 y2 y3 y4 I = some o → EV E mX10_notEmpty 5 [some (.ref q0), some (.int y1), some (.int y2), some (.int y3), some (.int y4)] [] (h_w σ I) (Option.some (Value.int o), h_w σ I)) (n : Nat) (y1 : Int32) (y2 : Int32) (y3 : Int32) (y4 : Int32) (I : ev_I) (o : Int32) : cX10_notEmpty_27 q0 K5 n y1 y2 y3 y4 I = some o → EV E mX10_notEmpty 27 [some (.ref q0), some (.int y1), some (.int y2), some (.int y3), some (.int y4)] [] (h_w σ I) (Option.some (Value.int o), h_w σ I) := by
  intro h
  unfold cX10_notEmpty_27 at h
  obtain ⟨v1, ev1, h⟩ := ev_ltE h
  refine ew_iinc (L' := [some (.ref q0), some (.int y1), some (.int y2), some (.int y3), some (.int v1)]) dX10_notEmpty_27 (Nat.le_of_ble_eq_true rfl) rfl (by decide) ev1 rfl ?_
  refine ev_goto (tgt := 5) dX10_notEmpty_30 (by decide) ?_
  exact ev_weak (sb_s (sb_s (sb_s (sb_s (sb_s sb_0))))) (k5 y1 y2 y3 v1 I _ h)
set_option maxRecDepth 100000 in
set_option maxHeartbeats 4000000 in
theorem tX10_notEmpty_5 {E : ev_N} {σ : ev_H} (q0 : Nat) (g0 : shp tb9 σ q0) (K5 : Int32 → Int32 → Int32 → Int32 → ev_I → Option (Int32)) (k5 : ∀ (y1 : Int32) (y2 : Int32) (y3 : Int32) (y4 : Int32) (I : ev_I) (o : Int32), K5 y1 y2 y3 y4 I = some o → EV E mX10_notEmpty 5 [some (.ref q0), some (.int y1), some (.int y2), some (.int y3), some (.int y4)] [] (h_w σ I) (Option.some (Value.int o), h_w σ I)) (n : Nat) (y1 : Int32) (y2 : Int32) (y3 : Int32) (y4 : Int32) (I : ev_I) (o : Int32) : cX10_notEmpty_5 q0 K5 n y1 y2 y3 y4 I = some o → EV E mX10_notEmpty 5 [some (.ref q0), some (.int y1), some (.int y2), some (.int y3), some (.int y4)] [] (h_w σ I) (Option.some (Value.int o), h_w σ I) := by
  intro h
  unfold cX10_notEmpty_5 at h
  refine ev_iload dX10_notEmpty_5 rfl ?_
  refine ev_iload_n dX10_notEmpty_7 rfl ?_
  refine ev_icmp_ge (tgt := 33) dX10_notEmpty_8 (by decide) (fun c2 => ?_) (fun c2 => ?_)
  · have h := ev_ifT h c2
    refine ev_iload_n dX10_notEmpty_33 rfl ?_
    cases h
    exact er_i dX10_notEmpty_34 rfl rfl
  · have h := ev_ifF h c2
    refine ev_aload_n dX10_notEmpty_11 rfl (fun _ e => by cases e) ?_
    refine ew_getr0 dX10_notEmpty_12 fX10_7 g0 rfl rfl rfl rfl ?_
    refine ev_iload_n dX10_notEmpty_15 rfl ?_
    refine ev_iload dX10_notEmpty_16 rfl ?_
    refine ev_iadd dX10_notEmpty_18 ?_
    obtain ⟨c3, h⟩ := ev_ckE h
    refine ew_iald dX10_notEmpty_19 (shp_a g0 1 rfl) c3 ?_
    refine ev_if_eq (tgt := 27) dX10_notEmpty_20 (by decide) (fun c4 => ?_) (fun c4 => ?_)
    · have h := ev_ifT h c4
      exact ev_weak (sb_s (sb_s (sb_s (sb_s (sb_s sb_0))))) (tX10_notEmpty_27 q0 g0 K5 k5 n y1 y2 y3 y4 I _ h)
    · have h := ev_ifF h c4
      refine ev_iload_n dX10_notEmpty_23 rfl ?_
      refine ev_iconst (v := (1 : Int32)) dX10_notEmpty_24 (by decide) ?_
      refine ev_iadd dX10_notEmpty_25 ?_
      obtain ⟨v5, ev5, h⟩ := ev_ltE h
      refine ew_nm ev5 ?_
      refine ew_istn (L' := [some (.ref q0), some (.int y1), some (.int y2), some (.int v5), some (.int y4)]) dX10_notEmpty_26 (Nat.le_of_ble_eq_true rfl) rfl ?_
      exact ev_weak (sb_s (sb_s (sb_s (sb_s (sb_s sb_0))))) (tX10_notEmpty_27 q0 g0 K5 k5 n y1 y2 v5 y4 I _ h)
theorem tlX10_notEmpty_5 {E : ev_N} {σ : ev_H} (q0 : Nat) (g0 : shp tb9 σ q0) : ∀ (n : Nat) (y1 : Int32) (y2 : Int32) (y3 : Int32) (y4 : Int32) (I : ev_I) (o : Int32), lX10_notEmpty_5 q0 n y1 y2 y3 y4 I = some o → EV E mX10_notEmpty 5 [some (.ref q0), some (.int y1), some (.int y2), some (.int y3), some (.int y4)] [] (h_w σ I) (Option.some (Value.int o), h_w σ I)
  | 0, _, _, _, _, _, _, h => by cases h
  | n + 1, y1, y2, y3, y4, I, o, h => tX10_notEmpty_5 q0 g0 (lX10_notEmpty_5 q0 n) (tlX10_notEmpty_5 q0 g0 n) n y1 y2 y3 y4 I o h
set_option maxRecDepth 100000 in
set_option maxHeartbeats 4000000 in
theorem tX10_notEmpty {E : ev_N} {σ : ev_H} (n : Nat) (q0 : Nat) (g0 : shp tb9 σ q0) (x1 : Int32) (x2 : Int32) (I : ev_I) (o : Int32) (h : pX10_notEmpty n q0 x1 x2 I = some o) : ev_T E mX10_notEmpty [.ref q0, .int x1, .int x2] (h_w σ I) (Option.some (Value.int o), h_w σ I) := by
  unfold pX10_notEmpty at h
  refine ev_met rfl rfl (Nat.le_of_ble_eq_true rfl) (ev_L0 (L' := [some (.ref q0), some (.int x1), some (.int x2), none, none]) rfl ?_)
  refine ev_iconst (v := (0 : Int32)) dX10_notEmpty_0 (by decide) ?_
  refine ew_istn (L' := [some (.ref q0), some (.int x1), some (.int x2), some (.int (0 : Int32)), none]) dX10_notEmpty_1 (Nat.le_of_ble_eq_true rfl) rfl ?_
  refine ev_iconst (v := (0 : Int32)) dX10_notEmpty_2 (by decide) ?_
  refine ew_ist (L' := [some (.ref q0), some (.int x1), some (.int x2), some (.int (0 : Int32)), some (.int (0 : Int32))]) dX10_notEmpty_3 (Nat.le_of_ble_eq_true rfl) rfl ?_
  exact ev_weak (sb_s (sb_s (sb_s (sb_s (sb_s sb_0))))) (tlX10_notEmpty_5 q0 g0 n x1 x2 (0 : Int32) (0 : Int32) I _ h)
-- ChainVotesModel since(II)I
def pX10_since (n : Nat) (q0 : Nat) (x1 : Int32) (x2 : Int32) (I : ev_I) : Option (Int32 × ev_I) :=
  ev_lt (ev_u2 I q0 0 (0 : Int32)) fun I1 =>
  (pX10_isNode n q0 x1 I1).bind fun z2 =>
  if z2 = 0 then
    some ((-100000 : Int32), I1)
  else
    (pX10_isIn n q0 x2 (0 : Int32) (6 : Int32) I1).bind fun z4 =>
    if z4 = 0 then
      some ((-100000 : Int32), I1)
    else
      (pX10_nodeAt n q0 x1 I1).bind fun z6 =>
      (pX10_logLast n q0 x1 I1).bind fun z7 =>
      if x2 = 0 then
        (pX10_viewOf n q0 x1 I1).bind fun z27 =>
        ev_ck (ev_in ((16 : Int32) + z7) 6010) <|
        some ((z27 - (I1 (q0 + 1) ((16 : Int32) + z7).toNatClampNeg)), I1)
      else
        if x2 = (1 : Int32) then
          ev_ck (ev_in (z6 + (5 : Int32)) 6010) <|
          ev_ck (ev_in ((516 : Int32) + (I1 (q0 + 1) (z6 + (5 : Int32)).toNatClampNeg)) 6010) <|
          ev_ck (ev_in ((516 : Int32) + z7) 6010) <|
          some (((I1 (q0 + 1) ((516 : Int32) + (I1 (q0 + 1) (z6 + (5 : Int32)).toNatClampNeg)).toNatClampNeg) - (I1 (q0 + 1) ((516 : Int32) + z7).toNatClampNeg)), I1)
        else
          if x2 = (2 : Int32) then
            ev_ck (ev_in (z6 + (5 : Int32)) 6010) <|
            ev_ck (ev_in (z6 + (6 : Int32)) 6010) <|
            (pX10_doesExtend n q0 (I1 (q0 + 1) (z6 + (5 : Int32)).toNatClampNeg) (I1 (q0 + 1) (z6 + (6 : Int32)).toNatClampNeg) I1).bind fun z22 =>
            if z22 = 0 then
              some ((0 : Int32), I1)
            else
              some ((1 : Int32), I1)
          else
            if x2 = (3 : Int32) then
              ev_ck (ev_in (z6 + (6 : Int32)) 6010) <|
              (pX10_doesExtend n q0 (I1 (q0 + 1) (z6 + (6 : Int32)).toNatClampNeg) z7 I1).bind fun z18 =>
              if z18 = 0 then
                some ((0 : Int32), I1)
              else
                some ((1 : Int32), I1)
            else
              if x2 = (4 : Int32) then
                ev_ck (ev_in (z6 + (10 : Int32)) 6010) <|
                some ((I1 (q0 + 1) (z6 + (10 : Int32)).toNatClampNeg), I1)
              else
                if x2 = (5 : Int32) then
                  (pX10_notEmpty n q0 (z6 + (312 : Int32)) (201 : Int32) I1).bind fun z15 =>
                  some (z15, I1)
                else
                  (pX10_notEmpty n q0 (z6 + (212 : Int32)) (100 : Int32) I1).bind fun z14 =>
                  some (z14, I1)
set_option maxRecDepth 100000 in
set_option maxHeartbeats 4000000 in
theorem tX10_since {E : ev_N} {σ : ev_H} (n : Nat) (q0 : Nat) (g0 : shp tb9 σ q0) (x1 : Int32) (x2 : Int32) (I : ev_I) (o : Int32 × ev_I) (h : pX10_since n q0 x1 x2 I = some o) : ev_T E mX10_since [.ref q0, .int x1, .int x2] (h_w σ I) (Option.some (Value.int o.1), h_w σ o.2) := by
  unfold pX10_since at h
  refine ev_met rfl rfl (Nat.le_of_ble_eq_true rfl) (ev_L0 (L' := [some (.ref q0), some (.int x1), some (.int x2), none, none]) rfl ?_)
  refine ev_aload_n dX10_since_0 rfl (fun _ e => by cases e) ?_
  refine ev_iconst (v := (0 : Int32)) dX10_since_1 (by decide) ?_
  obtain ⟨I1, eI1, h⟩ := ev_ltE h
  refine ew_put0 dX10_since_2 fX10_44 g0 rfl rfl rfl rfl rfl rfl (ew_nh eI1 ?_)
  refine ev_aload_n dX10_since_5 rfl (fun _ e => by cases e) ?_
  refine ev_iload_n dX10_since_6 rfl ?_
  obtain ⟨z2, hz2, h⟩ := ev_bnE h
  refine ec_Vi (Y := mX10_isNode) (ci := 9) (As := [.int x1]) (rest := []) dX10_since_7 kX10_71 oX10_isNode ⟨Nat.le_of_ble_eq_true rfl, Nat.le_of_ble_eq_true rfl⟩ (by decide) rfl (shp_n g0 0 rfl) (shp_t g0 0 rfl) rfl (Nat.le_of_ble_eq_true rfl) (tX10_isNode n q0 g0 x1 I1 z2 hz2) rfl ?_
  refine ev_if_eq (tgt := 24) dX10_since_10 (by decide) (fun c3 => ?_) (fun c3 => ?_)
  · have h := ev_ifT h c3
    refine ev_ldcw (v := (-100000 : Int32)) dX10_since_24 vX10_262 ?_
    cases h
    exact er_i dX10_since_27 rfl rfl
  · have h := ev_ifF h c3
    refine ev_aload_n dX10_since_13 rfl (fun _ e => by cases e) ?_
    refine ev_iload_n dX10_since_14 rfl ?_
    refine ev_iconst (v := (0 : Int32)) dX10_since_15 (by decide) ?_
    refine ev_bipush (v := (6 : Int32)) dX10_since_16 (by decide) ?_
    obtain ⟨z4, hz4, h⟩ := ev_bnE h
    refine ec_Vi (Y := mX10_isIn) (ci := 9) (As := [.int x2, .int (0 : Int32), .int (6 : Int32)]) (rest := []) dX10_since_18 kX10_61 oX10_isIn ⟨Nat.le_of_ble_eq_true rfl, Nat.le_of_ble_eq_true rfl⟩ (by decide) rfl (shp_n g0 0 rfl) (shp_t g0 0 rfl) rfl (Nat.le_of_ble_eq_true rfl) (tX10_isIn n q0 g0 x2 (0 : Int32) (6 : Int32) I1 z4 hz4) rfl ?_
    refine ev_if_ne (tgt := 28) dX10_since_21 (by decide) (fun c5 => ?_) (fun c5 => ?_)
    · have h := ev_ifF h c5
      refine ev_aload_n dX10_since_28 rfl (fun _ e => by cases e) ?_
      refine ev_iload_n dX10_since_29 rfl ?_
      obtain ⟨z6, hz6, h⟩ := ev_bnE h
      refine ec_Vi (Y := mX10_nodeAt) (ci := 9) (As := [.int x1]) (rest := []) dX10_since_30 kX10_54 oX10_nodeAt ⟨Nat.le_of_ble_eq_true rfl, Nat.le_of_ble_eq_true rfl⟩ (by decide) rfl (shp_n g0 0 rfl) (shp_t g0 0 rfl) rfl (Nat.le_of_ble_eq_true rfl) (tX10_nodeAt n q0 g0 x1 I1 z6 hz6) rfl ?_
      refine ew_istn (L' := [some (.ref q0), some (.int x1), some (.int x2), some (.int z6), none]) dX10_since_33 (Nat.le_of_ble_eq_true rfl) rfl ?_
      refine ev_aload_n dX10_since_34 rfl (fun _ e => by cases e) ?_
      refine ev_iload_n dX10_since_35 rfl ?_
      obtain ⟨z7, hz7, h⟩ := ev_bnE h
      refine ec_Vi (Y := mX10_logLast) (ci := 9) (As := [.int x1]) (rest := []) dX10_since_36 kX10_90 oX10_logLast ⟨Nat.le_of_ble_eq_true rfl, Nat.le_of_ble_eq_true rfl⟩ (by decide) rfl (shp_n g0 0 rfl) (shp_t g0 0 rfl) rfl (Nat.le_of_ble_eq_true rfl) (tX10_logLast n q0 g0 x1 I1 z7 hz7) rfl ?_
      refine ew_ist (L' := [some (.ref q0), some (.int x1), some (.int x2), some (.int z6), some (.int z7)]) dX10_since_39 (Nat.le_of_ble_eq_true rfl) rfl ?_
      refine ev_iload_n dX10_since_41 rfl ?_
      refine ev_if_ne (tgt := 62) dX10_since_42 (by decide) (fun c8 => ?_) (fun c8 => ?_)
      · have h := ev_ifF h c8
        refine ev_iload_n dX10_since_62 rfl ?_
        refine ev_iconst (v := (1 : Int32)) dX10_since_63 (by decide) ?_
        refine ev_icmp_ne (tgt := 97) dX10_since_64 (by decide) (fun c9 => ?_) (fun c9 => ?_)
        · have h := ev_ifF h c9
          refine ev_iload_n dX10_since_97 rfl ?_
          refine ev_iconst (v := (2 : Int32)) dX10_since_98 (by decide) ?_
          refine ev_icmp_ne (tgt := 132) dX10_since_99 (by decide) (fun c10 => ?_) (fun c10 => ?_)
          · have h := ev_ifF h c10
            refine ev_iload_n dX10_since_132 rfl ?_
            refine ev_iconst (v := (3 : Int32)) dX10_since_133 (by decide) ?_
            refine ev_icmp_ne (tgt := 161) dX10_since_134 (by decide) (fun c11 => ?_) (fun c11 => ?_)
            · have h := ev_ifF h c11
              refine ev_iload_n dX10_since_161 rfl ?_
              refine ev_iconst (v := (4 : Int32)) dX10_since_162 (by decide) ?_
              refine ev_icmp_ne (tgt := 176) dX10_since_163 (by decide) (fun c12 => ?_) (fun c12 => ?_)
              · have h := ev_ifF h c12
                refine ev_iload_n dX10_since_176 rfl ?_
                refine ev_iconst (v := (5 : Int32)) dX10_since_177 (by decide) ?_
                refine ev_icmp_ne (tgt := 196) dX10_since_178 (by decide) (fun c13 => ?_) (fun c13 => ?_)
                · have h := ev_ifF h c13
                  refine ev_aload_n dX10_since_196 rfl (fun _ e => by cases e) ?_
                  refine ev_iload_n dX10_since_197 rfl ?_
                  refine ev_sipush (v := (212 : Int32)) dX10_since_198 (by decide) ?_
                  refine ev_iadd dX10_since_201 ?_
                  refine ev_bipush (v := (100 : Int32)) dX10_since_202 (by decide) ?_
                  obtain ⟨z14, hz14, h⟩ := ev_bnE h
                  refine ec_Vi (Y := mX10_notEmpty) (ci := 9) (As := [.int (z6 + (212 : Int32)), .int (100 : Int32)]) (rest := []) dX10_since_204 kX10_263 oX10_notEmpty ⟨Nat.le_of_ble_eq_true rfl, Nat.le_of_ble_eq_true rfl⟩ (by decide) rfl (shp_n g0 0 rfl) (shp_t g0 0 rfl) rfl (Nat.le_of_ble_eq_true rfl) (tX10_notEmpty n q0 g0 (z6 + (212 : Int32)) (100 : Int32) I1 z14 hz14) rfl ?_
                  cases h
                  exact er_i dX10_since_207 rfl rfl
                · have h := ev_ifT h c13
                  refine ev_aload_n dX10_since_181 rfl (fun _ e => by cases e) ?_
                  refine ev_iload_n dX10_since_182 rfl ?_
                  refine ev_sipush (v := (312 : Int32)) dX10_since_183 (by decide) ?_
                  refine ev_iadd dX10_since_186 ?_
                  refine ev_sipush (v := (201 : Int32)) dX10_since_187 (by decide) ?_
                  obtain ⟨z15, hz15, h⟩ := ev_bnE h
                  refine ec_Vi (Y := mX10_notEmpty) (ci := 9) (As := [.int (z6 + (312 : Int32)), .int (201 : Int32)]) (rest := []) dX10_since_190 kX10_263 oX10_notEmpty ⟨Nat.le_of_ble_eq_true rfl, Nat.le_of_ble_eq_true rfl⟩ (by decide) rfl (shp_n g0 0 rfl) (shp_t g0 0 rfl) rfl (Nat.le_of_ble_eq_true rfl) (tX10_notEmpty n q0 g0 (z6 + (312 : Int32)) (201 : Int32) I1 z15 hz15) rfl ?_
                  refine ev_goto (tgt := 207) dX10_since_193 (by decide) ?_
                  cases h
                  exact er_i dX10_since_207 rfl rfl
              · have h := ev_ifT h c12
                refine ev_aload_n dX10_since_166 rfl (fun _ e => by cases e) ?_
                refine ew_getr0 dX10_since_167 fX10_7 g0 rfl rfl rfl rfl ?_
                refine ev_iload_n dX10_since_170 rfl ?_
                refine ev_bipush (v := (10 : Int32)) dX10_since_171 (by decide) ?_
                refine ev_iadd dX10_since_173 ?_
                obtain ⟨c16, h⟩ := ev_ckE h
                refine ew_iald dX10_since_174 (shp_a g0 1 rfl) c16 ?_
                cases h
                exact er_i dX10_since_175 rfl rfl
            · have h := ev_ifT h c11
              refine ev_aload_n dX10_since_137 rfl (fun _ e => by cases e) ?_
              refine ev_aload_n dX10_since_138 rfl (fun _ e => by cases e) ?_
              refine ew_getr0 dX10_since_139 fX10_7 g0 rfl rfl rfl rfl ?_
              refine ev_iload_n dX10_since_142 rfl ?_
              refine ev_bipush (v := (6 : Int32)) dX10_since_143 (by decide) ?_
              refine ev_iadd dX10_since_145 ?_
              obtain ⟨c17, h⟩ := ev_ckE h
              refine ew_iald dX10_since_146 (shp_a g0 1 rfl) c17 ?_
              refine ev_iload dX10_since_147 rfl ?_
              obtain ⟨z18, hz18, h⟩ := ev_bnE h
              refine ec_Vi (Y := mX10_doesExtend) (ci := 9) (As := [.int (I1 (q0 + 1) (z6 + (6 : Int32)).toNatClampNeg), .int z7]) (rest := []) dX10_since_149 kX10_93 oX10_doesExtend ⟨Nat.le_of_ble_eq_true rfl, Nat.le_of_ble_eq_true rfl⟩ (by decide) rfl (shp_n g0 0 rfl) (shp_t g0 0 rfl) rfl (Nat.le_of_ble_eq_true rfl) (tX10_doesExtend n q0 g0 (I1 (q0 + 1) (z6 + (6 : Int32)).toNatClampNeg) z7 I1 z18 hz18) rfl ?_
              refine ev_if_eq (tgt := 159) dX10_since_152 (by decide) (fun c19 => ?_) (fun c19 => ?_)
              · have h := ev_ifT h c19
                refine ev_iconst (v := (0 : Int32)) dX10_since_159 (by decide) ?_
                cases h
                exact er_i dX10_since_160 rfl rfl
              · have h := ev_ifF h c19
                refine ev_iconst (v := (1 : Int32)) dX10_since_155 (by decide) ?_
                refine ev_goto (tgt := 160) dX10_since_156 (by decide) ?_
                cases h
                exact er_i dX10_since_160 rfl rfl
          · have h := ev_ifT h c10
            refine ev_aload_n dX10_since_102 rfl (fun _ e => by cases e) ?_
            refine ev_aload_n dX10_since_103 rfl (fun _ e => by cases e) ?_
            refine ew_getr0 dX10_since_104 fX10_7 g0 rfl rfl rfl rfl ?_
            refine ev_iload_n dX10_since_107 rfl ?_
            refine ev_iconst (v := (5 : Int32)) dX10_since_108 (by decide) ?_
            refine ev_iadd dX10_since_109 ?_
            obtain ⟨c20, h⟩ := ev_ckE h
            refine ew_iald dX10_since_110 (shp_a g0 1 rfl) c20 ?_
            refine ev_aload_n dX10_since_111 rfl (fun _ e => by cases e) ?_
            refine ew_getr0 dX10_since_112 fX10_7 g0 rfl rfl rfl rfl ?_
            refine ev_iload_n dX10_since_115 rfl ?_
            refine ev_bipush (v := (6 : Int32)) dX10_since_116 (by decide) ?_
            refine ev_iadd dX10_since_118 ?_
            obtain ⟨c21, h⟩ := ev_ckE h
            refine ew_iald dX10_since_119 (shp_a g0 1 rfl) c21 ?_
            obtain ⟨z22, hz22, h⟩ := ev_bnE h
            refine ec_Vi (Y := mX10_doesExtend) (ci := 9) (As := [.int (I1 (q0 + 1) (z6 + (5 : Int32)).toNatClampNeg), .int (I1 (q0 + 1) (z6 + (6 : Int32)).toNatClampNeg)]) (rest := []) dX10_since_120 kX10_93 oX10_doesExtend ⟨Nat.le_of_ble_eq_true rfl, Nat.le_of_ble_eq_true rfl⟩ (by decide) rfl (shp_n g0 0 rfl) (shp_t g0 0 rfl) rfl (Nat.le_of_ble_eq_true rfl) (tX10_doesExtend n q0 g0 (I1 (q0 + 1) (z6 + (5 : Int32)).toNatClampNeg) (I1 (q0 + 1) (z6 + (6 : Int32)).toNatClampNeg) I1 z22 hz22) rfl ?_
            refine ev_if_eq (tgt := 130) dX10_since_123 (by decide) (fun c23 => ?_) (fun c23 => ?_)
            · have h := ev_ifT h c23
              refine ev_iconst (v := (0 : Int32)) dX10_since_130 (by decide) ?_
              cases h
              exact er_i dX10_since_131 rfl rfl
            · have h := ev_ifF h c23
              refine ev_iconst (v := (1 : Int32)) dX10_since_126 (by decide) ?_
              refine ev_goto (tgt := 131) dX10_since_127 (by decide) ?_
              cases h
              exact er_i dX10_since_131 rfl rfl
        · have h := ev_ifT h c9
          refine ev_aload_n dX10_since_67 rfl (fun _ e => by cases e) ?_
          refine ew_getr0 dX10_since_68 fX10_7 g0 rfl rfl rfl rfl ?_
          refine ev_sipush (v := (516 : Int32)) dX10_since_71 (by decide) ?_
          refine ev_aload_n dX10_since_74 rfl (fun _ e => by cases e) ?_
          refine ew_getr0 dX10_since_75 fX10_7 g0 rfl rfl rfl rfl ?_
          refine ev_iload_n dX10_since_78 rfl ?_
          refine ev_iconst (v := (5 : Int32)) dX10_since_79 (by decide) ?_
          refine ev_iadd dX10_since_80 ?_
          obtain ⟨c24, h⟩ := ev_ckE h
          refine ew_iald dX10_since_81 (shp_a g0 1 rfl) c24 ?_
          refine ev_iadd dX10_since_82 ?_
          obtain ⟨c25, h⟩ := ev_ckE h
          refine ew_iald dX10_since_83 (shp_a g0 1 rfl) c25 ?_
          refine ev_aload_n dX10_since_84 rfl (fun _ e => by cases e) ?_
          refine ew_getr0 dX10_since_85 fX10_7 g0 rfl rfl rfl rfl ?_
          refine ev_sipush (v := (516 : Int32)) dX10_since_88 (by decide) ?_
          refine ev_iload dX10_since_91 rfl ?_
          refine ev_iadd dX10_since_93 ?_
          obtain ⟨c26, h⟩ := ev_ckE h
          refine ew_iald dX10_since_94 (shp_a g0 1 rfl) c26 ?_
          refine ev_isub dX10_since_95 ?_
          cases h
          exact er_i dX10_since_96 rfl rfl
      · have h := ev_ifT h c8
        refine ev_aload_n dX10_since_45 rfl (fun _ e => by cases e) ?_
        refine ev_iload_n dX10_since_46 rfl ?_
        obtain ⟨z27, hz27, h⟩ := ev_bnE h
        refine ec_Vi (Y := mX10_viewOf) (ci := 9) (As := [.int x1]) (rest := []) dX10_since_47 kX10_104 oX10_viewOf ⟨Nat.le_of_ble_eq_true rfl, Nat.le_of_ble_eq_true rfl⟩ (by decide) rfl (shp_n g0 0 rfl) (shp_t g0 0 rfl) rfl (Nat.le_of_ble_eq_true rfl) (tX10_viewOf n q0 g0 x1 I1 z27 hz27) rfl ?_
        refine ev_aload_n dX10_since_50 rfl (fun _ e => by cases e) ?_
        refine ew_getr0 dX10_since_51 fX10_7 g0 rfl rfl rfl rfl ?_
        refine ev_bipush (v := (16 : Int32)) dX10_since_54 (by decide) ?_
        refine ev_iload dX10_since_56 rfl ?_
        refine ev_iadd dX10_since_58 ?_
        obtain ⟨c28, h⟩ := ev_ckE h
        refine ew_iald dX10_since_59 (shp_a g0 1 rfl) c28 ?_
        refine ev_isub dX10_since_60 ?_
        cases h
        exact er_i dX10_since_61 rfl rfl
    · have h := ev_ifT h c5
      refine ev_ldcw (v := (-100000 : Int32)) dX10_since_24 vX10_262 ?_
      cases h
      exact er_i dX10_since_27 rfl rfl
