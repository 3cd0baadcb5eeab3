-- ChainVotesModel couplesCut()I
def cX10_couplesCut_4 (q0 : Nat) (K4 : Int32 → Int32 → ev_I → Option (Int32)) (n : Nat) (y1 : Int32) (y2 : Int32) (I : ev_I) : Option (Int32) :=
  (pX10_nodeMany n q0  I).bind fun z1 =>
  if z1 ≤ y2 then
    some (y1 / (2 : Int32))
  else
    (pX10_nodeAt n q0 y2 I).bind fun z3 =>
    ev_ck (ev_in (z3 + (11 : Int32)) 6010) <|
    (pX10_onesOf n q0 (I (q0 + 1) (z3 + (11 : Int32)).toNatClampNeg) I).bind fun z5 =>
    ev_lt (y1 + z5) fun v6 =>
    ev_lt (y2 + (1 : Int32)) fun v7 =>
    K4 v6 v7 I
def lX10_couplesCut_4 (q0 : Nat) : Nat → Int32 → Int32 → ev_I → Option (Int32)
  | 0, _, _, _ => none
  | n + 1, y1, y2, I => cX10_couplesCut_4 q0 (lX10_couplesCut_4 q0 n) n y1 y2 I
def pX10_couplesCut (n : Nat) (q0 : Nat) (I : ev_I) : Option (Int32) :=
  lX10_couplesCut_4 q0 n (0 : Int32) (0 : Int32) I
set_option maxRecDepth 100000 in
set_option maxHeartbeats 4000000 in
theorem tX10_couplesCut_4 {E : ev_N} {σ : ev_H} (q0 : Nat) (g0 : shp tb9 σ q0) (K4 : Int32 → Int32 → ev_I → Option (Int32)) (k4 : ∀ (y1 : Int32) (y2 : Int32) (I : ev_I) (o : Int32), K4 y1 y2 I = some o → EV E mX10_couplesCut 4 [some (.ref q0), some (.int y1), some (.int y2)] [] (h_w σ I) (Option.some (Value.int o), h_w σ I)) (n : Nat) (y1 : Int32) (y2 : Int32) (I : ev_I) (o : Int32) : cX10_couplesCut_4 q0 K4 n y1 y2 I = some o → EV E mX10_couplesCut 4 [some (.ref q0), some (.int y1), some (.int y2)] [] (h_w σ I) (Option.some (Value.int o), h_w σ I) := by
  intro h
  unfold cX10_couplesCut_4 at h
  refine ev_iload_n dX10_couplesCut_4 rfl ?_
  refine ev_aload_n dX10_couplesCut_5 rfl (fun _ e => by cases e) ?_
  obtain ⟨z1, hz1, h⟩ := ev_bnE h
  refine ec_Vi (Y := mX10_nodeMany) (ci := 9) (As := []) (rest := [(.int y2)]) dX10_couplesCut_6 kX10_47 oX10_nodeMany ⟨Nat.le_of_ble_eq_true rfl, Nat.le_of_ble_eq_true rfl⟩ (by decide) rfl (shp_n g0 0 rfl) (shp_t g0 0 rfl) rfl (Nat.le_of_ble_eq_true rfl) (tX10_nodeMany n q0 g0  I z1 hz1) rfl ?_
  refine ev_icmp_ge (tgt := 38) dX10_couplesCut_9 (by decide) (fun c2 => ?_) (fun c2 => ?_)
  · have h := ev_ifT h c2
    refine ev_iload_n dX10_couplesCut_38 rfl ?_
    refine ev_iconst (v := (2 : Int32)) dX10_couplesCut_39 (by decide) ?_
    refine ev_idiv dX10_couplesCut_40 (by decide) ?_
    cases h
    exact er_i dX10_couplesCut_41 rfl rfl
  · have h := ev_ifF h c2
    refine ev_iload_n dX10_couplesCut_12 rfl ?_
    refine ev_aload_n dX10_couplesCut_13 rfl (fun _ e => by cases e) ?_
    refine ev_aload_n dX10_couplesCut_14 rfl (fun _ e => by cases e) ?_
    refine ew_getr0 dX10_couplesCut_15 fX10_7 g0 rfl rfl rfl rfl ?_
    refine ev_aload_n dX10_couplesCut_18 rfl (fun _ e => by cases e) ?_
    refine ev_iload_n dX10_couplesCut_19 rfl ?_
    obtain ⟨z3, hz3, h⟩ := ev_bnE h
    refine ec_Vi (Y := mX10_nodeAt) (ci := 9) (As := [.int y2]) (rest := [(.ref (q0 + 1)), (.ref q0), (.int y1)]) dX10_couplesCut_20 kX10_54 oX10_nodeAt ⟨Nat.le_of_ble_eq_true rfl, Nat.le_of_ble_eq_true rfl⟩ (by decide) rfl (shp_n g0 0 rfl) (shp_t g0 0 rfl) rfl (Nat.le_of_ble_eq_true rfl) (tX10_nodeAt n q0 g0 y2 I z3 hz3) rfl ?_
    refine ev_bipush (v := (11 : Int32)) dX10_couplesCut_23 (by decide) ?_
    refine ev_iadd dX10_couplesCut_25 ?_
    obtain ⟨c4, h⟩ := ev_ckE h
    refine ew_iald dX10_couplesCut_26 (shp_a g0 1 rfl) c4 ?_
    obtain ⟨z5, hz5, h⟩ := ev_bnE h
    refine ec_Vi (Y := mX10_onesOf) (ci := 9) (As := [.int (I (q0 + 1) (z3 + (11 : Int32)).toNatClampNeg)]) (rest := [(.int y1)]) dX10_couplesCut_27 kX10_131 oX10_onesOf ⟨Nat.le_of_ble_eq_true rfl, Nat.le_of_ble_eq_true rfl⟩ (by decide) rfl (shp_n g0 0 rfl) (shp_t g0 0 rfl) rfl (Nat.le_of_ble_eq_true rfl) (tX10_onesOf n q0 g0 (I (q0 + 1) (z3 + (11 : Int32)).toNatClampNeg) I z5 hz5) rfl ?_
    refine ev_iadd dX10_couplesCut_30 ?_
    obtain ⟨v6, ev6, h⟩ := ev_ltE h
    refine ew_nm ev6 ?_
    refine ew_istn (L' := [some (.ref q0), some (.int v6), some (.int y2)]) dX10_couplesCut_31 (Nat.le_of_ble_eq_true rfl) rfl ?_
    obtain ⟨v7, ev7, h⟩ := ev_ltE h
    refine ew_iinc (L' := [some (.ref q0), some (.int v6), some (.int v7)]) dX10_couplesCut_32 (Nat.le_of_ble_eq_true rfl) rfl (by decide) ev7 rfl ?_
    refine ev_goto (tgt := 4) dX10_couplesCut_35 (by decide) ?_
    exact ev_weak (sb_s (sb_s (sb_s sb_0))) (k4 v6 v7 I _ h)
theorem tlX10_couplesCut_4 {E : ev_N} {σ : ev_H} (q0 : Nat) (g0 : shp tb9 σ q0) : ∀ (n : Nat) (y1 : Int32) (y2 : Int32) (I : ev_I) (o : Int32), lX10_couplesCut_4 q0 n y1 y2 I = some o → EV E mX10_couplesCut 4 [some (.ref q0), some (.int y1), some (.int y2)] [] (h_w σ I) (Option.some (Value.int o), h_w σ I)
  | 0, _, _, _, _, h => by cases h
  | n + 1, y1, y2, I, o, h => tX10_couplesCut_4 q0 g0 (lX10_couplesCut_4 q0 n) (tlX10_couplesCut_4 q0 g0 n) n y1 y2 I o h
set_option maxRecDepth 100000 in
set_option maxHeartbeats 4000000 in
theorem tX10_couplesCut {E : ev_N} {σ : ev_H} (n : Nat) (q0 : Nat) (g0 : shp tb9 σ q0) (I : ev_I) (o : Int32) (h : pX10_couplesCut n q0  I = some o) : ev_T E mX10_couplesCut [.ref q0] (h_w σ I) (Option.some (Value.int o), h_w σ I) := by
  unfold pX10_couplesCut at h
  refine ev_met rfl rfl (Nat.le_of_ble_eq_true rfl) (ev_L0 (L' := [some (.ref q0), none, none]) rfl ?_)
  refine ev_iconst (v := (0 : Int32)) dX10_couplesCut_0 (by decide) ?_
  refine ew_istn (L' := [some (.ref q0), some (.int (0 : Int32)), none]) dX10_couplesCut_1 (Nat.le_of_ble_eq_true rfl) rfl ?_
  refine ev_iconst (v := (0 : Int32)) dX10_couplesCut_2 (by decide) ?_
  refine ew_istn (L' := [some (.ref q0), some (.int (0 : Int32)), some (.int (0 : Int32))]) dX10_couplesCut_3 (Nat.le_of_ble_eq_true rfl) rfl ?_
  exact ev_weak (sb_s (sb_s (sb_s sb_0))) (tlX10_couplesCut_4 q0 g0 n (0 : Int32) (0 : Int32) I _ h)
-- ChainVotesModel log(II)I
def pX10_log (n : Nat) (q0 : Nat) (x1 : Int32) (x2 : Int32) (I : ev_I) : Option (Int32 × ev_I) :=
  ev_lt (ev_u2 I q0 0 (0 : Int32)) fun I1 =>
  (pX10_isNode n q0 x1 I1).bind fun z2 =>
  if z2 = 0 then
    some ((-1 : Int32), I1)
  else
    (pX10_logMany n q0 x1 I1).bind fun z4 =>
    (pX10_isIn n q0 x2 (0 : Int32) (z4 - (1 : Int32)) I1).bind fun z5 =>
    if z5 = 0 then
      some ((-1 : Int32), I1)
    else
      (pX10_nodeAt n q0 x1 I1).bind fun z7 =>
      ev_ck (ev_in ((z7 + (12 : Int32)) + x2) 6010) <|
      some ((I1 (q0 + 1) ((z7 + (12 : Int32)) + x2).toNatClampNeg), I1)
set_option maxRecDepth 100000 in
set_option maxHeartbeats 4000000 in
theorem tX10_log {E : ev_N} {σ : ev_H} (n : Nat) (q0 : Nat) (g0 : shp tb9 σ q0) (x1 : Int32) (x2 : Int32) (I : ev_I) (o : Int32 × ev_I) (h : pX10_log n q0 x1 x2 I = some o) : ev_T E mX10_log [.ref q0, .int x1, .int x2] (h_w σ I) (Option.some (Value.int o.1), h_w σ o.2) := by
  unfold pX10_log at h
  refine ev_met rfl rfl (Nat.le_of_ble_eq_true rfl) (ev_L0 (L' := [some (.ref q0), some (.int x1), some (.int x2)]) rfl ?_)
  refine ev_aload_n dX10_log_0 rfl (fun _ e => by cases e) ?_
  refine ev_iconst (v := (0 : Int32)) dX10_log_1 (by decide) ?_
  obtain ⟨I1, eI1, h⟩ := ev_ltE h
  refine ew_put0 dX10_log_2 fX10_44 g0 rfl rfl rfl rfl rfl rfl (ew_nh eI1 ?_)
  refine ev_aload_n dX10_log_5 rfl (fun _ e => by cases e) ?_
  refine ev_iload_n dX10_log_6 rfl ?_
  obtain ⟨z2, hz2, h⟩ := ev_bnE h
  refine ec_Vi (Y := mX10_isNode) (ci := 9) (As := [.int x1]) (rest := []) dX10_log_7 kX10_71 oX10_isNode ⟨Nat.le_of_ble_eq_true rfl, Nat.le_of_ble_eq_true rfl⟩ (by decide) rfl (shp_n g0 0 rfl) (shp_t g0 0 rfl) rfl (Nat.le_of_ble_eq_true rfl) (tX10_isNode n q0 g0 x1 I1 z2 hz2) rfl ?_
  refine ev_if_eq (tgt := 47) dX10_log_10 (by decide) (fun c3 => ?_) (fun c3 => ?_)
  · have h := ev_ifT h c3
    refine ev_iconst (v := (-1 : Int32)) dX10_log_47 (by decide) ?_
    cases h
    exact er_i dX10_log_48 rfl rfl
  · have h := ev_ifF h c3
    refine ev_aload_n dX10_log_13 rfl (fun _ e => by cases e) ?_
    refine ev_iload_n dX10_log_14 rfl ?_
    refine ev_iconst (v := (0 : Int32)) dX10_log_15 (by decide) ?_
    refine ev_aload_n dX10_log_16 rfl (fun _ e => by cases e) ?_
    refine ev_iload_n dX10_log_17 rfl ?_
    obtain ⟨z4, hz4, h⟩ := ev_bnE h
    refine ec_Vi (Y := mX10_logMany) (ci := 9) (As := [.int x1]) (rest := [(.int (0 : Int32)), (.int x2), (.ref q0)]) dX10_log_18 kX10_202 oX10_logMany ⟨Nat.le_of_ble_eq_true rfl, Nat.le_of_ble_eq_true rfl⟩ (by decide) rfl (shp_n g0 0 rfl) (shp_t g0 0 rfl) rfl (Nat.le_of_ble_eq_true rfl) (tX10_logMany n q0 g0 x1 I1 z4 hz4) rfl ?_
    refine ev_iconst (v := (1 : Int32)) dX10_log_21 (by decide) ?_
    refine ev_isub dX10_log_22 ?_
    obtain ⟨z5, hz5, h⟩ := ev_bnE h
    refine ec_Vi (Y := mX10_isIn) (ci := 9) (As := [.int x2, .int (0 : Int32), .int (z4 - (1 : Int32))]) (rest := []) dX10_log_23 kX10_61 oX10_isIn ⟨Nat.le_of_ble_eq_true rfl, Nat.le_of_ble_eq_true rfl⟩ (by decide) rfl (shp_n g0 0 rfl) (shp_t g0 0 rfl) rfl (Nat.le_of_ble_eq_true rfl) (tX10_isIn n q0 g0 x2 (0 : Int32) (z4 - (1 : Int32)) I1 z5 hz5) rfl ?_
    refine ev_if_eq (tgt := 47) dX10_log_26 (by decide) (fun c6 => ?_) (fun c6 => ?_)
    · have h := ev_ifT h c6
      refine ev_iconst (v := (-1 : Int32)) dX10_log_47 (by decide) ?_
      cases h
      exact er_i dX10_log_48 rfl rfl
    · have h := ev_ifF h c6
      refine ev_aload_n dX10_log_29 rfl (fun _ e => by cases e) ?_
      refine ew_getr0 dX10_log_30 fX10_7 g0 rfl rfl rfl rfl ?_
      refine ev_aload_n dX10_log_33 rfl (fun _ e => by cases e) ?_
      refine ev_iload_n dX10_log_34 rfl ?_
      obtain ⟨z7, hz7, h⟩ := ev_bnE h
      refine ec_Vi (Y := mX10_nodeAt) (ci := 9) (As := [.int x1]) (rest := [(.ref (q0 + 1))]) dX10_log_35 kX10_54 oX10_nodeAt ⟨Nat.le_of_ble_eq_true rfl, Nat.le_of_ble_eq_true rfl⟩ (by decide) rfl (shp_n g0 0 rfl) (shp_t g0 0 rfl) rfl (Nat.le_of_ble_eq_true rfl) (tX10_nodeAt n q0 g0 x1 I1 z7 hz7) rfl ?_
      refine ev_bipush (v := (12 : Int32)) dX10_log_38 (by decide) ?_
      refine ev_iadd dX10_log_40 ?_
      refine ev_iload_n dX10_log_41 rfl ?_
      refine ev_iadd dX10_log_42 ?_
      obtain ⟨c8, h⟩ := ev_ckE h
      refine ew_iald dX10_log_43 (shp_a g0 1 rfl) c8 ?_
      refine ev_goto (tgt := 48) dX10_log_44 (by decide) ?_
      cases h
      exact er_i dX10_log_48 rfl rfl
-- ChainVotesModel block(II)I
def pX10_block (n : Nat) (q0 : Nat) (x1 : Int32) (x2 : Int32) (I : ev_I) : Option (Int32 × ev_I) :=
  ev_lt (ev_u2 I q0 0 (0 : Int32)) fun I1 =>
  (pX10_isBlock n q0 x1 I1).bind fun z2 =>
  if z2 = 0 then
    some ((-1 : Int32), I1)
  else
    (pX10_isIn n q0 x2 (0 : Int32) (7 : Int32) I1).bind fun z4 =>
    if z4 = 0 then
      some ((-1 : Int32), I1)
    else
      if x2 = (7 : Int32) then
        (pX10_isCertified n q0 x1 I1).bind fun z11 =>
        if z11 = 0 then
          some ((0 : Int32), I1)
        else
          some ((1 : Int32), I1)
      else
        ev_ck (ev_in (((16 : Int32) + ((100 : Int32) * x2)) + x1) 6010) <|
        ev_lt (I1 (q0 + 1) (((16 : Int32) + ((100 : Int32) * x2)) + x1).toNatClampNeg) fun v8 =>
        if x2 = (1 : Int32) then
          some ((v8 - (1 : Int32)), I1)
        else
          if x2 = (4 : Int32) then
            some ((v8 - (1 : Int32)), I1)
          else
            some (v8, I1)
set_option maxRecDepth 100000 in
set_option maxHeartbeats 4000000 in
theorem tX10_block {E : ev_N} {σ : ev_H} (n : Nat) (q0 : Nat) (g0 : shp tb9 σ q0) (x1 : Int32) (x2 : Int32) (I : ev_I) (o : Int32 × ev_I) (h : pX10_block n q0 x1 x2 I = some o) : ev_T E mX10_block [.ref q0, .int x1, .int x2] (h_w σ I) (Option.some (Value.int o.1), h_w σ o.2) := by
  unfold pX10_block at h
  refine ev_met rfl rfl (Nat.le_of_ble_eq_true rfl) (ev_L0 (L' := [some (.ref q0), some (.int x1), some (.int x2), none]) rfl ?_)
  refine ev_aload_n dX10_block_0 rfl (fun _ e => by cases e) ?_
  refine ev_iconst (v := (0 : Int32)) dX10_block_1 (by decide) ?_
  obtain ⟨I1, eI1, h⟩ := ev_ltE h
  refine ew_put0 dX10_block_2 fX10_44 g0 rfl rfl rfl rfl rfl rfl (ew_nh eI1 ?_)
  refine ev_aload_n dX10_block_5 rfl (fun _ e => by cases e) ?_
  refine ev_iload_n dX10_block_6 rfl ?_
  obtain ⟨z2, hz2, h⟩ := ev_bnE h
  refine ec_Vi (Y := mX10_isBlock) (ci := 9) (As := [.int x1]) (rest := []) dX10_block_7 kX10_192 oX10_isBlock ⟨Nat.le_of_ble_eq_true rfl, Nat.le_of_ble_eq_true rfl⟩ (by decide) rfl (shp_n g0 0 rfl) (shp_t g0 0 rfl) rfl (Nat.le_of_ble_eq_true rfl) (tX10_isBlock n q0 g0 x1 I1 z2 hz2) rfl ?_
  refine ev_if_eq (tgt := 24) dX10_block_10 (by decide) (fun c3 => ?_) (fun c3 => ?_)
  · have h := ev_ifT h c3
    refine ev_iconst (v := (-1 : Int32)) dX10_block_24 (by decide) ?_
    cases h
    exact er_i dX10_block_25 rfl rfl
  · have h := ev_ifF h c3
    refine ev_aload_n dX10_block_13 rfl (fun _ e => by cases e) ?_
    refine ev_iload_n dX10_block_14 rfl ?_
    refine ev_iconst (v := (0 : Int32)) dX10_block_15 (by decide) ?_
    refine ev_bipush (v := (7 : Int32)) dX10_block_16 (by decide) ?_
    obtain ⟨z4, hz4, h⟩ := ev_bnE h
    refine ec_Vi (Y := mX10_isIn) (ci := 9) (As := [.int x2, .int (0 : Int32), .int (7 : Int32)]) (rest := []) dX10_block_18 kX10_61 oX10_isIn ⟨Nat.le_of_ble_eq_true rfl, Nat.le_of_ble_eq_true rfl⟩ (by decide) rfl (shp_n g0 0 rfl) (shp_t g0 0 rfl) rfl (Nat.le_of_ble_eq_true rfl) (tX10_isIn n q0 g0 x2 (0 : Int32) (7 : Int32) I1 z4 hz4) rfl ?_
    refine ev_if_ne (tgt := 26) dX10_block_21 (by decide) (fun c5 => ?_) (fun c5 => ?_)
    · have h := ev_ifF h c5
      refine ev_iload_n dX10_block_26 rfl ?_
      refine ev_bipush (v := (7 : Int32)) dX10_block_27 (by decide) ?_
      refine ev_icmp_ne (tgt := 46) dX10_block_29 (by decide) (fun c6 => ?_) (fun c6 => ?_)
      · have h := ev_ifF h c6
        refine ev_aload_n dX10_block_46 rfl (fun _ e => by cases e) ?_
        refine ew_getr0 dX10_block_47 fX10_7 g0 rfl rfl rfl rfl ?_
        refine ev_bipush (v := (16 : Int32)) dX10_block_50 (by decide) ?_
        refine ev_bipush (v := (100 : Int32)) dX10_block_52 (by decide) ?_
        refine ev_iload_n dX10_block_54 rfl ?_
        refine ev_imul dX10_block_55 ?_
        refine ev_iadd dX10_block_56 ?_
        refine ev_iload_n dX10_block_57 rfl ?_
        refine ev_iadd dX10_block_58 ?_
        obtain ⟨c7, h⟩ := ev_ckE h
        refine ew_iald dX10_block_59 (shp_a g0 1 rfl) c7 ?_
        obtain ⟨v8, ev8, h⟩ := ev_ltE h
        refine ew_nm ev8 ?_
        refine ew_istn (L' := [some (.ref q0), some (.int x1), some (.int x2), some (.int v8)]) dX10_block_60 (Nat.le_of_ble_eq_true rfl) rfl ?_
        refine ev_iload_n dX10_block_61 rfl ?_
        refine ev_iconst (v := (1 : Int32)) dX10_block_62 (by decide) ?_
        refine ev_icmp_eq (tgt := 71) dX10_block_63 (by decide) (fun c9 => ?_) (fun c9 => ?_)
        · have h := ev_ifT h c9
          refine ev_iload_n dX10_block_71 rfl ?_
          refine ev_iconst (v := (1 : Int32)) dX10_block_72 (by decide) ?_
          refine ev_isub dX10_block_73 ?_
          refine ev_goto (tgt := 78) dX10_block_74 (by decide) ?_
          cases h
          exact er_i dX10_block_78 rfl rfl
        · have h := ev_ifF h c9
          refine ev_iload_n dX10_block_66 rfl ?_
          refine ev_iconst (v := (4 : Int32)) dX10_block_67 (by decide) ?_
          refine ev_icmp_ne (tgt := 77) dX10_block_68 (by decide) (fun c10 => ?_) (fun c10 => ?_)
          · have h := ev_ifF h c10
            refine ev_iload_n dX10_block_77 rfl ?_
            cases h
            exact er_i dX10_block_78 rfl rfl
          · have h := ev_ifT h c10
            refine ev_iload_n dX10_block_71 rfl ?_
            refine ev_iconst (v := (1 : Int32)) dX10_block_72 (by decide) ?_
            refine ev_isub dX10_block_73 ?_
            refine ev_goto (tgt := 78) dX10_block_74 (by decide) ?_
            cases h
            exact er_i dX10_block_78 rfl rfl
      · have h := ev_ifT h c6
        refine ev_aload_n dX10_block_32 rfl (fun _ e => by cases e) ?_
        refine ev_iload_n dX10_block_33 rfl ?_
        obtain ⟨z11, hz11, h⟩ := ev_bnE h
        refine ec_Vi (Y := mX10_isCertified) (ci := 9) (As := [.int x1]) (rest := []) dX10_block_34 kX10_189 oX10_isCertified ⟨Nat.le_of_ble_eq_true rfl, Nat.le_of_ble_eq_true rfl⟩ (by decide) rfl (shp_n g0 0 rfl) (shp_t g0 0 rfl) rfl (Nat.le_of_ble_eq_true rfl) (tX10_isCertified n q0 g0 x1 I1 z11 hz11) rfl ?_
        refine ev_if_eq (tgt := 44) dX10_block_37 (by decide) (fun c12 => ?_) (fun c12 => ?_)
        · have h := ev_ifT h c12
          refine ev_iconst (v := (0 : Int32)) dX10_block_44 (by decide) ?_
          cases h
          exact er_i dX10_block_45 rfl rfl
        · have h := ev_ifF h c12
          refine ev_iconst (v := (1 : Int32)) dX10_block_40 (by decide) ?_
          refine ev_goto (tgt := 45) dX10_block_41 (by decide) ?_
          cases h
          exact er_i dX10_block_45 rfl rfl
    · have h := ev_ifT h c5
      refine ev_iconst (v := (-1 : Int32)) dX10_block_24 (by decide) ?_
      cases h
      exact er_i dX10_block_25 rfl rfl
-- ChainVotesModel marks(II)I
def pX10_marks (n : Nat) (q0 : Nat) (x1 : Int32) (x2 : Int32) (I : ev_I) : Option (Int32 × ev_I) :=
  ev_lt (ev_u2 I q0 0 (0 : Int32)) fun I1 =>
  (pX10_isNode n q0 x1 I1).bind fun z2 =>
  if z2 = 0 then
    some ((-1 : Int32), I1)
  else
    (pX10_isBlock n q0 x2 I1).bind fun z4 =>
    if z4 = 0 then
      some ((-1 : Int32), I1)
    else
      (pX10_nodeAt n q0 x1 I1).bind fun z6 =>
      ev_ck (ev_in ((z6 + (212 : Int32)) + x2) 6010) <|
      (pX10_onesOf n q0 (I1 (q0 + 1) ((z6 + (212 : Int32)) + x2).toNatClampNeg) I1).bind fun z8 =>
      some (z8, I1)
set_option maxRecDepth 100000 in
set_option maxHeartbeats 4000000 in
theorem tX10_marks {E : ev_N} {σ : ev_H} (n : Nat) (q0 : Nat) (g0 : shp tb9 σ q0) (x1 : Int32) (x2 : Int32) (I : ev_I) (o : Int32 × ev_I) (h : pX10_marks n q0 x1 x2 I = some o) : ev_T E mX10_marks [.ref q0, .int x1, .int x2] (h_w σ I) (Option.some (Value.int o.1), h_w σ o.2) := by
  unfold pX10_marks at h
  refine ev_met rfl rfl (Nat.le_of_ble_eq_true rfl) (ev_L0 (L' := [some (.ref q0), some (.int x1), some (.int x2)]) rfl ?_)
  refine ev_aload_n dX10_marks_0 rfl (fun _ e => by cases e) ?_
  refine ev_iconst (v := (0 : Int32)) dX10_marks_1 (by decide) ?_
  obtain ⟨I1, eI1, h⟩ := ev_ltE h
  refine ew_put0 dX10_marks_2 fX10_44 g0 rfl rfl rfl rfl rfl rfl (ew_nh eI1 ?_)
  refine ev_aload_n dX10_marks_5 rfl (fun _ e => by cases e) ?_
  refine ev_iload_n dX10_marks_6 rfl ?_
  obtain ⟨z2, hz2, h⟩ := ev_bnE h
  refine ec_Vi (Y := mX10_isNode) (ci := 9) (As := [.int x1]) (rest := []) dX10_marks_7 kX10_71 oX10_isNode ⟨Nat.le_of_ble_eq_true rfl, Nat.le_of_ble_eq_true rfl⟩ (by decide) rfl (shp_n g0 0 rfl) (shp_t g0 0 rfl) rfl (Nat.le_of_ble_eq_true rfl) (tX10_isNode n q0 g0 x1 I1 z2 hz2) rfl ?_
  refine ev_if_eq (tgt := 44) dX10_marks_10 (by decide) (fun c3 => ?_) (fun c3 => ?_)
  · have h := ev_ifT h c3
    refine ev_iconst (v := (-1 : Int32)) dX10_marks_44 (by decide) ?_
    cases h
    exact er_i dX10_marks_45 rfl rfl
  · have h := ev_ifF h c3
    refine ev_aload_n dX10_marks_13 rfl (fun _ e => by cases e) ?_
    refine ev_iload_n dX10_marks_14 rfl ?_
    obtain ⟨z4, hz4, h⟩ := ev_bnE h
    refine ec_Vi (Y := mX10_isBlock) (ci := 9) (As := [.int x2]) (rest := []) dX10_marks_15 kX10_192 oX10_isBlock ⟨Nat.le_of_ble_eq_true rfl, Nat.le_of_ble_eq_true rfl⟩ (by decide) rfl (shp_n g0 0 rfl) (shp_t g0 0 rfl) rfl (Nat.le_of_ble_eq_true rfl) (tX10_isBlock n q0 g0 x2 I1 z4 hz4) rfl ?_
    refine ev_if_eq (tgt := 44) dX10_marks_18 (by decide) (fun c5 => ?_) (fun c5 => ?_)
    · have h := ev_ifT h c5
      refine ev_iconst (v := (-1 : Int32)) dX10_marks_44 (by decide) ?_
      cases h
      exact er_i dX10_marks_45 rfl rfl
    · have h := ev_ifF h c5
      refine ev_aload_n dX10_marks_21 rfl (fun _ e => by cases e) ?_
      refine ev_aload_n dX10_marks_22 rfl (fun _ e => by cases e) ?_
      refine ew_getr0 dX10_marks_23 fX10_7 g0 rfl rfl rfl rfl ?_
      refine ev_aload_n dX10_marks_26 rfl (fun _ e => by cases e) ?_
      refine ev_iload_n dX10_marks_27 rfl ?_
      obtain ⟨z6, hz6, h⟩ := ev_bnE h
      refine ec_Vi (Y := mX10_nodeAt) (ci := 9) (As := [.int x1]) (rest := [(.ref (q0 + 1)), (.ref q0)]) dX10_marks_28 kX10_54 oX10_nodeAt ⟨Nat.le_of_ble_eq_true rfl, Nat.le_of_ble_eq_true rfl⟩ (by decide) rfl (shp_n g0 0 rfl) (shp_t g0 0 rfl) rfl (Nat.le_of_ble_eq_true rfl) (tX10_nodeAt n q0 g0 x1 I1 z6 hz6) rfl ?_
      refine ev_sipush (v := (212 : Int32)) dX10_marks_31 (by decide) ?_
      refine ev_iadd dX10_marks_34 ?_
      refine ev_iload_n dX10_marks_35 rfl ?_
      refine ev_iadd dX10_marks_36 ?_
      obtain ⟨c7, h⟩ := ev_ckE h
      refine ew_iald dX10_marks_37 (shp_a g0 1 rfl) c7 ?_
      obtain ⟨z8, hz8, h⟩ := ev_bnE h
      refine ec_Vi (Y := mX10_onesOf) (ci := 9) (As := [.int (I1 (q0 + 1) ((z6 + (212 : Int32)) + x2).toNatClampNeg)]) (rest := []) dX10_marks_38 kX10_131 oX10_onesOf ⟨Nat.le_of_ble_eq_true rfl, Nat.le_of_ble_eq_true rfl⟩ (by decide) rfl (shp_n g0 0 rfl) (shp_t g0 0 rfl) rfl (Nat.le_of_ble_eq_true rfl) (tX10_onesOf n q0 g0 (I1 (q0 + 1) ((z6 + (212 : Int32)) + x2).toNatClampNeg) I1 z8 hz8) rfl ?_
      refine ev_goto (tgt := 45) dX10_marks_41 (by decide) ?_
      cases h
      exact er_i dX10_marks_45 rfl rfl
-- ChainVotesModel markers(II)I
def pX10_markers (n : Nat) (q0 : Nat) (x1 : Int32) (x2 : Int32) (I : ev_I) : Option (Int32 × ev_I) :=
  ev_lt (ev_u2 I q0 0 (0 : Int32)) fun I1 =>
  (pX10_isNode n q0 x1 I1).bind fun z2 =>
  if z2 = 0 then
    some ((-1 : Int32), I1)
  else
    (pX10_isBlock n q0 x2 I1).bind fun z4 =>
    if z4 = 0 then
      some ((-1 : Int32), I1)
    else
      (pX10_nodeAt n q0 x1 I1).bind fun z6 =>
      ev_ck (ev_in ((z6 + (212 : Int32)) + x2) 6010) <|
      some ((I1 (q0 + 1) ((z6 + (212 : Int32)) + x2).toNatClampNeg), I1)
set_option maxRecDepth 100000 in
set_option maxHeartbeats 4000000 in
theorem tX10_markers {E : ev_N} {σ : ev_H} (n : Nat) (q0 : Nat) (g0 : shp tb9 σ q0) (x1 : Int32) (x2 : Int32) (I : ev_I) (o : Int32 × ev_I) (h : pX10_markers n q0 x1 x2 I = some o) : ev_T E mX10_markers [.ref q0, .int x1, .int x2] (h_w σ I) (Option.some (Value.int o.1), h_w σ o.2) := by
  unfold pX10_markers at h
  refine ev_met rfl rfl (Nat.le_of_ble_eq_true rfl) (ev_L0 (L' := [some (.ref q0), some (.int x1), some (.int x2)]) rfl ?_)
  refine ev_aload_n dX10_markers_0 rfl (fun _ e => by cases e) ?_
  refine ev_iconst (v := (0 : Int32)) dX10_markers_1 (by decide) ?_
  obtain ⟨I1, eI1, h⟩ := ev_ltE h
  refine ew_put0 dX10_markers_2 fX10_44 g0 rfl rfl rfl rfl rfl rfl (ew_nh eI1 ?_)
  refine ev_aload_n dX10_markers_5 rfl (fun _ e => by cases e) ?_
  refine ev_iload_n dX10_markers_6 rfl ?_
  obtain ⟨z2, hz2, h⟩ := ev_bnE h
  refine ec_Vi (Y := mX10_isNode) (ci := 9) (As := [.int x1]) (rest := []) dX10_markers_7 kX10_71 oX10_isNode ⟨Nat.le_of_ble_eq_true rfl, Nat.le_of_ble_eq_true rfl⟩ (by decide) rfl (shp_n g0 0 rfl) (shp_t g0 0 rfl) rfl (Nat.le_of_ble_eq_true rfl) (tX10_isNode n q0 g0 x1 I1 z2 hz2) rfl ?_
  refine ev_if_eq (tgt := 40) dX10_markers_10 (by decide) (fun c3 => ?_) (fun c3 => ?_)
  · have h := ev_ifT h c3
    refine ev_iconst (v := (-1 : Int32)) dX10_markers_40 (by decide) ?_
    cases h
    exact er_i dX10_markers_41 rfl rfl
  · have h := ev_ifF h c3
    refine ev_aload_n dX10_markers_13 rfl (fun _ e => by cases e) ?_
    refine ev_iload_n dX10_markers_14 rfl ?_
    obtain ⟨z4, hz4, h⟩ := ev_bnE h
    refine ec_Vi (Y := mX10_isBlock) (ci := 9) (As := [.int x2]) (rest := []) dX10_markers_15 kX10_192 oX10_isBlock ⟨Nat.le_of_ble_eq_true rfl, Nat.le_of_ble_eq_true rfl⟩ (by decide) rfl (shp_n g0 0 rfl) (shp_t g0 0 rfl) rfl (Nat.le_of_ble_eq_true rfl) (tX10_isBlock n q0 g0 x2 I1 z4 hz4) rfl ?_
    refine ev_if_eq (tgt := 40) dX10_markers_18 (by decide) (fun c5 => ?_) (fun c5 => ?_)
    · have h := ev_ifT h c5
      refine ev_iconst (v := (-1 : Int32)) dX10_markers_40 (by decide) ?_
      cases h
      exact er_i dX10_markers_41 rfl rfl
    · have h := ev_ifF h c5
      refine ev_aload_n dX10_markers_21 rfl (fun _ e => by cases e) ?_
      refine ew_getr0 dX10_markers_22 fX10_7 g0 rfl rfl rfl rfl ?_
      refine ev_aload_n dX10_markers_25 rfl (fun _ e => by cases e) ?_
      refine ev_iload_n dX10_markers_26 rfl ?_
      obtain ⟨z6, hz6, h⟩ := ev_bnE h
      refine ec_Vi (Y := mX10_nodeAt) (ci := 9) (As := [.int x1]) (rest := [(.ref (q0 + 1))]) dX10_markers_27 kX10_54 oX10_nodeAt ⟨Nat.le_of_ble_eq_true rfl, Nat.le_of_ble_eq_true rfl⟩ (by decide) rfl (shp_n g0 0 rfl) (shp_t g0 0 rfl) rfl (Nat.le_of_ble_eq_true rfl) (tX10_nodeAt n q0 g0 x1 I1 z6 hz6) rfl ?_
      refine ev_sipush (v := (212 : Int32)) dX10_markers_30 (by decide) ?_
      refine ev_iadd dX10_markers_33 ?_
      refine ev_iload_n dX10_markers_34 rfl ?_
      refine ev_iadd dX10_markers_35 ?_
      obtain ⟨c7, h⟩ := ev_ckE h
      refine ew_iald dX10_markers_36 (shp_a g0 1 rfl) c7 ?_
      refine ev_goto (tgt := 41) dX10_markers_37 (by decide) ?_
      cases h
      exact er_i dX10_markers_41 rfl rfl
-- ChainVotesModel timeouts(II)I
def pX10_timeouts (n : Nat) (q0 : Nat) (x1 : Int32) (x2 : Int32) (I : ev_I) : Option (Int32 × ev_I) :=
  ev_lt (ev_u2 I q0 0 (0 : Int32)) fun I1 =>
  (pX10_isNode n q0 x1 I1).bind fun z2 =>
  if z2 = 0 then
    some ((-1 : Int32), I1)
  else
    (pX10_isIn n q0 x2 (1 : Int32) (200 : Int32) I1).bind fun z4 =>
    if z4 = 0 then
      some ((-1 : Int32), I1)
    else
      (pX10_nodeAt n q0 x1 I1).bind fun z6 =>
      ev_ck (ev_in ((z6 + (312 : Int32)) + x2) 6010) <|
      (pX10_onesOf n q0 (I1 (q0 + 1) ((z6 + (312 : Int32)) + x2).toNatClampNeg) I1).bind fun z8 =>
      some (z8, I1)
set_option maxRecDepth 100000 in
set_option maxHeartbeats 4000000 in
theorem tX10_timeouts {E : ev_N} {σ : ev_H} (n : Nat) (q0 : Nat) (g0 : shp tb9 σ q0) (x1 : Int32) (x2 : Int32) (I : ev_I) (o : Int32 × ev_I) (h : pX10_timeouts n q0 x1 x2 I = some o) : ev_T E mX10_timeouts [.ref q0, .int x1, .int x2] (h_w σ I) (Option.some (Value.int o.1), h_w σ o.2) := by
  unfold pX10_timeouts at h
  refine ev_met rfl rfl (Nat.le_of_ble_eq_true rfl) (ev_L0 (L' := [some (.ref q0), some (.int x1), some (.int x2)]) rfl ?_)
  refine ev_aload_n dX10_timeouts_0 rfl (fun _ e => by cases e) ?_
  refine ev_iconst (v := (0 : Int32)) dX10_timeouts_1 (by decide) ?_
  obtain ⟨I1, eI1, h⟩ := ev_ltE h
  refine ew_put0 dX10_timeouts_2 fX10_44 g0 rfl rfl rfl rfl rfl rfl (ew_nh eI1 ?_)
  refine ev_aload_n dX10_timeouts_5 rfl (fun _ e => by cases e) ?_
  refine ev_iload_n dX10_timeouts_6 rfl ?_
  obtain ⟨z2, hz2, h⟩ := ev_bnE h
  refine ec_Vi (Y := mX10_isNode) (ci := 9) (As := [.int x1]) (rest := []) dX10_timeouts_7 kX10_71 oX10_isNode ⟨Nat.le_of_ble_eq_true rfl, Nat.le_of_ble_eq_true rfl⟩ (by decide) rfl (shp_n g0 0 rfl) (shp_t g0 0 rfl) rfl (Nat.le_of_ble_eq_true rfl) (tX10_isNode n q0 g0 x1 I1 z2 hz2) rfl ?_
  refine ev_if_eq (tgt := 48) dX10_timeouts_10 (by decide) (fun c3 => ?_) (fun c3 => ?_)
  · have h := ev_ifT h c3
    refine ev_iconst (v := (-1 : Int32)) dX10_timeouts_48 (by decide) ?_
    cases h
    exact er_i dX10_timeouts_49 rfl rfl
  · have h := ev_ifF h c3
    refine ev_aload_n dX10_timeouts_13 rfl (fun _ e => by cases e) ?_
    refine ev_iload_n dX10_timeouts_14 rfl ?_
    refine ev_iconst (v := (1 : Int32)) dX10_timeouts_15 (by decide) ?_
    refine ev_sipush (v := (200 : Int32)) dX10_timeouts_16 (by decide) ?_
    obtain ⟨z4, hz4, h⟩ := ev_bnE h
    refine ec_Vi (Y := mX10_isIn) (ci := 9) (As := [.int x2, .int (1 : Int32), .int (200 : Int32)]) (rest := []) dX10_timeouts_19 kX10_61 oX10_isIn ⟨Nat.le_of_ble_eq_true rfl, Nat.le_of_ble_eq_true rfl⟩ (by decide) rfl (shp_n g0 0 rfl) (shp_t g0 0 rfl) rfl (Nat.le_of_ble_eq_true rfl) (tX10_isIn n q0 g0 x2 (1 : Int32) (200 : Int32) I1 z4 hz4) rfl ?_
    refine ev_if_eq (tgt := 48) dX10_timeouts_22 (by decide) (fun c5 => ?_) (fun c5 => ?_)
    · have h := ev_ifT h c5
      refine ev_iconst (v := (-1 : Int32)) dX10_timeouts_48 (by decide) ?_
      cases h
      exact er_i dX10_timeouts_49 rfl rfl
    · have h := ev_ifF h c5
      refine ev_aload_n dX10_timeouts_25 rfl (fun _ e => by cases e) ?_
      refine ev_aload_n dX10_timeouts_26 rfl (fun _ e => by cases e) ?_
      refine ew_getr0 dX10_timeouts_27 fX10_7 g0 rfl rfl rfl rfl ?_
      refine ev_aload_n dX10_timeouts_30 rfl (fun _ e => by cases e) ?_
      refine ev_iload_n dX10_timeouts_31 rfl ?_
      obtain ⟨z6, hz6, h⟩ := ev_bnE h
      refine ec_Vi (Y := mX10_nodeAt) (ci := 9) (As := [.int x1]) (rest := [(.ref (q0 + 1)), (.ref q0)]) dX10_timeouts_32 kX10_54 oX10_nodeAt ⟨Nat.le_of_ble_eq_true rfl, Nat.le_of_ble_eq_true rfl⟩ (by decide) rfl (shp_n g0 0 rfl) (shp_t g0 0 rfl) rfl (Nat.le_of_ble_eq_true rfl) (tX10_nodeAt n q0 g0 x1 I1 z6 hz6) rfl ?_
      refine ev_sipush (v := (312 : Int32)) dX10_timeouts_35 (by decide) ?_
      refine ev_iadd dX10_timeouts_38 ?_
      refine ev_iload_n dX10_timeouts_39 rfl ?_
      refine ev_iadd dX10_timeouts_40 ?_
      obtain ⟨c7, h⟩ := ev_ckE h
      refine ew_iald dX10_timeouts_41 (shp_a g0 1 rfl) c7 ?_
      obtain ⟨z8, hz8, h⟩ := ev_bnE h
      refine ec_Vi (Y := mX10_onesOf) (ci := 9) (As := [.int (I1 (q0 + 1) ((z6 + (312 : Int32)) + x2).toNatClampNeg)]) (rest := []) dX10_timeouts_42 kX10_131 oX10_onesOf ⟨Nat.le_of_ble_eq_true rfl, Nat.le_of_ble_eq_true rfl⟩ (by decide) rfl (shp_n g0 0 rfl) (shp_t g0 0 rfl) rfl (Nat.le_of_ble_eq_true rfl) (tX10_onesOf n q0 g0 (I1 (q0 + 1) ((z6 + (312 : Int32)) + x2).toNatClampNeg) I1 z8 hz8) rfl ?_
      refine ev_goto (tgt := 49) dX10_timeouts_45 (by decide) ?_
      cases h
      exact er_i dX10_timeouts_49 rfl rfl
-- ChainVotesModel message(II)I
def pX10_message (n : Nat) (q0 : Nat) (x1 : Int32) (x2 : Int32) (I : ev_I) : Option (Int32 × ev_I) :=
  ev_lt (ev_u2 I q0 0 (0 : Int32)) fun I1 =>
  (pX10_isMessage n q0 x1 I1).bind fun z2 =>
  if z2 = 0 then
    some ((-2 : Int32), I1)
  else
    (pX10_isIn n q0 x2 (0 : Int32) (4 : Int32) I1).bind fun z4 =>
    if z4 = 0 then
      some ((-2 : Int32), I1)
    else
      ev_ck (ev_in (((816 : Int32) + ((5 : Int32) * x1)) + x2) 6010) <|
      ev_lt (I1 (q0 + 1) (((816 : Int32) + ((5 : Int32) * x1)) + x2).toNatClampNeg) fun v7 =>
      if x2 = (4 : Int32) then
        some ((v7 - (1 : Int32)), I1)
      else
        some (v7, I1)
set_option maxRecDepth 100000 in
set_option maxHeartbeats 4000000 in
theorem tX10_message {E : ev_N} {σ : ev_H} (n : Nat) (q0 : Nat) (g0 : shp tb9 σ q0) (x1 : Int32) (x2 : Int32) (I : ev_I) (o : Int32 × ev_I) (h : pX10_message n q0 x1 x2 I = some o) : ev_T E mX10_message [.ref q0, .int x1, .int x2] (h_w σ I) (Option.some (Value.int o.1), h_w σ o.2) := by
  unfold pX10_message at h
  refine ev_met rfl rfl (Nat.le_of_ble_eq_true rfl) (ev_L0 (L' := [some (.ref q0), some (.int x1), some (.int x2), none]) rfl ?_)
  refine ev_aload_n dX10_message_0 rfl (fun _ e => by cases e) ?_
  refine ev_iconst (v := (0 : Int32)) dX10_message_1 (by decide) ?_
  obtain ⟨I1, eI1, h⟩ := ev_ltE h
  refine ew_put0 dX10_message_2 fX10_44 g0 rfl rfl rfl rfl rfl rfl (ew_nh eI1 ?_)
  refine ev_aload_n dX10_message_5 rfl (fun _ e => by cases e) ?_
  refine ev_iload_n dX10_message_6 rfl ?_
  obtain ⟨z2, hz2, h⟩ := ev_bnE h
  refine ec_Vi (Y := mX10_isMessage) (ci := 9) (As := [.int x1]) (rest := []) dX10_message_7 kX10_153 oX10_isMessage ⟨Nat.le_of_ble_eq_true rfl, Nat.le_of_ble_eq_true rfl⟩ (by decide) rfl (shp_n g0 0 rfl) (shp_t g0 0 rfl) rfl (Nat.le_of_ble_eq_true rfl) (tX10_isMessage n q0 g0 x1 I1 z2 hz2) rfl ?_
  refine ev_if_eq (tgt := 23) dX10_message_10 (by decide) (fun c3 => ?_) (fun c3 => ?_)
  · have h := ev_ifT h c3
    refine ev_bipush (v := (-2 : Int32)) dX10_message_23 (by decide) ?_
    cases h
    exact er_i dX10_message_25 rfl rfl
  · have h := ev_ifF h c3
    refine ev_aload_n dX10_message_13 rfl (fun _ e => by cases e) ?_
    refine ev_iload_n dX10_message_14 rfl ?_
    refine ev_iconst (v := (0 : Int32)) dX10_message_15 (by decide) ?_
    refine ev_iconst (v := (4 : Int32)) dX10_message_16 (by decide) ?_
    obtain ⟨z4, hz4, h⟩ := ev_bnE h
    refine ec_Vi (Y := mX10_isIn) (ci := 9) (As := [.int x2, .int (0 : Int32), .int (4 : Int32)]) (rest := []) dX10_message_17 kX10_61 oX10_isIn ⟨Nat.le_of_ble_eq_true rfl, Nat.le_of_ble_eq_true rfl⟩ (by decide) rfl (shp_n g0 0 rfl) (shp_t g0 0 rfl) rfl (Nat.le_of_ble_eq_true rfl) (tX10_isIn n q0 g0 x2 (0 : Int32) (4 : Int32) I1 z4 hz4) rfl ?_
    refine ev_if_ne (tgt := 26) dX10_message_20 (by decide) (fun c5 => ?_) (fun c5 => ?_)
    · have h := ev_ifF h c5
      refine ev_aload_n dX10_message_26 rfl (fun _ e => by cases e) ?_
      refine ew_getr0 dX10_message_27 fX10_7 g0 rfl rfl rfl rfl ?_
      refine ev_sipush (v := (816 : Int32)) dX10_message_30 (by decide) ?_
      refine ev_iconst (v := (5 : Int32)) dX10_message_33 (by decide) ?_
      refine ev_iload_n dX10_message_34 rfl ?_
      refine ev_imul dX10_message_35 ?_
      refine ev_iadd dX10_message_36 ?_
      refine ev_iload_n dX10_message_37 rfl ?_
      refine ev_iadd dX10_message_38 ?_
      obtain ⟨c6, h⟩ := ev_ckE h
      refine ew_iald dX10_message_39 (shp_a g0 1 rfl) c6 ?_
      obtain ⟨v7, ev7, h⟩ := ev_ltE h
      refine ew_nm ev7 ?_
      refine ew_istn (L' := [some (.ref q0), some (.int x1), some (.int x2), some (.int v7)]) dX10_message_40 (Nat.le_of_ble_eq_true rfl) rfl ?_
      refine ev_iload_n dX10_message_41 rfl ?_
      refine ev_iconst (v := (4 : Int32)) dX10_message_42 (by decide) ?_
      refine ev_icmp_ne (tgt := 52) dX10_message_43 (by decide) (fun c8 => ?_) (fun c8 => ?_)
      · have h := ev_ifF h c8
        refine ev_iload_n dX10_message_52 rfl ?_
        cases h
        exact er_i dX10_message_53 rfl rfl
      · have h := ev_ifT h c8
        refine ev_iload_n dX10_message_46 rfl ?_
        refine ev_iconst (v := (1 : Int32)) dX10_message_47 (by decide) ?_
        refine ev_isub dX10_message_48 ?_
        refine ev_goto (tgt := 53) dX10_message_49 (by decide) ?_
        cases h
        exact er_i dX10_message_53 rfl rfl
    · have h := ev_ifT h c5
      refine ev_bipush (v := (-2 : Int32)) dX10_message_23 (by decide) ?_
      cases h
      exact er_i dX10_message_25 rfl rfl
-- ChainVotesModel evidence(II)I
def pX10_evidence (n : Nat) (q0 : Nat) (x1 : Int32) (x2 : Int32) (I : ev_I) : Option (Int32 × ev_I) :=
  ev_lt (ev_u2 I q0 0 (0 : Int32)) fun I1 =>
  (pX10_isIn n q0 x1 (0 : Int32) ((I1 (q0 + 1) (7 : Int32).toNatClampNeg) - (1 : Int32)) I1).bind fun z2 =>
  if z2 = 0 then
    some ((-1 : Int32), I1)
  else
    (pX10_isIn n q0 x2 (0 : Int32) (4 : Int32) I1).bind fun z4 =>
    if z4 = 0 then
      some ((-1 : Int32), I1)
    else
      ev_ck (ev_in (((1816 : Int32) + ((5 : Int32) * x1)) + x2) 6010) <|
      some ((I1 (q0 + 1) (((1816 : Int32) + ((5 : Int32) * x1)) + x2).toNatClampNeg), I1)
set_option maxRecDepth 100000 in
set_option maxHeartbeats 4000000 in
theorem tX10_evidence {E : ev_N} {σ : ev_H} (n : Nat) (q0 : Nat) (g0 : shp tb9 σ q0) (x1 : Int32) (x2 : Int32) (I : ev_I) (o : Int32 × ev_I) (h : pX10_evidence n q0 x1 x2 I = some o) : ev_T E mX10_evidence [.ref q0, .int x1, .int x2] (h_w σ I) (Option.some (Value.int o.1), h_w σ o.2) := by
  unfold pX10_evidence at h
  refine ev_met rfl rfl (Nat.le_of_ble_eq_true rfl) (ev_L0 (L' := [some (.ref q0), some (.int x1), some (.int x2)]) rfl ?_)
  refine ev_aload_n dX10_evidence_0 rfl (fun _ e => by cases e) ?_
  refine ev_iconst (v := (0 : Int32)) dX10_evidence_1 (by decide) ?_
  obtain ⟨I1, eI1, h⟩ := ev_ltE h
  refine ew_put0 dX10_evidence_2 fX10_44 g0 rfl rfl rfl rfl rfl rfl (ew_nh eI1 ?_)
  refine ev_aload_n dX10_evidence_5 rfl (fun _ e => by cases e) ?_
  refine ev_iload_n dX10_evidence_6 rfl ?_
  refine ev_iconst (v := (0 : Int32)) dX10_evidence_7 (by decide) ?_
  refine ev_aload_n dX10_evidence_8 rfl (fun _ e => by cases e) ?_
  refine ew_getr0 dX10_evidence_9 fX10_7 g0 rfl rfl rfl rfl ?_
  refine ev_bipush (v := (7 : Int32)) dX10_evidence_12 (by decide) ?_
  refine ew_iald dX10_evidence_14 (shp_a g0 1 rfl) (by decide) ?_
  refine ev_iconst (v := (1 : Int32)) dX10_evidence_15 (by decide) ?_
  refine ev_isub dX10_evidence_16 ?_
  obtain ⟨z2, hz2, h⟩ := ev_bnE h
  refine ec_Vi (Y := mX10_isIn) (ci := 9) (As := [.int x1, .int (0 : Int32), .int ((I1 (q0 + 1) (7 : Int32).toNatClampNeg) - (1 : Int32))]) (rest := []) dX10_evidence_17 kX10_61 oX10_isIn ⟨Nat.le_of_ble_eq_true rfl, Nat.le_of_ble_eq_true rfl⟩ (by decide) rfl (shp_n g0 0 rfl) (shp_t g0 0 rfl) rfl (Nat.le_of_ble_eq_true rfl) (tX10_isIn n q0 g0 x1 (0 : Int32) ((I1 (q0 + 1) (7 : Int32).toNatClampNeg) - (1 : Int32)) I1 z2 hz2) rfl ?_
  refine ev_if_eq (tgt := 50) dX10_evidence_20 (by decide) (fun c3 => ?_) (fun c3 => ?_)
  · have h := ev_ifT h c3
    refine ev_iconst (v := (-1 : Int32)) dX10_evidence_50 (by decide) ?_
    cases h
    exact er_i dX10_evidence_51 rfl rfl
  · have h := ev_ifF h c3
    refine ev_aload_n dX10_evidence_23 rfl (fun _ e => by cases e) ?_
    refine ev_iload_n dX10_evidence_24 rfl ?_
    refine ev_iconst (v := (0 : Int32)) dX10_evidence_25 (by decide) ?_
    refine ev_iconst (v := (4 : Int32)) dX10_evidence_26 (by decide) ?_
    obtain ⟨z4, hz4, h⟩ := ev_bnE h
    refine ec_Vi (Y := mX10_isIn) (ci := 9) (As := [.int x2, .int (0 : Int32), .int (4 : Int32)]) (rest := []) dX10_evidence_27 kX10_61 oX10_isIn ⟨Nat.le_of_ble_eq_true rfl, Nat.le_of_ble_eq_true rfl⟩ (by decide) rfl (shp_n g0 0 rfl) (shp_t g0 0 rfl) rfl (Nat.le_of_ble_eq_true rfl) (tX10_isIn n q0 g0 x2 (0 : Int32) (4 : Int32) I1 z4 hz4) rfl ?_
    refine ev_if_eq (tgt := 50) dX10_evidence_30 (by decide) (fun c5 => ?_) (fun c5 => ?_)
    · have h := ev_ifT h c5
      refine ev_iconst (v := (-1 : Int32)) dX10_evidence_50 (by decide) ?_
      cases h
      exact er_i dX10_evidence_51 rfl rfl
    · have h := ev_ifF h c5
      refine ev_aload_n dX10_evidence_33 rfl (fun _ e => by cases e) ?_
      refine ew_getr0 dX10_evidence_34 fX10_7 g0 rfl rfl rfl rfl ?_
      refine ev_sipush (v := (1816 : Int32)) dX10_evidence_37 (by decide) ?_
      refine ev_iconst (v := (5 : Int32)) dX10_evidence_40 (by decide) ?_
      refine ev_iload_n dX10_evidence_41 rfl ?_
      refine ev_imul dX10_evidence_42 ?_
      refine ev_iadd dX10_evidence_43 ?_
      refine ev_iload_n dX10_evidence_44 rfl ?_
      refine ev_iadd dX10_evidence_45 ?_
      obtain ⟨c6, h⟩ := ev_ckE h
      refine ew_iald dX10_evidence_46 (shp_a g0 1 rfl) c6 ?_
      refine ev_goto (tgt := 51) dX10_evidence_47 (by decide) ?_
      cases h
      exact er_i dX10_evidence_51 rfl rfl
-- ChainVotesModel event(II)I
def pX10_event (n : Nat) (q0 : Nat) (x1 : Int32) (x2 : Int32) (I : ev_I) : Option (Int32 × ev_I) :=
  ev_lt (ev_u2 I q0 0 (0 : Int32)) fun I1 =>
  (pX10_isIn n q0 x1 (0 : Int32) ((I1 (q0 + 1) (8 : Int32).toNatClampNeg) - (1 : Int32)) I1).bind fun z2 =>
  if z2 = 0 then
    some ((-1 : Int32), I1)
  else
    (pX10_isIn n q0 x2 (0 : Int32) (2 : Int32) I1).bind fun z4 =>
    if z4 = 0 then
      some ((-1 : Int32), I1)
    else
      ev_ck (ev_in (((2116 : Int32) + ((3 : Int32) * x1)) + x2) 6010) <|
      some ((I1 (q0 + 1) (((2116 : Int32) + ((3 : Int32) * x1)) + x2).toNatClampNeg), I1)
set_option maxRecDepth 100000 in
set_option maxHeartbeats 4000000 in
theorem tX10_event {E : ev_N} {σ : ev_H} (n : Nat) (q0 : Nat) (g0 : shp tb9 σ q0) (x1 : Int32) (x2 : Int32) (I : ev_I) (o : Int32 × ev_I) (h : pX10_event n q0 x1 x2 I = some o) : ev_T E mX10_event [.ref q0, .int x1, .int x2] (h_w σ I) (Option.some (Value.int o.1), h_w σ o.2) := by
  unfold pX10_event at h
  refine ev_met rfl rfl (Nat.le_of_ble_eq_true rfl) (ev_L0 (L' := [some (.ref q0), some (.int x1), some (.int x2)]) rfl ?_)
  refine ev_aload_n dX10_event_0 rfl (fun _ e => by cases e) ?_
  refine ev_iconst (v := (0 : Int32)) dX10_event_1 (by decide) ?_
  obtain ⟨I1, eI1, h⟩ := ev_ltE h
  refine ew_put0 dX10_event_2 fX10_44 g0 rfl rfl rfl rfl rfl rfl (ew_nh eI1 ?_)
  refine ev_aload_n dX10_event_5 rfl (fun _ e => by cases e) ?_
  refine ev_iload_n dX10_event_6 rfl ?_
  refine ev_iconst (v := (0 : Int32)) dX10_event_7 (by decide) ?_
  refine ev_aload_n dX10_event_8 rfl (fun _ e => by cases e) ?_
  refine ew_getr0 dX10_event_9 fX10_7 g0 rfl rfl rfl rfl ?_
  refine ev_bipush (v := (8 : Int32)) dX10_event_12 (by decide) ?_
  refine ew_iald dX10_event_14 (shp_a g0 1 rfl) (by decide) ?_
  refine ev_iconst (v := (1 : Int32)) dX10_event_15 (by decide) ?_
  refine ev_isub dX10_event_16 ?_
  obtain ⟨z2, hz2, h⟩ := ev_bnE h
  refine ec_Vi (Y := mX10_isIn) (ci := 9) (As := [.int x1, .int (0 : Int32), .int ((I1 (q0 + 1) (8 : Int32).toNatClampNeg) - (1 : Int32))]) (rest := []) dX10_event_17 kX10_61 oX10_isIn ⟨Nat.le_of_ble_eq_true rfl, Nat.le_of_ble_eq_true rfl⟩ (by decide) rfl (shp_n g0 0 rfl) (shp_t g0 0 rfl) rfl (Nat.le_of_ble_eq_true rfl) (tX10_isIn n q0 g0 x1 (0 : Int32) ((I1 (q0 + 1) (8 : Int32).toNatClampNeg) - (1 : Int32)) I1 z2 hz2) rfl ?_
  refine ev_if_eq (tgt := 50) dX10_event_20 (by decide) (fun c3 => ?_) (fun c3 => ?_)
  · have h := ev_ifT h c3
    refine ev_iconst (v := (-1 : Int32)) dX10_event_50 (by decide) ?_
    cases h
    exact er_i dX10_event_51 rfl rfl
  · have h := ev_ifF h c3
    refine ev_aload_n dX10_event_23 rfl (fun _ e => by cases e) ?_
    refine ev_iload_n dX10_event_24 rfl ?_
    refine ev_iconst (v := (0 : Int32)) dX10_event_25 (by decide) ?_
    refine ev_iconst (v := (2 : Int32)) dX10_event_26 (by decide) ?_
    obtain ⟨z4, hz4, h⟩ := ev_bnE h
    refine ec_Vi (Y := mX10_isIn) (ci := 9) (As := [.int x2, .int (0 : Int32), .int (2 : Int32)]) (rest := []) dX10_event_27 kX10_61 oX10_isIn ⟨Nat.le_of_ble_eq_true rfl, Nat.le_of_ble_eq_true rfl⟩ (by decide) rfl (shp_n g0 0 rfl) (shp_t g0 0 rfl) rfl (Nat.le_of_ble_eq_true rfl) (tX10_isIn n q0 g0 x2 (0 : Int32) (2 : Int32) I1 z4 hz4) rfl ?_
    refine ev_if_eq (tgt := 50) dX10_event_30 (by decide) (fun c5 => ?_) (fun c5 => ?_)
    · have h := ev_ifT h c5
      refine ev_iconst (v := (-1 : Int32)) dX10_event_50 (by decide) ?_
      cases h
      exact er_i dX10_event_51 rfl rfl
    · have h := ev_ifF h c5
      refine ev_aload_n dX10_event_33 rfl (fun _ e => by cases e) ?_
      refine ew_getr0 dX10_event_34 fX10_7 g0 rfl rfl rfl rfl ?_
      refine ev_sipush (v := (2116 : Int32)) dX10_event_37 (by decide) ?_
      refine ev_iconst (v := (3 : Int32)) dX10_event_40 (by decide) ?_
      refine ev_iload_n dX10_event_41 rfl ?_
      refine ev_imul dX10_event_42 ?_
      refine ev_iadd dX10_event_43 ?_
      refine ev_iload_n dX10_event_44 rfl ?_
      refine ev_iadd dX10_event_45 ?_
      obtain ⟨c6, h⟩ := ev_ckE h
      refine ew_iald dX10_event_46 (shp_a g0 1 rfl) c6 ?_
      refine ev_goto (tgt := 51) dX10_event_47 (by decide) ?_
      cases h
      exact er_i dX10_event_51 rfl rfl
-- ChainVotesModel pending(II)I
def cX10_pending_85 (q0 : Nat) (K30 : Int32 → Int32 → Int32 → Int32 → ev_I → Option (Int32 × ev_I)) (n : Nat) (y1 : Int32) (y2 : Int32) (y3 : Int32) (y4 : Int32) (I : ev_I) : Option (Int32 × ev_I) :=
  ev_lt (y4 + (1 : Int32)) fun v1 =>
  K30 y1 y2 y3 v1 I
def cX10_pending_81 (q0 : Nat) (K30 : Int32 → Int32 → Int32 → Int32 → ev_I → Option (Int32 × ev_I)) (n : Nat) (y1 : Int32) (y2 : Int32) (y3 : Int32) (y4 : Int32) (I : ev_I) : Option (Int32 × ev_I) :=
  ev_lt (y3 + (1 : Int32)) fun v2 =>
  cX10_pending_85 q0 K30 n y1 y2 v2 y4 I
def cX10_pending_30 (q0 : Nat) (K30 : Int32 → Int32 → Int32 → Int32 → ev_I → Option (Int32 × ev_I)) (n : Nat) (y1 : Int32) (y2 : Int32) (y3 : Int32) (y4 : Int32) (I : ev_I) : Option (Int32 × ev_I) :=
  if (I (q0 + 1) (4 : Int32).toNatClampNeg) ≤ y4 then
    some (y3, I)
  else
    ev_lt ((816 : Int32) + ((5 : Int32) * y4)) fun v4 =>
    ev_ck (ev_in (v4 + (1 : Int32)) 6010) <|
    if (I (q0 + 1) (v4 + (1 : Int32)).toNatClampNeg) = y1 then
      if y2 = 0 then
        cX10_pending_81 q0 K30 n y1 y2 y3 y4 I
      else
        ev_ck (ev_in (v4 + (2 : Int32)) 6010) <|
        if (I (q0 + 1) (v4 + (2 : Int32)).toNatClampNeg) = y2 then
          cX10_pending_81 q0 K30 n y1 y2 y3 y4 I
        else
          cX10_pending_85 q0 K30 n y1 y2 y3 y4 I
    else
      cX10_pending_85 q0 K30 n y1 y2 y3 y4 I
def lX10_pending_30 (q0 : Nat) : Nat → Int32 → Int32 → Int32 → Int32 → ev_I → Option (Int32 × ev_I)
  | 0, _, _, _, _, _ => none
  | n + 1, y1, y2, y3, y4, I => cX10_pending_30 q0 (lX10_pending_30 q0 n) n y1 y2 y3 y4 I
def pX10_pending (n : Nat) (q0 : Nat) (x1 : Int32) (x2 : Int32) (I : ev_I) : Option (Int32 × ev_I) :=
  ev_lt (ev_u2 I q0 0 (0 : Int32)) fun I10 =>
  (pX10_isNode n q0 x1 I10).bind fun z11 =>
  if z11 = 0 then
    some ((-1 : Int32), I10)
  else
    (pX10_isIn n q0 x2 (0 : Int32) (3 : Int32) I10).bind fun z13 =>
    if z13 = 0 then
      some ((-1 : Int32), I10)
    else
      lX10_pending_30 q0 n x1 x2 (0 : Int32) (0 : Int32) I10
set_option maxRecDepth 100000 in
set_option maxHeartbeats 4000000 in
theorem tX10_pending_85 {E : ev_N} {σ : ev_H} (q0 : Nat) (g0 : shp tb9 σ q0) (K30 : Int32 → Int32 → Int32 → Int32 → ev_I → Option (Int32 × ev_I)) (k30 : ∀ (y1 : Int32) (y2 : Int32) (y3 : Int32) (y4 : Int32) (I : ev_I) (o : Int32 × ev_I), K30 y1 y2 y3 y4 I = some o → EV E mX10_pending 30 [some (.ref q0), some (.int y1), some (.int y2), some (.int y3), some (.int y4), none] [] (h_w σ I) (Option.some (Value.int o.1), h_w σ o.2)) (n : Nat) (y1 : Int32) (y2 : Int32) (y3 : Int32) (y4 : Int32) (I : ev_I) (o : Int32 × ev_I) : cX10_pending_85 q0 K30 n y1 y2 y3 y4 I = some o → EV E mX10_pending 85 [some (.ref q0), some (.int y1), some (.int y2), some (.int y3), some (.int y4), none] [] (h_w σ I) (Option.some (Value.int o.1), h_w σ o.2) := by
  intro h
  unfold cX10_pending_85 at h
  obtain ⟨v1, ev1, h⟩ := ev_ltE h
  refine ew_iinc (L' := [some (.ref q0), some (.int y1), some (.int y2), some (.int y3), some (.int v1), none]) dX10_pending_85 (Nat.le_of_ble_eq_true rfl) rfl (by decide) ev1 rfl ?_
  refine ev_goto (tgt := 30) dX10_pending_88 (by decide) ?_
  exact ev_weak (sb_s (sb_s (sb_s (sb_s (sb_s (sb_n sb_0)))))) (k30 y1 y2 y3 v1 I _ h)
set_option maxRecDepth 100000 in
set_option maxHeartbeats 4000000 in
theorem tX10_pending_81 {E : ev_N} {σ : ev_H} (q0 : Nat) (g0 : shp tb9 σ q0) (K30 : Int32 → Int32 → Int32 → Int32 → ev_I → Option (Int32 × ev_I)) (k30 : ∀ (y1 : Int32) (y2 : Int32) (y3 : Int32) (y4 : Int32) (I : ev_I) (o : Int32 × ev_I), K30 y1 y2 y3 y4 I = some o → EV E mX10_pending 30 [some (.ref q0), some (.int y1), some (.int y2), some (.int y3), some (.int y4), none] [] (h_w σ I) (Option.some (Value.int o.1), h_w σ o.2)) (n : Nat) (y1 : Int32) (y2 : Int32) (y3 : Int32) (y4 : Int32) (I : ev_I) (o : Int32 × ev_I) : cX10_pending_81 q0 K30 n y1 y2 y3 y4 I = some o → EV E mX10_pending 81 [some (.ref q0), some (.int y1), some (.int y2), some (.int y3), some (.int y4), none] [] (h_w σ I) (Option.some (Value.int o.1), h_w σ o.2) := by
  intro h
  unfold cX10_pending_81 at h
  refine ev_iload_n dX10_pending_81 rfl ?_
  refine ev_iconst (v := (1 : Int32)) dX10_pending_82 (by decide) ?_
  refine ev_iadd dX10_pending_83 ?_
  obtain ⟨v2, ev2, h⟩ := ev_ltE h
  refine ew_nm ev2 ?_
  refine ew_istn (L' := [some (.ref q0), some (.int y1), some (.int y2), some (.int v2), some (.int y4), none]) dX10_pending_84 (Nat.le_of_ble_eq_true rfl) rfl ?_
  exact ev_weak (sb_s (sb_s (sb_s (sb_s (sb_s (sb_n sb_0)))))) (tX10_pending_85 q0 g0 K30 k30 n y1 y2 v2 y4 I _ h)
set_option maxRecDepth 100000 in
set_option maxHeartbeats 4000000 in
theorem tX10_pending_30 {E : ev_N} {σ : ev_H} (q0 : Nat) (g0 : shp tb9 σ q0) (K30 : Int32 → Int32 → Int32 → Int32 → ev_I → Option (Int32 × ev_I)) (k30 : ∀ (y1 : Int32) (y2 : Int32) (y3 : Int32) (y4 : Int32) (I : ev_I) (o : Int32 × ev_I), K30 y1 y2 y3 y4 I = some o → EV E mX10_pending 30 [some (.ref q0), some (.int y1), some (.int y2), some (.int y3), some (.int y4), none] [] (h_w σ I) (Option.some (Value.int o.1), h_w σ o.2)) (n : Nat) (y1 : Int32) (y2 : Int32) (y3 : Int32) (y4 : Int32) (I : ev_I) (o : Int32 × ev_I) : cX10_pending_30 q0 K30 n y1 y2 y3 y4 I = some o → EV E mX10_pending 30 [some (.ref q0), some (.int y1), some (.int y2), some (.int y3), some (.int y4), none] [] (h_w σ I) (Option.some (Value.int o.1), h_w σ o.2) := by
  intro h
  unfold cX10_pending_30 at h
  refine ev_iload dX10_pending_30 rfl ?_
  refine ev_aload_n dX10_pending_32 rfl (fun _ e => by cases e) ?_
  refine ew_getr0 dX10_pending_33 fX10_7 g0 rfl rfl rfl rfl ?_
  refine ev_iconst (v := (4 : Int32)) dX10_pending_36 (by decide) ?_
  refine ew_iald dX10_pending_37 (shp_a g0 1 rfl) (by decide) ?_
  refine ev_icmp_ge (tgt := 91) dX10_pending_38 (by decide) (fun c3 => ?_) (fun c3 => ?_)
  · have h := ev_ifT h c3
    refine ev_iload_n dX10_pending_91 rfl ?_
    cases h
    exact er_i dX10_pending_92 rfl rfl
  · have h := ev_ifF h c3
    refine ev_sipush (v := (816 : Int32)) dX10_pending_41 (by decide) ?_
    refine ev_iconst (v := (5 : Int32)) dX10_pending_44 (by decide) ?_
    refine ev_iload dX10_pending_45 rfl ?_
    refine ev_imul dX10_pending_47 ?_
    refine ev_iadd dX10_pending_48 ?_
    obtain ⟨v4, ev4, h⟩ := ev_ltE h
    refine ew_nm ev4 ?_
    refine ew_ist (L' := [some (.ref q0), some (.int y1), some (.int y2), some (.int y3), some (.int y4), some (.int v4)]) dX10_pending_49 (Nat.le_of_ble_eq_true rfl) rfl ?_
    refine ev_aload_n dX10_pending_51 rfl (fun _ e => by cases e) ?_
    refine ew_getr0 dX10_pending_52 fX10_7 g0 rfl rfl rfl rfl ?_
    refine ev_iload dX10_pending_55 rfl ?_
    refine ev_iconst (v := (1 : Int32)) dX10_pending_57 (by decide) ?_
    refine ev_iadd dX10_pending_58 ?_
    obtain ⟨c5, h⟩ := ev_ckE h
    refine ew_iald dX10_pending_59 (shp_a g0 1 rfl) c5 ?_
    refine ev_iload_n dX10_pending_60 rfl ?_
    refine ev_icmp_ne (tgt := 85) dX10_pending_61 (by decide) (fun c6 => ?_) (fun c6 => ?_)
    · have h := ev_ifF h c6
      exact ev_weak (sb_s (sb_s (sb_s (sb_s (sb_s (sb_n sb_0)))))) (tX10_pending_85 q0 g0 K30 k30 n y1 y2 y3 y4 I _ h)
    · have h := ev_ifT h c6
      refine ev_iload_n dX10_pending_64 rfl ?_
      refine ev_if_eq (tgt := 81) dX10_pending_65 (by decide) (fun c7 => ?_) (fun c7 => ?_)
      · have h := ev_ifT h c7
        exact ev_weak (sb_s (sb_s (sb_s (sb_s (sb_s (sb_n sb_0)))))) (tX10_pending_81 q0 g0 K30 k30 n y1 y2 y3 y4 I _ h)
      · have h := ev_ifF h c7
        refine ev_aload_n dX10_pending_68 rfl (fun _ e => by cases e) ?_
        refine ew_getr0 dX10_pending_69 fX10_7 g0 rfl rfl rfl rfl ?_
        refine ev_iload dX10_pending_72 rfl ?_
        refine ev_iconst (v := (2 : Int32)) dX10_pending_74 (by decide) ?_
        refine ev_iadd dX10_pending_75 ?_
        obtain ⟨c8, h⟩ := ev_ckE h
        refine ew_iald dX10_pending_76 (shp_a g0 1 rfl) c8 ?_
        refine ev_iload_n dX10_pending_77 rfl ?_
        refine ev_icmp_ne (tgt := 85) dX10_pending_78 (by decide) (fun c9 => ?_) (fun c9 => ?_)
        · have h := ev_ifF h c9
          exact ev_weak (sb_s (sb_s (sb_s (sb_s (sb_s (sb_n sb_0)))))) (tX10_pending_85 q0 g0 K30 k30 n y1 y2 y3 y4 I _ h)
        · have h := ev_ifT h c9
          exact ev_weak (sb_s (sb_s (sb_s (sb_s (sb_s (sb_n sb_0)))))) (tX10_pending_81 q0 g0 K30 k30 n y1 y2 y3 y4 I _ h)
theorem tlX10_pending_30 {E : ev_N} {σ : ev_H} (q0 : Nat) (g0 : shp tb9 σ q0) : ∀ (n : Nat) (y1 : Int32) (y2 : Int32) (y3 : Int32) (y4 : Int32) (I : ev_I) (o : Int32 × ev_I), lX10_pending_30 q0 n y1 y2 y3 y4 I = some o → EV E mX10_pending 30 [some (.ref q0), some (.int y1), some (.int y2), some (.int y3), some (.int y4), none] [] (h_w σ I) (Option.some (Value.int o.1), h_w σ o.2)
  | 0, _, _, _, _, _, _, h => by cases h
  | n + 1, y1, y2, y3, y4, I, o, h => tX10_pending_30 q0 g0 (lX10_pending_30 q0 n) (tlX10_pending_30 q0 g0 n) n y1 y2 y3 y4 I o h
set_option maxRecDepth 100000 in
set_option maxHeartbeats 4000000 in
theorem tX10_pending {E : ev_N} {σ : ev_H} (n : Nat) (q0 : Nat) (g0 : shp tb9 σ q0) (x1 : Int32) (x2 : Int32) (I : ev_I) (o : Int32 × ev_I) (h : pX10_pending n q0 x1 x2 I = some o) : ev_T E mX10_pending [.ref q0, .int x1, .int x2] (h_w σ I) (Option.some (Value.int o.1), h_w σ o.2) := by
  unfold pX10_pending at h
  refine ev_met rfl rfl (Nat.le_of_ble_eq_true rfl) (ev_L0 (L' := [some (.ref q0), some (.int x1), some (.int x2), none, none, none]) rfl ?_)
  refine ev_aload_n dX10_pending_0 rfl (fun _ e => by cases e) ?_
  refine ev_iconst (v := (0 : Int32)) dX10_pending_1 (by decide) ?_
  obtain ⟨I10, eI10, h⟩ := ev_ltE h
  refine ew_put0 dX10_pending_2 fX10_44 g0 rfl rfl rfl rfl rfl rfl (ew_nh eI10 ?_)
  refine ev_aload_n dX10_pending_5 rfl (fun _ e => by cases e) ?_
  refine ev_iload_n dX10_pending_6 rfl ?_
  obtain ⟨z11, hz11, h⟩ := ev_bnE h
  refine ec_Vi (Y := mX10_isNode) (ci := 9) (As := [.int x1]) (rest := []) dX10_pending_7 kX10_71 oX10_isNode ⟨Nat.le_of_ble_eq_true rfl, Nat.le_of_ble_eq_true rfl⟩ (by decide) rfl (shp_n g0 0 rfl) (shp_t g0 0 rfl) rfl (Nat.le_of_ble_eq_true rfl) (tX10_isNode n q0 g0 x1 I10 z11 hz11) rfl ?_
  refine ev_if_eq (tgt := 23) dX10_pending_10 (by decide) (fun c12 => ?_) (fun c12 => ?_)
  · have h := ev_ifT h c12
    refine ev_iconst (v := (-1 : Int32)) dX10_pending_23 (by decide) ?_
    cases h
    exact er_i dX10_pending_24 rfl rfl
  · have h := ev_ifF h c12
    refine ev_aload_n dX10_pending_13 rfl (fun _ e => by cases e) ?_
    refine ev_iload_n dX10_pending_14 rfl ?_
    refine ev_iconst (v := (0 : Int32)) dX10_pending_15 (by decide) ?_
    refine ev_iconst (v := (3 : Int32)) dX10_pending_16 (by decide) ?_
    obtain ⟨z13, hz13, h⟩ := ev_bnE h
    refine ec_Vi (Y := mX10_isIn) (ci := 9) (As := [.int x2, .int (0 : Int32), .int (3 : Int32)]) (rest := []) dX10_pending_17 kX10_61 oX10_isIn ⟨Nat.le_of_ble_eq_true rfl, Nat.le_of_ble_eq_true rfl⟩ (by decide) rfl (shp_n g0 0 rfl) (shp_t g0 0 rfl) rfl (Nat.le_of_ble_eq_true rfl) (tX10_isIn n q0 g0 x2 (0 : Int32) (3 : Int32) I10 z13 hz13) rfl ?_
    refine ev_if_ne (tgt := 25) dX10_pending_20 (by decide) (fun c14 => ?_) (fun c14 => ?_)
    · have h := ev_ifF h c14
      refine ev_iconst (v := (0 : Int32)) dX10_pending_25 (by decide) ?_
      refine ew_istn (L' := [some (.ref q0), some (.int x1), some (.int x2), some (.int (0 : Int32)), none, none]) dX10_pending_26 (Nat.le_of_ble_eq_true rfl) rfl ?_
      refine ev_iconst (v := (0 : Int32)) dX10_pending_27 (by decide) ?_
      refine ew_ist (L' := [some (.ref q0), some (.int x1), some (.int x2), some (.int (0 : Int32)), some (.int (0 : Int32)), none]) dX10_pending_28 (Nat.le_of_ble_eq_true rfl) rfl ?_
      exact ev_weak (sb_s (sb_s (sb_s (sb_s (sb_s (sb_n sb_0)))))) (tlX10_pending_30 q0 g0 n x1 x2 (0 : Int32) (0 : Int32) I10 _ h)
    · have h := ev_ifT h c14
      refine ev_iconst (v := (-1 : Int32)) dX10_pending_23 (by decide) ?_
      cases h
      exact er_i dX10_pending_24 rfl rfl
-- ChainVotesModel modes(I)I
def cX10_modes_34 (q0 : Nat) (K4 : Int32 → Int32 → Int32 → ev_I → Option (Int32)) (n : Nat) (y1 : Int32) (y2 : Int32) (y3 : Int32) (I : ev_I) : Option (Int32) :=
  ev_lt (y3 + (1 : Int32)) fun v1 =>
  K4 y1 y2 v1 I
def cX10_modes_4 (q0 : Nat) (K4 : Int32 → Int32 → Int32 → ev_I → Option (Int32)) (n : Nat) (y1 : Int32) (y2 : Int32) (y3 : Int32) (I : ev_I) : Option (Int32) :=
  (pX10_nodeMany n q0  I).bind fun z2 =>
  if z2 ≤ y3 then
    some y2
  else
    (pX10_nodeAt n q0 y3 I).bind fun z4 =>
    ev_ck (ev_in (z4 + (0 : Int32)) 6010) <|
    if (I (q0 + 1) (z4 + (0 : Int32)).toNatClampNeg) = y1 then
      ev_lt (y2 ||| ((1 : Int32) <<< (y3 &&& 31))) fun v7 =>
      cX10_modes_34 q0 K4 n y1 v7 y3 I
    else
      cX10_modes_34 q0 K4 n y1 y2 y3 I
def lX10_modes_4 (q0 : Nat) : Nat → Int32 → Int32 → Int32 → ev_I → Option (Int32)
  | 0, _, _, _, _ => none
  | n + 1, y1, y2, y3, I => cX10_modes_4 q0 (lX10_modes_4 q0 n) n y1 y2 y3 I
def pX10_modes (n : Nat) (q0 : Nat) (x1 : Int32) (I : ev_I) : Option (Int32) :=
  lX10_modes_4 q0 n x1 (0 : Int32) (0 : Int32) I
set_option maxRecDepth 100000 in
set_option maxHeartbeats 4000000 in
theorem tX10_modes_34 {E : ev_N} {σ : ev_H} (q0 : Nat) (g0 : shp tb9 σ q0) (K4 : Int32 → Int32 → Int32 → ev_I → Option (Int32)) (k4 : ∀ (y1 : Int32) (y2 : Int32) (y3 : Int32) (I : ev_I) (o : Int32), K4 y1 y2 y3 I = some o → EV E mX10_modes 4 [some (.ref q0), some (.int y1), some (.int y2), some (.int y3)] [] (h_w σ I) (Option.some (Value.int o), h_w σ I)) (n : Nat) (y1 : Int32) (y2 : Int32) (y3 : Int32) (I : ev_I) (o : Int32) : cX10_modes_34 q0 K4 n y1 y2 y3 I = some o → EV E mX10_modes 34 [some (.ref q0), some (.int y1), some (.int y2), some (.int y3)] [] (h_w σ I) (Option.some (Value.int o), h_w σ I) := by
  intro h
  unfold cX10_modes_34 at h
  obtain ⟨v1, ev1, h⟩ := ev_ltE h
  refine ew_iinc (L' := [some (.ref q0), some (.int y1), some (.int y2), some (.int v1)]) dX10_modes_34 (Nat.le_of_ble_eq_true rfl) rfl (by decide) ev1 rfl ?_
  refine ev_goto (tgt := 4) dX10_modes_37 (by decide) ?_
  exact ev_weak (sb_s (sb_s (sb_s (sb_s sb_0)))) (k4 y1 y2 v1 I _ h)
set_option maxRecDepth 100000 in
set_option maxHeartbeats 4000000 in
theorem tX10_modes_4 {E : ev_N} {σ : ev_H} (q0 : Nat) (g0 : shp tb9 σ q0) (K4 : Int32 → Int32 → Int32 → ev_I → Option (Int32)) (k4 : ∀ (y1 : Int32) (y2 : Int32) (y3 : Int32) (I : ev_I) (o : Int32), K4 y1 y2 y3 I = some o → EV E mX10_modes 4 [some (.ref q0), some (.int y1), some (.int y2), some (.int y3)] [] (h_w σ I) (Option.some (Value.int o), h_w σ I)) (n : Nat) (y1 : Int32) (y2 : Int32) (y3 : Int32) (I : ev_I) (o : Int32) : cX10_modes_4 q0 K4 n y1 y2 y3 I = some o → EV E mX10_modes 4 [some (.ref q0), some (.int y1), some (.int y2), some (.int y3)] [] (h_w σ I) (Option.some (Value.int o), h_w σ I) := by
  intro h
  unfold cX10_modes_4 at h
  refine ev_iload_n dX10_modes_4 rfl ?_
  refine ev_aload_n dX10_modes_5 rfl (fun _ e => by cases e) ?_
  obtain ⟨z2, hz2, h⟩ := ev_bnE h
  refine ec_Vi (Y := mX10_nodeMany) (ci := 9) (As := []) (rest := [(.int y3)]) dX10_modes_6 kX10_47 oX10_nodeMany ⟨Nat.le_of_ble_eq_true rfl, Nat.le_of_ble_eq_true rfl⟩ (by decide) rfl (shp_n g0 0 rfl) (shp_t g0 0 rfl) rfl (Nat.le_of_ble_eq_true rfl) (tX10_nodeMany n q0 g0  I z2 hz2) rfl ?_
  refine ev_icmp_ge (tgt := 40) dX10_modes_9 (by decide) (fun c3 => ?_) (fun c3 => ?_)
  · have h := ev_ifT h c3
    refine ev_iload_n dX10_modes_40 rfl ?_
    cases h
    exact er_i dX10_modes_41 rfl rfl
  · have h := ev_ifF h c3
    refine ev_aload_n dX10_modes_12 rfl (fun _ e => by cases e) ?_
    refine ew_getr0 dX10_modes_13 fX10_7 g0 rfl rfl rfl rfl ?_
    refine ev_aload_n dX10_modes_16 rfl (fun _ e => by cases e) ?_
    refine ev_iload_n dX10_modes_17 rfl ?_
    obtain ⟨z4, hz4, h⟩ := ev_bnE h
    refine ec_Vi (Y := mX10_nodeAt) (ci := 9) (As := [.int y3]) (rest := [(.ref (q0 + 1))]) dX10_modes_18 kX10_54 oX10_nodeAt ⟨Nat.le_of_ble_eq_true rfl, Nat.le_of_ble_eq_true rfl⟩ (by decide) rfl (shp_n g0 0 rfl) (shp_t g0 0 rfl) rfl (Nat.le_of_ble_eq_true rfl) (tX10_nodeAt n q0 g0 y3 I z4 hz4) rfl ?_
    refine ev_iconst (v := (0 : Int32)) dX10_modes_21 (by decide) ?_
    refine ev_iadd dX10_modes_22 ?_
    obtain ⟨c5, h⟩ := ev_ckE h
    refine ew_iald dX10_modes_23 (shp_a g0 1 rfl) c5 ?_
    refine ev_iload_n dX10_modes_24 rfl ?_
    refine ev_icmp_ne (tgt := 34) dX10_modes_25 (by decide) (fun c6 => ?_) (fun c6 => ?_)
    · have h := ev_ifF h c6
      exact ev_weak (sb_s (sb_s (sb_s (sb_s sb_0)))) (tX10_modes_34 q0 g0 K4 k4 n y1 y2 y3 I _ h)
    · have h := ev_ifT h c6
      refine ev_iload_n dX10_modes_28 rfl ?_
      refine ev_iconst (v := (1 : Int32)) dX10_modes_29 (by decide) ?_
      refine ev_iload_n dX10_modes_30 rfl ?_
      refine ev_ishl dX10_modes_31 ?_
      refine ev_ior dX10_modes_32 ?_
      obtain ⟨v7, ev7, h⟩ := ev_ltE h
      refine ew_nm ev7 ?_
      refine ew_istn (L' := [some (.ref q0), some (.int y1), some (.int v7), some (.int y3)]) dX10_modes_33 (Nat.le_of_ble_eq_true rfl) rfl ?_
      exact ev_weak (sb_s (sb_s (sb_s (sb_s sb_0)))) (tX10_modes_34 q0 g0 K4 k4 n y1 v7 y3 I _ h)
theorem tlX10_modes_4 {E : ev_N} {σ : ev_H} (q0 : Nat) (g0 : shp tb9 σ q0) : ∀ (n : Nat) (y1 : Int32) (y2 : Int32) (y3 : Int32) (I : ev_I) (o : Int32), lX10_modes_4 q0 n y1 y2 y3 I = some o → EV E mX10_modes 4 [some (.ref q0), some (.int y1), some (.int y2), some (.int y3)] [] (h_w σ I) (Option.some (Value.int o), h_w σ I)
  | 0, _, _, _, _, _, h => by cases h
  | n + 1, y1, y2, y3, I, o, h => tX10_modes_4 q0 g0 (lX10_modes_4 q0 n) (tlX10_modes_4 q0 g0 n) n y1 y2 y3 I o h
set_option maxRecDepth 100000 in
set_option maxHeartbeats 4000000 in
theorem tX10_modes {E : ev_N} {σ : ev_H} (n : Nat) (q0 : Nat) (g0 : shp tb9 σ q0) (x1 : Int32) (I : ev_I) (o : Int32) (h : pX10_modes n q0 x1 I = some o) : ev_T E mX10_modes [.ref q0, .int x1] (h_w σ I) (Option.some (Value.int o), h_w σ I) := by
  unfold pX10_modes at h
  refine ev_met rfl rfl (Nat.le_of_ble_eq_true rfl) (ev_L0 (L' := [some (.ref q0), some (.int x1), none, none]) rfl ?_)
  refine ev_iconst (v := (0 : Int32)) dX10_modes_0 (by decide) ?_
  refine ew_istn (L' := [some (.ref q0), some (.int x1), some (.int (0 : Int32)), none]) dX10_modes_1 (Nat.le_of_ble_eq_true rfl) rfl ?_
  refine ev_iconst (v := (0 : Int32)) dX10_modes_2 (by decide) ?_
  refine ew_istn (L' := [some (.ref q0), some (.int x1), some (.int (0 : Int32)), some (.int (0 : Int32))]) dX10_modes_3 (Nat.le_of_ble_eq_true rfl) rfl ?_
  exact ev_weak (sb_s (sb_s (sb_s (sb_s sb_0)))) (tlX10_modes_4 q0 g0 n x1 (0 : Int32) (0 : Int32) I _ h)
-- ChainVotesModel forks()I
def cX10_forks_4 (q0 : Nat) (K4 : Int32 → Int32 → ev_I → Option (Int32)) (n : Nat) (y1 : Int32) (y2 : Int32) (I : ev_I) : Option (Int32) :=
  (pX10_nodeMany n q0  I).bind fun z1 =>
  if z1 ≤ y2 then
    some y1
  else
    (pX10_nodeAt n q0 y2 I).bind fun z3 =>
    ev_ck (ev_in (z3 + (9 : Int32)) 6010) <|
    ev_lt (y1 + (I (q0 + 1) (z3 + (9 : Int32)).toNatClampNeg)) fun v5 =>
    ev_lt (y2 + (1 : Int32)) fun v6 =>
    K4 v5 v6 I
def lX10_forks_4 (q0 : Nat) : Nat → Int32 → Int32 → ev_I → Option (Int32)
  | 0, _, _, _ => none
  | n + 1, y1, y2, I => cX10_forks_4 q0 (lX10_forks_4 q0 n) n y1 y2 I
def pX10_forks (n : Nat) (q0 : Nat) (I : ev_I) : Option (Int32) :=
  lX10_forks_4 q0 n (0 : Int32) (0 : Int32) I
set_option maxRecDepth 100000 in
set_option maxHeartbeats 4000000 in
theorem tX10_forks_4 {E : ev_N} {σ : ev_H} (q0 : Nat) (g0 : shp tb9 σ q0) (K4 : Int32 → Int32 → ev_I → Option (Int32)) (k4 : ∀ (y1 : Int32) (y2 : Int32) (I : ev_I) (o : Int32), K4 y1 y2 I = some o → EV E mX10_forks 4 [some (.ref q0), some (.int y1), some (.int y2)] [] (h_w σ I) (Option.some (Value.int o), h_w σ I)) (n : Nat) (y1 : Int32) (y2 : Int32) (I : ev_I) (o : Int32) : cX10_forks_4 q0 K4 n y1 y2 I = some o → EV E mX10_forks 4 [some (.ref q0), some (.int y1), some (.int y2)] [] (h_w σ I) (Option.some (Value.int o), h_w σ I) := by
  intro h
  unfold cX10_forks_4 at h
  refine ev_iload_n dX10_forks_4 rfl ?_
  refine ev_aload_n dX10_forks_5 rfl (fun _ e => by cases e) ?_
  obtain ⟨z1, hz1, h⟩ := ev_bnE h
  refine ec_Vi (Y := mX10_nodeMany) (ci := 9) (As := []) (rest := [(.int y2)]) dX10_forks_6 kX10_47 oX10_nodeMany ⟨Nat.le_of_ble_eq_true rfl, Nat.le_of_ble_eq_true rfl⟩ (by decide) rfl (shp_n g0 0 rfl) (shp_t g0 0 rfl) rfl (Nat.le_of_ble_eq_true rfl) (tX10_nodeMany n q0 g0  I z1 hz1) rfl ?_
  refine ev_icmp_ge (tgt := 34) dX10_forks_9 (by decide) (fun c2 => ?_) (fun c2 => ?_)
  · have h := ev_ifT h c2
    refine ev_iload_n dX10_forks_34 rfl ?_
    cases h
    exact er_i dX10_forks_35 rfl rfl
  · have h := ev_ifF h c2
    refine ev_iload_n dX10_forks_12 rfl ?_
    refine ev_aload_n dX10_forks_13 rfl (fun _ e => by cases e) ?_
    refine ew_getr0 dX10_forks_14 fX10_7 g0 rfl rfl rfl rfl ?_
    refine ev_aload_n dX10_forks_17 rfl (fun _ e => by cases e) ?_
    refine ev_iload_n dX10_forks_18 rfl ?_
    obtain ⟨z3, hz3, h⟩ := ev_bnE h
    refine ec_Vi (Y := mX10_nodeAt) (ci := 9) (As := [.int y2]) (rest := [(.ref (q0 + 1)), (.int y1)]) dX10_forks_19 kX10_54 oX10_nodeAt ⟨Nat.le_of_ble_eq_true rfl, Nat.le_of_ble_eq_true rfl⟩ (by decide) rfl (shp_n g0 0 rfl) (shp_t g0 0 rfl) rfl (Nat.le_of_ble_eq_true rfl) (tX10_nodeAt n q0 g0 y2 I z3 hz3) rfl ?_
    refine ev_bipush (v := (9 : Int32)) dX10_forks_22 (by decide) ?_
    refine ev_iadd dX10_forks_24 ?_
    obtain ⟨c4, h⟩ := ev_ckE h
    refine ew_iald dX10_forks_25 (shp_a g0 1 rfl) c4 ?_
    refine ev_iadd dX10_forks_26 ?_
    obtain ⟨v5, ev5, h⟩ := ev_ltE h
    refine ew_nm ev5 ?_
    refine ew_istn (L' := [some (.ref q0), some (.int v5), some (.int y2)]) dX10_forks_27 (Nat.le_of_ble_eq_true rfl) rfl ?_
    obtain ⟨v6, ev6, h⟩ := ev_ltE h
    refine ew_iinc (L' := [some (.ref q0), some (.int v5), some (.int v6)]) dX10_forks_28 (Nat.le_of_ble_eq_true rfl) rfl (by decide) ev6 rfl ?_
    refine ev_goto (tgt := 4) dX10_forks_31 (by decide) ?_
    exact ev_weak (sb_s (sb_s (sb_s sb_0))) (k4 v5 v6 I _ h)
theorem tlX10_forks_4 {E : ev_N} {σ : ev_H} (q0 : Nat) (g0 : shp tb9 σ q0) : ∀ (n : Nat) (y1 : Int32) (y2 : Int32) (I : ev_I) (o : Int32), lX10_forks_4 q0 n y1 y2 I = some o → EV E mX10_forks 4 [some (.ref q0), some (.int y1), some (.int y2)] [] (h_w σ I) (Option.some (Value.int o), h_w σ I)
  | 0, _, _, _, _, h => by cases h
  | n + 1, y1, y2, I, o, h => tX10_forks_4 q0 g0 (lX10_forks_4 q0 n) (tlX10_forks_4 q0 g0 n) n y1 y2 I o h
set_option maxRecDepth 100000 in
set_option maxHeartbeats 4000000 in
theorem tX10_forks {E : ev_N} {σ : ev_H} (n : Nat) (q0 : Nat) (g0 : shp tb9 σ q0) (I : ev_I) (o : Int32) (h : pX10_forks n q0  I = some o) : ev_T E mX10_forks [.ref q0] (h_w σ I) (Option.some (Value.int o), h_w σ I) := by
  unfold pX10_forks at h
  refine ev_met rfl rfl (Nat.le_of_ble_eq_true rfl) (ev_L0 (L' := [some (.ref q0), none, none]) rfl ?_)
  refine ev_iconst (v := (0 : Int32)) dX10_forks_0 (by decide) ?_
  refine ew_istn (L' := [some (.ref q0), some (.int (0 : Int32)), none]) dX10_forks_1 (Nat.le_of_ble_eq_true rfl) rfl ?_
  refine ev_iconst (v := (0 : Int32)) dX10_forks_2 (by decide) ?_
  refine ew_istn (L' := [some (.ref q0), some (.int (0 : Int32)), some (.int (0 : Int32))]) dX10_forks_3 (Nat.le_of_ble_eq_true rfl) rfl ?_
  exact ev_weak (sb_s (sb_s (sb_s sb_0))) (tlX10_forks_4 q0 g0 n (0 : Int32) (0 : Int32) I _ h)
-- ChainVotesModel furthestView()I
def cX10_furthestView_31 (q0 : Nat) (K4 : Int32 → Int32 → ev_I → Option (Int32)) (n : Nat) (y1 : Int32) (y2 : Int32) (I : ev_I) : Option (Int32) :=
  ev_lt (y2 + (1 : Int32)) fun v1 =>
  K4 y1 v1 I
def cX10_furthestView_4 (q0 : Nat) (K4 : Int32 → Int32 → ev_I → Option (Int32)) (n : Nat) (y1 : Int32) (y2 : Int32) (I : ev_I) : Option (Int32) :=
  (pX10_nodeMany n q0  I).bind fun z2 =>
  if z2 ≤ y2 then
    some y1
  else
    (pX10_isSilent n q0 y2 I).bind fun z4 =>
    if z4 = 0 then
      (pX10_viewOf n q0 y2 I).bind fun z6 =>
      (pX10_greater n q0 y1 z6 I).bind fun z7 =>
      cX10_furthestView_31 q0 K4 n z7 y2 I
    else
      cX10_furthestView_31 q0 K4 n y1 y2 I
def lX10_furthestView_4 (q0 : Nat) : Nat → Int32 → Int32 → ev_I → Option (Int32)
  | 0, _, _, _ => none
  | n + 1, y1, y2, I => cX10_furthestView_4 q0 (lX10_furthestView_4 q0 n) n y1 y2 I
def pX10_furthestView (n : Nat) (q0 : Nat) (I : ev_I) : Option (Int32) :=
  lX10_furthestView_4 q0 n (0 : Int32) (0 : Int32) I
set_option maxRecDepth 100000 in
set_option maxHeartbeats 4000000 in
theorem tX10_furthestView_31 {E : ev_N} {σ : ev_H} (q0 : Nat) (g0 : shp tb9 σ q0) (K4 : Int32 → Int32 → ev_I → Option (Int32)) (k4 : ∀ (y1 : Int32) (y2 : Int32) (I : ev_I) (o : Int32), K4 y1 y2 I = some o → EV E mX10_furthestView 4 [some (.ref q0), some (.int y1), some (.int y2)] [] (h_w σ I) (Option.some (Value.int o), h_w σ I)) (n : Nat) (y1 : Int32) (y2 : Int32) (I : ev_I) (o : Int32) : cX10_furthestView_31 q0 K4 n y1 y2 I = some o → EV E mX10_furthestView 31 [some (.ref q0), some (.int y1), some (.int y2)] [] (h_w σ I) (Option.some (Value.int o), h_w σ I) := by
  intro h
  unfold cX10_furthestView_31 at h
  obtain ⟨v1, ev1, h⟩ := ev_ltE h
  refine ew_iinc (L' := [some (.ref q0), some (.int y1), some (.int v1)]) dX10_furthestView_31 (Nat.le_of_ble_eq_true rfl) rfl (by decide) ev1 rfl ?_
  refine ev_goto (tgt := 4) dX10_furthestView_34 (by decide) ?_
  exact ev_weak (sb_s (sb_s (sb_s sb_0))) (k4 y1 v1 I _ h)
set_option maxRecDepth 100000 in
set_option maxHeartbeats 4000000 in
theorem tX10_furthestView_4 {E : ev_N} {σ : ev_H} (q0 : Nat) (g0 : shp tb9 σ q0) (K4 : Int32 → Int32 → ev_I → Option (Int32)) (k4 : ∀ (y1 : Int32) (y2 : Int32) (I : ev_I) (o : Int32), K4 y1 y2 I = some o → EV E mX10_furthestView 4 [some (.ref q0), some (.int y1), some (.int y2)] [] (h_w σ I) (Option.some (Value.int o), h_w σ I)) (n : Nat) (y1 : Int32) (y2 : Int32) (I : ev_I) (o : Int32) : cX10_furthestView_4 q0 K4 n y1 y2 I = some o → EV E mX10_furthestView 4 [some (.ref q0), some (.int y1), some (.int y2)] [] (h_w σ I) (Option.some (Value.int o), h_w σ I) := by
  intro h
  unfold cX10_furthestView_4 at h
  refine ev_iload_n dX10_furthestView_4 rfl ?_
  refine ev_aload_n dX10_furthestView_5 rfl (fun _ e => by cases e) ?_
  obtain ⟨z2, hz2, h⟩ := ev_bnE h
  refine ec_Vi (Y := mX10_nodeMany) (ci := 9) (As := []) (rest := [(.int y2)]) dX10_furthestView_6 kX10_47 oX10_nodeMany ⟨Nat.le_of_ble_eq_true rfl, Nat.le_of_ble_eq_true rfl⟩ (by decide) rfl (shp_n g0 0 rfl) (shp_t g0 0 rfl) rfl (Nat.le_of_ble_eq_true rfl) (tX10_nodeMany n q0 g0  I z2 hz2) rfl ?_
  refine ev_icmp_ge (tgt := 37) dX10_furthestView_9 (by decide) (fun c3 => ?_) (fun c3 => ?_)
  · have h := ev_ifT h c3
    refine ev_iload_n dX10_furthestView_37 rfl ?_
    cases h
    exact er_i dX10_furthestView_38 rfl rfl
  · have h := ev_ifF h c3
    refine ev_aload_n dX10_furthestView_12 rfl (fun _ e => by cases e) ?_
    refine ev_iload_n dX10_furthestView_13 rfl ?_
    obtain ⟨z4, hz4, h⟩ := ev_bnE h
    refine ec_Vi (Y := mX10_isSilent) (ci := 9) (As := [.int y2]) (rest := []) dX10_furthestView_14 kX10_140 oX10_isSilent ⟨Nat.le_of_ble_eq_true rfl, Nat.le_of_ble_eq_true rfl⟩ (by decide) rfl (shp_n g0 0 rfl) (shp_t g0 0 rfl) rfl (Nat.le_of_ble_eq_true rfl) (tX10_isSilent n q0 g0 y2 I z4 hz4) rfl ?_
    refine ev_if_ne (tgt := 31) dX10_furthestView_17 (by decide) (fun c5 => ?_) (fun c5 => ?_)
    · have h := ev_ifF h c5
      exact ev_weak (sb_s (sb_s (sb_s sb_0))) (tX10_furthestView_31 q0 g0 K4 k4 n y1 y2 I _ h)
    · have h := ev_ifT h c5
      refine ev_aload_n dX10_furthestView_20 rfl (fun _ e => by cases e) ?_
      refine ev_iload_n dX10_furthestView_21 rfl ?_
      refine ev_aload_n dX10_furthestView_22 rfl (fun _ e => by cases e) ?_
      refine ev_iload_n dX10_furthestView_23 rfl ?_
      obtain ⟨z6, hz6, h⟩ := ev_bnE h
      refine ec_Vi (Y := mX10_viewOf) (ci := 9) (As := [.int y2]) (rest := [(.int y1), (.ref q0)]) dX10_furthestView_24 kX10_104 oX10_viewOf ⟨Nat.le_of_ble_eq_true rfl, Nat.le_of_ble_eq_true rfl⟩ (by decide) rfl (shp_n g0 0 rfl) (shp_t g0 0 rfl) rfl (Nat.le_of_ble_eq_true rfl) (tX10_viewOf n q0 g0 y2 I z6 hz6) rfl ?_
      obtain ⟨z7, hz7, h⟩ := ev_bnE h
      refine ec_Vi (Y := mX10_greater) (ci := 9) (As := [.int y1, .int z6]) (rest := []) dX10_furthestView_27 kX10_180 oX10_greater ⟨Nat.le_of_ble_eq_true rfl, Nat.le_of_ble_eq_true rfl⟩ (by decide) rfl (shp_n g0 0 rfl) (shp_t g0 0 rfl) rfl (Nat.le_of_ble_eq_true rfl) (tX10_greater n q0 g0 y1 z6 I z7 hz7) rfl ?_
      refine ew_istn (L' := [some (.ref q0), some (.int z7), some (.int y2)]) dX10_furthestView_30 (Nat.le_of_ble_eq_true rfl) rfl ?_
      exact ev_weak (sb_s (sb_s (sb_s sb_0))) (tX10_furthestView_31 q0 g0 K4 k4 n z7 y2 I _ h)
theorem tlX10_furthestView_4 {E : ev_N} {σ : ev_H} (q0 : Nat) (g0 : shp tb9 σ q0) : ∀ (n : Nat) (y1 : Int32) (y2 : Int32) (I : ev_I) (o : Int32), lX10_furthestView_4 q0 n y1 y2 I = some o → EV E mX10_furthestView 4 [some (.ref q0), some (.int y1), some (.int y2)] [] (h_w σ I) (Option.some (Value.int o), h_w σ I)
  | 0, _, _, _, _, h => by cases h
  | n + 1, y1, y2, I, o, h => tX10_furthestView_4 q0 g0 (lX10_furthestView_4 q0 n) (tlX10_furthestView_4 q0 g0 n) n y1 y2 I o h
set_option maxRecDepth 100000 in
set_option maxHeartbeats 4000000 in
theorem tX10_furthestView {E : ev_N} {σ : ev_H} (n : Nat) (q0 : Nat) (g0 : shp tb9 σ q0) (I : ev_I) (o : Int32) (h : pX10_furthestView n q0  I = some o) : ev_T E mX10_furthestView [.ref q0] (h_w σ I) (Option.some (Value.int o), h_w σ I) := by
  unfold pX10_furthestView at h
  refine ev_met rfl rfl (Nat.le_of_ble_eq_true rfl) (ev_L0 (L' := [some (.ref q0), none, none]) rfl ?_)
  refine ev_iconst (v := (0 : Int32)) dX10_furthestView_0 (by decide) ?_
  refine ew_istn (L' := [some (.ref q0), some (.int (0 : Int32)), none]) dX10_furthestView_1 (Nat.le_of_ble_eq_true rfl) rfl ?_
  refine ev_iconst (v := (0 : Int32)) dX10_furthestView_2 (by decide) ?_
  refine ew_istn (L' := [some (.ref q0), some (.int (0 : Int32)), some (.int (0 : Int32))]) dX10_furthestView_3 (Nat.le_of_ble_eq_true rfl) rfl ?_
  exact ev_weak (sb_s (sb_s (sb_s sb_0))) (tlX10_furthestView_4 q0 g0 n (0 : Int32) (0 : Int32) I _ h)
-- ChainVotesModel certifiedMany()I
def cX10_certifiedMany_24 (q0 : Nat) (K4 : Int32 → Int32 → ev_I → Option (Int32)) (n : Nat) (y1 : Int32) (y2 : Int32) (I : ev_I) : Option (Int32) :=
  ev_lt (y2 + (1 : Int32)) fun v1 =>
  K4 y1 v1 I
def cX10_certifiedMany_4 (q0 : Nat) (K4 : Int32 → Int32 → ev_I → Option (Int32)) (n : Nat) (y1 : Int32) (y2 : Int32) (I : ev_I) : Option (Int32) :=
  (pX10_blockMany n q0  I).bind fun z2 =>
  if z2 ≤ y2 then
    some y1
  else
    (pX10_isCertified n q0 y2 I).bind fun z4 =>
    if z4 = 0 then
      cX10_certifiedMany_24 q0 K4 n y1 y2 I
    else
      ev_lt (y1 + (1 : Int32)) fun v6 =>
      cX10_certifiedMany_24 q0 K4 n v6 y2 I
def lX10_certifiedMany_4 (q0 : Nat) : Nat → Int32 → Int32 → ev_I → Option (Int32)
  | 0, _, _, _ => none
  | n + 1, y1, y2, I => cX10_certifiedMany_4 q0 (lX10_certifiedMany_4 q0 n) n y1 y2 I
def pX10_certifiedMany (n : Nat) (q0 : Nat) (I : ev_I) : Option (Int32) :=
  lX10_certifiedMany_4 q0 n (0 : Int32) (0 : Int32) I
set_option maxRecDepth 100000 in
set_option maxHeartbeats 4000000 in
theorem tX10_certifiedMany_24 {E : ev_N} {σ : ev_H} (q0 : Nat) (g0 : shp tb9 σ q0) (K4 : Int32 → Int32 → ev_I → Option (Int32)) (k4 : ∀ (y1 : Int32) (y2 : Int32) (I : ev_I) (o : Int32), K4 y1 y2 I = some o → EV E mX10_certifiedMany 4 [some (.ref q0), some (.int y1), some (.int y2)] [] (h_w σ I) (Option.some (Value.int o), h_w σ I)) (n : Nat) (y1 : Int32) (y2 : Int32) (I : ev_I) (o : Int32) : cX10_certifiedMany_24 q0 K4 n y1 y2 I = some o → EV E mX10_certifiedMany 24 [some (.ref q0), some (.int y1), some (.int y2)] [] (h_w σ I) (Option.some (Value.int o), h_w σ I) := by
  intro h
  unfold cX10_certifiedMany_24 at h
  obtain ⟨v1, ev1, h⟩ := ev_ltE h
  refine ew_iinc (L' := [some (.ref q0), some (.int y1), some (.int v1)]) dX10_certifiedMany_24 (Nat.le_of_ble_eq_true rfl) rfl (by decide) ev1 rfl ?_
  refine ev_goto (tgt := 4) dX10_certifiedMany_27 (by decide) ?_
  exact ev_weak (sb_s (sb_s (sb_s sb_0))) (k4 y1 v1 I _ h)
set_option maxRecDepth 100000 in
set_option maxHeartbeats 4000000 in
theorem tX10_certifiedMany_4 {E : ev_N} {σ : ev_H} (q0 : Nat) (g0 : shp tb9 σ q0) (K4 : Int32 → Int32 → ev_I → Option (Int32)) (k4 : ∀ (y1 : Int32) (y2 : Int32) (I : ev_I) (o : Int32), K4 y1 y2 I = some o → EV E mX10_certifiedMany 4 [some (.ref q0), some (.int y1), some (.int y2)] [] (h_w σ I) (Option.some (Value.int o), h_w σ I)) (n : Nat) (y1 : Int32) (y2 : Int32) (I : ev_I) (o : Int32) : cX10_certifiedMany_4 q0 K4 n y1 y2 I = some o → EV E mX10_certifiedMany 4 [some (.ref q0), some (.int y1), some (.int y2)] [] (h_w σ I) (Option.some (Value.int o), h_w σ I) := by
  intro h
  unfold cX10_certifiedMany_4 at h
  refine ev_iload_n dX10_certifiedMany_4 rfl ?_
  refine ev_aload_n dX10_certifiedMany_5 rfl (fun _ e => by cases e) ?_
  obtain ⟨z2, hz2, h⟩ := ev_bnE h
  refine ec_Vi (Y := mX10_blockMany) (ci := 9) (As := []) (rest := [(.int y2)]) dX10_certifiedMany_6 kX10_51 oX10_blockMany ⟨Nat.le_of_ble_eq_true rfl, Nat.le_of_ble_eq_true rfl⟩ (by decide) rfl (shp_n g0 0 rfl) (shp_t g0 0 rfl) rfl (Nat.le_of_ble_eq_true rfl) (tX10_blockMany n q0 g0  I z2 hz2) rfl ?_
  refine ev_icmp_ge (tgt := 30) dX10_certifiedMany_9 (by decide) (fun c3 => ?_) (fun c3 => ?_)
  · have h := ev_ifT h c3
    refine ev_iload_n dX10_certifiedMany_30 rfl ?_
    cases h
    exact er_i dX10_certifiedMany_31 rfl rfl
  · have h := ev_ifF h c3
    refine ev_aload_n dX10_certifiedMany_12 rfl (fun _ e => by cases e) ?_
    refine ev_iload_n dX10_certifiedMany_13 rfl ?_
    obtain ⟨z4, hz4, h⟩ := ev_bnE h
    refine ec_Vi (Y := mX10_isCertified) (ci := 9) (As := [.int y2]) (rest := []) dX10_certifiedMany_14 kX10_189 oX10_isCertified ⟨Nat.le_of_ble_eq_true rfl, Nat.le_of_ble_eq_true rfl⟩ (by decide) rfl (shp_n g0 0 rfl) (shp_t g0 0 rfl) rfl (Nat.le_of_ble_eq_true rfl) (tX10_isCertified n q0 g0 y2 I z4 hz4) rfl ?_
    refine ev_if_eq (tgt := 24) dX10_certifiedMany_17 (by decide) (fun c5 => ?_) (fun c5 => ?_)
    · have h := ev_ifT h c5
      exact ev_weak (sb_s (sb_s (sb_s sb_0))) (tX10_certifiedMany_24 q0 g0 K4 k4 n y1 y2 I _ h)
    · have h := ev_ifF h c5
      refine ev_iload_n dX10_certifiedMany_20 rfl ?_
      refine ev_iconst (v := (1 : Int32)) dX10_certifiedMany_21 (by decide) ?_
      refine ev_iadd dX10_certifiedMany_22 ?_
      obtain ⟨v6, ev6, h⟩ := ev_ltE h
      refine ew_nm ev6 ?_
      refine ew_istn (L' := [some (.ref q0), some (.int v6), some (.int y2)]) dX10_certifiedMany_23 (Nat.le_of_ble_eq_true rfl) rfl ?_
      exact ev_weak (sb_s (sb_s (sb_s sb_0))) (tX10_certifiedMany_24 q0 g0 K4 k4 n v6 y2 I _ h)
theorem tlX10_certifiedMany_4 {E : ev_N} {σ : ev_H} (q0 : Nat) (g0 : shp tb9 σ q0) : ∀ (n : Nat) (y1 : Int32) (y2 : Int32) (I : ev_I) (o : Int32), lX10_certifiedMany_4 q0 n y1 y2 I = some o → EV E mX10_certifiedMany 4 [some (.ref q0), some (.int y1), some (.int y2)] [] (h_w σ I) (Option.some (Value.int o), h_w σ I)
  | 0, _, _, _, _, h => by cases h
  | n + 1, y1, y2, I, o, h => tX10_certifiedMany_4 q0 g0 (lX10_certifiedMany_4 q0 n) (tlX10_certifiedMany_4 q0 g0 n) n y1 y2 I o h
set_option maxRecDepth 100000 in
set_option maxHeartbeats 4000000 in
theorem tX10_certifiedMany {E : ev_N} {σ : ev_H} (n : Nat) (q0 : Nat) (g0 : shp tb9 σ q0) (I : ev_I) (o : Int32) (h : pX10_certifiedMany n q0  I = some o) : ev_T E mX10_certifiedMany [.ref q0] (h_w σ I) (Option.some (Value.int o), h_w σ I) := by
  unfold pX10_certifiedMany at h
  refine ev_met rfl rfl (Nat.le_of_ble_eq_true rfl) (ev_L0 (L' := [some (.ref q0), none, none]) rfl ?_)
  refine ev_iconst (v := (0 : Int32)) dX10_certifiedMany_0 (by decide) ?_
  refine ew_istn (L' := [some (.ref q0), some (.int (0 : Int32)), none]) dX10_certifiedMany_1 (Nat.le_of_ble_eq_true rfl) rfl ?_
  refine ev_iconst (v := (0 : Int32)) dX10_certifiedMany_2 (by decide) ?_
  refine ew_istn (L' := [some (.ref q0), some (.int (0 : Int32)), some (.int (0 : Int32))]) dX10_certifiedMany_3 (Nat.le_of_ble_eq_true rfl) rfl ?_
  exact ev_weak (sb_s (sb_s (sb_s sb_0))) (tlX10_certifiedMany_4 q0 g0 n (0 : Int32) (0 : Int32) I _ h)
-- ChainVotesModel look(I)I
def pX10_look (n : Nat) (q0 : Nat) (x1 : Int32) (I : ev_I) : Option (Int32 × ev_I) :=
  ev_lt (ev_u2 I q0 0 (0 : Int32)) fun I1 =>
  if x1 = 0 then
    (pX10_nodeMany n q0  I1).bind fun z33 =>
    some (z33, I1)
  else
    if x1 = (1 : Int32) then
      (pX10_nodeMany n q0  I1).bind fun z32 =>
      some (((z32 - (1 : Int32)) / (3 : Int32)), I1)
    else
      if x1 = (2 : Int32) then
        (pX10_quorum n q0  I1).bind fun z31 =>
        some (z31, I1)
      else
        if x1 = (3 : Int32) then
          (pX10_blockMany n q0  I1).bind fun z30 =>
          some (z30, I1)
        else
          if x1 = (4 : Int32) then
            some ((I1 (q0 + 1) (4 : Int32).toNatClampNeg), I1)
          else
            if x1 = (5 : Int32) then
              some ((I1 (q0 + 1) (5 : Int32).toNatClampNeg), I1)
            else
              if x1 = (6 : Int32) then
                some ((I1 (q0 + 1) (7 : Int32).toNatClampNeg), I1)
              else
                if x1 = (7 : Int32) then
                  (pX10_unlikeLogs n q0  I1).bind fun z29 =>
                  some (z29, I1)
                else
                  if x1 = (8 : Int32) then
                    (pX10_forks n q0  I1).bind fun z28 =>
                    some (z28, I1)
                  else
                    if x1 = (9 : Int32) then
                      some ((I1 q0 18), I1)
                    else
                      if x1 = (10 : Int32) then
                        some ((I1 (q0 + 1) (9 : Int32).toNatClampNeg), I1)
                      else
                        if x1 = (11 : Int32) then
                          some ((I1 (q0 + 1) (6 : Int32).toNatClampNeg), I1)
                        else
                          if x1 = (12 : Int32) then
                            (pX10_furthestView n q0  I1).bind fun z27 =>
                            some (z27, I1)
                          else
                            if x1 = (13 : Int32) then
                              (pX10_certifiedMany n q0  I1).bind fun z26 =>
                              some (z26, I1)
                            else
                              if x1 = (14 : Int32) then
                                some ((I1 (q0 + 1) (2 : Int32).toNatClampNeg), I1)
                              else
                                if x1 = (15 : Int32) then
                                  some ((I1 (q0 + 1) (8 : Int32).toNatClampNeg), I1)
                                else
                                  if x1 = (16 : Int32) then
                                    some ((I1 (q0 + 1) (1 : Int32).toNatClampNeg), I1)
                                  else
                                    if x1 = (17 : Int32) then
                                      (pX10_modes n q0 (1 : Int32) I1).bind fun z25 =>
                                      some (z25, I1)
                                    else
                                      if x1 = (18 : Int32) then
                                        (pX10_modes n q0 (2 : Int32) I1).bind fun z24 =>
                                        some (z24, I1)
                                      else
                                        if x1 = (19 : Int32) then
                                          some ((I1 (q0 + 1) (10 : Int32).toNatClampNeg), I1)
                                        else
                                          if x1 = (20 : Int32) then
                                            (pX10_couplesCut n q0  I1).bind fun z23 =>
                                            some (z23, I1)
                                          else
                                            some ((-100000 : Int32), I1)
set_option maxRecDepth 100000 in
set_option maxHeartbeats 4000000 in
theorem tX10_look {E : ev_N} {σ : ev_H} (n : Nat) (q0 : Nat) (g0 : shp tb9 σ q0) (x1 : Int32) (I : ev_I) (o : Int32 × ev_I) (h : pX10_look n q0 x1 I = some o) : ev_T E mX10_look [.ref q0, .int x1] (h_w σ I) (Option.some (Value.int o.1), h_w σ o.2) := by
  unfold pX10_look at h
  refine ev_met rfl rfl (Nat.le_of_ble_eq_true rfl) (ev_L0 (L' := [some (.ref q0), some (.int x1)]) rfl ?_)
  refine ev_aload_n dX10_look_0 rfl (fun _ e => by cases e) ?_
  refine ev_iconst (v := (0 : Int32)) dX10_look_1 (by decide) ?_
  obtain ⟨I1, eI1, h⟩ := ev_ltE h
  refine ew_put0 dX10_look_2 fX10_44 g0 rfl rfl rfl rfl rfl rfl (ew_nh eI1 ?_)
  refine ev_iload_n dX10_look_5 rfl ?_
  refine ev_if_ne (tgt := 14) dX10_look_6 (by decide) (fun c2 => ?_) (fun c2 => ?_)
  · have h := ev_ifF h c2
    refine ev_iload_n dX10_look_14 rfl ?_
    refine ev_iconst (v := (1 : Int32)) dX10_look_15 (by decide) ?_
    refine ev_icmp_ne (tgt := 28) dX10_look_16 (by decide) (fun c3 => ?_) (fun c3 => ?_)
    · have h := ev_ifF h c3
      refine ev_iload_n dX10_look_28 rfl ?_
      refine ev_iconst (v := (2 : Int32)) dX10_look_29 (by decide) ?_
      refine ev_icmp_ne (tgt := 38) dX10_look_30 (by decide) (fun c4 => ?_) (fun c4 => ?_)
      · have h := ev_ifF h c4
        refine ev_iload_n dX10_look_38 rfl ?_
        refine ev_iconst (v := (3 : Int32)) dX10_look_39 (by decide) ?_
        refine ev_icmp_ne (tgt := 48) dX10_look_40 (by decide) (fun c5 => ?_) (fun c5 => ?_)
        · have h := ev_ifF h c5
          refine ev_iload_n dX10_look_48 rfl ?_
          refine ev_iconst (v := (4 : Int32)) dX10_look_49 (by decide) ?_
          refine ev_icmp_ne (tgt := 60) dX10_look_50 (by decide) (fun c6 => ?_) (fun c6 => ?_)
          · have h := ev_ifF h c6
            refine ev_iload_n dX10_look_60 rfl ?_
            refine ev_iconst (v := (5 : Int32)) dX10_look_61 (by decide) ?_
            refine ev_icmp_ne (tgt := 72) dX10_look_62 (by decide) (fun c7 => ?_) (fun c7 => ?_)
            · have h := ev_ifF h c7
              refine ev_iload_n dX10_look_72 rfl ?_
              refine ev_bipush (v := (6 : Int32)) dX10_look_73 (by decide) ?_
              refine ev_icmp_ne (tgt := 86) dX10_look_75 (by decide) (fun c8 => ?_) (fun c8 => ?_)
              · have h := ev_ifF h c8
                refine ev_iload_n dX10_look_86 rfl ?_
                refine ev_bipush (v := (7 : Int32)) dX10_look_87 (by decide) ?_
                refine ev_icmp_ne (tgt := 97) dX10_look_89 (by decide) (fun c9 => ?_) (fun c9 => ?_)
                · have h := ev_ifF h c9
                  refine ev_iload_n dX10_look_97 rfl ?_
                  refine ev_bipush (v := (8 : Int32)) dX10_look_98 (by decide) ?_
                  refine ev_icmp_ne (tgt := 108) dX10_look_100 (by decide) (fun c10 => ?_) (fun c10 => ?_)
                  · have h := ev_ifF h c10
                    refine ev_iload_n dX10_look_108 rfl ?_
                    refine ev_bipush (v := (9 : Int32)) dX10_look_109 (by decide) ?_
                    refine ev_icmp_ne (tgt := 119) dX10_look_111 (by decide) (fun c11 => ?_) (fun c11 => ?_)
                    · have h := ev_ifF h c11
                      refine ev_iload_n dX10_look_119 rfl ?_
                      refine ev_bipush (v := (10 : Int32)) dX10_look_120 (by decide) ?_
                      refine ev_icmp_ne (tgt := 133) dX10_look_122 (by decide) (fun c12 => ?_) (fun c12 => ?_)
                      · have h := ev_ifF h c12
                        refine ev_iload_n dX10_look_133 rfl ?_
                        refine ev_bipush (v := (11 : Int32)) dX10_look_134 (by decide) ?_
                        refine ev_icmp_ne (tgt := 147) dX10_look_136 (by decide) (fun c13 => ?_) (fun c13 => ?_)
                        · have h := ev_ifF h c13
                          refine ev_iload_n dX10_look_147 rfl ?_
                          refine ev_bipush (v := (12 : Int32)) dX10_look_148 (by decide) ?_
                          refine ev_icmp_ne (tgt := 158) dX10_look_150 (by decide) (fun c14 => ?_) (fun c14 => ?_)
                          · have h := ev_ifF h c14
                            refine ev_iload_n dX10_look_158 rfl ?_
                            refine ev_bipush (v := (13 : Int32)) dX10_look_159 (by decide) ?_
                            refine ev_icmp_ne (tgt := 169) dX10_look_161 (by decide) (fun c15 => ?_) (fun c15 => ?_)
                            · have h := ev_ifF h c15
                              refine ev_iload_n dX10_look_169 rfl ?_
                              refine ev_bipush (v := (14 : Int32)) dX10_look_170 (by decide) ?_
                              refine ev_icmp_ne (tgt := 182) dX10_look_172 (by decide) (fun c16 => ?_) (fun c16 => ?_)
                              · have h := ev_ifF h c16
                                refine ev_iload_n dX10_look_182 rfl ?_
                                refine ev_bipush (v := (15 : Int32)) dX10_look_183 (by decide) ?_
                                refine ev_icmp_ne (tgt := 196) dX10_look_185 (by decide) (fun c17 => ?_) (fun c17 => ?_)
                                · have h := ev_ifF h c17
                                  refine ev_iload_n dX10_look_196 rfl ?_
                                  refine ev_bipush (v := (16 : Int32)) dX10_look_197 (by decide) ?_
                                  refine ev_icmp_ne (tgt := 209) dX10_look_199 (by decide) (fun c18 => ?_) (fun c18 => ?_)
                                  · have h := ev_ifF h c18
                                    refine ev_iload_n dX10_look_209 rfl ?_
                                    refine ev_bipush (v := (17 : Int32)) dX10_look_210 (by decide) ?_
                                    refine ev_icmp_ne (tgt := 221) dX10_look_212 (by decide) (fun c19 => ?_) (fun c19 => ?_)
                                    · have h := ev_ifF h c19
                                      refine ev_iload_n dX10_look_221 rfl ?_
                                      refine ev_bipush (v := (18 : Int32)) dX10_look_222 (by decide) ?_
                                      refine ev_icmp_ne (tgt := 233) dX10_look_224 (by decide) (fun c20 => ?_) (fun c20 => ?_)
                                      · have h := ev_ifF h c20
                                        refine ev_iload_n dX10_look_233 rfl ?_
                                        refine ev_bipush (v := (19 : Int32)) dX10_look_234 (by decide) ?_
                                        refine ev_icmp_ne (tgt := 249) dX10_look_236 (by decide) (fun c21 => ?_) (fun c21 => ?_)
                                        · have h := ev_ifF h c21
                                          refine ev_iload_n dX10_look_249 rfl ?_
                                          refine ev_bipush (v := (20 : Int32)) dX10_look_250 (by decide) ?_
                                          refine ev_icmp_ne (tgt := 262) dX10_look_252 (by decide) (fun c22 => ?_) (fun c22 => ?_)
                                          · have h := ev_ifF h c22
                                            refine ev_ldcw (v := (-100000 : Int32)) dX10_look_262 vX10_262 ?_
                                            cases h
                                            exact er_i dX10_look_265 rfl rfl
                                          · have h := ev_ifT h c22
                                            refine ev_aload_n dX10_look_255 rfl (fun _ e => by cases e) ?_
                                            obtain ⟨z23, hz23, h⟩ := ev_bnE h
                                            refine ec_Vi (Y := mX10_couplesCut) (ci := 9) (As := []) (rest := []) dX10_look_256 kX10_284 oX10_couplesCut ⟨Nat.le_of_ble_eq_true rfl, Nat.le_of_ble_eq_true rfl⟩ (by decide) rfl (shp_n g0 0 rfl) (shp_t g0 0 rfl) rfl (Nat.le_of_ble_eq_true rfl) (tX10_couplesCut n q0 g0  I1 z23 hz23) rfl ?_
                                            refine ev_goto (tgt := 265) dX10_look_259 (by decide) ?_
                                            cases h
                                            exact er_i dX10_look_265 rfl rfl
                                        · have h := ev_ifT h c21
                                          refine ev_aload_n dX10_look_239 rfl (fun _ e => by cases e) ?_
                                          refine ew_getr0 dX10_look_240 fX10_7 g0 rfl rfl rfl rfl ?_
                                          refine ev_bipush (v := (10 : Int32)) dX10_look_243 (by decide) ?_
                                          refine ew_iald dX10_look_245 (shp_a g0 1 rfl) (by decide) ?_
                                          refine ev_goto (tgt := 265) dX10_look_246 (by decide) ?_
                                          cases h
                                          exact er_i dX10_look_265 rfl rfl
                                      · have h := ev_ifT h c20
                                        refine ev_aload_n dX10_look_227 rfl (fun _ e => by cases e) ?_
                                        refine ev_iconst (v := (2 : Int32)) dX10_look_228 (by decide) ?_
                                        obtain ⟨z24, hz24, h⟩ := ev_bnE h
                                        refine ec_Vi (Y := mX10_modes) (ci := 9) (As := [.int (2 : Int32)]) (rest := []) dX10_look_229 kX10_281 oX10_modes ⟨Nat.le_of_ble_eq_true rfl, Nat.le_of_ble_eq_true rfl⟩ (by decide) rfl (shp_n g0 0 rfl) (shp_t g0 0 rfl) rfl (Nat.le_of_ble_eq_true rfl) (tX10_modes n q0 g0 (2 : Int32) I1 z24 hz24) rfl ?_
                                        cases h
                                        exact er_i dX10_look_232 rfl rfl
                                    · have h := ev_ifT h c19
                                      refine ev_aload_n dX10_look_215 rfl (fun _ e => by cases e) ?_
                                      refine ev_iconst (v := (1 : Int32)) dX10_look_216 (by decide) ?_
                                      obtain ⟨z25, hz25, h⟩ := ev_bnE h
                                      refine ec_Vi (Y := mX10_modes) (ci := 9) (As := [.int (1 : Int32)]) (rest := []) dX10_look_217 kX10_281 oX10_modes ⟨Nat.le_of_ble_eq_true rfl, Nat.le_of_ble_eq_true rfl⟩ (by decide) rfl (shp_n g0 0 rfl) (shp_t g0 0 rfl) rfl (Nat.le_of_ble_eq_true rfl) (tX10_modes n q0 g0 (1 : Int32) I1 z25 hz25) rfl ?_
                                      cases h
                                      exact er_i dX10_look_220 rfl rfl
                                  · have h := ev_ifT h c18
                                    refine ev_aload_n dX10_look_202 rfl (fun _ e => by cases e) ?_
                                    refine ew_getr0 dX10_look_203 fX10_7 g0 rfl rfl rfl rfl ?_
                                    refine ev_iconst (v := (1 : Int32)) dX10_look_206 (by decide) ?_
                                    refine ew_iald dX10_look_207 (shp_a g0 1 rfl) (by decide) ?_
                                    cases h
                                    exact er_i dX10_look_208 rfl rfl
                                · have h := ev_ifT h c17
                                  refine ev_aload_n dX10_look_188 rfl (fun _ e => by cases e) ?_
                                  refine ew_getr0 dX10_look_189 fX10_7 g0 rfl rfl rfl rfl ?_
                                  refine ev_bipush (v := (8 : Int32)) dX10_look_192 (by decide) ?_
                                  refine ew_iald dX10_look_194 (shp_a g0 1 rfl) (by decide) ?_
                                  cases h
                                  exact er_i dX10_look_195 rfl rfl
                              · have h := ev_ifT h c16
                                refine ev_aload_n dX10_look_175 rfl (fun _ e => by cases e) ?_
                                refine ew_getr0 dX10_look_176 fX10_7 g0 rfl rfl rfl rfl ?_
                                refine ev_iconst (v := (2 : Int32)) dX10_look_179 (by decide) ?_
                                refine ew_iald dX10_look_180 (shp_a g0 1 rfl) (by decide) ?_
                                cases h
                                exact er_i dX10_look_181 rfl rfl
                            · have h := ev_ifT h c15
                              refine ev_aload_n dX10_look_164 rfl (fun _ e => by cases e) ?_
                              obtain ⟨z26, hz26, h⟩ := ev_bnE h
                              refine ec_Vi (Y := mX10_certifiedMany) (ci := 9) (As := []) (rest := []) dX10_look_165 kX10_278 oX10_certifiedMany ⟨Nat.le_of_ble_eq_true rfl, Nat.le_of_ble_eq_true rfl⟩ (by decide) rfl (shp_n g0 0 rfl) (shp_t g0 0 rfl) rfl (Nat.le_of_ble_eq_true rfl) (tX10_certifiedMany n q0 g0  I1 z26 hz26) rfl ?_
                              cases h
                              exact er_i dX10_look_168 rfl rfl
                          · have h := ev_ifT h c14
                            refine ev_aload_n dX10_look_153 rfl (fun _ e => by cases e) ?_
                            obtain ⟨z27, hz27, h⟩ := ev_bnE h
                            refine ec_Vi (Y := mX10_furthestView) (ci := 9) (As := []) (rest := []) dX10_look_154 kX10_275 oX10_furthestView ⟨Nat.le_of_ble_eq_true rfl, Nat.le_of_ble_eq_true rfl⟩ (by decide) rfl (shp_n g0 0 rfl) (shp_t g0 0 rfl) rfl (Nat.le_of_ble_eq_true rfl) (tX10_furthestView n q0 g0  I1 z27 hz27) rfl ?_
                            cases h
                            exact er_i dX10_look_157 rfl rfl
                        · have h := ev_ifT h c13
                          refine ev_aload_n dX10_look_139 rfl (fun _ e => by cases e) ?_
                          refine ew_getr0 dX10_look_140 fX10_7 g0 rfl rfl rfl rfl ?_
                          refine ev_bipush (v := (6 : Int32)) dX10_look_143 (by decide) ?_
                          refine ew_iald dX10_look_145 (shp_a g0 1 rfl) (by decide) ?_
                          cases h
                          exact er_i dX10_look_146 rfl rfl
                      · have h := ev_ifT h c12
                        refine ev_aload_n dX10_look_125 rfl (fun _ e => by cases e) ?_
                        refine ew_getr0 dX10_look_126 fX10_7 g0 rfl rfl rfl rfl ?_
                        refine ev_bipush (v := (9 : Int32)) dX10_look_129 (by decide) ?_
                        refine ew_iald dX10_look_131 (shp_a g0 1 rfl) (by decide) ?_
                        cases h
                        exact er_i dX10_look_132 rfl rfl
                    · have h := ev_ifT h c11
                      refine ev_aload_n dX10_look_114 rfl (fun _ e => by cases e) ?_
                      refine ew_get0 dX10_look_115 fX10_272 g0 rfl rfl rfl ?_
                      cases h
                      exact er_i dX10_look_118 rfl rfl
                  · have h := ev_ifT h c10
                    refine ev_aload_n dX10_look_103 rfl (fun _ e => by cases e) ?_
                    obtain ⟨z28, hz28, h⟩ := ev_bnE h
                    refine ec_Vi (Y := mX10_forks) (ci := 9) (As := []) (rest := []) dX10_look_104 kX10_269 oX10_forks ⟨Nat.le_of_ble_eq_true rfl, Nat.le_of_ble_eq_true rfl⟩ (by decide) rfl (shp_n g0 0 rfl) (shp_t g0 0 rfl) rfl (Nat.le_of_ble_eq_true rfl) (tX10_forks n q0 g0  I1 z28 hz28) rfl ?_
                    cases h
                    exact er_i dX10_look_107 rfl rfl
                · have h := ev_ifT h c9
                  refine ev_aload_n dX10_look_92 rfl (fun _ e => by cases e) ?_
                  obtain ⟨z29, hz29, h⟩ := ev_bnE h
                  refine ec_Vi (Y := mX10_unlikeLogs) (ci := 9) (As := []) (rest := []) dX10_look_93 kX10_266 oX10_unlikeLogs ⟨Nat.le_of_ble_eq_true rfl, Nat.le_of_ble_eq_true rfl⟩ (by decide) rfl (shp_n g0 0 rfl) (shp_t g0 0 rfl) rfl (Nat.le_of_ble_eq_true rfl) (tX10_unlikeLogs n q0 g0  I1 z29 hz29) rfl ?_
                  cases h
                  exact er_i dX10_look_96 rfl rfl
              · have h := ev_ifT h c8
                refine ev_aload_n dX10_look_78 rfl (fun _ e => by cases e) ?_
                refine ew_getr0 dX10_look_79 fX10_7 g0 rfl rfl rfl rfl ?_
                refine ev_bipush (v := (7 : Int32)) dX10_look_82 (by decide) ?_
                refine ew_iald dX10_look_84 (shp_a g0 1 rfl) (by decide) ?_
                cases h
                exact er_i dX10_look_85 rfl rfl
            · have h := ev_ifT h c7
              refine ev_aload_n dX10_look_65 rfl (fun _ e => by cases e) ?_
              refine ew_getr0 dX10_look_66 fX10_7 g0 rfl rfl rfl rfl ?_
              refine ev_iconst (v := (5 : Int32)) dX10_look_69 (by decide) ?_
              refine ew_iald dX10_look_70 (shp_a g0 1 rfl) (by decide) ?_
              cases h
              exact er_i dX10_look_71 rfl rfl
          · have h := ev_ifT h c6
            refine ev_aload_n dX10_look_53 rfl (fun _ e => by cases e) ?_
            refine ew_getr0 dX10_look_54 fX10_7 g0 rfl rfl rfl rfl ?_
            refine ev_iconst (v := (4 : Int32)) dX10_look_57 (by decide) ?_
            refine ew_iald dX10_look_58 (shp_a g0 1 rfl) (by decide) ?_
            cases h
            exact er_i dX10_look_59 rfl rfl
        · have h := ev_ifT h c5
          refine ev_aload_n dX10_look_43 rfl (fun _ e => by cases e) ?_
          obtain ⟨z30, hz30, h⟩ := ev_bnE h
          refine ec_Vi (Y := mX10_blockMany) (ci := 9) (As := []) (rest := []) dX10_look_44 kX10_51 oX10_blockMany ⟨Nat.le_of_ble_eq_true rfl, Nat.le_of_ble_eq_true rfl⟩ (by decide) rfl (shp_n g0 0 rfl) (shp_t g0 0 rfl) rfl (Nat.le_of_ble_eq_true rfl) (tX10_blockMany n q0 g0  I1 z30 hz30) rfl ?_
          cases h
          exact er_i dX10_look_47 rfl rfl
      · have h := ev_ifT h c4
        refine ev_aload_n dX10_look_33 rfl (fun _ e => by cases e) ?_
        obtain ⟨z31, hz31, h⟩ := ev_bnE h
        refine ec_Vi (Y := mX10_quorum) (ci := 9) (As := []) (rest := []) dX10_look_34 kX10_134 oX10_quorum ⟨Nat.le_of_ble_eq_true rfl, Nat.le_of_ble_eq_true rfl⟩ (by decide) rfl (shp_n g0 0 rfl) (shp_t g0 0 rfl) rfl (Nat.le_of_ble_eq_true rfl) (tX10_quorum n q0 g0  I1 z31 hz31) rfl ?_
        cases h
        exact er_i dX10_look_37 rfl rfl
    · have h := ev_ifT h c3
      refine ev_aload_n dX10_look_19 rfl (fun _ e => by cases e) ?_
      obtain ⟨z32, hz32, h⟩ := ev_bnE h
      refine ec_Vi (Y := mX10_nodeMany) (ci := 9) (As := []) (rest := []) dX10_look_20 kX10_47 oX10_nodeMany ⟨Nat.le_of_ble_eq_true rfl, Nat.le_of_ble_eq_true rfl⟩ (by decide) rfl (shp_n g0 0 rfl) (shp_t g0 0 rfl) rfl (Nat.le_of_ble_eq_true rfl) (tX10_nodeMany n q0 g0  I1 z32 hz32) rfl ?_
      refine ev_iconst (v := (1 : Int32)) dX10_look_23 (by decide) ?_
      refine ev_isub dX10_look_24 ?_
      refine ev_iconst (v := (3 : Int32)) dX10_look_25 (by decide) ?_
      refine ev_idiv dX10_look_26 (by decide) ?_
      cases h
      exact er_i dX10_look_27 rfl rfl
  · have h := ev_ifT h c2
    refine ev_aload_n dX10_look_9 rfl (fun _ e => by cases e) ?_
    obtain ⟨z33, hz33, h⟩ := ev_bnE h
    refine ec_Vi (Y := mX10_nodeMany) (ci := 9) (As := []) (rest := []) dX10_look_10 kX10_47 oX10_nodeMany ⟨Nat.le_of_ble_eq_true rfl, Nat.le_of_ble_eq_true rfl⟩ (by decide) rfl (shp_n g0 0 rfl) (shp_t g0 0 rfl) rfl (Nat.le_of_ble_eq_true rfl) (tX10_nodeMany n q0 g0  I1 z33 hz33) rfl ?_
    cases h
    exact er_i dX10_look_13 rfl rfl
-- ChainVotesModel types(I)V
def cX10_types_3 (q0 : Nat) (K3 : Int32 → Int32 → ev_I → Option (ev_I)) (n : Nat) (y1 : Int32) (y2 : Int32) (I : ev_I) : Option (ev_I) :=
  if y2 < 0 then
    some I
  else
    ev_ck (ev_in (I q0 8) 400) <|
    ev_lt (ev_u2 I (q0 + 7) (I q0 8).toNatClampNeg ((y1 >>> (y2 &&& 31)) &&& (255 : Int32))) fun I3 =>
    ev_lt (ev_u2 I3 q0 8 ((I3 q0 8) + (1 : Int32))) fun I4 =>
    ev_lt (y2 + (-8 : Int32)) fun v5 =>
    K3 y1 v5 I4
def lX10_types_3 (q0 : Nat) : Nat → Int32 → Int32 → ev_I → Option (ev_I)
  | 0, _, _, _ => none
  | n + 1, y1, y2, I => cX10_types_3 q0 (lX10_types_3 q0 n) n y1 y2 I
def pX10_types (n : Nat) (q0 : Nat) (x1 : Int32) (I : ev_I) : Option (ev_I) :=
  lX10_types_3 q0 n x1 (24 : Int32) I
set_option maxRecDepth 100000 in
set_option maxHeartbeats 4000000 in
theorem tX10_types_3 {E : ev_N} {σ : ev_H} (q0 : Nat) (g0 : shp tb9 σ q0) (K3 : Int32 → Int32 → ev_I → Option (ev_I)) (k3 : ∀ (y1 : Int32) (y2 : Int32) (I : ev_I) (o : ev_I), K3 y1 y2 I = some o → EV E mX10_types 3 [some (.ref q0), some (.int y1), some (.int y2)] [] (h_w σ I) (Option.none, h_w σ o)) (n : Nat) (y1 : Int32) (y2 : Int32) (I : ev_I) (o : ev_I) : cX10_types_3 q0 K3 n y1 y2 I = some o → EV E mX10_types 3 [some (.ref q0), some (.int y1), some (.int y2)] [] (h_w σ I) (Option.none, h_w σ o) := by
  intro h
  unfold cX10_types_3 at h
  refine ev_iload_n dX10_types_3 rfl ?_
  refine ev_if_lt (tgt := 39) dX10_types_4 (by decide) (fun c1 => ?_) (fun c1 => ?_)
  · have h := ev_ifT h c1
    cases h
    exact er_v dX10_types_39 rfl
  · have h := ev_ifF h c1
    refine ev_aload_n dX10_types_7 rfl (fun _ e => by cases e) ?_
    refine ew_getr0 dX10_types_8 fX10_28 g0 rfl rfl rfl rfl ?_
    refine ev_aload_n dX10_types_11 rfl (fun _ e => by cases e) ?_
    refine ew_get0 dX10_types_12 fX10_287 g0 rfl rfl rfl ?_
    refine ev_iload_n dX10_types_15 rfl ?_
    refine ev_iload_n dX10_types_16 rfl ?_
    refine ev_ishr dX10_types_17 ?_
    refine ev_sipush (v := (255 : Int32)) dX10_types_18 (by decide) ?_
    refine ev_iand dX10_types_21 ?_
    obtain ⟨c2, h⟩ := ev_ckE h
    obtain ⟨I3, eI3, h⟩ := ev_ltE h
    refine ew_iast dX10_types_22 (shp_a g0 7 rfl) c2 (ew_nh eI3 ?_)
    refine ev_aload_n dX10_types_23 rfl (fun _ e => by cases e) ?_
    refine ev_aload_n dX10_types_24 rfl (fun _ e => by cases e) ?_
    refine ew_get0 dX10_types_25 fX10_287 g0 rfl rfl rfl ?_
    refine ev_iconst (v := (1 : Int32)) dX10_types_28 (by decide) ?_
    refine ev_iadd dX10_types_29 ?_
    obtain ⟨I4, eI4, h⟩ := ev_ltE h
    refine ew_put0 dX10_types_30 fX10_287 g0 rfl rfl rfl rfl rfl rfl (ew_nh eI4 ?_)
    obtain ⟨v5, ev5, h⟩ := ev_ltE h
    refine ew_iinc (L' := [some (.ref q0), some (.int y1), some (.int v5)]) dX10_types_33 (Nat.le_of_ble_eq_true rfl) rfl (by decide) ev5 rfl ?_
    refine ev_goto (tgt := 3) dX10_types_36 (by decide) ?_
    exact ev_weak (sb_s (sb_s (sb_s sb_0))) (k3 y1 v5 I4 _ h)
theorem tlX10_types_3 {E : ev_N} {σ : ev_H} (q0 : Nat) (g0 : shp tb9 σ q0) : ∀ (n : Nat) (y1 : Int32) (y2 : Int32) (I : ev_I) (o : ev_I), lX10_types_3 q0 n y1 y2 I = some o → EV E mX10_types 3 [some (.ref q0), some (.int y1), some (.int y2)] [] (h_w σ I) (Option.none, h_w σ o)
  | 0, _, _, _, _, h => by cases h
  | n + 1, y1, y2, I, o, h => tX10_types_3 q0 g0 (lX10_types_3 q0 n) (tlX10_types_3 q0 g0 n) n y1 y2 I o h
set_option maxRecDepth 100000 in
set_option maxHeartbeats 4000000 in
theorem tX10_types {E : ev_N} {σ : ev_H} (n : Nat) (q0 : Nat) (g0 : shp tb9 σ q0) (x1 : Int32) (I : ev_I) (o : ev_I) (h : pX10_types n q0 x1 I = some o) : ev_T E mX10_types [.ref q0, .int x1] (h_w σ I) (Option.none, h_w σ o) := by
  unfold pX10_types at h
  refine ev_met rfl rfl (Nat.le_of_ble_eq_true rfl) (ev_L0 (L' := [some (.ref q0), some (.int x1), none]) rfl ?_)
  refine ev_bipush (v := (24 : Int32)) dX10_types_0 (by decide) ?_
  refine ew_istn (L' := [some (.ref q0), some (.int x1), some (.int (24 : Int32))]) dX10_types_2 (Nat.le_of_ble_eq_true rfl) rfl ?_
  exact ev_weak (sb_s (sb_s (sb_s sb_0))) (tlX10_types_3 q0 g0 n x1 (24 : Int32) I _ h)
-- ChainVotesModel feed(IIIII)I
def pX10_feed (n : Nat) (q0 : Nat) (x1 : Int32) (x2 : Int32) (x3 : Int32) (x4 : Int32) (x5 : Int32) (I : ev_I) : Option (Int32 × ev_I) :=
  ev_lt (ev_u2 I q0 0 (0 : Int32)) fun I1 =>
  if (I1 q0 8) ≤ (380 : Int32) then
    (pX10_types n q0 x1 I1).bind fun z3 =>
    (pX10_types n q0 x2 z3).bind fun z4 =>
    (pX10_types n q0 x3 z4).bind fun z5 =>
    (pX10_types n q0 x4 z5).bind fun z6 =>
    (pX10_types n q0 x5 z6).bind fun z7 =>
    some ((z7 q0 8), z7)
  else
    some ((-1 : Int32), I1)
set_option maxRecDepth 100000 in
set_option maxHeartbeats 4000000 in
theorem tX10_feed {E : ev_N} {σ : ev_H} (n : Nat) (q0 : Nat) (g0 : shp tb9 σ q0) (x1 : Int32) (x2 : Int32) (x3 : Int32) (x4 : Int32) (x5 : Int32) (I : ev_I) (o : Int32 × ev_I) (h : pX10_feed n q0 x1 x2 x3 x4 x5 I = some o) : ev_T E mX10_feed [.ref q0, .int x1, .int x2, .int x3, .int x4, .int x5] (h_w σ I) (Option.some (Value.int o.1), h_w σ o.2) := by
  unfold pX10_feed at h
  refine ev_met rfl rfl (Nat.le_of_ble_eq_true rfl) (ev_L0 (L' := [some (.ref q0), some (.int x1), some (.int x2), some (.int x3), some (.int x4), some (.int x5)]) rfl ?_)
  refine ev_aload_n dX10_feed_0 rfl (fun _ e => by cases e) ?_
  refine ev_iconst (v := (0 : Int32)) dX10_feed_1 (by decide) ?_
  obtain ⟨I1, eI1, h⟩ := ev_ltE h
  refine ew_put0 dX10_feed_2 fX10_44 g0 rfl rfl rfl rfl rfl rfl (ew_nh eI1 ?_)
  refine ev_aload_n dX10_feed_5 rfl (fun _ e => by cases e) ?_
  refine ew_get0 dX10_feed_6 fX10_287 g0 rfl rfl rfl ?_
  refine ev_sipush (v := (380 : Int32)) dX10_feed_9 (by decide) ?_
  refine ev_icmp_le (tgt := 17) dX10_feed_12 (by decide) (fun c2 => ?_) (fun c2 => ?_)
  · have h := ev_ifT h c2
    refine ev_aload_n dX10_feed_17 rfl (fun _ e => by cases e) ?_
    refine ev_iload_n dX10_feed_18 rfl ?_
    obtain ⟨z3, hz3, h⟩ := ev_bnE h
    refine ec_Vv (Y := mX10_types) (ci := 9) (As := [.int x1]) (rest := []) dX10_feed_19 kX10_290 oX10_types ⟨Nat.le_of_ble_eq_true rfl, Nat.le_of_ble_eq_true rfl⟩ (by decide) rfl (shp_n g0 0 rfl) (shp_t g0 0 rfl) rfl (Nat.le_of_ble_eq_true rfl) (tX10_types n q0 g0 x1 I1 z3 hz3) rfl ?_
    refine ev_aload_n dX10_feed_22 rfl (fun _ e => by cases e) ?_
    refine ev_iload_n dX10_feed_23 rfl ?_
    obtain ⟨z4, hz4, h⟩ := ev_bnE h
    refine ec_Vv (Y := mX10_types) (ci := 9) (As := [.int x2]) (rest := []) dX10_feed_24 kX10_290 oX10_types ⟨Nat.le_of_ble_eq_true rfl, Nat.le_of_ble_eq_true rfl⟩ (by decide) rfl (shp_n g0 0 rfl) (shp_t g0 0 rfl) rfl (Nat.le_of_ble_eq_true rfl) (tX10_types n q0 g0 x2 z3 z4 hz4) rfl ?_
    refine ev_aload_n dX10_feed_27 rfl (fun _ e => by cases e) ?_
    refine ev_iload_n dX10_feed_28 rfl ?_
    obtain ⟨z5, hz5, h⟩ := ev_bnE h
    refine ec_Vv (Y := mX10_types) (ci := 9) (As := [.int x3]) (rest := []) dX10_feed_29 kX10_290 oX10_types ⟨Nat.le_of_ble_eq_true rfl, Nat.le_of_ble_eq_true rfl⟩ (by decide) rfl (shp_n g0 0 rfl) (shp_t g0 0 rfl) rfl (Nat.le_of_ble_eq_true rfl) (tX10_types n q0 g0 x3 z4 z5 hz5) rfl ?_
    refine ev_aload_n dX10_feed_32 rfl (fun _ e => by cases e) ?_
    refine ev_iload dX10_feed_33 rfl ?_
    obtain ⟨z6, hz6, h⟩ := ev_bnE h
    refine ec_Vv (Y := mX10_types) (ci := 9) (As := [.int x4]) (rest := []) dX10_feed_35 kX10_290 oX10_types ⟨Nat.le_of_ble_eq_true rfl, Nat.le_of_ble_eq_true rfl⟩ (by decide) rfl (shp_n g0 0 rfl) (shp_t g0 0 rfl) rfl (Nat.le_of_ble_eq_true rfl) (tX10_types n q0 g0 x4 z5 z6 hz6) rfl ?_
    refine ev_aload_n dX10_feed_38 rfl (fun _ e => by cases e) ?_
    refine ev_iload dX10_feed_39 rfl ?_
    obtain ⟨z7, hz7, h⟩ := ev_bnE h
    refine ec_Vv (Y := mX10_types) (ci := 9) (As := [.int x5]) (rest := []) dX10_feed_41 kX10_290 oX10_types ⟨Nat.le_of_ble_eq_true rfl, Nat.le_of_ble_eq_true rfl⟩ (by decide) rfl (shp_n g0 0 rfl) (shp_t g0 0 rfl) rfl (Nat.le_of_ble_eq_true rfl) (tX10_types n q0 g0 x5 z6 z7 hz7) rfl ?_
    refine ev_aload_n dX10_feed_44 rfl (fun _ e => by cases e) ?_
    refine ew_get0 dX10_feed_45 fX10_287 g0 rfl rfl rfl ?_
    cases h
    exact er_i dX10_feed_48 rfl rfl
  · have h := ev_ifF h c2
    refine ev_iconst (v := (-1 : Int32)) dX10_feed_15 (by decide) ?_
    cases h
    exact er_i dX10_feed_16 rfl rfl
-- ChainVotesModel end(I)Z
def pX10_end (n : Nat) (q0 : Nat) (x1 : Int32) (I : ev_I) : Option (Int32 × ev_I) :=
  ev_lt (ev_u2 I q0 0 (0 : Int32)) fun I1 =>
  (pX10_isIn n q0 x1 (0 : Int32) (I1 q0 8) I1).bind fun z2 =>
  if z2 = 0 then
    some ((0 : Int32), I1)
  else
    ev_lt (ev_u2 I1 q0 8 x1) fun I4 =>
    some ((1 : Int32), I4)
set_option maxRecDepth 100000 in
set_option maxHeartbeats 4000000 in
theorem tX10_end {E : ev_N} {σ : ev_H} (n : Nat) (q0 : Nat) (g0 : shp tb9 σ q0) (x1 : Int32) (I : ev_I) (o : Int32 × ev_I) (h : pX10_end n q0 x1 I = some o) : ev_T E mX10_end [.ref q0, .int x1] (h_w σ I) (Option.some (Value.int o.1), h_w σ o.2) := by
  unfold pX10_end at h
  refine ev_met rfl rfl (Nat.le_of_ble_eq_true rfl) (ev_L0 (L' := [some (.ref q0), some (.int x1)]) rfl ?_)
  refine ev_aload_n dX10_end_0 rfl (fun _ e => by cases e) ?_
  refine ev_iconst (v := (0 : Int32)) dX10_end_1 (by decide) ?_
  obtain ⟨I1, eI1, h⟩ := ev_ltE h
  refine ew_put0 dX10_end_2 fX10_44 g0 rfl rfl rfl rfl rfl rfl (ew_nh eI1 ?_)
  refine ev_aload_n dX10_end_5 rfl (fun _ e => by cases e) ?_
  refine ev_iload_n dX10_end_6 rfl ?_
  refine ev_iconst (v := (0 : Int32)) dX10_end_7 (by decide) ?_
  refine ev_aload_n dX10_end_8 rfl (fun _ e => by cases e) ?_
  refine ew_get0 dX10_end_9 fX10_287 g0 rfl rfl rfl ?_
  obtain ⟨z2, hz2, h⟩ := ev_bnE h
  refine ec_Vi (Y := mX10_isIn) (ci := 9) (As := [.int x1, .int (0 : Int32), .int (I1 q0 8)]) (rest := []) dX10_end_12 kX10_61 oX10_isIn ⟨Nat.le_of_ble_eq_true rfl, Nat.le_of_ble_eq_true rfl⟩ (by decide) rfl (shp_n g0 0 rfl) (shp_t g0 0 rfl) rfl (Nat.le_of_ble_eq_true rfl) (tX10_isIn n q0 g0 x1 (0 : Int32) (I1 q0 8) I1 z2 hz2) rfl ?_
  refine ev_if_ne (tgt := 20) dX10_end_15 (by decide) (fun c3 => ?_) (fun c3 => ?_)
  · have h := ev_ifF h c3
    refine ev_aload_n dX10_end_20 rfl (fun _ e => by cases e) ?_
    refine ev_iload_n dX10_end_21 rfl ?_
    obtain ⟨I4, eI4, h⟩ := ev_ltE h
    refine ew_put0 dX10_end_22 fX10_287 g0 rfl rfl rfl rfl rfl rfl (ew_nh eI4 ?_)
    refine ev_iconst (v := (1 : Int32)) dX10_end_25 (by decide) ?_
    cases h
    exact er_i dX10_end_26 rfl rfl
  · have h := ev_ifT h c3
    refine ev_iconst (v := (0 : Int32)) dX10_end_18 (by decide) ?_
    cases h
    exact er_i dX10_end_19 rfl rfl
-- ChainVotesModel raw(I)I
def pX10_raw (n : Nat) (q0 : Nat) (x1 : Int32) (I : ev_I) : Option (Int32) :=
  if (I q0 8) ≤ x1 then
    some (-1 : Int32)
  else
    ev_ck (ev_in x1 400) <|
    some (I (q0 + 7) x1.toNatClampNeg)
set_option maxRecDepth 100000 in
set_option maxHeartbeats 4000000 in
theorem tX10_raw {E : ev_N} {σ : ev_H} (n : Nat) (q0 : Nat) (g0 : shp tb9 σ q0) (x1 : Int32) (I : ev_I) (o : Int32) (h : pX10_raw n q0 x1 I = some o) : ev_T E mX10_raw [.ref q0, .int x1] (h_w σ I) (Option.some (Value.int o), h_w σ I) := by
  unfold pX10_raw at h
  refine ev_met rfl rfl (Nat.le_of_ble_eq_true rfl) (ev_L0 (L' := [some (.ref q0), some (.int x1)]) rfl ?_)
  refine ev_iload_n dX10_raw_0 rfl ?_
  refine ev_aload_n dX10_raw_1 rfl (fun _ e => by cases e) ?_
  refine ew_get0 dX10_raw_2 fX10_287 g0 rfl rfl rfl ?_
  refine ev_icmp_ge (tgt := 17) dX10_raw_5 (by decide) (fun c1 => ?_) (fun c1 => ?_)
  · have h := ev_ifT h c1
    refine ev_iconst (v := (-1 : Int32)) dX10_raw_17 (by decide) ?_
    cases h
    exact er_i dX10_raw_18 rfl rfl
  · have h := ev_ifF h c1
    refine ev_aload_n dX10_raw_8 rfl (fun _ e => by cases e) ?_
    refine ew_getr0 dX10_raw_9 fX10_28 g0 rfl rfl rfl rfl ?_
    refine ev_iload_n dX10_raw_12 rfl ?_
    obtain ⟨c2, h⟩ := ev_ckE h
    refine ew_iald dX10_raw_13 (shp_a g0 7 rfl) c2 ?_
    refine ev_goto (tgt := 18) dX10_raw_14 (by decide) ?_
    cases h
    exact er_i dX10_raw_18 rfl rfl
-- ChainVotesModel isLetter(I)Z
def pX10_isLetter (n : Nat) (q0 : Nat) (x1 : Int32) (I : ev_I) : Option (Int32) :=
  (pX10_isIn n q0 x1 (97 : Int32) (122 : Int32) I).bind fun z1 =>
  if z1 = 0 then
    (pX10_isIn n q0 x1 (65 : Int32) (90 : Int32) I).bind fun z3 =>
    if z3 = 0 then
      some (0 : Int32)
    else
      some (1 : Int32)
  else
    some (1 : Int32)
set_option maxRecDepth 100000 in
set_option maxHeartbeats 4000000 in
theorem tX10_isLetter {E : ev_N} {σ : ev_H} (n : Nat) (q0 : Nat) (g0 : shp tb9 σ q0) (x1 : Int32) (I : ev_I) (o : Int32) (h : pX10_isLetter n q0 x1 I = some o) : ev_T E mX10_isLetter [.ref q0, .int x1] (h_w σ I) (Option.some (Value.int o), h_w σ I) := by
  unfold pX10_isLetter at h
  refine ev_met rfl rfl (Nat.le_of_ble_eq_true rfl) (ev_L0 (L' := [some (.ref q0), some (.int x1)]) rfl ?_)
  refine ev_aload_n dX10_isLetter_0 rfl (fun _ e => by cases e) ?_
  refine ev_iload_n dX10_isLetter_1 rfl ?_
  refine ev_bipush (v := (97 : Int32)) dX10_isLetter_2 (by decide) ?_
  refine ev_bipush (v := (122 : Int32)) dX10_isLetter_4 (by decide) ?_
  obtain ⟨z1, hz1, h⟩ := ev_bnE h
  refine ec_Vi (Y := mX10_isIn) (ci := 9) (As := [.int x1, .int (97 : Int32), .int (122 : Int32)]) (rest := []) dX10_isLetter_6 kX10_61 oX10_isIn ⟨Nat.le_of_ble_eq_true rfl, Nat.le_of_ble_eq_true rfl⟩ (by decide) rfl (shp_n g0 0 rfl) (shp_t g0 0 rfl) rfl (Nat.le_of_ble_eq_true rfl) (tX10_isIn n q0 g0 x1 (97 : Int32) (122 : Int32) I z1 hz1) rfl ?_
  refine ev_if_ne (tgt := 24) dX10_isLetter_9 (by decide) (fun c2 => ?_) (fun c2 => ?_)
  · have h := ev_ifF h c2
    refine ev_iconst (v := (1 : Int32)) dX10_isLetter_24 (by decide) ?_
    refine ev_goto (tgt := 29) dX10_isLetter_25 (by decide) ?_
    cases h
    exact er_i dX10_isLetter_29 rfl rfl
  · have h := ev_ifT h c2
    refine ev_aload_n dX10_isLetter_12 rfl (fun _ e => by cases e) ?_
    refine ev_iload_n dX10_isLetter_13 rfl ?_
    refine ev_bipush (v := (65 : Int32)) dX10_isLetter_14 (by decide) ?_
    refine ev_bipush (v := (90 : Int32)) dX10_isLetter_16 (by decide) ?_
    obtain ⟨z3, hz3, h⟩ := ev_bnE h
    refine ec_Vi (Y := mX10_isIn) (ci := 9) (As := [.int x1, .int (65 : Int32), .int (90 : Int32)]) (rest := []) dX10_isLetter_18 kX10_61 oX10_isIn ⟨Nat.le_of_ble_eq_true rfl, Nat.le_of_ble_eq_true rfl⟩ (by decide) rfl (shp_n g0 0 rfl) (shp_t g0 0 rfl) rfl (Nat.le_of_ble_eq_true rfl) (tX10_isIn n q0 g0 x1 (65 : Int32) (90 : Int32) I z3 hz3) rfl ?_
    refine ev_if_eq (tgt := 28) dX10_isLetter_21 (by decide) (fun c4 => ?_) (fun c4 => ?_)
    · have h := ev_ifT h c4
      refine ev_iconst (v := (0 : Int32)) dX10_isLetter_28 (by decide) ?_
      cases h
      exact er_i dX10_isLetter_29 rfl rfl
    · have h := ev_ifF h c4
      refine ev_iconst (v := (1 : Int32)) dX10_isLetter_24 (by decide) ?_
      refine ev_goto (tgt := 29) dX10_isLetter_25 (by decide) ?_
      cases h
      exact er_i dX10_isLetter_29 rfl rfl
-- ChainVotesModel isDigit(I)Z
def pX10_isDigit (n : Nat) (q0 : Nat) (x1 : Int32) (I : ev_I) : Option (Int32) :=
  (pX10_isIn n q0 x1 (48 : Int32) (57 : Int32) I).bind fun z1 =>
  ev_ck (ev_01 z1) <|
  some z1
set_option maxRecDepth 100000 in
set_option maxHeartbeats 4000000 in
theorem tX10_isDigit {E : ev_N} {σ : ev_H} (n : Nat) (q0 : Nat) (g0 : shp tb9 σ q0) (x1 : Int32) (I : ev_I) (o : Int32) (h : pX10_isDigit n q0 x1 I = some o) : ev_T E mX10_isDigit [.ref q0, .int x1] (h_w σ I) (Option.some (Value.int o), h_w σ I) := by
  unfold pX10_isDigit at h
  refine ev_met rfl rfl (Nat.le_of_ble_eq_true rfl) (ev_L0 (L' := [some (.ref q0), some (.int x1)]) rfl ?_)
  refine ev_aload_n dX10_isDigit_0 rfl (fun _ e => by cases e) ?_
  refine ev_iload_n dX10_isDigit_1 rfl ?_
  refine ev_bipush (v := (48 : Int32)) dX10_isDigit_2 (by decide) ?_
  refine ev_bipush (v := (57 : Int32)) dX10_isDigit_4 (by decide) ?_
  obtain ⟨z1, hz1, h⟩ := ev_bnE h
  refine ec_Vi (Y := mX10_isIn) (ci := 9) (As := [.int x1, .int (48 : Int32), .int (57 : Int32)]) (rest := []) dX10_isDigit_6 kX10_61 oX10_isIn ⟨Nat.le_of_ble_eq_true rfl, Nat.le_of_ble_eq_true rfl⟩ (by decide) rfl (shp_n g0 0 rfl) (shp_t g0 0 rfl) rfl (Nat.le_of_ble_eq_true rfl) (tX10_isIn n q0 g0 x1 (48 : Int32) (57 : Int32) I z1 hz1) rfl ?_
  obtain ⟨c2, h⟩ := ev_ckE h
  cases h
  exact er_i dX10_isDigit_9 rfl (ev_01E c2).1
-- ChainVotesModel wordAt(II)I
def cX10_wordAt_93 (q0 : Nat) (K5 : Int32 → Int32 → Int32 → Int32 → ev_I → Option (Int32)) (K19 : Int32 → Int32 → Int32 → Int32 → Int32 → ev_I → Option (Int32)) (K93 : Int32 → Int32 → Int32 → Int32 → ev_I → Option (Int32)) (n : Nat) (y1 : Int32) (y2 : Int32) (y3 : Int32) (y4 : Int32) (I : ev_I) : Option (Int32) :=
  ev_ck (ev_in y4 60) <|
  if (I (q0 + 8) y4.toNatClampNeg) = (32 : Int32) then
    K5 y1 y2 y3 y4 I
  else
    ev_lt (y4 + (1 : Int32)) fun v3 =>
    K93 y1 y2 y3 v3 I
def lX10_wordAt_93 (q0 : Nat) (K5 : Int32 → Int32 → Int32 → Int32 → ev_I → Option (Int32)) (K19 : Int32 → Int32 → Int32 → Int32 → Int32 → ev_I → Option (Int32)) : Nat → Int32 → Int32 → Int32 → Int32 → ev_I → Option (Int32)
  | 0, _, _, _, _, _ => none
  | n + 1, y1, y2, y3, y4, I => cX10_wordAt_93 q0 K5 K19 (lX10_wordAt_93 q0 K5 K19 n) n y1 y2 y3 y4 I
def cX10_wordAt_87 (q0 : Nat) (K5 : Int32 → Int32 → Int32 → Int32 → ev_I → Option (Int32)) (K19 : Int32 → Int32 → Int32 → Int32 → Int32 → ev_I → Option (Int32)) (n : Nat) (y1 : Int32) (y2 : Int32) (y3 : Int32) (y4 : Int32) (I : ev_I) : Option (Int32) :=
  ev_lt (y4 + (1 : Int32)) fun v4 =>
  lX10_wordAt_93 q0 K5 K19 n y1 y2 y3 v4 I
def cX10_wordAt_60 (q0 : Nat) (K5 : Int32 → Int32 → Int32 → Int32 → ev_I → Option (Int32)) (K19 : Int32 → Int32 → Int32 → Int32 → Int32 → ev_I → Option (Int32)) (n : Nat) (y1 : Int32) (y2 : Int32) (y3 : Int32) (y4 : Int32) (y5 : Int32) (I : ev_I) : Option (Int32) :=
  if (y1 + y5) = y2 then
    ev_ck (ev_in ((y4 + (1 : Int32)) + y5) 60) <|
    if (I (q0 + 8) ((y4 + (1 : Int32)) + y5).toNatClampNeg) = (32 : Int32) then
      some y3
    else
      cX10_wordAt_87 q0 K5 K19 n y1 y2 y3 y4 I
  else
    cX10_wordAt_87 q0 K5 K19 n y1 y2 y3 y4 I
def cX10_wordAt_19 (q0 : Nat) (K5 : Int32 → Int32 → Int32 → Int32 → ev_I → Option (Int32)) (K19 : Int32 → Int32 → Int32 → Int32 → Int32 → ev_I → Option (Int32)) (n : Nat) (y1 : Int32) (y2 : Int32) (y3 : Int32) (y4 : Int32) (y5 : Int32) (I : ev_I) : Option (Int32) :=
  if y2 ≤ (y1 + y5) then
    cX10_wordAt_60 q0 K5 K19 n y1 y2 y3 y4 y5 I
  else
    ev_ck (ev_in ((y4 + (1 : Int32)) + y5) 60) <|
    ev_ck (ev_in (y1 + y5) 400) <|
    if (I (q0 + 8) ((y4 + (1 : Int32)) + y5).toNatClampNeg) = (I (q0 + 7) (y1 + y5).toNatClampNeg) then
      ev_lt (y5 + (1 : Int32)) fun v12 =>
      K19 y1 y2 y3 y4 v12 I
    else
      cX10_wordAt_60 q0 K5 K19 n y1 y2 y3 y4 y5 I
def lX10_wordAt_19 (q0 : Nat) (K5 : Int32 → Int32 → Int32 → Int32 → ev_I → Option (Int32)) : Nat → Int32 → Int32 → Int32 → Int32 → Int32 → ev_I → Option (Int32)
  | 0, _, _, _, _, _, _ => none
  | n + 1, y1, y2, y3, y4, y5, I => cX10_wordAt_19 q0 K5 (lX10_wordAt_19 q0 K5 n) n y1 y2 y3 y4 y5 I
def cX10_wordAt_5 (q0 : Nat) (K5 : Int32 → Int32 → Int32 → Int32 → ev_I → Option (Int32)) (n : Nat) (y1 : Int32) (y2 : Int32) (y3 : Int32) (y4 : Int32) (I : ev_I) : Option (Int32) :=
  if (59 : Int32) ≤ y4 then
    some (-1 : Int32)
  else
    ev_lt (y3 + (1 : Int32)) fun v14 =>
    lX10_wordAt_19 q0 K5 n y1 y2 v14 y4 (0 : Int32) I
def lX10_wordAt_5 (q0 : Nat) : Nat → Int32 → Int32 → Int32 → Int32 → ev_I → Option (Int32)
  | 0, _, _, _, _, _ => none
  | n + 1, y1, y2, y3, y4, I => cX10_wordAt_5 q0 (lX10_wordAt_5 q0 n) n y1 y2 y3 y4 I
def pX10_wordAt (n : Nat) (q0 : Nat) (x1 : Int32) (x2 : Int32) (I : ev_I) : Option (Int32) :=
  lX10_wordAt_5 q0 n x1 x2 (-1 : Int32) (0 : Int32) I
set_option maxRecDepth 100000 in
set_option maxHeartbeats 4000000 in
theorem tX10_wordAt_93 {E : ev_N} {σ : ev_H} (q0 : Nat) (g0 : shp tb9 σ q0) (K5 : Int32 → Int32 → Int32 → Int32 → ev_I → Option (Int32)) (K19 : Int32 → Int32 → Int32 → Int32 → Int32 → ev_I → Option (Int32)) (K93 : Int32 → Int32 → Int32 → Int32 → ev_I → Option (Int32)) (k5 : ∀ (y1 : Int32) (y2 : Int32) (y3 : Int32) (y4 : Int32) (I : ev_I) (o : Int32), K5 y1 y2 y3 y4 I = some o → EV E mX10_wordAt 5 [some (.ref q0), some (.int y1), some (.int y2), some (.int y3), some (.int y4), none] [] (h_w σ I) (Option.some (Value.int o), h_w σ I)) (k19 : ∀ (y1 : Int32) (y2 : Int32) (y3 : Int32) (y4 : Int32) (y5 : Int32) (I : ev_I) (o : Int32), K19 y1 y2 y3 y4 y5 I = some o → EV E mX10_wordAt 19 [some (.ref q0), some (.int y1), some (.int y2), some (.int y3), some (.int y4), some (.int y5)] [] (h_w σ I) (Option.some (Value.int o), h_w σ I)) (k93 : ∀ (y1 : Int32) (y2 : Int32) (y3 : Int32) (y4 : Int32) (I : ev_I) (o : Int32), K93 y1 y2 y3 y4 I = some o → EV E mX10_wordAt 93 [some (.ref q0), some (.int y1), some (.int y2), some (.int y3), some (.int y4), none] [] (h_w σ I) (Option.some (Value.int o), h_w σ I)) (n : Nat) (y1 : Int32) (y2 : Int32) (y3 : Int32) (y4 : Int32) (I : ev_I) (o : Int32) : cX10_wordAt_93 q0 K5 K19 K93 n y1 y2 y3 y4 I = some o → EV E mX10_wordAt 93 [some (.ref q0), some (.int y1), some (.int y2), some (.int y3), some (.int y4), none] [] (h_w σ I) (Option.some (Value.int o), h_w σ I) := by
  intro h
  unfold cX10_wordAt_93 at h
  refine ev_aload_n dX10_wordAt_93 rfl (fun _ e => by cases e) ?_
  refine ew_getr0 dX10_wordAt_94 fX10_31 g0 rfl rfl rfl rfl ?_
  refine ev_iload dX10_wordAt_97 rfl ?_
  obtain ⟨c1, h⟩ := ev_ckE h
  refine ew_iald dX10_wordAt_99 (shp_a g0 8 rfl) c1 ?_
  refine ev_bipush (v := (32 : Int32)) dX10_wordAt_100 (by decide) ?_
  refine ev_icmp_eq (tgt := 114) dX10_wordAt_102 (by decide) (fun c2 => ?_) (fun c2 => ?_)
  · have h := ev_ifT h c2
    refine ev_goto (tgt := 5) dX10_wordAt_114 (by decide) ?_
    exact ev_weak (sb_s (sb_s (sb_s (sb_s (sb_s (sb_n sb_0)))))) (k5 y1 y2 y3 y4 I _ h)
  · have h := ev_ifF h c2
    refine ev_iload dX10_wordAt_105 rfl ?_
    refine ev_iconst (v := (1 : Int32)) dX10_wordAt_107 (by decide) ?_
    refine ev_iadd dX10_wordAt_108 ?_
    obtain ⟨v3, ev3, h⟩ := ev_ltE h
    refine ew_nm ev3 ?_
    refine ew_ist (L' := [some (.ref q0), some (.int y1), some (.int y2), some (.int y3), some (.int v3), none]) dX10_wordAt_109 (Nat.le_of_ble_eq_true rfl) rfl ?_
    refine ev_goto (tgt := 93) dX10_wordAt_111 (by decide) ?_
    exact ev_weak (sb_s (sb_s (sb_s (sb_s (sb_s (sb_n sb_0)))))) (k93 y1 y2 y3 v3 I _ h)
theorem tlX10_wordAt_93 {E : ev_N} {σ : ev_H} (q0 : Nat) (g0 : shp tb9 σ q0) (K5 : Int32 → Int32 → Int32 → Int32 → ev_I → Option (Int32)) (K19 : Int32 → Int32 → Int32 → Int32 → Int32 → ev_I → Option (Int32)) (k5 : ∀ (y1 : Int32) (y2 : Int32) (y3 : Int32) (y4 : Int32) (I : ev_I) (o : Int32), K5 y1 y2 y3 y4 I = some o → EV E mX10_wordAt 5 [some (.ref q0), some (.int y1), some (.int y2), some (.int y3), some (.int y4), none] [] (h_w σ I) (Option.some (Value.int o), h_w σ I)) (k19 : ∀ (y1 : Int32) (y2 : Int32) (y3 : Int32) (y4 : Int32) (y5 : Int32) (I : ev_I) (o : Int32), K19 y1 y2 y3 y4 y5 I = some o → EV E mX10_wordAt 19 [some (.ref q0), some (.int y1), some (.int y2), some (.int y3), some (.int y4), some (.int y5)] [] (h_w σ I) (Option.some (Value.int o), h_w σ I)) : ∀ (n : Nat) (y1 : Int32) (y2 : Int32) (y3 : Int32) (y4 : Int32) (I : ev_I) (o : Int32), lX10_wordAt_93 q0 K5 K19 n y1 y2 y3 y4 I = some o → EV E mX10_wordAt 93 [some (.ref q0), some (.int y1), some (.int y2), some (.int y3), some (.int y4), none] [] (h_w σ I) (Option.some (Value.int o), h_w σ I)
  | 0, _, _, _, _, _, _, h => by cases h
  | n + 1, y1, y2, y3, y4, I, o, h => tX10_wordAt_93 q0 g0 K5 K19 (lX10_wordAt_93 q0 K5 K19 n) k5 k19 (tlX10_wordAt_93 q0 g0 K5 K19 k5 k19 n) n y1 y2 y3 y4 I o h
set_option maxRecDepth 100000 in
set_option maxHeartbeats 4000000 in
theorem tX10_wordAt_87 {E : ev_N} {σ : ev_H} (q0 : Nat) (g0 : shp tb9 σ q0) (K5 : Int32 → Int32 → Int32 → Int32 → ev_I → Option (Int32)) (K19 : Int32 → Int32 → Int32 → Int32 → Int32 → ev_I → Option (Int32)) (k5 : ∀ (y1 : Int32) (y2 : Int32) (y3 : Int32) (y4 : Int32) (I : ev_I) (o : Int32), K5 y1 y2 y3 y4 I = some o → EV E mX10_wordAt 5 [some (.ref q0), some (.int y1), some (.int y2), some (.int y3), some (.int y4), none] [] (h_w σ I) (Option.some (Value.int o), h_w σ I)) (k19 : ∀ (y1 : Int32) (y2 : Int32) (y3 : Int32) (y4 : Int32) (y5 : Int32) (I : ev_I) (o : Int32), K19 y1 y2 y3 y4 y5 I = some o → EV E mX10_wordAt 19 [some (.ref q0), some (.int y1), some (.int y2), some (.int y3), some (.int y4), some (.int y5)] [] (h_w σ I) (Option.some (Value.int o), h_w σ I)) (n : Nat) (y1 : Int32) (y2 : Int32) (y3 : Int32) (y4 : Int32) (I : ev_I) (o : Int32) : cX10_wordAt_87 q0 K5 K19 n y1 y2 y3 y4 I = some o → EV E mX10_wordAt 87 [some (.ref q0), some (.int y1), some (.int y2), some (.int y3), some (.int y4), none] [] (h_w σ I) (Option.some (Value.int o), h_w σ I) := by
  intro h
  unfold cX10_wordAt_87 at h
  refine ev_iload dX10_wordAt_87 rfl ?_
  refine ev_iconst (v := (1 : Int32)) dX10_wordAt_89 (by decide) ?_
  refine ev_iadd dX10_wordAt_90 ?_
  obtain ⟨v4, ev4, h⟩ := ev_ltE h
  refine ew_nm ev4 ?_
  refine ew_ist (L' := [some (.ref q0), some (.int y1), some (.int y2), some (.int y3), some (.int v4), none]) dX10_wordAt_91 (Nat.le_of_ble_eq_true rfl) rfl ?_
  exact ev_weak (sb_s (sb_s (sb_s (sb_s (sb_s (sb_n sb_0)))))) (tlX10_wordAt_93 q0 g0 K5 K19 k5 k19 n y1 y2 y3 v4 I _ h)
set_option maxRecDepth 100000 in
set_option maxHeartbeats 4000000 in
theorem tX10_wordAt_60 {E : ev_N} {σ : ev_H} (q0 : Nat) (g0 : shp tb9 σ q0) (K5 : Int32 → Int32 → Int32 → Int32 → ev_I → Option (Int32)) (K19 : Int32 → Int32 → Int32 → Int32 → Int32 → ev_I → Option (Int32)) (k5 : ∀ (y1 : Int32) (y2 : Int32) (y3 : Int32) (y4 : Int32) (I : ev_I) (o : Int32), K5 y1 y2 y3 y4 I = some o → EV E mX10_wordAt 5 [some (.ref q0), some (.int y1), some (.int y2), some (.int y3), some (.int y4), none] [] (h_w σ I) (Option.some (Value.int o), h_w σ I)) (k19 : ∀ (y1 : Int32) (y2 : Int32) (y3 : Int32) (y4 : Int32) (y5 : Int32) (I : ev_I) (o : Int32), K19 y1 y2 y3 y4 y5 I = some o → EV E mX10_wordAt 19 [some (.ref q0), some (.int y1), some (.int y2), some (.int y3), some (.int y4), some (.int y5)] [] (h_w σ I) (Option.some (Value.int o), h_w σ I)) (n : Nat) (y1 : Int32) (y2 : Int32) (y3 : Int32) (y4 : Int32) (y5 : Int32) (I : ev_I) (o : Int32) : cX10_wordAt_60 q0 K5 K19 n y1 y2 y3 y4 y5 I = some o → EV E mX10_wordAt 60 [some (.ref q0), some (.int y1), some (.int y2), some (.int y3), some (.int y4), some (.int y5)] [] (h_w σ I) (Option.some (Value.int o), h_w σ I) := by
  intro h
  unfold cX10_wordAt_60 at h
  refine ev_iload_n dX10_wordAt_60 rfl ?_
  refine ev_iload dX10_wordAt_61 rfl ?_
  refine ev_iadd dX10_wordAt_63 ?_
  refine ev_iload_n dX10_wordAt_64 rfl ?_
  refine ev_icmp_ne (tgt := 87) dX10_wordAt_65 (by decide) (fun c5 => ?_) (fun c5 => ?_)
  · have h := ev_ifF h c5
    exact ev_weak (sb_s (sb_s (sb_s (sb_s (sb_s (sb_n sb_0)))))) (tX10_wordAt_87 q0 g0 K5 K19 k5 k19 n y1 y2 y3 y4 I _ h)
  · have h := ev_ifT h c5
    refine ev_aload_n dX10_wordAt_68 rfl (fun _ e => by cases e) ?_
    refine ew_getr0 dX10_wordAt_69 fX10_31 g0 rfl rfl rfl rfl ?_
    refine ev_iload dX10_wordAt_72 rfl ?_
    refine ev_iconst (v := (1 : Int32)) dX10_wordAt_74 (by decide) ?_
    refine ev_iadd dX10_wordAt_75 ?_
    refine ev_iload dX10_wordAt_76 rfl ?_
    refine ev_iadd dX10_wordAt_78 ?_
    obtain ⟨c6, h⟩ := ev_ckE h
    refine ew_iald dX10_wordAt_79 (shp_a g0 8 rfl) c6 ?_
    refine ev_bipush (v := (32 : Int32)) dX10_wordAt_80 (by decide) ?_
    refine ev_icmp_ne (tgt := 87) dX10_wordAt_82 (by decide) (fun c7 => ?_) (fun c7 => ?_)
    · have h := ev_ifF h c7
      exact ev_weak (sb_s (sb_s (sb_s (sb_s (sb_s (sb_n sb_0)))))) (tX10_wordAt_87 q0 g0 K5 K19 k5 k19 n y1 y2 y3 y4 I _ h)
    · have h := ev_ifT h c7
      refine ev_iload_n dX10_wordAt_85 rfl ?_
      cases h
      exact er_i dX10_wordAt_86 rfl rfl
set_option maxRecDepth 100000 in
set_option maxHeartbeats 4000000 in
theorem tX10_wordAt_19 {E : ev_N} {σ : ev_H} (q0 : Nat) (g0 : shp tb9 σ q0) (K5 : Int32 → Int32 → Int32 → Int32 → ev_I → Option (Int32)) (K19 : Int32 → Int32 → Int32 → Int32 → Int32 → ev_I → Option (Int32)) (k5 : ∀ (y1 : Int32) (y2 : Int32) (y3 : Int32) (y4 : Int32) (I : ev_I) (o : Int32), K5 y1 y2 y3 y4 I = some o → EV E mX10_wordAt 5 [some (.ref q0), some (.int y1), some (.int y2), some (.int y3), some (.int y4), none] [] (h_w σ I) (Option.some (Value.int o), h_w σ I)) (k19 : ∀ (y1 : Int32) (y2 : Int32) (y3 : Int32) (y4 : Int32) (y5 : Int32) (I : ev_I) (o : Int32), K19 y1 y2 y3 y4 y5 I = some o → EV E mX10_wordAt 19 [some (.ref q0), some (.int y1), some (.int y2), some (.int y3), some (.int y4), some (.int y5)] [] (h_w σ I) (Option.some (Value.int o), h_w σ I)) (n : Nat) (y1 : Int32) (y2 : Int32) (y3 : Int32) (y4 : Int32) (y5 : Int32) (I : ev_I) (o : Int32) : cX10_wordAt_19 q0 K5 K19 n y1 y2 y3 y4 y5 I = some o → EV E mX10_wordAt 19 [some (.ref q0), some (.int y1), some (.int y2), some (.int y3), some (.int y4), some (.int y5)] [] (h_w σ I) (Option.some (Value.int o), h_w σ I) := by
  intro h
  unfold cX10_wordAt_19 at h
  refine ev_iload_n dX10_wordAt_19 rfl ?_
  refine ev_iload dX10_wordAt_20 rfl ?_
  refine ev_iadd dX10_wordAt_22 ?_
  refine ev_iload_n dX10_wordAt_23 rfl ?_
  refine ev_icmp_ge (tgt := 60) dX10_wordAt_24 (by decide) (fun c8 => ?_) (fun c8 => ?_)
  · have h := ev_ifT h c8
    exact ev_weak (sb_s (sb_s (sb_s (sb_s (sb_s (sb_s sb_0)))))) (tX10_wordAt_60 q0 g0 K5 K19 k5 k19 n y1 y2 y3 y4 y5 I _ h)
  · have h := ev_ifF h c8
    refine ev_aload_n dX10_wordAt_27 rfl (fun _ e => by cases e) ?_
    refine ew_getr0 dX10_wordAt_28 fX10_31 g0 rfl rfl rfl rfl ?_
    refine ev_iload dX10_wordAt_31 rfl ?_
    refine ev_iconst (v := (1 : Int32)) dX10_wordAt_33 (by decide) ?_
    refine ev_iadd dX10_wordAt_34 ?_
    refine ev_iload dX10_wordAt_35 rfl ?_
    refine ev_iadd dX10_wordAt_37 ?_
    obtain ⟨c9, h⟩ := ev_ckE h
    refine ew_iald dX10_wordAt_38 (shp_a g0 8 rfl) c9 ?_
    refine ev_aload_n dX10_wordAt_39 rfl (fun _ e => by cases e) ?_
    refine ew_getr0 dX10_wordAt_40 fX10_28 g0 rfl rfl rfl rfl ?_
    refine ev_iload_n dX10_wordAt_43 rfl ?_
    refine ev_iload dX10_wordAt_44 rfl ?_
    refine ev_iadd dX10_wordAt_46 ?_
    obtain ⟨c10, h⟩ := ev_ckE h
    refine ew_iald dX10_wordAt_47 (shp_a g0 7 rfl) c10 ?_
    refine ev_icmp_ne (tgt := 60) dX10_wordAt_48 (by decide) (fun c11 => ?_) (fun c11 => ?_)
    · have h := ev_ifF h c11
      exact ev_weak (sb_s (sb_s (sb_s (sb_s (sb_s (sb_s sb_0)))))) (tX10_wordAt_60 q0 g0 K5 K19 k5 k19 n y1 y2 y3 y4 y5 I _ h)
    · have h := ev_ifT h c11
      refine ev_iload dX10_wordAt_51 rfl ?_
      refine ev_iconst (v := (1 : Int32)) dX10_wordAt_53 (by decide) ?_
      refine ev_iadd dX10_wordAt_54 ?_
      obtain ⟨v12, ev12, h⟩ := ev_ltE h
      refine ew_nm ev12 ?_
      refine ew_ist (L' := [some (.ref q0), some (.int y1), some (.int y2), some (.int y3), some (.int y4), some (.int v12)]) dX10_wordAt_55 (Nat.le_of_ble_eq_true rfl) rfl ?_
      refine ev_goto (tgt := 19) dX10_wordAt_57 (by decide) ?_
      exact ev_weak (sb_s (sb_s (sb_s (sb_s (sb_s (sb_s sb_0)))))) (k19 y1 y2 y3 y4 v12 I _ h)
theorem tlX10_wordAt_19 {E : ev_N} {σ : ev_H} (q0 : Nat) (g0 : shp tb9 σ q0) (K5 : Int32 → Int32 → Int32 → Int32 → ev_I → Option (Int32)) (k5 : ∀ (y1 : Int32) (y2 : Int32) (y3 : Int32) (y4 : Int32) (I : ev_I) (o : Int32), K5 y1 y2 y3 y4 I = some o → EV E mX10_wordAt 5 [some (.ref q0), some (.int y1), some (.int y2), some (.int y3), some (.int y4), none] [] (h_w σ I) (Option.some (Value.int o), h_w σ I)) : ∀ (n : Nat) (y1 : Int32) (y2 : Int32) (y3 : Int32) (y4 : Int32) (y5 : Int32) (I : ev_I) (o : Int32), lX10_wordAt_19 q0 K5 n y1 y2 y3 y4 y5 I = some o → EV E mX10_wordAt 19 [some (.ref q0), some (.int y1), some (.int y2), some (.int y3), some (.int y4), some (.int y5)] [] (h_w σ I) (Option.some (Value.int o), h_w σ I)
  | 0, _, _, _, _, _, _, _, h => by cases h
  | n + 1, y1, y2, y3, y4, y5, I, o, h => tX10_wordAt_19 q0 g0 K5 (lX10_wordAt_19 q0 K5 n) k5 (tlX10_wordAt_19 q0 g0 K5 k5 n) n y1 y2 y3 y4 y5 I o h
set_option maxRecDepth 100000 in
set_option maxHeartbeats 4000000 in
theorem tX10_wordAt_5 {E : ev_N} {σ : ev_H} (q0 : Nat) (g0 : shp tb9 σ q0) (K5 : Int32 → Int32 → Int32 → Int32 → ev_I → Option (Int32)) (k5 : ∀ (y1 : Int32) (y2 : Int32) (y3 : Int32) (y4 : Int32) (I : ev_I) (o : Int32), K5 y1 y2 y3 y4 I = some o → EV E mX10_wordAt 5 [some (.ref q0), some (.int y1), some (.int y2), some (.int y3), some (.int y4), none] [] (h_w σ I) (Option.some (Value.int o), h_w σ I)) (n : Nat) (y1 : Int32) (y2 : Int32) (y3 : Int32) (y4 : Int32) (I : ev_I) (o : Int32) : cX10_wordAt_5 q0 K5 n y1 y2 y3 y4 I = some o → EV E mX10_wordAt 5 [some (.ref q0), some (.int y1), some (.int y2), some (.int y3), some (.int y4), none] [] (h_w σ I) (Option.some (Value.int o), h_w σ I) := by
  intro h
  unfold cX10_wordAt_5 at h
  refine ev_iload dX10_wordAt_5 rfl ?_
  refine ev_bipush (v := (59 : Int32)) dX10_wordAt_7 (by decide) ?_
  refine ev_icmp_ge (tgt := 117) dX10_wordAt_9 (by decide) (fun c13 => ?_) (fun c13 => ?_)
  · have h := ev_ifT h c13
    refine ev_iconst (v := (-1 : Int32)) dX10_wordAt_117 (by decide) ?_
    cases h
    exact er_i dX10_wordAt_118 rfl rfl
  · have h := ev_ifF h c13
    refine ev_iconst (v := (0 : Int32)) dX10_wordAt_12 (by decide) ?_
    refine ew_ist (L' := [some (.ref q0), some (.int y1), some (.int y2), some (.int y3), some (.int y4), some (.int (0 : Int32))]) dX10_wordAt_13 (Nat.le_of_ble_eq_true rfl) rfl ?_
    refine ev_iload_n dX10_wordAt_15 rfl ?_
    refine ev_iconst (v := (1 : Int32)) dX10_wordAt_16 (by decide) ?_
    refine ev_iadd dX10_wordAt_17 ?_
    obtain ⟨v14, ev14, h⟩ := ev_ltE h
    refine ew_nm ev14 ?_
    refine ew_istn (L' := [some (.ref q0), some (.int y1), some (.int y2), some (.int v14), some (.int y4), some (.int (0 : Int32))]) dX10_wordAt_18 (Nat.le_of_ble_eq_true rfl) rfl ?_
    exact ev_weak (sb_s (sb_s (sb_s (sb_s (sb_s (sb_s sb_0)))))) (tlX10_wordAt_19 q0 g0 K5 k5 n y1 y2 v14 y4 (0 : Int32) I _ h)
theorem tlX10_wordAt_5 {E : ev_N} {σ : ev_H} (q0 : Nat) (g0 : shp tb9 σ q0) : ∀ (n : Nat) (y1 : Int32) (y2 : Int32) (y3 : Int32) (y4 : Int32) (I : ev_I) (o : Int32), lX10_wordAt_5 q0 n y1 y2 y3 y4 I = some o → EV E mX10_wordAt 5 [some (.ref q0), some (.int y1), some (.int y2), some (.int y3), some (.int y4), none] [] (h_w σ I) (Option.some (Value.int o), h_w σ I)
  | 0, _, _, _, _, _, _, h => by cases h
  | n + 1, y1, y2, y3, y4, I, o, h => tX10_wordAt_5 q0 g0 (lX10_wordAt_5 q0 n) (tlX10_wordAt_5 q0 g0 n) n y1 y2 y3 y4 I o h
set_option maxRecDepth 100000 in
set_option maxHeartbeats 4000000 in
theorem tX10_wordAt {E : ev_N} {σ : ev_H} (n : Nat) (q0 : Nat) (g0 : shp tb9 σ q0) (x1 : Int32) (x2 : Int32) (I : ev_I) (o : Int32) (h : pX10_wordAt n q0 x1 x2 I = some o) : ev_T E mX10_wordAt [.ref q0, .int x1, .int x2] (h_w σ I) (Option.some (Value.int o), h_w σ I) := by
  unfold pX10_wordAt at h
  refine ev_met rfl rfl (Nat.le_of_ble_eq_true rfl) (ev_L0 (L' := [some (.ref q0), some (.int x1), some (.int x2), none, none, none]) rfl ?_)
  refine ev_iconst (v := (-1 : Int32)) dX10_wordAt_0 (by decide) ?_
  refine ew_istn (L' := [some (.ref q0), some (.int x1), some (.int x2), some (.int (-1 : Int32)), none, none]) dX10_wordAt_1 (Nat.le_of_ble_eq_true rfl) rfl ?_
  refine ev_iconst (v := (0 : Int32)) dX10_wordAt_2 (by decide) ?_
  refine ew_ist (L' := [some (.ref q0), some (.int x1), some (.int x2), some (.int (-1 : Int32)), some (.int (0 : Int32)), none]) dX10_wordAt_3 (Nat.le_of_ble_eq_true rfl) rfl ?_
  exact ev_weak (sb_s (sb_s (sb_s (sb_s (sb_s (sb_n sb_0)))))) (tlX10_wordAt_5 q0 g0 n x1 x2 (-1 : Int32) (0 : Int32) I _ h)
-- ChainVotesModel reads()V
def cX10_reads_26 (q0 : Nat) (K0 : ev_I → Option (ev_I)) (n : Nat) (I : ev_I) : Option (ev_I) :=
  ev_lt (ev_u2 I q0 9 ((I q0 9) + (1 : Int32))) fun I1 =>
  K0  I1
def cX10_reads_223 (q0 : Nat) (K171 : ev_I → Option (ev_I)) (n : Nat) (s1 : Int32) (I : ev_I) : Option (ev_I) :=
  ev_lt (ev_u2 I q0 12 s1) fun I2 =>
  ev_lt (ev_u2 I2 q0 9 ((I2 q0 9) + (1 : Int32))) fun I3 =>
  K171  I3
def cX10_reads_171 (q0 : Nat) (K171 : ev_I → Option (ev_I)) (n : Nat) (I : ev_I) : Option (ev_I) :=
  (pX10_raw n q0 (I q0 9) I).bind fun z4 =>
  (pX10_isDigit n q0 z4 I).bind fun z5 =>
  if z5 = 0 then
    if (5 : Int32) ≤ ((I q0 9) - (I q0 10)) then
      some I
    else
      ev_lt (ev_u2 I q0 11 (3 : Int32)) fun I8 =>
      some I8
  else
    if (10000 : Int32) ≤ (I q0 12) then
      cX10_reads_223 q0 K171 n (I q0 12) I
    else
      (pX10_raw n q0 (I q0 9) I).bind fun z10 =>
      cX10_reads_223 q0 K171 n ((((10 : Int32) * (I q0 12)) + z10) - (48 : Int32)) I
def lX10_reads_171 (q0 : Nat) : Nat → ev_I → Option (ev_I)
  | 0, _ => none
  | n + 1, I => cX10_reads_171 q0 (lX10_reads_171 q0 n) n  I
def cX10_reads_95 (q0 : Nat) (K95 : ev_I → Option (ev_I)) (n : Nat) (I : ev_I) : Option (ev_I) :=
  (pX10_raw n q0 (I q0 9) I).bind fun z11 =>
  (pX10_isLetter n q0 z11 I).bind fun z12 =>
  if z12 = 0 then
    (pX10_wordAt n q0 (I q0 10) (I q0 9) I).bind fun z14 =>
    ev_lt (ev_u2 I q0 12 z14) fun I15 =>
    if (I15 q0 12) = (-1 : Int32) then
      some I15
    else
      ev_lt (ev_u2 I15 q0 11 (2 : Int32)) fun I17 =>
      some I17
  else
    ev_lt (ev_u2 I q0 9 ((I q0 9) + (1 : Int32))) fun I18 =>
    K95  I18
def lX10_reads_95 (q0 : Nat) : Nat → ev_I → Option (ev_I)
  | 0, _ => none
  | n + 1, I => cX10_reads_95 q0 (lX10_reads_95 q0 n) n  I
def cX10_reads_0 (q0 : Nat) (K0 : ev_I → Option (ev_I)) (n : Nat) (I : ev_I) : Option (ev_I) :=
  (pX10_raw n q0 (I q0 9) I).bind fun z19 =>
  if z19 = (32 : Int32) then
    cX10_reads_26 q0 K0 n  I
  else
    (pX10_raw n q0 (I q0 9) I).bind fun z21 =>
    if z21 = (10 : Int32) then
      cX10_reads_26 q0 K0 n  I
    else
      ev_lt (ev_u2 I q0 10 (I q0 9)) fun I23 =>
      ev_lt (ev_u2 I23 q0 11 (1 : Int32)) fun I24 =>
      (pX10_raw n q0 (I24 q0 9) I24).bind fun z25 =>
      if z25 = (-1 : Int32) then
        ev_lt (ev_u2 I24 q0 11 (0 : Int32)) fun I36 =>
        some I36
      else
        ev_lt (ev_u2 I24 q0 9 ((I24 q0 9) + (1 : Int32))) fun I27 =>
        ev_lt (ev_u2 I27 q0 12 z25) fun I28 =>
        (pX10_isLetter n q0 z25 I28).bind fun z29 =>
        if z29 = 0 then
          (pX10_isDigit n q0 z25 I28).bind fun z31 =>
          if z31 = 0 then
            if z25 = (59 : Int32) then
              ev_lt (ev_u2 I28 q0 11 (4 : Int32)) fun I34 =>
              some I34
            else
              some I28
          else
            ev_lt (ev_u2 I28 q0 12 (z25 - (48 : Int32))) fun I35 =>
            lX10_reads_171 q0 n  I35
        else
          lX10_reads_95 q0 n  I28
def lX10_reads_0 (q0 : Nat) : Nat → ev_I → Option (ev_I)
  | 0, _ => none
  | n + 1, I => cX10_reads_0 q0 (lX10_reads_0 q0 n) n  I
def pX10_reads (n : Nat) (q0 : Nat) (I : ev_I) : Option (ev_I) :=
  lX10_reads_0 q0 n  I
set_option maxRecDepth 100000 in
set_option maxHeartbeats 4000000 in
theorem tX10_reads_26 {E : ev_N} {σ : ev_H} (q0 : Nat) (g0 : shp tb9 σ q0) (K0 : ev_I → Option (ev_I)) (k0 : ∀ (I : ev_I) (o : ev_I), K0  I = some o → EV E mX10_reads 0 [some (.ref q0), none] [] (h_w σ I) (Option.none, h_w σ o)) (n : Nat) (I : ev_I) (o : ev_I) : cX10_reads_26 q0 K0 n  I = some o → EV E mX10_reads 26 [some (.ref q0), none] [] (h_w σ I) (Option.none, h_w σ o) := by
  intro h
  unfold cX10_reads_26 at h
  refine ev_aload_n dX10_reads_26 rfl (fun _ e => by cases e) ?_
  refine ev_aload_n dX10_reads_27 rfl (fun _ e => by cases e) ?_
  refine ew_get0 dX10_reads_28 fX10_293 g0 rfl rfl rfl ?_
  refine ev_iconst (v := (1 : Int32)) dX10_reads_31 (by decide) ?_
  refine ev_iadd dX10_reads_32 ?_
  obtain ⟨I1, eI1, h⟩ := ev_ltE h
  refine ew_put0 dX10_reads_33 fX10_293 g0 rfl rfl rfl rfl rfl rfl (ew_nh eI1 ?_)
  refine ev_goto (tgt := 0) dX10_reads_36 (by decide) ?_
  exact ev_weak (sb_s (sb_n sb_0)) (k0  I1 _ h)
set_option maxRecDepth 100000 in
set_option maxHeartbeats 4000000 in
theorem tX10_reads_223 {E : ev_N} {σ : ev_H} (q0 : Nat) (g0 : shp tb9 σ q0) (K171 : ev_I → Option (ev_I)) (k171 : ∀ (I : ev_I) (o : ev_I), K171  I = some o → EV E mX10_reads 171 [some (.ref q0), none] [] (h_w σ I) (Option.none, h_w σ o)) (n : Nat) (s1 : Int32) (I : ev_I) (o : ev_I) : cX10_reads_223 q0 K171 n s1 I = some o → EV E mX10_reads 223 [some (.ref q0), none] [(.int s1), (.ref q0)] (h_w σ I) (Option.none, h_w σ o) := by
  intro h
  unfold cX10_reads_223 at h
  obtain ⟨I2, eI2, h⟩ := ev_ltE h
  refine ew_put0 dX10_reads_223 fX10_305 g0 rfl rfl rfl rfl rfl rfl (ew_nh eI2 ?_)
  refine ev_aload_n dX10_reads_226 rfl (fun _ e => by cases e) ?_
  refine ev_aload_n dX10_reads_227 rfl (fun _ e => by cases e) ?_
  refine ew_get0 dX10_reads_228 fX10_293 g0 rfl rfl rfl ?_
  refine ev_iconst (v := (1 : Int32)) dX10_reads_231 (by decide) ?_
  refine ev_iadd dX10_reads_232 ?_
  obtain ⟨I3, eI3, h⟩ := ev_ltE h
  refine ew_put0 dX10_reads_233 fX10_293 g0 rfl rfl rfl rfl rfl rfl (ew_nh eI3 ?_)
  refine ev_goto (tgt := 171) dX10_reads_236 (by decide) ?_
  exact ev_weak (sb_s (sb_n sb_0)) (k171  I3 _ h)
set_option maxRecDepth 100000 in
set_option maxHeartbeats 4000000 in
theorem tX10_reads_171 {E : ev_N} {σ : ev_H} (q0 : Nat) (g0 : shp tb9 σ q0) (K171 : ev_I → Option (ev_I)) (k171 : ∀ (I : ev_I) (o : ev_I), K171  I = some o → EV E mX10_reads 171 [some (.ref q0), none] [] (h_w σ I) (Option.none, h_w σ o)) (n : Nat) (I : ev_I) (o : ev_I) : cX10_reads_171 q0 K171 n  I = some o → EV E mX10_reads 171 [some (.ref q0), none] [] (h_w σ I) (Option.none, h_w σ o) := by
  intro h
  unfold cX10_reads_171 at h
  refine ev_aload_n dX10_reads_171 rfl (fun _ e => by cases e) ?_
  refine ev_aload_n dX10_reads_172 rfl (fun _ e => by cases e) ?_
  refine ev_aload_n dX10_reads_173 rfl (fun _ e => by cases e) ?_
  refine ew_get0 dX10_reads_174 fX10_293 g0 rfl rfl rfl ?_
  obtain ⟨z4, hz4, h⟩ := ev_bnE h
  refine ec_Vi (Y := mX10_raw) (ci := 9) (As := [.int (I q0 9)]) (rest := [(.ref q0)]) dX10_reads_177 kX10_296 oX10_raw ⟨Nat.le_of_ble_eq_true rfl, Nat.le_of_ble_eq_true rfl⟩ (by decide) rfl (shp_n g0 0 rfl) (shp_t g0 0 rfl) rfl (Nat.le_of_ble_eq_true rfl) (tX10_raw n q0 g0 (I q0 9) I z4 hz4) rfl ?_
  obtain ⟨z5, hz5, h⟩ := ev_bnE h
  refine ec_Vi (Y := mX10_isDigit) (ci := 9) (As := [.int z4]) (rest := []) dX10_reads_180 kX10_314 oX10_isDigit ⟨Nat.le_of_ble_eq_true rfl, Nat.le_of_ble_eq_true rfl⟩ (by decide) rfl (shp_n g0 0 rfl) (shp_t g0 0 rfl) rfl (Nat.le_of_ble_eq_true rfl) (tX10_isDigit n q0 g0 z4 I z5 hz5) rfl ?_
  refine ev_if_eq (tgt := 239) dX10_reads_183 (by decide) (fun c6 => ?_) (fun c6 => ?_)
  · have h := ev_ifT h c6
    refine ev_aload_n dX10_reads_239 rfl (fun _ e => by cases e) ?_
    refine ew_get0 dX10_reads_240 fX10_293 g0 rfl rfl rfl ?_
    refine ev_aload_n dX10_reads_243 rfl (fun _ e => by cases e) ?_
    refine ew_get0 dX10_reads_244 fX10_299 g0 rfl rfl rfl ?_
    refine ev_isub dX10_reads_247 ?_
    refine ev_iconst (v := (5 : Int32)) dX10_reads_248 (by decide) ?_
    refine ev_icmp_ge (tgt := 271) dX10_reads_249 (by decide) (fun c7 => ?_) (fun c7 => ?_)
    · have h := ev_ifT h c7
      cases h
      exact er_v dX10_reads_271 rfl
    · have h := ev_ifF h c7
      refine ev_aload_n dX10_reads_252 rfl (fun _ e => by cases e) ?_
      refine ev_iconst (v := (3 : Int32)) dX10_reads_253 (by decide) ?_
      obtain ⟨I8, eI8, h⟩ := ev_ltE h
      refine ew_put0 dX10_reads_254 fX10_302 g0 rfl rfl rfl rfl rfl rfl (ew_nh eI8 ?_)
      refine ev_goto (tgt := 271) dX10_reads_257 (by decide) ?_
      cases h
      exact er_v dX10_reads_271 rfl
  · have h := ev_ifF h c6
    refine ev_aload_n dX10_reads_186 rfl (fun _ e => by cases e) ?_
    refine ev_aload_n dX10_reads_187 rfl (fun _ e => by cases e) ?_
    refine ew_get0 dX10_reads_188 fX10_305 g0 rfl rfl rfl ?_
    refine ev_sipush (v := (10000 : Int32)) dX10_reads_191 (by decide) ?_
    refine ev_icmp_ge (tgt := 219) dX10_reads_194 (by decide) (fun c9 => ?_) (fun c9 => ?_)
    · have h := ev_ifT h c9
      refine ev_aload_n dX10_reads_219 rfl (fun _ e => by cases e) ?_
      refine ew_get0 dX10_reads_220 fX10_305 g0 rfl rfl rfl ?_
      exact ev_weak (sb_s (sb_n sb_0)) (tX10_reads_223 q0 g0 K171 k171 n (I q0 12) I _ h)
    · have h := ev_ifF h c9
      refine ev_bipush (v := (10 : Int32)) dX10_reads_197 (by decide) ?_
      refine ev_aload_n dX10_reads_199 rfl (fun _ e => by cases e) ?_
      refine ew_get0 dX10_reads_200 fX10_305 g0 rfl rfl rfl ?_
      refine ev_imul dX10_reads_203 ?_
      refine ev_aload_n dX10_reads_204 rfl (fun _ e => by cases e) ?_
      refine ev_aload_n dX10_reads_205 rfl (fun _ e => by cases e) ?_
      refine ew_get0 dX10_reads_206 fX10_293 g0 rfl rfl rfl ?_
      obtain ⟨z10, hz10, h⟩ := ev_bnE h
      refine ec_Vi (Y := mX10_raw) (ci := 9) (As := [.int (I q0 9)]) (rest := [(.int ((10 : Int32) * (I q0 12))), (.ref q0)]) dX10_reads_209 kX10_296 oX10_raw ⟨Nat.le_of_ble_eq_true rfl, Nat.le_of_ble_eq_true rfl⟩ (by decide) rfl (shp_n g0 0 rfl) (shp_t g0 0 rfl) rfl (Nat.le_of_ble_eq_true rfl) (tX10_raw n q0 g0 (I q0 9) I z10 hz10) rfl ?_
      refine ev_iadd dX10_reads_212 ?_
      refine ev_bipush (v := (48 : Int32)) dX10_reads_213 (by decide) ?_
      refine ev_isub dX10_reads_215 ?_
      refine ev_goto (tgt := 223) dX10_reads_216 (by decide) ?_
      exact ev_weak (sb_s (sb_n sb_0)) (tX10_reads_223 q0 g0 K171 k171 n ((((10 : Int32) * (I q0 12)) + z10) - (48 : Int32)) I _ h)
theorem tlX10_reads_171 {E : ev_N} {σ : ev_H} (q0 : Nat) (g0 : shp tb9 σ q0) : ∀ (n : Nat) (I : ev_I) (o : ev_I), lX10_reads_171 q0 n  I = some o → EV E mX10_reads 171 [some (.ref q0), none] [] (h_w σ I) (Option.none, h_w σ o)
  | 0, _, _, h => by cases h
  | n + 1, I, o, h => tX10_reads_171 q0 g0 (lX10_reads_171 q0 n) (tlX10_reads_171 q0 g0 n) n  I o h
set_option maxRecDepth 100000 in
set_option maxHeartbeats 4000000 in
theorem tX10_reads_95 {E : ev_N} {σ : ev_H} (q0 : Nat) (g0 : shp tb9 σ q0) (K95 : ev_I → Option (ev_I)) (k95 : ∀ (I : ev_I) (o : ev_I), K95  I = some o → EV E mX10_reads 95 [some (.ref q0), none] [] (h_w σ I) (Option.none, h_w σ o)) (n : Nat) (I : ev_I) (o : ev_I) : cX10_reads_95 q0 K95 n  I = some o → EV E mX10_reads 95 [some (.ref q0), none] [] (h_w σ I) (Option.none, h_w σ o) := by
  intro h
  unfold cX10_reads_95 at h
  refine ev_aload_n dX10_reads_95 rfl (fun _ e => by cases e) ?_
  refine ev_aload_n dX10_reads_96 rfl (fun _ e => by cases e) ?_
  refine ev_aload_n dX10_reads_97 rfl (fun _ e => by cases e) ?_
  refine ew_get0 dX10_reads_98 fX10_293 g0 rfl rfl rfl ?_
  obtain ⟨z11, hz11, h⟩ := ev_bnE h
  refine ec_Vi (Y := mX10_raw) (ci := 9) (As := [.int (I q0 9)]) (rest := [(.ref q0)]) dX10_reads_101 kX10_296 oX10_raw ⟨Nat.le_of_ble_eq_true rfl, Nat.le_of_ble_eq_true rfl⟩ (by decide) rfl (shp_n g0 0 rfl) (shp_t g0 0 rfl) rfl (Nat.le_of_ble_eq_true rfl) (tX10_raw n q0 g0 (I q0 9) I z11 hz11) rfl ?_
  obtain ⟨z12, hz12, h⟩ := ev_bnE h
  refine ec_Vi (Y := mX10_isLetter) (ci := 9) (As := [.int z11]) (rest := []) dX10_reads_104 kX10_308 oX10_isLetter ⟨Nat.le_of_ble_eq_true rfl, Nat.le_of_ble_eq_true rfl⟩ (by decide) rfl (shp_n g0 0 rfl) (shp_t g0 0 rfl) rfl (Nat.le_of_ble_eq_true rfl) (tX10_isLetter n q0 g0 z11 I z12 hz12) rfl ?_
  refine ev_if_eq (tgt := 123) dX10_reads_107 (by decide) (fun c13 => ?_) (fun c13 => ?_)
  · have h := ev_ifT h c13
    refine ev_aload_n dX10_reads_123 rfl (fun _ e => by cases e) ?_
    refine ev_aload_n dX10_reads_124 rfl (fun _ e => by cases e) ?_
    refine ev_aload_n dX10_reads_125 rfl (fun _ e => by cases e) ?_
    refine ew_get0 dX10_reads_126 fX10_299 g0 rfl rfl rfl ?_
    refine ev_aload_n dX10_reads_129 rfl (fun _ e => by cases e) ?_
    refine ew_get0 dX10_reads_130 fX10_293 g0 rfl rfl rfl ?_
    obtain ⟨z14, hz14, h⟩ := ev_bnE h
    refine ec_Vi (Y := mX10_wordAt) (ci := 9) (As := [.int (I q0 10), .int (I q0 9)]) (rest := [(.ref q0)]) dX10_reads_133 kX10_311 oX10_wordAt ⟨Nat.le_of_ble_eq_true rfl, Nat.le_of_ble_eq_true rfl⟩ (by decide) rfl (shp_n g0 0 rfl) (shp_t g0 0 rfl) rfl (Nat.le_of_ble_eq_true rfl) (tX10_wordAt n q0 g0 (I q0 10) (I q0 9) I z14 hz14) rfl ?_
    obtain ⟨I15, eI15, h⟩ := ev_ltE h
    refine ew_put0 dX10_reads_136 fX10_305 g0 rfl rfl rfl rfl rfl rfl (ew_nh eI15 ?_)
    refine ev_aload_n dX10_reads_139 rfl (fun _ e => by cases e) ?_
    refine ew_get0 dX10_reads_140 fX10_305 g0 rfl rfl rfl ?_
    refine ev_iconst (v := (-1 : Int32)) dX10_reads_143 (by decide) ?_
    refine ev_icmp_eq (tgt := 271) dX10_reads_144 (by decide) (fun c16 => ?_) (fun c16 => ?_)
    · have h := ev_ifT h c16
      cases h
      exact er_v dX10_reads_271 rfl
    · have h := ev_ifF h c16
      refine ev_aload_n dX10_reads_147 rfl (fun _ e => by cases e) ?_
      refine ev_iconst (v := (2 : Int32)) dX10_reads_148 (by decide) ?_
      obtain ⟨I17, eI17, h⟩ := ev_ltE h
      refine ew_put0 dX10_reads_149 fX10_302 g0 rfl rfl rfl rfl rfl rfl (ew_nh eI17 ?_)
      refine ev_goto (tgt := 271) dX10_reads_152 (by decide) ?_
      cases h
      exact er_v dX10_reads_271 rfl
  · have h := ev_ifF h c13
    refine ev_aload_n dX10_reads_110 rfl (fun _ e => by cases e) ?_
    refine ev_aload_n dX10_reads_111 rfl (fun _ e => by cases e) ?_
    refine ew_get0 dX10_reads_112 fX10_293 g0 rfl rfl rfl ?_
    refine ev_iconst (v := (1 : Int32)) dX10_reads_115 (by decide) ?_
    refine ev_iadd dX10_reads_116 ?_
    obtain ⟨I18, eI18, h⟩ := ev_ltE h
    refine ew_put0 dX10_reads_117 fX10_293 g0 rfl rfl rfl rfl rfl rfl (ew_nh eI18 ?_)
    refine ev_goto (tgt := 95) dX10_reads_120 (by decide) ?_
    exact ev_weak (sb_s (sb_n sb_0)) (k95  I18 _ h)
theorem tlX10_reads_95 {E : ev_N} {σ : ev_H} (q0 : Nat) (g0 : shp tb9 σ q0) : ∀ (n : Nat) (I : ev_I) (o : ev_I), lX10_reads_95 q0 n  I = some o → EV E mX10_reads 95 [some (.ref q0), none] [] (h_w σ I) (Option.none, h_w σ o)
  | 0, _, _, h => by cases h
  | n + 1, I, o, h => tX10_reads_95 q0 g0 (lX10_reads_95 q0 n) (tlX10_reads_95 q0 g0 n) n  I o h
set_option maxRecDepth 100000 in
set_option maxHeartbeats 4000000 in
theorem tX10_reads_0 {E : ev_N} {σ : ev_H} (q0 : Nat) (g0 : shp tb9 σ q0) (K0 : ev_I → Option (ev_I)) (k0 : ∀ (I : ev_I) (o : ev_I), K0  I = some o → EV E mX10_reads 0 [some (.ref q0), none] [] (h_w σ I) (Option.none, h_w σ o)) (n : Nat) (I : ev_I) (o : ev_I) : cX10_reads_0 q0 K0 n  I = some o → EV E mX10_reads 0 [some (.ref q0), none] [] (h_w σ I) (Option.none, h_w σ o) := by
  intro h
  unfold cX10_reads_0 at h
  refine ev_aload_n dX10_reads_0 rfl (fun _ e => by cases e) ?_
  refine ev_aload_n dX10_reads_1 rfl (fun _ e => by cases e) ?_
  refine ew_get0 dX10_reads_2 fX10_293 g0 rfl rfl rfl ?_
  obtain ⟨z19, hz19, h⟩ := ev_bnE h
  refine ec_Vi (Y := mX10_raw) (ci := 9) (As := [.int (I q0 9)]) (rest := []) dX10_reads_5 kX10_296 oX10_raw ⟨Nat.le_of_ble_eq_true rfl, Nat.le_of_ble_eq_true rfl⟩ (by decide) rfl (shp_n g0 0 rfl) (shp_t g0 0 rfl) rfl (Nat.le_of_ble_eq_true rfl) (tX10_raw n q0 g0 (I q0 9) I z19 hz19) rfl ?_
  refine ev_bipush (v := (32 : Int32)) dX10_reads_8 (by decide) ?_
  refine ev_icmp_eq (tgt := 26) dX10_reads_10 (by decide) (fun c20 => ?_) (fun c20 => ?_)
  · have h := ev_ifT h c20
    exact ev_weak (sb_s (sb_n sb_0)) (tX10_reads_26 q0 g0 K0 k0 n  I _ h)
  · have h := ev_ifF h c20
    refine ev_aload_n dX10_reads_13 rfl (fun _ e => by cases e) ?_
    refine ev_aload_n dX10_reads_14 rfl (fun _ e => by cases e) ?_
    refine ew_get0 dX10_reads_15 fX10_293 g0 rfl rfl rfl ?_
    obtain ⟨z21, hz21, h⟩ := ev_bnE h
    refine ec_Vi (Y := mX10_raw) (ci := 9) (As := [.int (I q0 9)]) (rest := []) dX10_reads_18 kX10_296 oX10_raw ⟨Nat.le_of_ble_eq_true rfl, Nat.le_of_ble_eq_true rfl⟩ (by decide) rfl (shp_n g0 0 rfl) (shp_t g0 0 rfl) rfl (Nat.le_of_ble_eq_true rfl) (tX10_raw n q0 g0 (I q0 9) I z21 hz21) rfl ?_
    refine ev_bipush (v := (10 : Int32)) dX10_reads_21 (by decide) ?_
    refine ev_icmp_ne (tgt := 39) dX10_reads_23 (by decide) (fun c22 => ?_) (fun c22 => ?_)
    · have h := ev_ifF h c22
      refine ev_aload_n dX10_reads_39 rfl (fun _ e => by cases e) ?_
      refine ev_aload_n dX10_reads_40 rfl (fun _ e => by cases e) ?_
      refine ew_get0 dX10_reads_41 fX10_293 g0 rfl rfl rfl ?_
      obtain ⟨I23, eI23, h⟩ := ev_ltE h
      refine ew_put0 dX10_reads_44 fX10_299 g0 rfl rfl rfl rfl rfl rfl (ew_nh eI23 ?_)
      refine ev_aload_n dX10_reads_47 rfl (fun _ e => by cases e) ?_
      refine ev_iconst (v := (1 : Int32)) dX10_reads_48 (by decide) ?_
      obtain ⟨I24, eI24, h⟩ := ev_ltE h
      refine ew_put0 dX10_reads_49 fX10_302 g0 rfl rfl rfl rfl rfl rfl (ew_nh eI24 ?_)
      refine ev_aload_n dX10_reads_52 rfl (fun _ e => by cases e) ?_
      refine ev_aload_n dX10_reads_53 rfl (fun _ e => by cases e) ?_
      refine ew_get0 dX10_reads_54 fX10_293 g0 rfl rfl rfl ?_
      obtain ⟨z25, hz25, h⟩ := ev_bnE h
      refine ec_Vi (Y := mX10_raw) (ci := 9) (As := [.int (I24 q0 9)]) (rest := []) dX10_reads_57 kX10_296 oX10_raw ⟨Nat.le_of_ble_eq_true rfl, Nat.le_of_ble_eq_true rfl⟩ (by decide) rfl (shp_n g0 0 rfl) (shp_t g0 0 rfl) rfl (Nat.le_of_ble_eq_true rfl) (tX10_raw n q0 g0 (I24 q0 9) I24 z25 hz25) rfl ?_
      refine ew_istn (L' := [some (.ref q0), some (.int z25)]) dX10_reads_60 (Nat.le_of_ble_eq_true rfl) rfl ?_
      refine ev_iload_n dX10_reads_61 rfl ?_
      refine ev_iconst (v := (-1 : Int32)) dX10_reads_62 (by decide) ?_
      refine ev_icmp_ne (tgt := 72) dX10_reads_63 (by decide) (fun c26 => ?_) (fun c26 => ?_)
      · have h := ev_ifF h c26
        refine ev_aload_n dX10_reads_72 rfl (fun _ e => by cases e) ?_
        refine ev_aload_n dX10_reads_73 rfl (fun _ e => by cases e) ?_
        refine ew_get0 dX10_reads_74 fX10_293 g0 rfl rfl rfl ?_
        refine ev_iconst (v := (1 : Int32)) dX10_reads_77 (by decide) ?_
        refine ev_iadd dX10_reads_78 ?_
        obtain ⟨I27, eI27, h⟩ := ev_ltE h
        refine ew_put0 dX10_reads_79 fX10_293 g0 rfl rfl rfl rfl rfl rfl (ew_nh eI27 ?_)
        refine ev_aload_n dX10_reads_82 rfl (fun _ e => by cases e) ?_
        refine ev_iload_n dX10_reads_83 rfl ?_
        obtain ⟨I28, eI28, h⟩ := ev_ltE h
        refine ew_put0 dX10_reads_84 fX10_305 g0 rfl rfl rfl rfl rfl rfl (ew_nh eI28 ?_)
        refine ev_aload_n dX10_reads_87 rfl (fun _ e => by cases e) ?_
        refine ev_iload_n dX10_reads_88 rfl ?_
        obtain ⟨z29, hz29, h⟩ := ev_bnE h
        refine ec_Vi (Y := mX10_isLetter) (ci := 9) (As := [.int z25]) (rest := []) dX10_reads_89 kX10_308 oX10_isLetter ⟨Nat.le_of_ble_eq_true rfl, Nat.le_of_ble_eq_true rfl⟩ (by decide) rfl (shp_n g0 0 rfl) (shp_t g0 0 rfl) rfl (Nat.le_of_ble_eq_true rfl) (tX10_isLetter n q0 g0 z25 I28 z29 hz29) rfl ?_
        refine ev_if_eq (tgt := 155) dX10_reads_92 (by decide) (fun c30 => ?_) (fun c30 => ?_)
        · have h := ev_ifT h c30
          refine ev_aload_n dX10_reads_155 rfl (fun _ e => by cases e) ?_
          refine ev_iload_n dX10_reads_156 rfl ?_
          obtain ⟨z31, hz31, h⟩ := ev_bnE h
          refine ec_Vi (Y := mX10_isDigit) (ci := 9) (As := [.int z25]) (rest := []) dX10_reads_157 kX10_314 oX10_isDigit ⟨Nat.le_of_ble_eq_true rfl, Nat.le_of_ble_eq_true rfl⟩ (by decide) rfl (shp_n g0 0 rfl) (shp_t g0 0 rfl) rfl (Nat.le_of_ble_eq_true rfl) (tX10_isDigit n q0 g0 z25 I28 z31 hz31) rfl ?_
          refine ev_if_eq (tgt := 260) dX10_reads_160 (by decide) (fun c32 => ?_) (fun c32 => ?_)
          · have h := ev_ifT h c32
            refine ev_iload_n dX10_reads_260 rfl ?_
            refine ev_bipush (v := (59 : Int32)) dX10_reads_261 (by decide) ?_
            refine ev_icmp_ne (tgt := 271) dX10_reads_263 (by decide) (fun c33 => ?_) (fun c33 => ?_)
            · have h := ev_ifF h c33
              cases h
              exact er_v dX10_reads_271 rfl
            · have h := ev_ifT h c33
              refine ev_aload_n dX10_reads_266 rfl (fun _ e => by cases e) ?_
              refine ev_iconst (v := (4 : Int32)) dX10_reads_267 (by decide) ?_
              obtain ⟨I34, eI34, h⟩ := ev_ltE h
              refine ew_put0 dX10_reads_268 fX10_302 g0 rfl rfl rfl rfl rfl rfl (ew_nh eI34 ?_)
              cases h
              exact er_v dX10_reads_271 rfl
          · have h := ev_ifF h c32
            refine ev_aload_n dX10_reads_163 rfl (fun _ e => by cases e) ?_
            refine ev_iload_n dX10_reads_164 rfl ?_
            refine ev_bipush (v := (48 : Int32)) dX10_reads_165 (by decide) ?_
            refine ev_isub dX10_reads_167 ?_
            obtain ⟨I35, eI35, h⟩ := ev_ltE h
            refine ew_put0 dX10_reads_168 fX10_305 g0 rfl rfl rfl rfl rfl rfl (ew_nh eI35 ?_)
            exact ev_weak (sb_s (sb_n sb_0)) (tlX10_reads_171 q0 g0 n  I35 _ h)
        · have h := ev_ifF h c30
          exact ev_weak (sb_s (sb_n sb_0)) (tlX10_reads_95 q0 g0 n  I28 _ h)
      · have h := ev_ifT h c26
        refine ev_aload_n dX10_reads_66 rfl (fun _ e => by cases e) ?_
        refine ev_iconst (v := (0 : Int32)) dX10_reads_67 (by decide) ?_
        obtain ⟨I36, eI36, h⟩ := ev_ltE h
        refine ew_put0 dX10_reads_68 fX10_302 g0 rfl rfl rfl rfl rfl rfl (ew_nh eI36 ?_)
        cases h
        exact er_v dX10_reads_71 rfl
    · have h := ev_ifT h c22
      exact ev_weak (sb_s (sb_n sb_0)) (tX10_reads_26 q0 g0 K0 k0 n  I _ h)
theorem tlX10_reads_0 {E : ev_N} {σ : ev_H} (q0 : Nat) (g0 : shp tb9 σ q0) : ∀ (n : Nat) (I : ev_I) (o : ev_I), lX10_reads_0 q0 n  I = some o → EV E mX10_reads 0 [some (.ref q0), none] [] (h_w σ I) (Option.none, h_w σ o)
  | 0, _, _, h => by cases h
  | n + 1, I, o, h => tX10_reads_0 q0 g0 (lX10_reads_0 q0 n) (tlX10_reads_0 q0 g0 n) n  I o h
set_option maxRecDepth 100000 in
set_option maxHeartbeats 4000000 in
theorem tX10_reads {E : ev_N} {σ : ev_H} (n : Nat) (q0 : Nat) (g0 : shp tb9 σ q0) (I : ev_I) (o : ev_I) (h : pX10_reads n q0  I = some o) : ev_T E mX10_reads [.ref q0] (h_w σ I) (Option.none, h_w σ o) := by
  unfold pX10_reads at h
  refine ev_met rfl rfl (Nat.le_of_ble_eq_true rfl) (ev_L0 (L' := [some (.ref q0), none]) rfl ?_)
  exact ev_weak (sb_s (sb_n sb_0)) (tlX10_reads_0 q0 g0 n  I _ h)
-- ChainVotesModel errs(I)I
def pX10_errs (n : Nat) (q0 : Nat) (x1 : Int32) (I : ev_I) : Option (Int32 × ev_I) :=
  ev_lt (ev_u2 I q0 14 x1) fun I1 =>
  ev_lt (ev_u2 I1 q0 15 (I1 q0 10)) fun I2 =>
  some ((-1 : Int32), I2)
set_option maxRecDepth 100000 in
set_option maxHeartbeats 4000000 in
theorem tX10_errs {E : ev_N} {σ : ev_H} (n : Nat) (q0 : Nat) (g0 : shp tb9 σ q0) (x1 : Int32) (I : ev_I) (o : Int32 × ev_I) (h : pX10_errs n q0 x1 I = some o) : ev_T E mX10_errs [.ref q0, .int x1] (h_w σ I) (Option.some (Value.int o.1), h_w σ o.2) := by
  unfold pX10_errs at h
  refine ev_met rfl rfl (Nat.le_of_ble_eq_true rfl) (ev_L0 (L' := [some (.ref q0), some (.int x1)]) rfl ?_)
  refine ev_aload_n dX10_errs_0 rfl (fun _ e => by cases e) ?_
  refine ev_iload_n dX10_errs_1 rfl ?_
  obtain ⟨I1, eI1, h⟩ := ev_ltE h
  refine ew_put0 dX10_errs_2 fX10_317 g0 rfl rfl rfl rfl rfl rfl (ew_nh eI1 ?_)
  refine ev_aload_n dX10_errs_5 rfl (fun _ e => by cases e) ?_
  refine ev_aload_n dX10_errs_6 rfl (fun _ e => by cases e) ?_
  refine ew_get0 dX10_errs_7 fX10_299 g0 rfl rfl rfl ?_
  obtain ⟨I2, eI2, h⟩ := ev_ltE h
  refine ew_put0 dX10_errs_10 fX10_320 g0 rfl rfl rfl rfl rfl rfl (ew_nh eI2 ?_)
  refine ev_iconst (v := (-1 : Int32)) dX10_errs_13 (by decide) ?_
  cases h
  exact er_i dX10_errs_14 rfl rfl
-- ChainVotesModel readNumber(II)I
def pX10_readNumber (n : Nat) (q0 : Nat) (x1 : Int32) (x2 : Int32) (I : ev_I) : Option (Int32 × ev_I) :=
  if (I q0 11) = (3 : Int32) then
    (pX10_isIn n q0 (I q0 12) x1 x2 I).bind fun z2 =>
    if z2 = 0 then
      (pX10_errs n q0 (2 : Int32) I).bind fun z6 =>
      some (z6.1, z6.2)
    else
      ev_lt (I q0 12) fun v4 =>
      (pX10_reads n q0  I).bind fun z5 =>
      some (v4, z5)
  else
    (pX10_errs n q0 (1 : Int32) I).bind fun z7 =>
    some (z7.1, z7.2)
set_option maxRecDepth 100000 in
set_option maxHeartbeats 4000000 in
theorem tX10_readNumber {E : ev_N} {σ : ev_H} (n : Nat) (q0 : Nat) (g0 : shp tb9 σ q0) (x1 : Int32) (x2 : Int32) (I : ev_I) (o : Int32 × ev_I) (h : pX10_readNumber n q0 x1 x2 I = some o) : ev_T E mX10_readNumber [.ref q0, .int x1, .int x2] (h_w σ I) (Option.some (Value.int o.1), h_w σ o.2) := by
  unfold pX10_readNumber at h
  refine ev_met rfl rfl (Nat.le_of_ble_eq_true rfl) (ev_L0 (L' := [some (.ref q0), some (.int x1), some (.int x2), none]) rfl ?_)
  refine ev_aload_n dX10_readNumber_0 rfl (fun _ e => by cases e) ?_
  refine ew_get0 dX10_readNumber_1 fX10_302 g0 rfl rfl rfl ?_
  refine ev_iconst (v := (3 : Int32)) dX10_readNumber_4 (by decide) ?_
  refine ev_icmp_eq (tgt := 14) dX10_readNumber_5 (by decide) (fun c1 => ?_) (fun c1 => ?_)
  · have h := ev_ifT h c1
    refine ev_aload_n dX10_readNumber_14 rfl (fun _ e => by cases e) ?_
    refine ev_aload_n dX10_readNumber_15 rfl (fun _ e => by cases e) ?_
    refine ew_get0 dX10_readNumber_16 fX10_305 g0 rfl rfl rfl ?_
    refine ev_iload_n dX10_readNumber_19 rfl ?_
    refine ev_iload_n dX10_readNumber_20 rfl ?_
    obtain ⟨z2, hz2, h⟩ := ev_bnE h
    refine ec_Vi (Y := mX10_isIn) (ci := 9) (As := [.int (I q0 12), .int x1, .int x2]) (rest := []) dX10_readNumber_21 kX10_61 oX10_isIn ⟨Nat.le_of_ble_eq_true rfl, Nat.le_of_ble_eq_true rfl⟩ (by decide) rfl (shp_n g0 0 rfl) (shp_t g0 0 rfl) rfl (Nat.le_of_ble_eq_true rfl) (tX10_isIn n q0 g0 (I q0 12) x1 x2 I z2 hz2) rfl ?_
    refine ev_if_ne (tgt := 33) dX10_readNumber_24 (by decide) (fun c3 => ?_) (fun c3 => ?_)
    · have h := ev_ifF h c3
      refine ev_aload_n dX10_readNumber_33 rfl (fun _ e => by cases e) ?_
      refine ew_get0 dX10_readNumber_34 fX10_305 g0 rfl rfl rfl ?_
      obtain ⟨v4, ev4, h⟩ := ev_ltE h
      refine ew_nm ev4 ?_
      refine ew_istn (L' := [some (.ref q0), some (.int x1), some (.int x2), some (.int v4)]) dX10_readNumber_37 (Nat.le_of_ble_eq_true rfl) rfl ?_
      refine ev_aload_n dX10_readNumber_38 rfl (fun _ e => by cases e) ?_
      obtain ⟨z5, hz5, h⟩ := ev_bnE h
      refine ec_Vv (Y := mX10_reads) (ci := 9) (As := []) (rest := []) dX10_readNumber_39 kX10_326 oX10_reads ⟨Nat.le_of_ble_eq_true rfl, Nat.le_of_ble_eq_true rfl⟩ (by decide) rfl (shp_n g0 0 rfl) (shp_t g0 0 rfl) rfl (Nat.le_of_ble_eq_true rfl) (tX10_reads n q0 g0  I z5 hz5) rfl ?_
      refine ev_iload_n dX10_readNumber_42 rfl ?_
      cases h
      exact er_i dX10_readNumber_43 rfl rfl
    · have h := ev_ifT h c3
      refine ev_aload_n dX10_readNumber_27 rfl (fun _ e => by cases e) ?_
      refine ev_iconst (v := (2 : Int32)) dX10_readNumber_28 (by decide) ?_
      obtain ⟨z6, hz6, h⟩ := ev_bnE h
      refine ec_Vi (Y := mX10_errs) (ci := 9) (As := [.int (2 : Int32)]) (rest := []) dX10_readNumber_29 kX10_323 oX10_errs ⟨Nat.le_of_ble_eq_true rfl, Nat.le_of_ble_eq_true rfl⟩ (by decide) rfl (shp_n g0 0 rfl) (shp_t g0 0 rfl) rfl (Nat.le_of_ble_eq_true rfl) (tX10_errs n q0 g0 (2 : Int32) I z6 hz6) rfl ?_
      cases h
      exact er_i dX10_readNumber_32 rfl rfl
  · have h := ev_ifF h c1
    refine ev_aload_n dX10_readNumber_8 rfl (fun _ e => by cases e) ?_
    refine ev_iconst (v := (1 : Int32)) dX10_readNumber_9 (by decide) ?_
    obtain ⟨z7, hz7, h⟩ := ev_bnE h
    refine ec_Vi (Y := mX10_errs) (ci := 9) (As := [.int (1 : Int32)]) (rest := []) dX10_readNumber_10 kX10_323 oX10_errs ⟨Nat.le_of_ble_eq_true rfl, Nat.le_of_ble_eq_true rfl⟩ (by decide) rfl (shp_n g0 0 rfl) (shp_t g0 0 rfl) rfl (Nat.le_of_ble_eq_true rfl) (tX10_errs n q0 g0 (1 : Int32) I z7 hz7) rfl ?_
    cases h
    exact er_i dX10_readNumber_13 rfl rfl
-- ChainVotesModel readLie(I)I
def cX10_readLie_180 (q0 : Nat) (n : Nat) (y1 : Int32) (s1 : Int32) (s2 : Int32) (I : ev_I) : Option (Int32 × ev_I) :=
  ev_ck (ev_in s1 240) <|
  ev_lt (ev_u2 I (q0 + 9) s1.toNatClampNeg s2) fun I2 =>
  ev_ck (ev_in (y1 + (4 : Int32)) 240) <|
  some ((I2 (q0 + 9) (y1 + (4 : Int32)).toNatClampNeg), I2)
def cX10_readLie_140 (q0 : Nat) (n : Nat) (y1 : Int32) (y3 : Int32) (s1 : Int32) (s2 : Int32) (I : ev_I) : Option (Int32 × ev_I) :=
  ev_ck (ev_in s1 240) <|
  ev_lt (ev_u2 I (q0 + 9) s1.toNatClampNeg s2) fun I5 =>
  ev_ck (ev_in (y1 + (3 : Int32)) 240) <|
  if (I5 (q0 + 9) (y1 + (3 : Int32)).toNatClampNeg) = (-1 : Int32) then
    some ((-1 : Int32), I5)
  else
    if y3 = (7 : Int32) then
      cX10_readLie_180 q0 n y1 (y1 + (4 : Int32)) (0 : Int32) I5
    else
      (pX10_readNumber n q0 (1 : Int32) (200 : Int32) I5).bind fun z9 =>
      cX10_readLie_180 q0 n y1 (y1 + (4 : Int32)) z9.1 z9.2
def cX10_readLie_112 (q0 : Nat) (n : Nat) (y1 : Int32) (y3 : Int32) (s1 : Int32) (s2 : Int32) (I : ev_I) : Option (Int32 × ev_I) :=
  ev_ck (ev_in s1 240) <|
  ev_lt (ev_u2 I (q0 + 9) s1.toNatClampNeg s2) fun I11 =>
  (pX10_reads n q0  I11).bind fun z12 =>
  if y3 = (5 : Int32) then
    cX10_readLie_140 q0 n y1 y3 (y1 + (3 : Int32)) (0 : Int32) z12
  else
    (pX10_readNumber n q0 (0 : Int32) (99 : Int32) z12).bind fun z14 =>
    cX10_readLie_140 q0 n y1 y3 (y1 + (3 : Int32)) z14.1 z14.2
def cX10_readLie_68 (q0 : Nat) (n : Nat) (y1 : Int32) (s0 : Int32) (I : ev_I) : Option (Int32 × ev_I) :=
  if s0 = 0 then
    (pX10_errs n q0 (1 : Int32) I).bind fun z19 =>
    some (z19.1, z19.2)
  else
    ev_lt (I q0 12) fun v16 =>
    if v16 = (7 : Int32) then
      cX10_readLie_112 q0 n y1 v16 (y1 + (1 : Int32)) (0 : Int32) I
    else
      if v16 = (8 : Int32) then
        cX10_readLie_112 q0 n y1 v16 (y1 + (1 : Int32)) (1 : Int32) I
      else
        cX10_readLie_112 q0 n y1 v16 (y1 + (1 : Int32)) (2 : Int32) I
def cX10_readLie_63 (q0 : Nat) (n : Nat) (y1 : Int32) (I : ev_I) : Option (Int32 × ev_I) :=
  cX10_readLie_68 q0 n y1 (1 : Int32) I
def cX10_readLie_67 (q0 : Nat) (n : Nat) (y1 : Int32) (I : ev_I) : Option (Int32 × ev_I) :=
  cX10_readLie_68 q0 n y1 (0 : Int32) I
def pX10_readLie (n : Nat) (q0 : Nat) (x1 : Int32) (I : ev_I) : Option (Int32 × ev_I) :=
  (pX10_readNumber n q0 (0 : Int32) (6 : Int32) I).bind fun z20 =>
  ev_ck (ev_in (x1 + (2 : Int32)) 240) <|
  ev_lt (ev_u2 z20.2 (q0 + 9) (x1 + (2 : Int32)).toNatClampNeg z20.1) fun I22 =>
  ev_ck (ev_in (x1 + (2 : Int32)) 240) <|
  if (I22 (q0 + 9) (x1 + (2 : Int32)).toNatClampNeg) = (-1 : Int32) then
    some ((-1 : Int32), I22)
  else
    if (I22 q0 11) = (2 : Int32) then
      if (I22 q0 12) = (7 : Int32) then
        cX10_readLie_63 q0 n x1 I22
      else
        if (I22 q0 12) = (8 : Int32) then
          cX10_readLie_63 q0 n x1 I22
        else
          if (I22 q0 12) = (5 : Int32) then
            cX10_readLie_63 q0 n x1 I22
          else
            cX10_readLie_67 q0 n x1 I22
    else
      cX10_readLie_67 q0 n x1 I22
set_option maxRecDepth 100000 in
set_option maxHeartbeats 4000000 in
theorem tX10_readLie_180 {E : ev_N} {σ : ev_H} (q0 : Nat) (g0 : shp tb9 σ q0) (n : Nat) (y1 : Int32) (s1 : Int32) (s2 : Int32) (I : ev_I) (o : Int32 × ev_I) : cX10_readLie_180 q0 n y1 s1 s2 I = some o → EV E mX10_readLie 180 [some (.ref q0), some (.int y1), none, none] [(.int s2), (.int s1), (.ref (q0 + 9))] (h_w σ I) (Option.some (Value.int o.1), h_w σ o.2) := by
  intro h
  unfold cX10_readLie_180 at h
  obtain ⟨c1, h⟩ := ev_ckE h
  obtain ⟨I2, eI2, h⟩ := ev_ltE h
  refine ew_iast dX10_readLie_180 (shp_a g0 9 rfl) c1 (ew_nh eI2 ?_)
  refine ev_aload_n dX10_readLie_181 rfl (fun _ e => by cases e) ?_
  refine ew_getr0 dX10_readLie_182 fX10_38 g0 rfl rfl rfl rfl ?_
  refine ev_iload_n dX10_readLie_185 rfl ?_
  refine ev_iconst (v := (4 : Int32)) dX10_readLie_186 (by decide) ?_
  refine ev_iadd dX10_readLie_187 ?_
  obtain ⟨c3, h⟩ := ev_ckE h
  refine ew_iald dX10_readLie_188 (shp_a g0 9 rfl) c3 ?_
  cases h
  exact er_i dX10_readLie_189 rfl rfl
set_option maxRecDepth 100000 in
set_option maxHeartbeats 4000000 in
theorem tX10_readLie_140 {E : ev_N} {σ : ev_H} (q0 : Nat) (g0 : shp tb9 σ q0) (n : Nat) (y1 : Int32) (y3 : Int32) (s1 : Int32) (s2 : Int32) (I : ev_I) (o : Int32 × ev_I) : cX10_readLie_140 q0 n y1 y3 s1 s2 I = some o → EV E mX10_readLie 140 [some (.ref q0), some (.int y1), none, some (.int y3)] [(.int s2), (.int s1), (.ref (q0 + 9))] (h_w σ I) (Option.some (Value.int o.1), h_w σ o.2) := by
  intro h
  unfold cX10_readLie_140 at h
  obtain ⟨c4, h⟩ := ev_ckE h
  obtain ⟨I5, eI5, h⟩ := ev_ltE h
  refine ew_iast dX10_readLie_140 (shp_a g0 9 rfl) c4 (ew_nh eI5 ?_)
  refine ev_aload_n dX10_readLie_141 rfl (fun _ e => by cases e) ?_
  refine ew_getr0 dX10_readLie_142 fX10_38 g0 rfl rfl rfl rfl ?_
  refine ev_iload_n dX10_readLie_145 rfl ?_
  refine ev_iconst (v := (3 : Int32)) dX10_readLie_146 (by decide) ?_
  refine ev_iadd dX10_readLie_147 ?_
  obtain ⟨c6, h⟩ := ev_ckE h
  refine ew_iald dX10_readLie_148 (shp_a g0 9 rfl) c6 ?_
  refine ev_iconst (v := (-1 : Int32)) dX10_readLie_149 (by decide) ?_
  refine ev_icmp_ne (tgt := 155) dX10_readLie_150 (by decide) (fun c7 => ?_) (fun c7 => ?_)
  · have h := ev_ifF h c7
    refine ev_aload_n dX10_readLie_155 rfl (fun _ e => by cases e) ?_
    refine ew_getr0 dX10_readLie_156 fX10_38 g0 rfl rfl rfl rfl ?_
    refine ev_iload_n dX10_readLie_159 rfl ?_
    refine ev_iconst (v := (4 : Int32)) dX10_readLie_160 (by decide) ?_
    refine ev_iadd dX10_readLie_161 ?_
    refine ev_iload_n dX10_readLie_162 rfl ?_
    refine ev_bipush (v := (7 : Int32)) dX10_readLie_163 (by decide) ?_
    refine ev_icmp_ne (tgt := 172) dX10_readLie_165 (by decide) (fun c8 => ?_) (fun c8 => ?_)
    · have h := ev_ifF h c8
      refine ev_aload_n dX10_readLie_172 rfl (fun _ e => by cases e) ?_
      refine ev_iconst (v := (1 : Int32)) dX10_readLie_173 (by decide) ?_
      refine ev_sipush (v := (200 : Int32)) dX10_readLie_174 (by decide) ?_
      obtain ⟨z9, hz9, h⟩ := ev_bnE h
      refine ec_Vi (Y := mX10_readNumber) (ci := 9) (As := [.int (1 : Int32), .int (200 : Int32)]) (rest := [(.int (y1 + (4 : Int32))), (.ref (q0 + 9))]) dX10_readLie_177 kX10_329 oX10_readNumber ⟨Nat.le_of_ble_eq_true rfl, Nat.le_of_ble_eq_true rfl⟩ (by decide) rfl (shp_n g0 0 rfl) (shp_t g0 0 rfl) rfl (Nat.le_of_ble_eq_true rfl) (tX10_readNumber n q0 g0 (1 : Int32) (200 : Int32) I5 z9 hz9) rfl ?_
      exact ev_weak (sb_s (sb_s (sb_n (sb_n sb_0)))) (tX10_readLie_180 q0 g0 n y1 (y1 + (4 : Int32)) z9.1 z9.2 _ h)
    · have h := ev_ifT h c8
      refine ev_iconst (v := (0 : Int32)) dX10_readLie_168 (by decide) ?_
      refine ev_goto (tgt := 180) dX10_readLie_169 (by decide) ?_
      exact ev_weak (sb_s (sb_s (sb_n (sb_n sb_0)))) (tX10_readLie_180 q0 g0 n y1 (y1 + (4 : Int32)) (0 : Int32) I5 _ h)
  · have h := ev_ifT h c7
    refine ev_iconst (v := (-1 : Int32)) dX10_readLie_153 (by decide) ?_
    cases h
    exact er_i dX10_readLie_154 rfl rfl
set_option maxRecDepth 100000 in
set_option maxHeartbeats 4000000 in
theorem tX10_readLie_112 {E : ev_N} {σ : ev_H} (q0 : Nat) (g0 : shp tb9 σ q0) (n : Nat) (y1 : Int32) (y3 : Int32) (s1 : Int32) (s2 : Int32) (I : ev_I) (o : Int32 × ev_I) : cX10_readLie_112 q0 n y1 y3 s1 s2 I = some o → EV E mX10_readLie 112 [some (.ref q0), some (.int y1), none, some (.int y3)] [(.int s2), (.int s1), (.ref (q0 + 9))] (h_w σ I) (Option.some (Value.int o.1), h_w σ o.2) := by
  intro h
  unfold cX10_readLie_112 at h
  obtain ⟨c10, h⟩ := ev_ckE h
  obtain ⟨I11, eI11, h⟩ := ev_ltE h
  refine ew_iast dX10_readLie_112 (shp_a g0 9 rfl) c10 (ew_nh eI11 ?_)
  refine ev_aload_n dX10_readLie_113 rfl (fun _ e => by cases e) ?_
  obtain ⟨z12, hz12, h⟩ := ev_bnE h
  refine ec_Vv (Y := mX10_reads) (ci := 9) (As := []) (rest := []) dX10_readLie_114 kX10_326 oX10_reads ⟨Nat.le_of_ble_eq_true rfl, Nat.le_of_ble_eq_true rfl⟩ (by decide) rfl (shp_n g0 0 rfl) (shp_t g0 0 rfl) rfl (Nat.le_of_ble_eq_true rfl) (tX10_reads n q0 g0  I11 z12 hz12) rfl ?_
  refine ev_aload_n dX10_readLie_117 rfl (fun _ e => by cases e) ?_
  refine ew_getr0 dX10_readLie_118 fX10_38 g0 rfl rfl rfl rfl ?_
  refine ev_iload_n dX10_readLie_121 rfl ?_
  refine ev_iconst (v := (3 : Int32)) dX10_readLie_122 (by decide) ?_
  refine ev_iadd dX10_readLie_123 ?_
  refine ev_iload_n dX10_readLie_124 rfl ?_
  refine ev_iconst (v := (5 : Int32)) dX10_readLie_125 (by decide) ?_
  refine ev_icmp_ne (tgt := 133) dX10_readLie_126 (by decide) (fun c13 => ?_) (fun c13 => ?_)
  · have h := ev_ifF h c13
    refine ev_aload_n dX10_readLie_133 rfl (fun _ e => by cases e) ?_
    refine ev_iconst (v := (0 : Int32)) dX10_readLie_134 (by decide) ?_
    refine ev_bipush (v := (99 : Int32)) dX10_readLie_135 (by decide) ?_
    obtain ⟨z14, hz14, h⟩ := ev_bnE h
    refine ec_Vi (Y := mX10_readNumber) (ci := 9) (As := [.int (0 : Int32), .int (99 : Int32)]) (rest := [(.int (y1 + (3 : Int32))), (.ref (q0 + 9))]) dX10_readLie_137 kX10_329 oX10_readNumber ⟨Nat.le_of_ble_eq_true rfl, Nat.le_of_ble_eq_true rfl⟩ (by decide) rfl (shp_n g0 0 rfl) (shp_t g0 0 rfl) rfl (Nat.le_of_ble_eq_true rfl) (tX10_readNumber n q0 g0 (0 : Int32) (99 : Int32) z12 z14 hz14) rfl ?_
    exact ev_weak (sb_s (sb_s (sb_n (sb_s sb_0)))) (tX10_readLie_140 q0 g0 n y1 y3 (y1 + (3 : Int32)) z14.1 z14.2 _ h)
  · have h := ev_ifT h c13
    refine ev_iconst (v := (0 : Int32)) dX10_readLie_129 (by decide) ?_
    refine ev_goto (tgt := 140) dX10_readLie_130 (by decide) ?_
    exact ev_weak (sb_s (sb_s (sb_n (sb_s sb_0)))) (tX10_readLie_140 q0 g0 n y1 y3 (y1 + (3 : Int32)) (0 : Int32) z12 _ h)
set_option maxRecDepth 100000 in
set_option maxHeartbeats 4000000 in
theorem tX10_readLie_68 {E : ev_N} {σ : ev_H} (q0 : Nat) (g0 : shp tb9 σ q0) (n : Nat) (y1 : Int32) (s0 : Int32) (I : ev_I) (o : Int32 × ev_I) : cX10_readLie_68 q0 n y1 s0 I = some o → EV E mX10_readLie 68 [some (.ref q0), some (.int y1), none, none] [(.int s0)] (h_w σ I) (Option.some (Value.int o.1), h_w σ o.2) := by
  intro h
  unfold cX10_readLie_68 at h
  refine ew_istn (L' := [some (.ref q0), some (.int y1), some (.int s0), none]) dX10_readLie_68 (Nat.le_of_ble_eq_true rfl) rfl ?_
  refine ev_iload_n dX10_readLie_69 rfl ?_
  refine ev_if_ne (tgt := 79) dX10_readLie_70 (by decide) (fun c15 => ?_) (fun c15 => ?_)
  · have h := ev_ifF h c15
    refine ev_aload_n dX10_readLie_79 rfl (fun _ e => by cases e) ?_
    refine ew_get0 dX10_readLie_80 fX10_305 g0 rfl rfl rfl ?_
    obtain ⟨v16, ev16, h⟩ := ev_ltE h
    refine ew_nm ev16 ?_
    refine ew_istn (L' := [some (.ref q0), some (.int y1), some (.int s0), some (.int v16)]) dX10_readLie_83 (Nat.le_of_ble_eq_true rfl) rfl ?_
    refine ev_aload_n dX10_readLie_84 rfl (fun _ e => by cases e) ?_
    refine ew_getr0 dX10_readLie_85 fX10_38 g0 rfl rfl rfl rfl ?_
    refine ev_iload_n dX10_readLie_88 rfl ?_
    refine ev_iconst (v := (1 : Int32)) dX10_readLie_89 (by decide) ?_
    refine ev_iadd dX10_readLie_90 ?_
    refine ev_iload_n dX10_readLie_91 rfl ?_
    refine ev_bipush (v := (7 : Int32)) dX10_readLie_92 (by decide) ?_
    refine ev_icmp_ne (tgt := 101) dX10_readLie_94 (by decide) (fun c17 => ?_) (fun c17 => ?_)
    · have h := ev_ifF h c17
      refine ev_iload_n dX10_readLie_101 rfl ?_
      refine ev_bipush (v := (8 : Int32)) dX10_readLie_102 (by decide) ?_
      refine ev_icmp_ne (tgt := 111) dX10_readLie_104 (by decide) (fun c18 => ?_) (fun c18 => ?_)
      · have h := ev_ifF h c18
        refine ev_iconst (v := (2 : Int32)) dX10_readLie_111 (by decide) ?_
        exact ev_weak (sb_s (sb_s (sb_n (sb_s sb_0)))) (tX10_readLie_112 q0 g0 n y1 v16 (y1 + (1 : Int32)) (2 : Int32) I _ h)
      · have h := ev_ifT h c18
        refine ev_iconst (v := (1 : Int32)) dX10_readLie_107 (by decide) ?_
        refine ev_goto (tgt := 112) dX10_readLie_108 (by decide) ?_
        exact ev_weak (sb_s (sb_s (sb_n (sb_s sb_0)))) (tX10_readLie_112 q0 g0 n y1 v16 (y1 + (1 : Int32)) (1 : Int32) I _ h)
    · have h := ev_ifT h c17
      refine ev_iconst (v := (0 : Int32)) dX10_readLie_97 (by decide) ?_
      refine ev_goto (tgt := 112) dX10_readLie_98 (by decide) ?_
      exact ev_weak (sb_s (sb_s (sb_n (sb_s sb_0)))) (tX10_readLie_112 q0 g0 n y1 v16 (y1 + (1 : Int32)) (0 : Int32) I _ h)
  · have h := ev_ifT h c15
    refine ev_aload_n dX10_readLie_73 rfl (fun _ e => by cases e) ?_
    refine ev_iconst (v := (1 : Int32)) dX10_readLie_74 (by decide) ?_
    obtain ⟨z19, hz19, h⟩ := ev_bnE h
    refine ec_Vi (Y := mX10_errs) (ci := 9) (As := [.int (1 : Int32)]) (rest := []) dX10_readLie_75 kX10_323 oX10_errs ⟨Nat.le_of_ble_eq_true rfl, Nat.le_of_ble_eq_true rfl⟩ (by decide) rfl (shp_n g0 0 rfl) (shp_t g0 0 rfl) rfl (Nat.le_of_ble_eq_true rfl) (tX10_errs n q0 g0 (1 : Int32) I z19 hz19) rfl ?_
    cases h
    exact er_i dX10_readLie_78 rfl rfl
set_option maxRecDepth 100000 in
set_option maxHeartbeats 4000000 in
theorem tX10_readLie_63 {E : ev_N} {σ : ev_H} (q0 : Nat) (g0 : shp tb9 σ q0) (n : Nat) (y1 : Int32) (I : ev_I) (o : Int32 × ev_I) : cX10_readLie_63 q0 n y1 I = some o → EV E mX10_readLie 63 [some (.ref q0), some (.int y1), none, none] [] (h_w σ I) (Option.some (Value.int o.1), h_w σ o.2) := by
  intro h
  unfold cX10_readLie_63 at h
  refine ev_iconst (v := (1 : Int32)) dX10_readLie_63 (by decide) ?_
  refine ev_goto (tgt := 68) dX10_readLie_64 (by decide) ?_
  exact ev_weak (sb_s (sb_s (sb_n (sb_n sb_0)))) (tX10_readLie_68 q0 g0 n y1 (1 : Int32) I _ h)
set_option maxRecDepth 100000 in
set_option maxHeartbeats 4000000 in
theorem tX10_readLie_67 {E : ev_N} {σ : ev_H} (q0 : Nat) (g0 : shp tb9 σ q0) (n : Nat) (y1 : Int32) (I : ev_I) (o : Int32 × ev_I) : cX10_readLie_67 q0 n y1 I = some o → EV E mX10_readLie 67 [some (.ref q0), some (.int y1), none, none] [] (h_w σ I) (Option.some (Value.int o.1), h_w σ o.2) := by
  intro h
  unfold cX10_readLie_67 at h
  refine ev_iconst (v := (0 : Int32)) dX10_readLie_67 (by decide) ?_
  exact ev_weak (sb_s (sb_s (sb_n (sb_n sb_0)))) (tX10_readLie_68 q0 g0 n y1 (0 : Int32) I _ h)
set_option maxRecDepth 100000 in
set_option maxHeartbeats 4000000 in
theorem tX10_readLie {E : ev_N} {σ : ev_H} (n : Nat) (q0 : Nat) (g0 : shp tb9 σ q0) (x1 : Int32) (I : ev_I) (o : Int32 × ev_I) (h : pX10_readLie n q0 x1 I = some o) : ev_T E mX10_readLie [.ref q0, .int x1] (h_w σ I) (Option.some (Value.int o.1), h_w σ o.2) := by
  unfold pX10_readLie at h
  refine ev_met rfl rfl (Nat.le_of_ble_eq_true rfl) (ev_L0 (L' := [some (.ref q0), some (.int x1), none, none]) rfl ?_)
  refine ev_aload_n dX10_readLie_0 rfl (fun _ e => by cases e) ?_
  refine ew_getr0 dX10_readLie_1 fX10_38 g0 rfl rfl rfl rfl ?_
  refine ev_iload_n dX10_readLie_4 rfl ?_
  refine ev_iconst (v := (2 : Int32)) dX10_readLie_5 (by decide) ?_
  refine ev_iadd dX10_readLie_6 ?_
  refine ev_aload_n dX10_readLie_7 rfl (fun _ e => by cases e) ?_
  refine ev_iconst (v := (0 : Int32)) dX10_readLie_8 (by decide) ?_
  refine ev_bipush (v := (6 : Int32)) dX10_readLie_9 (by decide) ?_
  obtain ⟨z20, hz20, h⟩ := ev_bnE h
  refine ec_Vi (Y := mX10_readNumber) (ci := 9) (As := [.int (0 : Int32), .int (6 : Int32)]) (rest := [(.int (x1 + (2 : Int32))), (.ref (q0 + 9))]) dX10_readLie_11 kX10_329 oX10_readNumber ⟨Nat.le_of_ble_eq_true rfl, Nat.le_of_ble_eq_true rfl⟩ (by decide) rfl (shp_n g0 0 rfl) (shp_t g0 0 rfl) rfl (Nat.le_of_ble_eq_true rfl) (tX10_readNumber n q0 g0 (0 : Int32) (6 : Int32) I z20 hz20) rfl ?_
  obtain ⟨c21, h⟩ := ev_ckE h
  obtain ⟨I22, eI22, h⟩ := ev_ltE h
  refine ew_iast dX10_readLie_14 (shp_a g0 9 rfl) c21 (ew_nh eI22 ?_)
  refine ev_aload_n dX10_readLie_15 rfl (fun _ e => by cases e) ?_
  refine ew_getr0 dX10_readLie_16 fX10_38 g0 rfl rfl rfl rfl ?_
  refine ev_iload_n dX10_readLie_19 rfl ?_
  refine ev_iconst (v := (2 : Int32)) dX10_readLie_20 (by decide) ?_
  refine ev_iadd dX10_readLie_21 ?_
  obtain ⟨c23, h⟩ := ev_ckE h
  refine ew_iald dX10_readLie_22 (shp_a g0 9 rfl) c23 ?_
  refine ev_iconst (v := (-1 : Int32)) dX10_readLie_23 (by decide) ?_
  refine ev_icmp_ne (tgt := 29) dX10_readLie_24 (by decide) (fun c24 => ?_) (fun c24 => ?_)
  · have h := ev_ifF h c24
    refine ev_aload_n dX10_readLie_29 rfl (fun _ e => by cases e) ?_
    refine ew_get0 dX10_readLie_30 fX10_302 g0 rfl rfl rfl ?_
    refine ev_iconst (v := (2 : Int32)) dX10_readLie_33 (by decide) ?_
    refine ev_icmp_ne (tgt := 67) dX10_readLie_34 (by decide) (fun c25 => ?_) (fun c25 => ?_)
    · have h := ev_ifF h c25
      exact ev_weak (sb_s (sb_s (sb_n (sb_n sb_0)))) (tX10_readLie_67 q0 g0 n x1 I22 _ h)
    · have h := ev_ifT h c25
      refine ev_aload_n dX10_readLie_37 rfl (fun _ e => by cases e) ?_
      refine ew_get0 dX10_readLie_38 fX10_305 g0 rfl rfl rfl ?_
      refine ev_bipush (v := (7 : Int32)) dX10_readLie_41 (by decide) ?_
      refine ev_icmp_eq (tgt := 63) dX10_readLie_43 (by decide) (fun c26 => ?_) (fun c26 => ?_)
      · have h := ev_ifT h c26
        exact ev_weak (sb_s (sb_s (sb_n (sb_n sb_0)))) (tX10_readLie_63 q0 g0 n x1 I22 _ h)
      · have h := ev_ifF h c26
        refine ev_aload_n dX10_readLie_46 rfl (fun _ e => by cases e) ?_
        refine ew_get0 dX10_readLie_47 fX10_305 g0 rfl rfl rfl ?_
        refine ev_bipush (v := (8 : Int32)) dX10_readLie_50 (by decide) ?_
        refine ev_icmp_eq (tgt := 63) dX10_readLie_52 (by decide) (fun c27 => ?_) (fun c27 => ?_)
        · have h := ev_ifT h c27
          exact ev_weak (sb_s (sb_s (sb_n (sb_n sb_0)))) (tX10_readLie_63 q0 g0 n x1 I22 _ h)
        · have h := ev_ifF h c27
          refine ev_aload_n dX10_readLie_55 rfl (fun _ e => by cases e) ?_
          refine ew_get0 dX10_readLie_56 fX10_305 g0 rfl rfl rfl ?_
          refine ev_iconst (v := (5 : Int32)) dX10_readLie_59 (by decide) ?_
          refine ev_icmp_ne (tgt := 67) dX10_readLie_60 (by decide) (fun c28 => ?_) (fun c28 => ?_)
          · have h := ev_ifF h c28
            exact ev_weak (sb_s (sb_s (sb_n (sb_n sb_0)))) (tX10_readLie_67 q0 g0 n x1 I22 _ h)
          · have h := ev_ifT h c28
            exact ev_weak (sb_s (sb_s (sb_n (sb_n sb_0)))) (tX10_readLie_63 q0 g0 n x1 I22 _ h)
  · have h := ev_ifT h c24
    refine ev_iconst (v := (-1 : Int32)) dX10_readLie_27 (by decide) ?_
    cases h
    exact er_i dX10_readLie_28 rfl rfl
-- ChainVotesModel readNumbers(II)I
def cX10_readNumbers_121 (q0 : Nat) (n : Nat) (y1 : Int32) (s1 : Int32) (s2 : Int32) (I : ev_I) : Option (Int32 × ev_I) :=
  ev_ck (ev_in s1 240) <|
  ev_lt (ev_u2 I (q0 + 9) s1.toNatClampNeg s2) fun I2 =>
  ev_ck (ev_in (y1 + (3 : Int32)) 240) <|
  some ((I2 (q0 + 9) (y1 + (3 : Int32)).toNatClampNeg), I2)
def cX10_readNumbers_67 (q0 : Nat) (n : Nat) (y1 : Int32) (y2 : Int32) (y3 : Int32) (s0 : Int32) (I : ev_I) : Option (Int32 × ev_I) :=
  (pX10_readNumber n q0 y3 s0 I).bind fun z4 =>
  ev_ck (ev_in (y1 + (2 : Int32)) 240) <|
  ev_lt (ev_u2 z4.2 (q0 + 9) (y1 + (2 : Int32)).toNatClampNeg z4.1) fun I6 =>
  ev_ck (ev_in (y1 + (2 : Int32)) 240) <|
  if (I6 (q0 + 9) (y1 + (2 : Int32)).toNatClampNeg) = (-1 : Int32) then
    some ((-1 : Int32), I6)
  else
    if y2 = 0 then
      (pX10_readNumber n q0 (0 : Int32) (999 : Int32) I6).bind fun z10 =>
      cX10_readNumbers_121 q0 n y1 (y1 + (3 : Int32)) z10.1 z10.2
    else
      cX10_readNumbers_121 q0 n y1 (y1 + (3 : Int32)) (0 : Int32) I6
def cX10_readNumbers_60 (q0 : Nat) (n : Nat) (y1 : Int32) (y2 : Int32) (y3 : Int32) (I : ev_I) : Option (Int32 × ev_I) :=
  cX10_readNumbers_67 q0 n y1 y2 y3 (50 : Int32) I
def cX10_readNumbers_33 (q0 : Nat) (n : Nat) (y1 : Int32) (y2 : Int32) (s0 : Int32) (I : ev_I) : Option (Int32 × ev_I) :=
  if y2 = (9 : Int32) then
    cX10_readNumbers_67 q0 n y1 y2 s0 (20 : Int32) I
  else
    if y2 = (1 : Int32) then
      cX10_readNumbers_60 q0 n y1 y2 s0 I
    else
      if y2 = (2 : Int32) then
        cX10_readNumbers_60 q0 n y1 y2 s0 I
      else
        if y2 = (4 : Int32) then
          cX10_readNumbers_60 q0 n y1 y2 s0 I
        else
          cX10_readNumbers_67 q0 n y1 y2 s0 (6 : Int32) I
def cX10_readNumbers_28 (q0 : Nat) (n : Nat) (y1 : Int32) (y2 : Int32) (I : ev_I) : Option (Int32 × ev_I) :=
  cX10_readNumbers_33 q0 n y1 y2 (1 : Int32) I
def pX10_readNumbers (n : Nat) (q0 : Nat) (x1 : Int32) (x2 : Int32) (I : ev_I) : Option (Int32 × ev_I) :=
  if x2 = (6 : Int32) then
    (pX10_readLie n q0 x1 I).bind fun z19 =>
    some (z19.1, z19.2)
  else
    if x2 = (1 : Int32) then
      cX10_readNumbers_28 q0 n x1 x2 I
    else
      if x2 = (2 : Int32) then
        cX10_readNumbers_28 q0 n x1 x2 I
      else
        if x2 = (9 : Int32) then
          cX10_readNumbers_28 q0 n x1 x2 I
        else
          cX10_readNumbers_33 q0 n x1 x2 (0 : Int32) I
set_option maxRecDepth 100000 in
set_option maxHeartbeats 4000000 in
theorem tX10_readNumbers_121 {E : ev_N} {σ : ev_H} (q0 : Nat) (g0 : shp tb9 σ q0) (n : Nat) (y1 : Int32) (s1 : Int32) (s2 : Int32) (I : ev_I) (o : Int32 × ev_I) : cX10_readNumbers_121 q0 n y1 s1 s2 I = some o → EV E mX10_readNumbers 121 [some (.ref q0), some (.int y1), none, none, none] [(.int s2), (.int s1), (.ref (q0 + 9))] (h_w σ I) (Option.some (Value.int o.1), h_w σ o.2) := by
  intro h
  unfold cX10_readNumbers_121 at h
  obtain ⟨c1, h⟩ := ev_ckE h
  obtain ⟨I2, eI2, h⟩ := ev_ltE h
  refine ew_iast dX10_readNumbers_121 (shp_a g0 9 rfl) c1 (ew_nh eI2 ?_)
  refine ev_aload_n dX10_readNumbers_122 rfl (fun _ e => by cases e) ?_
  refine ew_getr0 dX10_readNumbers_123 fX10_38 g0 rfl rfl rfl rfl ?_
  refine ev_iload_n dX10_readNumbers_126 rfl ?_
  refine ev_iconst (v := (3 : Int32)) dX10_readNumbers_127 (by decide) ?_
  refine ev_iadd dX10_readNumbers_128 ?_
  obtain ⟨c3, h⟩ := ev_ckE h
  refine ew_iald dX10_readNumbers_129 (shp_a g0 9 rfl) c3 ?_
  cases h
  exact er_i dX10_readNumbers_130 rfl rfl
set_option maxRecDepth 100000 in
set_option maxHeartbeats 4000000 in
theorem tX10_readNumbers_67 {E : ev_N} {σ : ev_H} (q0 : Nat) (g0 : shp tb9 σ q0) (n : Nat) (y1 : Int32) (y2 : Int32) (y3 : Int32) (s0 : Int32) (I : ev_I) (o : Int32 × ev_I) : cX10_readNumbers_67 q0 n y1 y2 y3 s0 I = some o → EV E mX10_readNumbers 67 [some (.ref q0), some (.int y1), some (.int y2), some (.int y3), none] [(.int s0)] (h_w σ I) (Option.some (Value.int o.1), h_w σ o.2) := by
  intro h
  unfold cX10_readNumbers_67 at h
  refine ew_ist (L' := [some (.ref q0), some (.int y1), some (.int y2), some (.int y3), some (.int s0)]) dX10_readNumbers_67 (Nat.le_of_ble_eq_true rfl) rfl ?_
  refine ev_aload_n dX10_readNumbers_69 rfl (fun _ e => by cases e) ?_
  refine ew_getr0 dX10_readNumbers_70 fX10_38 g0 rfl rfl rfl rfl ?_
  refine ev_iload_n dX10_readNumbers_73 rfl ?_
  refine ev_iconst (v := (2 : Int32)) dX10_readNumbers_74 (by decide) ?_
  refine ev_iadd dX10_readNumbers_75 ?_
  refine ev_aload_n dX10_readNumbers_76 rfl (fun _ e => by cases e) ?_
  refine ev_iload_n dX10_readNumbers_77 rfl ?_
  refine ev_iload dX10_readNumbers_78 rfl ?_
  obtain ⟨z4, hz4, h⟩ := ev_bnE h
  refine ec_Vi (Y := mX10_readNumber) (ci := 9) (As := [.int y3, .int s0]) (rest := [(.int (y1 + (2 : Int32))), (.ref (q0 + 9))]) dX10_readNumbers_80 kX10_329 oX10_readNumber ⟨Nat.le_of_ble_eq_true rfl, Nat.le_of_ble_eq_true rfl⟩ (by decide) rfl (shp_n g0 0 rfl) (shp_t g0 0 rfl) rfl (Nat.le_of_ble_eq_true rfl) (tX10_readNumber n q0 g0 y3 s0 I z4 hz4) rfl ?_
  obtain ⟨c5, h⟩ := ev_ckE h
  obtain ⟨I6, eI6, h⟩ := ev_ltE h
  refine ew_iast dX10_readNumbers_83 (shp_a g0 9 rfl) c5 (ew_nh eI6 ?_)
  refine ev_aload_n dX10_readNumbers_84 rfl (fun _ e => by cases e) ?_
  refine ew_getr0 dX10_readNumbers_85 fX10_38 g0 rfl rfl rfl rfl ?_
  refine ev_iload_n dX10_readNumbers_88 rfl ?_
  refine ev_iconst (v := (2 : Int32)) dX10_readNumbers_89 (by decide) ?_
  refine ev_iadd dX10_readNumbers_90 ?_
  obtain ⟨c7, h⟩ := ev_ckE h
  refine ew_iald dX10_readNumbers_91 (shp_a g0 9 rfl) c7 ?_
  refine ev_iconst (v := (-1 : Int32)) dX10_readNumbers_92 (by decide) ?_
  refine ev_icmp_ne (tgt := 98) dX10_readNumbers_93 (by decide) (fun c8 => ?_) (fun c8 => ?_)
  · have h := ev_ifF h c8
    refine ev_aload_n dX10_readNumbers_98 rfl (fun _ e => by cases e) ?_
    refine ew_getr0 dX10_readNumbers_99 fX10_38 g0 rfl rfl rfl rfl ?_
    refine ev_iload_n dX10_readNumbers_102 rfl ?_
    refine ev_iconst (v := (3 : Int32)) dX10_readNumbers_103 (by decide) ?_
    refine ev_iadd dX10_readNumbers_104 ?_
    refine ev_iload_n dX10_readNumbers_105 rfl ?_
    refine ev_if_ne (tgt := 120) dX10_readNumbers_106 (by decide) (fun c9 => ?_) (fun c9 => ?_)
    · have h := ev_ifF h c9
      refine ev_iconst (v := (0 : Int32)) dX10_readNumbers_120 (by decide) ?_
      exact ev_weak (sb_s (sb_s (sb_n (sb_n (sb_n sb_0))))) (tX10_readNumbers_121 q0 g0 n y1 (y1 + (3 : Int32)) (0 : Int32) I6 _ h)
    · have h := ev_ifT h c9
      refine ev_aload_n dX10_readNumbers_109 rfl (fun _ e => by cases e) ?_
      refine ev_iconst (v := (0 : Int32)) dX10_readNumbers_110 (by decide) ?_
      refine ev_sipush (v := (999 : Int32)) dX10_readNumbers_111 (by decide) ?_
      obtain ⟨z10, hz10, h⟩ := ev_bnE h
      refine ec_Vi (Y := mX10_readNumber) (ci := 9) (As := [.int (0 : Int32), .int (999 : Int32)]) (rest := [(.int (y1 + (3 : Int32))), (.ref (q0 + 9))]) dX10_readNumbers_114 kX10_329 oX10_readNumber ⟨Nat.le_of_ble_eq_true rfl, Nat.le_of_ble_eq_true rfl⟩ (by decide) rfl (shp_n g0 0 rfl) (shp_t g0 0 rfl) rfl (Nat.le_of_ble_eq_true rfl) (tX10_readNumber n q0 g0 (0 : Int32) (999 : Int32) I6 z10 hz10) rfl ?_
      refine ev_goto (tgt := 121) dX10_readNumbers_117 (by decide) ?_
      exact ev_weak (sb_s (sb_s (sb_n (sb_n (sb_n sb_0))))) (tX10_readNumbers_121 q0 g0 n y1 (y1 + (3 : Int32)) z10.1 z10.2 _ h)
  · have h := ev_ifT h c8
    refine ev_iconst (v := (-1 : Int32)) dX10_readNumbers_96 (by decide) ?_
    cases h
    exact er_i dX10_readNumbers_97 rfl rfl
set_option maxRecDepth 100000 in
set_option maxHeartbeats 4000000 in
theorem tX10_readNumbers_60 {E : ev_N} {σ : ev_H} (q0 : Nat) (g0 : shp tb9 σ q0) (n : Nat) (y1 : Int32) (y2 : Int32) (y3 : Int32) (I : ev_I) (o : Int32 × ev_I) : cX10_readNumbers_60 q0 n y1 y2 y3 I = some o → EV E mX10_readNumbers 60 [some (.ref q0), some (.int y1), some (.int y2), some (.int y3), none] [] (h_w σ I) (Option.some (Value.int o.1), h_w σ o.2) := by
  intro h
  unfold cX10_readNumbers_60 at h
  refine ev_bipush (v := (50 : Int32)) dX10_readNumbers_60 (by decide) ?_
  refine ev_goto (tgt := 67) dX10_readNumbers_62 (by decide) ?_
  exact ev_weak (sb_s (sb_s (sb_s (sb_s (sb_n sb_0))))) (tX10_readNumbers_67 q0 g0 n y1 y2 y3 (50 : Int32) I _ h)
set_option maxRecDepth 100000 in
set_option maxHeartbeats 4000000 in
theorem tX10_readNumbers_33 {E : ev_N} {σ : ev_H} (q0 : Nat) (g0 : shp tb9 σ q0) (n : Nat) (y1 : Int32) (y2 : Int32) (s0 : Int32) (I : ev_I) (o : Int32 × ev_I) : cX10_readNumbers_33 q0 n y1 y2 s0 I = some o → EV E mX10_readNumbers 33 [some (.ref q0), some (.int y1), some (.int y2), none, none] [(.int s0)] (h_w σ I) (Option.some (Value.int o.1), h_w σ o.2) := by
  intro h
  unfold cX10_readNumbers_33 at h
  refine ew_istn (L' := [some (.ref q0), some (.int y1), some (.int y2), some (.int s0), none]) dX10_readNumbers_33 (Nat.le_of_ble_eq_true rfl) rfl ?_
  refine ev_iload_n dX10_readNumbers_34 rfl ?_
  refine ev_bipush (v := (9 : Int32)) dX10_readNumbers_35 (by decide) ?_
  refine ev_icmp_ne (tgt := 45) dX10_readNumbers_37 (by decide) (fun c11 => ?_) (fun c11 => ?_)
  · have h := ev_ifF h c11
    refine ev_iload_n dX10_readNumbers_45 rfl ?_
    refine ev_iconst (v := (1 : Int32)) dX10_readNumbers_46 (by decide) ?_
    refine ev_icmp_eq (tgt := 60) dX10_readNumbers_47 (by decide) (fun c12 => ?_) (fun c12 => ?_)
    · have h := ev_ifT h c12
      exact ev_weak (sb_s (sb_s (sb_s (sb_s (sb_n sb_0))))) (tX10_readNumbers_60 q0 g0 n y1 y2 s0 I _ h)
    · have h := ev_ifF h c12
      refine ev_iload_n dX10_readNumbers_50 rfl ?_
      refine ev_iconst (v := (2 : Int32)) dX10_readNumbers_51 (by decide) ?_
      refine ev_icmp_eq (tgt := 60) dX10_readNumbers_52 (by decide) (fun c13 => ?_) (fun c13 => ?_)
      · have h := ev_ifT h c13
        exact ev_weak (sb_s (sb_s (sb_s (sb_s (sb_n sb_0))))) (tX10_readNumbers_60 q0 g0 n y1 y2 s0 I _ h)
      · have h := ev_ifF h c13
        refine ev_iload_n dX10_readNumbers_55 rfl ?_
        refine ev_iconst (v := (4 : Int32)) dX10_readNumbers_56 (by decide) ?_
        refine ev_icmp_ne (tgt := 65) dX10_readNumbers_57 (by decide) (fun c14 => ?_) (fun c14 => ?_)
        · have h := ev_ifF h c14
          refine ev_bipush (v := (6 : Int32)) dX10_readNumbers_65 (by decide) ?_
          exact ev_weak (sb_s (sb_s (sb_s (sb_s (sb_n sb_0))))) (tX10_readNumbers_67 q0 g0 n y1 y2 s0 (6 : Int32) I _ h)
        · have h := ev_ifT h c14
          exact ev_weak (sb_s (sb_s (sb_s (sb_s (sb_n sb_0))))) (tX10_readNumbers_60 q0 g0 n y1 y2 s0 I _ h)
  · have h := ev_ifT h c11
    refine ev_bipush (v := (20 : Int32)) dX10_readNumbers_40 (by decide) ?_
    refine ev_goto (tgt := 67) dX10_readNumbers_42 (by decide) ?_
    exact ev_weak (sb_s (sb_s (sb_s (sb_s (sb_n sb_0))))) (tX10_readNumbers_67 q0 g0 n y1 y2 s0 (20 : Int32) I _ h)
set_option maxRecDepth 100000 in
set_option maxHeartbeats 4000000 in
theorem tX10_readNumbers_28 {E : ev_N} {σ : ev_H} (q0 : Nat) (g0 : shp tb9 σ q0) (n : Nat) (y1 : Int32) (y2 : Int32) (I : ev_I) (o : Int32 × ev_I) : cX10_readNumbers_28 q0 n y1 y2 I = some o → EV E mX10_readNumbers 28 [some (.ref q0), some (.int y1), some (.int y2), none, none] [] (h_w σ I) (Option.some (Value.int o.1), h_w σ o.2) := by
  intro h
  unfold cX10_readNumbers_28 at h
  refine ev_iconst (v := (1 : Int32)) dX10_readNumbers_28 (by decide) ?_
  refine ev_goto (tgt := 33) dX10_readNumbers_29 (by decide) ?_
  exact ev_weak (sb_s (sb_s (sb_s (sb_n (sb_n sb_0))))) (tX10_readNumbers_33 q0 g0 n y1 y2 (1 : Int32) I _ h)
set_option maxRecDepth 100000 in
set_option maxHeartbeats 4000000 in
theorem tX10_readNumbers {E : ev_N} {σ : ev_H} (n : Nat) (q0 : Nat) (g0 : shp tb9 σ q0) (x1 : Int32) (x2 : Int32) (I : ev_I) (o : Int32 × ev_I) (h : pX10_readNumbers n q0 x1 x2 I = some o) : ev_T E mX10_readNumbers [.ref q0, .int x1, .int x2] (h_w σ I) (Option.some (Value.int o.1), h_w σ o.2) := by
  unfold pX10_readNumbers at h
  refine ev_met rfl rfl (Nat.le_of_ble_eq_true rfl) (ev_L0 (L' := [some (.ref q0), some (.int x1), some (.int x2), none, none]) rfl ?_)
  refine ev_iload_n dX10_readNumbers_0 rfl ?_
  refine ev_bipush (v := (6 : Int32)) dX10_readNumbers_1 (by decide) ?_
  refine ev_icmp_ne (tgt := 12) dX10_readNumbers_3 (by decide) (fun c15 => ?_) (fun c15 => ?_)
  · have h := ev_ifF h c15
    refine ev_iload_n dX10_readNumbers_12 rfl ?_
    refine ev_iconst (v := (1 : Int32)) dX10_readNumbers_13 (by decide) ?_
    refine ev_icmp_eq (tgt := 28) dX10_readNumbers_14 (by decide) (fun c16 => ?_) (fun c16 => ?_)
    · have h := ev_ifT h c16
      exact ev_weak (sb_s (sb_s (sb_s (sb_n (sb_n sb_0))))) (tX10_readNumbers_28 q0 g0 n x1 x2 I _ h)
    · have h := ev_ifF h c16
      refine ev_iload_n dX10_readNumbers_17 rfl ?_
      refine ev_iconst (v := (2 : Int32)) dX10_readNumbers_18 (by decide) ?_
      refine ev_icmp_eq (tgt := 28) dX10_readNumbers_19 (by decide) (fun c17 => ?_) (fun c17 => ?_)
      · have h := ev_ifT h c17
        exact ev_weak (sb_s (sb_s (sb_s (sb_n (sb_n sb_0))))) (tX10_readNumbers_28 q0 g0 n x1 x2 I _ h)
      · have h := ev_ifF h c17
        refine ev_iload_n dX10_readNumbers_22 rfl ?_
        refine ev_bipush (v := (9 : Int32)) dX10_readNumbers_23 (by decide) ?_
        refine ev_icmp_ne (tgt := 32) dX10_readNumbers_25 (by decide) (fun c18 => ?_) (fun c18 => ?_)
        · have h := ev_ifF h c18
          refine ev_iconst (v := (0 : Int32)) dX10_readNumbers_32 (by decide) ?_
          exact ev_weak (sb_s (sb_s (sb_s (sb_n (sb_n sb_0))))) (tX10_readNumbers_33 q0 g0 n x1 x2 (0 : Int32) I _ h)
        · have h := ev_ifT h c18
          exact ev_weak (sb_s (sb_s (sb_s (sb_n (sb_n sb_0))))) (tX10_readNumbers_28 q0 g0 n x1 x2 I _ h)
  · have h := ev_ifT h c15
    refine ev_aload_n dX10_readNumbers_6 rfl (fun _ e => by cases e) ?_
    refine ev_iload_n dX10_readNumbers_7 rfl ?_
    obtain ⟨z19, hz19, h⟩ := ev_bnE h
    refine ec_Vi (Y := mX10_readLie) (ci := 9) (As := [.int x1]) (rest := []) dX10_readNumbers_8 kX10_332 oX10_readLie ⟨Nat.le_of_ble_eq_true rfl, Nat.le_of_ble_eq_true rfl⟩ (by decide) rfl (shp_n g0 0 rfl) (shp_t g0 0 rfl) rfl (Nat.le_of_ble_eq_true rfl) (tX10_readLie n q0 g0 x1 I z19 hz19) rfl ?_
    cases h
    exact er_i dX10_readNumbers_11 rfl rfl
-- ChainVotesModel readLine(I)I
def cX10_readLine_26 (q0 : Nat) (n : Nat) (I : ev_I) : Option (Int32 × ev_I) :=
  (pX10_errs n q0 (1 : Int32) I).bind fun z1 =>
  some (z1.1, z1.2)
def pX10_readLine (n : Nat) (q0 : Nat) (x1 : Int32) (I : ev_I) : Option (Int32 × ev_I) :=
  if (I q0 11) = (2 : Int32) then
    if (I q0 12) = (7 : Int32) then
      cX10_readLine_26 q0 n  I
    else
      if (I q0 12) = (8 : Int32) then
        cX10_readLine_26 q0 n  I
      else
        if x1 = (24 : Int32) then
          (pX10_errs n q0 (3 : Int32) I).bind fun z16 =>
          some (z16.1, z16.2)
        else
          ev_lt ((120 : Int32) + ((5 : Int32) * x1)) fun v6 =>
          ev_lt (I q0 12) fun v7 =>
          ev_ck (ev_in v6 240) <|
          ev_lt (ev_u2 I (q0 + 9) v6.toNatClampNeg v7) fun I9 =>
          (pX10_reads n q0  I9).bind fun z10 =>
          (pX10_readNumbers n q0 v6 v7 z10).bind fun z11 =>
          if z11.1 = (-1 : Int32) then
            some ((-1 : Int32), z11.2)
          else
            if (z11.2 q0 11) = (4 : Int32) then
              (pX10_reads n q0  z11.2).bind fun z14 =>
              some ((0 : Int32), z14)
            else
              (pX10_errs n q0 (1 : Int32) z11.2).bind fun z15 =>
              some (z15.1, z15.2)
  else
    cX10_readLine_26 q0 n  I
set_option maxRecDepth 100000 in
set_option maxHeartbeats 4000000 in
theorem tX10_readLine_26 {E : ev_N} {σ : ev_H} (q0 : Nat) (g0 : shp tb9 σ q0) (n : Nat) (I : ev_I) (o : Int32 × ev_I) : cX10_readLine_26 q0 n  I = some o → EV E mX10_readLine 26 [some (.ref q0), none, none, none] [] (h_w σ I) (Option.some (Value.int o.1), h_w σ o.2) := by
  intro h
  unfold cX10_readLine_26 at h
  refine ev_aload_n dX10_readLine_26 rfl (fun _ e => by cases e) ?_
  refine ev_iconst (v := (1 : Int32)) dX10_readLine_27 (by decide) ?_
  obtain ⟨z1, hz1, h⟩ := ev_bnE h
  refine ec_Vi (Y := mX10_errs) (ci := 9) (As := [.int (1 : Int32)]) (rest := []) dX10_readLine_28 kX10_323 oX10_errs ⟨Nat.le_of_ble_eq_true rfl, Nat.le_of_ble_eq_true rfl⟩ (by decide) rfl (shp_n g0 0 rfl) (shp_t g0 0 rfl) rfl (Nat.le_of_ble_eq_true rfl) (tX10_errs n q0 g0 (1 : Int32) I z1 hz1) rfl ?_
  cases h
  exact er_i dX10_readLine_31 rfl rfl
set_option maxRecDepth 100000 in
set_option maxHeartbeats 4000000 in
theorem tX10_readLine {E : ev_N} {σ : ev_H} (n : Nat) (q0 : Nat) (g0 : shp tb9 σ q0) (x1 : Int32) (I : ev_I) (o : Int32 × ev_I) (h : pX10_readLine n q0 x1 I = some o) : ev_T E mX10_readLine [.ref q0, .int x1] (h_w σ I) (Option.some (Value.int o.1), h_w σ o.2) := by
  unfold pX10_readLine at h
  refine ev_met rfl rfl (Nat.le_of_ble_eq_true rfl) (ev_L0 (L' := [some (.ref q0), some (.int x1), none, none]) rfl ?_)
  refine ev_aload_n dX10_readLine_0 rfl (fun _ e => by cases e) ?_
  refine ew_get0 dX10_readLine_1 fX10_302 g0 rfl rfl rfl ?_
  refine ev_iconst (v := (2 : Int32)) dX10_readLine_4 (by decide) ?_
  refine ev_icmp_ne (tgt := 26) dX10_readLine_5 (by decide) (fun c2 => ?_) (fun c2 => ?_)
  · have h := ev_ifF h c2
    exact ev_weak (sb_s (sb_n (sb_n (sb_n sb_0)))) (tX10_readLine_26 q0 g0 n  I _ h)
  · have h := ev_ifT h c2
    refine ev_aload_n dX10_readLine_8 rfl (fun _ e => by cases e) ?_
    refine ew_get0 dX10_readLine_9 fX10_305 g0 rfl rfl rfl ?_
    refine ev_bipush (v := (7 : Int32)) dX10_readLine_12 (by decide) ?_
    refine ev_icmp_eq (tgt := 26) dX10_readLine_14 (by decide) (fun c3 => ?_) (fun c3 => ?_)
    · have h := ev_ifT h c3
      exact ev_weak (sb_s (sb_n (sb_n (sb_n sb_0)))) (tX10_readLine_26 q0 g0 n  I _ h)
    · have h := ev_ifF h c3
      refine ev_aload_n dX10_readLine_17 rfl (fun _ e => by cases e) ?_
      refine ew_get0 dX10_readLine_18 fX10_305 g0 rfl rfl rfl ?_
      refine ev_bipush (v := (8 : Int32)) dX10_readLine_21 (by decide) ?_
      refine ev_icmp_ne (tgt := 32) dX10_readLine_23 (by decide) (fun c4 => ?_) (fun c4 => ?_)
      · have h := ev_ifF h c4
        refine ev_iload_n dX10_readLine_32 rfl ?_
        refine ev_bipush (v := (24 : Int32)) dX10_readLine_33 (by decide) ?_
        refine ev_icmp_ne (tgt := 44) dX10_readLine_35 (by decide) (fun c5 => ?_) (fun c5 => ?_)
        · have h := ev_ifF h c5
          refine ev_bipush (v := (120 : Int32)) dX10_readLine_44 (by decide) ?_
          refine ev_iconst (v := (5 : Int32)) dX10_readLine_46 (by decide) ?_
          refine ev_iload_n dX10_readLine_47 rfl ?_
          refine ev_imul dX10_readLine_48 ?_
          refine ev_iadd dX10_readLine_49 ?_
          obtain ⟨v6, ev6, h⟩ := ev_ltE h
          refine ew_nm ev6 ?_
          refine ew_istn (L' := [some (.ref q0), some (.int x1), some (.int v6), none]) dX10_readLine_50 (Nat.le_of_ble_eq_true rfl) rfl ?_
          refine ev_aload_n dX10_readLine_51 rfl (fun _ e => by cases e) ?_
          refine ew_get0 dX10_readLine_52 fX10_305 g0 rfl rfl rfl ?_
          obtain ⟨v7, ev7, h⟩ := ev_ltE h
          refine ew_nm ev7 ?_
          refine ew_istn (L' := [some (.ref q0), some (.int x1), some (.int v6), some (.int v7)]) dX10_readLine_55 (Nat.le_of_ble_eq_true rfl) rfl ?_
          refine ev_aload_n dX10_readLine_56 rfl (fun _ e => by cases e) ?_
          refine ew_getr0 dX10_readLine_57 fX10_38 g0 rfl rfl rfl rfl ?_
          refine ev_iload_n dX10_readLine_60 rfl ?_
          refine ev_iload_n dX10_readLine_61 rfl ?_
          obtain ⟨c8, h⟩ := ev_ckE h
          obtain ⟨I9, eI9, h⟩ := ev_ltE h
          refine ew_iast dX10_readLine_62 (shp_a g0 9 rfl) c8 (ew_nh eI9 ?_)
          refine ev_aload_n dX10_readLine_63 rfl (fun _ e => by cases e) ?_
          obtain ⟨z10, hz10, h⟩ := ev_bnE h
          refine ec_Vv (Y := mX10_reads) (ci := 9) (As := []) (rest := []) dX10_readLine_64 kX10_326 oX10_reads ⟨Nat.le_of_ble_eq_true rfl, Nat.le_of_ble_eq_true rfl⟩ (by decide) rfl (shp_n g0 0 rfl) (shp_t g0 0 rfl) rfl (Nat.le_of_ble_eq_true rfl) (tX10_reads n q0 g0  I9 z10 hz10) rfl ?_
          refine ev_aload_n dX10_readLine_67 rfl (fun _ e => by cases e) ?_
          refine ev_iload_n dX10_readLine_68 rfl ?_
          refine ev_iload_n dX10_readLine_69 rfl ?_
          obtain ⟨z11, hz11, h⟩ := ev_bnE h
          refine ec_Vi (Y := mX10_readNumbers) (ci := 9) (As := [.int v6, .int v7]) (rest := []) dX10_readLine_70 kX10_335 oX10_readNumbers ⟨Nat.le_of_ble_eq_true rfl, Nat.le_of_ble_eq_true rfl⟩ (by decide) rfl (shp_n g0 0 rfl) (shp_t g0 0 rfl) rfl (Nat.le_of_ble_eq_true rfl) (tX10_readNumbers n q0 g0 v6 v7 z10 z11 hz11) rfl ?_
          refine ev_iconst (v := (-1 : Int32)) dX10_readLine_73 (by decide) ?_
          refine ev_icmp_ne (tgt := 79) dX10_readLine_74 (by decide) (fun c12 => ?_) (fun c12 => ?_)
          · have h := ev_ifF h c12
            refine ev_aload_n dX10_readLine_79 rfl (fun _ e => by cases e) ?_
            refine ew_get0 dX10_readLine_80 fX10_302 g0 rfl rfl rfl ?_
            refine ev_iconst (v := (4 : Int32)) dX10_readLine_83 (by decide) ?_
            refine ev_icmp_eq (tgt := 93) dX10_readLine_84 (by decide) (fun c13 => ?_) (fun c13 => ?_)
            · have h := ev_ifT h c13
              refine ev_aload_n dX10_readLine_93 rfl (fun _ e => by cases e) ?_
              obtain ⟨z14, hz14, h⟩ := ev_bnE h
              refine ec_Vv (Y := mX10_reads) (ci := 9) (As := []) (rest := []) dX10_readLine_94 kX10_326 oX10_reads ⟨Nat.le_of_ble_eq_true rfl, Nat.le_of_ble_eq_true rfl⟩ (by decide) rfl (shp_n g0 0 rfl) (shp_t g0 0 rfl) rfl (Nat.le_of_ble_eq_true rfl) (tX10_reads n q0 g0  z11.2 z14 hz14) rfl ?_
              refine ev_iconst (v := (0 : Int32)) dX10_readLine_97 (by decide) ?_
              cases h
              exact er_i dX10_readLine_98 rfl rfl
            · have h := ev_ifF h c13
              refine ev_aload_n dX10_readLine_87 rfl (fun _ e => by cases e) ?_
              refine ev_iconst (v := (1 : Int32)) dX10_readLine_88 (by decide) ?_
              obtain ⟨z15, hz15, h⟩ := ev_bnE h
              refine ec_Vi (Y := mX10_errs) (ci := 9) (As := [.int (1 : Int32)]) (rest := []) dX10_readLine_89 kX10_323 oX10_errs ⟨Nat.le_of_ble_eq_true rfl, Nat.le_of_ble_eq_true rfl⟩ (by decide) rfl (shp_n g0 0 rfl) (shp_t g0 0 rfl) rfl (Nat.le_of_ble_eq_true rfl) (tX10_errs n q0 g0 (1 : Int32) z11.2 z15 hz15) rfl ?_
              cases h
              exact er_i dX10_readLine_92 rfl rfl
          · have h := ev_ifT h c12
            refine ev_iconst (v := (-1 : Int32)) dX10_readLine_77 (by decide) ?_
            cases h
            exact er_i dX10_readLine_78 rfl rfl
        · have h := ev_ifT h c5
          refine ev_aload_n dX10_readLine_38 rfl (fun _ e => by cases e) ?_
          refine ev_iconst (v := (3 : Int32)) dX10_readLine_39 (by decide) ?_
          obtain ⟨z16, hz16, h⟩ := ev_bnE h
          refine ec_Vi (Y := mX10_errs) (ci := 9) (As := [.int (3 : Int32)]) (rest := []) dX10_readLine_40 kX10_323 oX10_errs ⟨Nat.le_of_ble_eq_true rfl, Nat.le_of_ble_eq_true rfl⟩ (by decide) rfl (shp_n g0 0 rfl) (shp_t g0 0 rfl) rfl (Nat.le_of_ble_eq_true rfl) (tX10_errs n q0 g0 (3 : Int32) I z16 hz16) rfl ?_
          cases h
          exact er_i dX10_readLine_43 rfl rfl
      · have h := ev_ifT h c4
        exact ev_weak (sb_s (sb_n (sb_n (sb_n sb_0)))) (tX10_readLine_26 q0 g0 n  I _ h)
-- ChainVotesModel readPlan()I
def cX10_readPlan_11 (q0 : Nat) (K11 : Int32 → ev_I → Option (Int32 × ev_I)) (n : Nat) (y1 : Int32) (I : ev_I) : Option (Int32 × ev_I) :=
  if (I q0 11) = 0 then
    some (y1, I)
  else
    (pX10_readLine n q0 y1 I).bind fun z2 =>
    if z2.1 = (-1 : Int32) then
      some ((-1 : Int32), z2.2)
    else
      ev_lt (y1 + (1 : Int32)) fun v4 =>
      K11 v4 z2.2
def lX10_readPlan_11 (q0 : Nat) : Nat → Int32 → ev_I → Option (Int32 × ev_I)
  | 0, _, _ => none
  | n + 1, y1, I => cX10_readPlan_11 q0 (lX10_readPlan_11 q0 n) n y1 I
def pX10_readPlan (n : Nat) (q0 : Nat) (I : ev_I) : Option (Int32 × ev_I) :=
  ev_lt (ev_u2 I q0 9 (0 : Int32)) fun I5 =>
  (pX10_reads n q0  I5).bind fun z6 =>
  lX10_readPlan_11 q0 n (0 : Int32) z6
set_option maxRecDepth 100000 in
set_option maxHeartbeats 4000000 in
theorem tX10_readPlan_11 {E : ev_N} {σ : ev_H} (q0 : Nat) (g0 : shp tb9 σ q0) (K11 : Int32 → ev_I → Option (Int32 × ev_I)) (k11 : ∀ (y1 : Int32) (I : ev_I) (o : Int32 × ev_I), K11 y1 I = some o → EV E mX10_readPlan 11 [some (.ref q0), some (.int y1)] [] (h_w σ I) (Option.some (Value.int o.1), h_w σ o.2)) (n : Nat) (y1 : Int32) (I : ev_I) (o : Int32 × ev_I) : cX10_readPlan_11 q0 K11 n y1 I = some o → EV E mX10_readPlan 11 [some (.ref q0), some (.int y1)] [] (h_w σ I) (Option.some (Value.int o.1), h_w σ o.2) := by
  intro h
  unfold cX10_readPlan_11 at h
  refine ev_aload_n dX10_readPlan_11 rfl (fun _ e => by cases e) ?_
  refine ew_get0 dX10_readPlan_12 fX10_302 g0 rfl rfl rfl ?_
  refine ev_if_eq (tgt := 36) dX10_readPlan_15 (by decide) (fun c1 => ?_) (fun c1 => ?_)
  · have h := ev_ifT h c1
    refine ev_iload_n dX10_readPlan_36 rfl ?_
    cases h
    exact er_i dX10_readPlan_37 rfl rfl
  · have h := ev_ifF h c1
    refine ev_aload_n dX10_readPlan_18 rfl (fun _ e => by cases e) ?_
    refine ev_iload_n dX10_readPlan_19 rfl ?_
    obtain ⟨z2, hz2, h⟩ := ev_bnE h
    refine ec_Vi (Y := mX10_readLine) (ci := 9) (As := [.int y1]) (rest := []) dX10_readPlan_20 kX10_338 oX10_readLine ⟨Nat.le_of_ble_eq_true rfl, Nat.le_of_ble_eq_true rfl⟩ (by decide) rfl (shp_n g0 0 rfl) (shp_t g0 0 rfl) rfl (Nat.le_of_ble_eq_true rfl) (tX10_readLine n q0 g0 y1 I z2 hz2) rfl ?_
    refine ev_iconst (v := (-1 : Int32)) dX10_readPlan_23 (by decide) ?_
    refine ev_icmp_ne (tgt := 29) dX10_readPlan_24 (by decide) (fun c3 => ?_) (fun c3 => ?_)
    · have h := ev_ifF h c3
      refine ev_iload_n dX10_readPlan_29 rfl ?_
      refine ev_iconst (v := (1 : Int32)) dX10_readPlan_30 (by decide) ?_
      refine ev_iadd dX10_readPlan_31 ?_
      obtain ⟨v4, ev4, h⟩ := ev_ltE h
      refine ew_nm ev4 ?_
      refine ew_istn (L' := [some (.ref q0), some (.int v4)]) dX10_readPlan_32 (Nat.le_of_ble_eq_true rfl) rfl ?_
      refine ev_goto (tgt := 11) dX10_readPlan_33 (by decide) ?_
      exact ev_weak (sb_s (sb_s sb_0)) (k11 v4 z2.2 _ h)
    · have h := ev_ifT h c3
      refine ev_iconst (v := (-1 : Int32)) dX10_readPlan_27 (by decide) ?_
      cases h
      exact er_i dX10_readPlan_28 rfl rfl
theorem tlX10_readPlan_11 {E : ev_N} {σ : ev_H} (q0 : Nat) (g0 : shp tb9 σ q0) : ∀ (n : Nat) (y1 : Int32) (I : ev_I) (o : Int32 × ev_I), lX10_readPlan_11 q0 n y1 I = some o → EV E mX10_readPlan 11 [some (.ref q0), some (.int y1)] [] (h_w σ I) (Option.some (Value.int o.1), h_w σ o.2)
  | 0, _, _, _, h => by cases h
  | n + 1, y1, I, o, h => tX10_readPlan_11 q0 g0 (lX10_readPlan_11 q0 n) (tlX10_readPlan_11 q0 g0 n) n y1 I o h
set_option maxRecDepth 100000 in
set_option maxHeartbeats 4000000 in
theorem tX10_readPlan {E : ev_N} {σ : ev_H} (n : Nat) (q0 : Nat) (g0 : shp tb9 σ q0) (I : ev_I) (o : Int32 × ev_I) (h : pX10_readPlan n q0  I = some o) : ev_T E mX10_readPlan [.ref q0] (h_w σ I) (Option.some (Value.int o.1), h_w σ o.2) := by
  unfold pX10_readPlan at h
  refine ev_met rfl rfl (Nat.le_of_ble_eq_true rfl) (ev_L0 (L' := [some (.ref q0), none]) rfl ?_)
  refine ev_iconst (v := (0 : Int32)) dX10_readPlan_0 (by decide) ?_
  refine ew_istn (L' := [some (.ref q0), some (.int (0 : Int32))]) dX10_readPlan_1 (Nat.le_of_ble_eq_true rfl) rfl ?_
  refine ev_aload_n dX10_readPlan_2 rfl (fun _ e => by cases e) ?_
  refine ev_iconst (v := (0 : Int32)) dX10_readPlan_3 (by decide) ?_
  obtain ⟨I5, eI5, h⟩ := ev_ltE h
  refine ew_put0 dX10_readPlan_4 fX10_293 g0 rfl rfl rfl rfl rfl rfl (ew_nh eI5 ?_)
  refine ev_aload_n dX10_readPlan_7 rfl (fun _ e => by cases e) ?_
  obtain ⟨z6, hz6, h⟩ := ev_bnE h
  refine ec_Vv (Y := mX10_reads) (ci := 9) (As := []) (rest := []) dX10_readPlan_8 kX10_326 oX10_reads ⟨Nat.le_of_ble_eq_true rfl, Nat.le_of_ble_eq_true rfl⟩ (by decide) rfl (shp_n g0 0 rfl) (shp_t g0 0 rfl) rfl (Nat.le_of_ble_eq_true rfl) (tX10_reads n q0 g0  I5 z6 hz6) rfl ?_
  exact ev_weak (sb_s (sb_s sb_0)) (tlX10_readPlan_11 q0 g0 n (0 : Int32) z6 _ h)
-- ChainVotesModel plan()I
def cX10_plan_55 (q0 : Nat) (K55 : Int32 → Int32 → ev_I → Option (Int32 × ev_I)) (n : Nat) (y1 : Int32) (y2 : Int32) (I : ev_I) : Option (Int32 × ev_I) :=
  if ((5 : Int32) * y1) ≤ y2 then
    ev_lt (ev_u2 I q0 18 y1) fun I2 =>
    ev_lt (ev_u2 I2 (q0 + 1) (9 : Int32).toNatClampNeg (0 : Int32)) fun I3 =>
    some (y1, I3)
  else
    ev_ck (ev_in ((120 : Int32) + y2) 240) <|
    ev_ck (ev_in y2 240) <|
    ev_lt (ev_u2 I (q0 + 9) y2.toNatClampNeg (I (q0 + 9) ((120 : Int32) + y2).toNatClampNeg)) fun I6 =>
    ev_lt (y2 + (1 : Int32)) fun v7 =>
    K55 y1 v7 I6
def lX10_plan_55 (q0 : Nat) : Nat → Int32 → Int32 → ev_I → Option (Int32 × ev_I)
  | 0, _, _, _ => none
  | n + 1, y1, y2, I => cX10_plan_55 q0 (lX10_plan_55 q0 n) n y1 y2 I
def cX10_plan_41 (q0 : Nat) (n : Nat) (y1 : Int32) (I : ev_I) : Option (Int32 × ev_I) :=
  ev_lt (ev_u2 I q0 8 (0 : Int32)) fun I8 =>
  if y1 = (-1 : Int32) then
    some ((-1 : Int32), I8)
  else
    lX10_plan_55 q0 n y1 (0 : Int32) I8
def pX10_plan (n : Nat) (q0 : Nat) (I : ev_I) : Option (Int32 × ev_I) :=
  ev_lt (ev_u2 I q0 0 (0 : Int32)) fun I10 =>
  ev_lt (ev_u2 I10 q0 16 (0 : Int32)) fun I11 =>
  ev_lt (ev_u2 I11 q0 17 (-1 : Int32)) fun I12 =>
  (pX10_readPlan n q0  I12).bind fun z13 =>
  if z13.1 = (-1 : Int32) then
    ev_lt (ev_u2 z13.2 q0 16 (z13.2 q0 14)) fun I15 =>
    ev_lt (ev_u2 I15 q0 17 (I15 q0 15)) fun I16 =>
    cX10_plan_41 q0 n z13.1 I16
  else
    cX10_plan_41 q0 n z13.1 z13.2
set_option maxRecDepth 100000 in
set_option maxHeartbeats 4000000 in
theorem tX10_plan_55 {E : ev_N} {σ : ev_H} (q0 : Nat) (g0 : shp tb9 σ q0) (K55 : Int32 → Int32 → ev_I → Option (Int32 × ev_I)) (k55 : ∀ (y1 : Int32) (y2 : Int32) (I : ev_I) (o : Int32 × ev_I), K55 y1 y2 I = some o → EV E mX10_plan 55 [some (.ref q0), some (.int y1), some (.int y2)] [] (h_w σ I) (Option.some (Value.int o.1), h_w σ o.2)) (n : Nat) (y1 : Int32) (y2 : Int32) (I : ev_I) (o : Int32 × ev_I) : cX10_plan_55 q0 K55 n y1 y2 I = some o → EV E mX10_plan 55 [some (.ref q0), some (.int y1), some (.int y2)] [] (h_w σ I) (Option.some (Value.int o.1), h_w σ o.2) := by
  intro h
  unfold cX10_plan_55 at h
  refine ev_iload_n dX10_plan_55 rfl ?_
  refine ev_iconst (v := (5 : Int32)) dX10_plan_56 (by decide) ?_
  refine ev_iload_n dX10_plan_57 rfl ?_
  refine ev_imul dX10_plan_58 ?_
  refine ev_icmp_ge (tgt := 83) dX10_plan_59 (by decide) (fun c1 => ?_) (fun c1 => ?_)
  · have h := ev_ifT h c1
    refine ev_aload_n dX10_plan_83 rfl (fun _ e => by cases e) ?_
    refine ev_iload_n dX10_plan_84 rfl ?_
    obtain ⟨I2, eI2, h⟩ := ev_ltE h
    refine ew_put0 dX10_plan_85 fX10_272 g0 rfl rfl rfl rfl rfl rfl (ew_nh eI2 ?_)
    refine ev_aload_n dX10_plan_88 rfl (fun _ e => by cases e) ?_
    refine ew_getr0 dX10_plan_89 fX10_7 g0 rfl rfl rfl rfl ?_
    refine ev_bipush (v := (9 : Int32)) dX10_plan_92 (by decide) ?_
    refine ev_iconst (v := (0 : Int32)) dX10_plan_94 (by decide) ?_
    obtain ⟨I3, eI3, h⟩ := ev_ltE h
    refine ew_iast dX10_plan_95 (shp_a g0 1 rfl) (by decide) (ew_nh eI3 ?_)
    refine ev_iload_n dX10_plan_96 rfl ?_
    cases h
    exact er_i dX10_plan_97 rfl rfl
  · have h := ev_ifF h c1
    refine ev_aload_n dX10_plan_62 rfl (fun _ e => by cases e) ?_
    refine ew_getr0 dX10_plan_63 fX10_38 g0 rfl rfl rfl rfl ?_
    refine ev_iload_n dX10_plan_66 rfl ?_
    refine ev_aload_n dX10_plan_67 rfl (fun _ e => by cases e) ?_
    refine ew_getr0 dX10_plan_68 fX10_38 g0 rfl rfl rfl rfl ?_
    refine ev_bipush (v := (120 : Int32)) dX10_plan_71 (by decide) ?_
    refine ev_iload_n dX10_plan_73 rfl ?_
    refine ev_iadd dX10_plan_74 ?_
    obtain ⟨c4, h⟩ := ev_ckE h
    refine ew_iald dX10_plan_75 (shp_a g0 9 rfl) c4 ?_
    obtain ⟨c5, h⟩ := ev_ckE h
    obtain ⟨I6, eI6, h⟩ := ev_ltE h
    refine ew_iast dX10_plan_76 (shp_a g0 9 rfl) c5 (ew_nh eI6 ?_)
    obtain ⟨v7, ev7, h⟩ := ev_ltE h
    refine ew_iinc (L' := [some (.ref q0), some (.int y1), some (.int v7)]) dX10_plan_77 (Nat.le_of_ble_eq_true rfl) rfl (by decide) ev7 rfl ?_
    refine ev_goto (tgt := 55) dX10_plan_80 (by decide) ?_
    exact ev_weak (sb_s (sb_s (sb_s sb_0))) (k55 y1 v7 I6 _ h)
theorem tlX10_plan_55 {E : ev_N} {σ : ev_H} (q0 : Nat) (g0 : shp tb9 σ q0) : ∀ (n : Nat) (y1 : Int32) (y2 : Int32) (I : ev_I) (o : Int32 × ev_I), lX10_plan_55 q0 n y1 y2 I = some o → EV E mX10_plan 55 [some (.ref q0), some (.int y1), some (.int y2)] [] (h_w σ I) (Option.some (Value.int o.1), h_w σ o.2)
  | 0, _, _, _, _, h => by cases h
  | n + 1, y1, y2, I, o, h => tX10_plan_55 q0 g0 (lX10_plan_55 q0 n) (tlX10_plan_55 q0 g0 n) n y1 y2 I o h
set_option maxRecDepth 100000 in
set_option maxHeartbeats 4000000 in
theorem tX10_plan_41 {E : ev_N} {σ : ev_H} (q0 : Nat) (g0 : shp tb9 σ q0) (n : Nat) (y1 : Int32) (I : ev_I) (o : Int32 × ev_I) : cX10_plan_41 q0 n y1 I = some o → EV E mX10_plan 41 [some (.ref q0), some (.int y1), none] [] (h_w σ I) (Option.some (Value.int o.1), h_w σ o.2) := by
  intro h
  unfold cX10_plan_41 at h
  refine ev_aload_n dX10_plan_41 rfl (fun _ e => by cases e) ?_
  refine ev_iconst (v := (0 : Int32)) dX10_plan_42 (by decide) ?_
  obtain ⟨I8, eI8, h⟩ := ev_ltE h
  refine ew_put0 dX10_plan_43 fX10_287 g0 rfl rfl rfl rfl rfl rfl (ew_nh eI8 ?_)
  refine ev_iload_n dX10_plan_46 rfl ?_
  refine ev_iconst (v := (-1 : Int32)) dX10_plan_47 (by decide) ?_
  refine ev_icmp_ne (tgt := 53) dX10_plan_48 (by decide) (fun c9 => ?_) (fun c9 => ?_)
  · have h := ev_ifF h c9
    refine ev_iconst (v := (0 : Int32)) dX10_plan_53 (by decide) ?_
    refine ew_istn (L' := [some (.ref q0), some (.int y1), some (.int (0 : Int32))]) dX10_plan_54 (Nat.le_of_ble_eq_true rfl) rfl ?_
    exact ev_weak (sb_s (sb_s (sb_s sb_0))) (tlX10_plan_55 q0 g0 n y1 (0 : Int32) I8 _ h)
  · have h := ev_ifT h c9
    refine ev_iconst (v := (-1 : Int32)) dX10_plan_51 (by decide) ?_
    cases h
    exact er_i dX10_plan_52 rfl rfl
set_option maxRecDepth 100000 in
set_option maxHeartbeats 4000000 in
theorem tX10_plan {E : ev_N} {σ : ev_H} (n : Nat) (q0 : Nat) (g0 : shp tb9 σ q0) (I : ev_I) (o : Int32 × ev_I) (h : pX10_plan n q0  I = some o) : ev_T E mX10_plan [.ref q0] (h_w σ I) (Option.some (Value.int o.1), h_w σ o.2) := by
  unfold pX10_plan at h
  refine ev_met rfl rfl (Nat.le_of_ble_eq_true rfl) (ev_L0 (L' := [some (.ref q0), none, none]) rfl ?_)
  refine ev_aload_n dX10_plan_0 rfl (fun _ e => by cases e) ?_
  refine ev_iconst (v := (0 : Int32)) dX10_plan_1 (by decide) ?_
  obtain ⟨I10, eI10, h⟩ := ev_ltE h
  refine ew_put0 dX10_plan_2 fX10_44 g0 rfl rfl rfl rfl rfl rfl (ew_nh eI10 ?_)
  refine ev_aload_n dX10_plan_5 rfl (fun _ e => by cases e) ?_
  refine ev_iconst (v := (0 : Int32)) dX10_plan_6 (by decide) ?_
  obtain ⟨I11, eI11, h⟩ := ev_ltE h
  refine ew_put0 dX10_plan_7 fX10_341 g0 rfl rfl rfl rfl rfl rfl (ew_nh eI11 ?_)
  refine ev_aload_n dX10_plan_10 rfl (fun _ e => by cases e) ?_
  refine ev_iconst (v := (-1 : Int32)) dX10_plan_11 (by decide) ?_
  obtain ⟨I12, eI12, h⟩ := ev_ltE h
  refine ew_put0 dX10_plan_12 fX10_34 g0 rfl rfl rfl rfl rfl rfl (ew_nh eI12 ?_)
  refine ev_aload_n dX10_plan_15 rfl (fun _ e => by cases e) ?_
  obtain ⟨z13, hz13, h⟩ := ev_bnE h
  refine ec_Vi (Y := mX10_readPlan) (ci := 9) (As := []) (rest := []) dX10_plan_16 kX10_344 oX10_readPlan ⟨Nat.le_of_ble_eq_true rfl, Nat.le_of_ble_eq_true rfl⟩ (by decide) rfl (shp_n g0 0 rfl) (shp_t g0 0 rfl) rfl (Nat.le_of_ble_eq_true rfl) (tX10_readPlan n q0 g0  I12 z13 hz13) rfl ?_
  refine ew_istn (L' := [some (.ref q0), some (.int z13.1), none]) dX10_plan_19 (Nat.le_of_ble_eq_true rfl) rfl ?_
  refine ev_iload_n dX10_plan_20 rfl ?_
  refine ev_iconst (v := (-1 : Int32)) dX10_plan_21 (by decide) ?_
  refine ev_icmp_ne (tgt := 41) dX10_plan_22 (by decide) (fun c14 => ?_) (fun c14 => ?_)
  · have h := ev_ifF h c14
    exact ev_weak (sb_s (sb_s (sb_n sb_0))) (tX10_plan_41 q0 g0 n z13.1 z13.2 _ h)
  · have h := ev_ifT h c14
    refine ev_aload_n dX10_plan_25 rfl (fun _ e => by cases e) ?_
    refine ev_aload_n dX10_plan_26 rfl (fun _ e => by cases e) ?_
    refine ew_get0 dX10_plan_27 fX10_317 g0 rfl rfl rfl ?_
    obtain ⟨I15, eI15, h⟩ := ev_ltE h
    refine ew_put0 dX10_plan_30 fX10_341 g0 rfl rfl rfl rfl rfl rfl (ew_nh eI15 ?_)
    refine ev_aload_n dX10_plan_33 rfl (fun _ e => by cases e) ?_
    refine ev_aload_n dX10_plan_34 rfl (fun _ e => by cases e) ?_
    refine ew_get0 dX10_plan_35 fX10_320 g0 rfl rfl rfl ?_
    obtain ⟨I16, eI16, h⟩ := ev_ltE h
    refine ew_put0 dX10_plan_38 fX10_34 g0 rfl rfl rfl rfl rfl rfl (ew_nh eI16 ?_)
    exact ev_weak (sb_s (sb_s (sb_n sb_0))) (tX10_plan_41 q0 g0 n z13.1 I16 _ h)
-- ChainVotesModel fault(I)I
def pX10_fault (n : Nat) (q0 : Nat) (x1 : Int32) (I : ev_I) : Option (Int32 × ev_I) :=
  ev_lt (ev_u2 I q0 0 (0 : Int32)) fun I1 =>
  if x1 = 0 then
    some ((I1 q0 16), I1)
  else
    if x1 = (1 : Int32) then
      some ((I1 q0 17), I1)
    else
      some ((-1 : Int32), I1)
set_option maxRecDepth 100000 in
set_option maxHeartbeats 4000000 in
theorem tX10_fault {E : ev_N} {σ : ev_H} (n : Nat) (q0 : Nat) (g0 : shp tb9 σ q0) (x1 : Int32) (I : ev_I) (o : Int32 × ev_I) (h : pX10_fault n q0 x1 I = some o) : ev_T E mX10_fault [.ref q0, .int x1] (h_w σ I) (Option.some (Value.int o.1), h_w σ o.2) := by
  unfold pX10_fault at h
  refine ev_met rfl rfl (Nat.le_of_ble_eq_true rfl) (ev_L0 (L' := [some (.ref q0), some (.int x1)]) rfl ?_)
  refine ev_aload_n dX10_fault_0 rfl (fun _ e => by cases e) ?_
  refine ev_iconst (v := (0 : Int32)) dX10_fault_1 (by decide) ?_
  obtain ⟨I1, eI1, h⟩ := ev_ltE h
  refine ew_put0 dX10_fault_2 fX10_44 g0 rfl rfl rfl rfl rfl rfl (ew_nh eI1 ?_)
  refine ev_iload_n dX10_fault_5 rfl ?_
  refine ev_if_ne (tgt := 16) dX10_fault_6 (by decide) (fun c2 => ?_) (fun c2 => ?_)
  · have h := ev_ifF h c2
    refine ev_iload_n dX10_fault_16 rfl ?_
    refine ev_iconst (v := (1 : Int32)) dX10_fault_17 (by decide) ?_
    refine ev_icmp_ne (tgt := 28) dX10_fault_18 (by decide) (fun c3 => ?_) (fun c3 => ?_)
    · have h := ev_ifF h c3
      refine ev_iconst (v := (-1 : Int32)) dX10_fault_28 (by decide) ?_
      cases h
      exact er_i dX10_fault_29 rfl rfl
    · have h := ev_ifT h c3
      refine ev_aload_n dX10_fault_21 rfl (fun _ e => by cases e) ?_
      refine ew_get0 dX10_fault_22 fX10_34 g0 rfl rfl rfl ?_
      refine ev_goto (tgt := 29) dX10_fault_25 (by decide) ?_
      cases h
      exact er_i dX10_fault_29 rfl rfl
  · have h := ev_ifT h c2
    refine ev_aload_n dX10_fault_9 rfl (fun _ e => by cases e) ?_
    refine ew_get0 dX10_fault_10 fX10_341 g0 rfl rfl rfl ?_
    refine ev_goto (tgt := 29) dX10_fault_13 (by decide) ?_
    cases h
    exact er_i dX10_fault_29 rfl rfl
-- ChainVotesModel handles(IZ)Z
def cX10_handles_46 (q0 : Nat) (K18 : Int32 → Int32 → Int32 → Int32 → ev_I → Option (Int32 × ev_I)) (n : Nat) (y1 : Int32) (y2 : Int32) (y3 : Int32) (y4 : Int32) (I : ev_I) : Option (Int32 × ev_I) :=
  ev_lt (y4 + (1 : Int32)) fun v1 =>
  K18 y1 y2 y3 v1 I
def cX10_handles_18 (q0 : Nat) (K18 : Int32 → Int32 → Int32 → Int32 → ev_I → Option (Int32 × ev_I)) (n : Nat) (y1 : Int32) (y2 : Int32) (y3 : Int32) (y4 : Int32) (I : ev_I) : Option (Int32 × ev_I) :=
  if y1 ≤ y4 then
    ev_ck (ev_01 y3) <|
    some (y3, I)
  else
    if (I (q0 + 1) (4 : Int32).toNatClampNeg) ≤ 0 then
      ev_ck (ev_01 y3) <|
      some (y3, I)
    else
      (pX10_takesOut n q0 (0 : Int32) I).bind fun z6 =>
      if y2 = 0 then
        (pX10_isDelivered n q0  z6).bind fun z8 =>
        cX10_handles_46 q0 K18 n y1 y2 y3 y4 z8
      else
        cX10_handles_46 q0 K18 n y1 y2 y3 y4 z6
def lX10_handles_18 (q0 : Nat) : Nat → Int32 → Int32 → Int32 → Int32 → ev_I → Option (Int32 × ev_I)
  | 0, _, _, _, _, _ => none
  | n + 1, y1, y2, y3, y4, I => cX10_handles_18 q0 (lX10_handles_18 q0 n) n y1 y2 y3 y4 I
def cX10_handles_14 (q0 : Nat) (n : Nat) (y1 : Int32) (y2 : Int32) (s0 : Int32) (I : ev_I) : Option (Int32 × ev_I) :=
  lX10_handles_18 q0 n y1 y2 s0 (0 : Int32) I
def pX10_handles (n : Nat) (q0 : Nat) (x1 : Int32) (x2 : Int32) (I : ev_I) : Option (Int32 × ev_I) :=
  if (I (q0 + 1) (4 : Int32).toNatClampNeg) ≤ 0 then
    cX10_handles_14 q0 n x1 x2 (0 : Int32) I
  else
    cX10_handles_14 q0 n x1 x2 (1 : Int32) I
set_option maxRecDepth 100000 in
set_option maxHeartbeats 4000000 in
theorem tX10_handles_46 {E : ev_N} {σ : ev_H} (q0 : Nat) (g0 : shp tb9 σ q0) (K18 : Int32 → Int32 → Int32 → Int32 → ev_I → Option (Int32 × ev_I)) (k18 : ∀ (y1 : Int32) (y2 : Int32) (y3 : Int32) (y4 : Int32) (I : ev_I) (o : Int32 × ev_I), K18 y1 y2 y3 y4 I = some o → EV E mX10_handles 18 [some (.ref q0), some (.int y1), some (.int y2), some (.int y3), some (.int y4)] [] (h_w σ I) (Option.some (Value.int o.1), h_w σ o.2)) (n : Nat) (y1 : Int32) (y2 : Int32) (y3 : Int32) (y4 : Int32) (I : ev_I) (o : Int32 × ev_I) : cX10_handles_46 q0 K18 n y1 y2 y3 y4 I = some o → EV E mX10_handles 46 [some (.ref q0), some (.int y1), some (.int y2), some (.int y3), some (.int y4)] [] (h_w σ I) (Option.some (Value.int o.1), h_w σ o.2) := by
  intro h
  unfold cX10_handles_46 at h
  obtain ⟨v1, ev1, h⟩ := ev_ltE h
  refine ew_iinc (L' := [some (.ref q0), some (.int y1), some (.int y2), some (.int y3), some (.int v1)]) dX10_handles_46 (Nat.le_of_ble_eq_true rfl) rfl (by decide) ev1 rfl ?_
  refine ev_goto (tgt := 18) dX10_handles_49 (by decide) ?_
  exact ev_weak (sb_s (sb_s (sb_s (sb_s (sb_s sb_0))))) (k18 y1 y2 y3 v1 I _ h)
set_option maxRecDepth 100000 in
set_option maxHeartbeats 4000000 in
theorem tX10_handles_18 {E : ev_N} {σ : ev_H} (q0 : Nat) (g0 : shp tb9 σ q0) (K18 : Int32 → Int32 → Int32 → Int32 → ev_I → Option (Int32 × ev_I)) (k18 : ∀ (y1 : Int32) (y2 : Int32) (y3 : Int32) (y4 : Int32) (I : ev_I) (o : Int32 × ev_I), K18 y1 y2 y3 y4 I = some o → EV E mX10_handles 18 [some (.ref q0), some (.int y1), some (.int y2), some (.int y3), some (.int y4)] [] (h_w σ I) (Option.some (Value.int o.1), h_w σ o.2)) (n : Nat) (y1 : Int32) (y2 : Int32) (y3 : Int32) (y4 : Int32) (I : ev_I) (o : Int32 × ev_I) : cX10_handles_18 q0 K18 n y1 y2 y3 y4 I = some o → EV E mX10_handles 18 [some (.ref q0), some (.int y1), some (.int y2), some (.int y3), some (.int y4)] [] (h_w σ I) (Option.some (Value.int o.1), h_w σ o.2) := by
  intro h
  unfold cX10_handles_18 at h
  refine ev_iload dX10_handles_18 rfl ?_
  refine ev_iload_n dX10_handles_20 rfl ?_
  refine ev_icmp_ge (tgt := 52) dX10_handles_21 (by decide) (fun c2 => ?_) (fun c2 => ?_)
  · have h := ev_ifT h c2
    refine ev_iload_n dX10_handles_52 rfl ?_
    obtain ⟨c3, h⟩ := ev_ckE h
    cases h
    exact er_i dX10_handles_53 rfl (ev_01E c3).1
  · have h := ev_ifF h c2
    refine ev_aload_n dX10_handles_24 rfl (fun _ e => by cases e) ?_
    refine ew_getr0 dX10_handles_25 fX10_7 g0 rfl rfl rfl rfl ?_
    refine ev_iconst (v := (4 : Int32)) dX10_handles_28 (by decide) ?_
    refine ew_iald dX10_handles_29 (shp_a g0 1 rfl) (by decide) ?_
    refine ev_if_le (tgt := 52) dX10_handles_30 (by decide) (fun c4 => ?_) (fun c4 => ?_)
    · have h := ev_ifT h c4
      refine ev_iload_n dX10_handles_52 rfl ?_
      obtain ⟨c5, h⟩ := ev_ckE h
      cases h
      exact er_i dX10_handles_53 rfl (ev_01E c5).1
    · have h := ev_ifF h c4
      refine ev_aload_n dX10_handles_33 rfl (fun _ e => by cases e) ?_
      refine ev_iconst (v := (0 : Int32)) dX10_handles_34 (by decide) ?_
      obtain ⟨z6, hz6, h⟩ := ev_bnE h
      refine ec_Vv (Y := mX10_takesOut) (ci := 9) (As := [.int (0 : Int32)]) (rest := []) dX10_handles_35 kX10_156 oX10_takesOut ⟨Nat.le_of_ble_eq_true rfl, Nat.le_of_ble_eq_true rfl⟩ (by decide) rfl (shp_n g0 0 rfl) (shp_t g0 0 rfl) rfl (Nat.le_of_ble_eq_true rfl) (tX10_takesOut n q0 g0 (0 : Int32) I z6 hz6) rfl ?_
      refine ev_iload_n dX10_handles_38 rfl ?_
      refine ev_if_ne (tgt := 46) dX10_handles_39 (by decide) (fun c7 => ?_) (fun c7 => ?_)
      · have h := ev_ifF h c7
        exact ev_weak (sb_s (sb_s (sb_s (sb_s (sb_s sb_0))))) (tX10_handles_46 q0 g0 K18 k18 n y1 y2 y3 y4 z6 _ h)
      · have h := ev_ifT h c7
        refine ev_aload_n dX10_handles_42 rfl (fun _ e => by cases e) ?_
        obtain ⟨z8, hz8, h⟩ := ev_bnE h
        refine ec_Vv (Y := mX10_isDelivered) (ci := 9) (As := []) (rest := []) dX10_handles_43 kX10_160 oX10_isDelivered ⟨Nat.le_of_ble_eq_true rfl, Nat.le_of_ble_eq_true rfl⟩ (by decide) rfl (shp_n g0 0 rfl) (shp_t g0 0 rfl) rfl (Nat.le_of_ble_eq_true rfl) (tX10_isDelivered n q0 g0  z6 z8 hz8) rfl ?_
        exact ev_weak (sb_s (sb_s (sb_s (sb_s (sb_s sb_0))))) (tX10_handles_46 q0 g0 K18 k18 n y1 y2 y3 y4 z8 _ h)
theorem tlX10_handles_18 {E : ev_N} {σ : ev_H} (q0 : Nat) (g0 : shp tb9 σ q0) : ∀ (n : Nat) (y1 : Int32) (y2 : Int32) (y3 : Int32) (y4 : Int32) (I : ev_I) (o : Int32 × ev_I), lX10_handles_18 q0 n y1 y2 y3 y4 I = some o → EV E mX10_handles 18 [some (.ref q0), some (.int y1), some (.int y2), some (.int y3), some (.int y4)] [] (h_w σ I) (Option.some (Value.int o.1), h_w σ o.2)
  | 0, _, _, _, _, _, _, h => by cases h
  | n + 1, y1, y2, y3, y4, I, o, h => tX10_handles_18 q0 g0 (lX10_handles_18 q0 n) (tlX10_handles_18 q0 g0 n) n y1 y2 y3 y4 I o h
set_option maxRecDepth 100000 in
set_option maxHeartbeats 4000000 in
theorem tX10_handles_14 {E : ev_N} {σ : ev_H} (q0 : Nat) (g0 : shp tb9 σ q0) (n : Nat) (y1 : Int32) (y2 : Int32) (s0 : Int32) (I : ev_I) (o : Int32 × ev_I) : cX10_handles_14 q0 n y1 y2 s0 I = some o → EV E mX10_handles 14 [some (.ref q0), some (.int y1), some (.int y2), none, none] [(.int s0)] (h_w σ I) (Option.some (Value.int o.1), h_w σ o.2) := by
  intro h
  unfold cX10_handles_14 at h
  refine ew_istn (L' := [some (.ref q0), some (.int y1), some (.int y2), some (.int s0), none]) dX10_handles_14 (Nat.le_of_ble_eq_true rfl) rfl ?_
  refine ev_iconst (v := (0 : Int32)) dX10_handles_15 (by decide) ?_
  refine ew_ist (L' := [some (.ref q0), some (.int y1), some (.int y2), some (.int s0), some (.int (0 : Int32))]) dX10_handles_16 (Nat.le_of_ble_eq_true rfl) rfl ?_
  exact ev_weak (sb_s (sb_s (sb_s (sb_s (sb_s sb_0))))) (tlX10_handles_18 q0 g0 n y1 y2 s0 (0 : Int32) I _ h)
set_option maxRecDepth 100000 in
set_option maxHeartbeats 4000000 in
theorem tX10_handles {E : ev_N} {σ : ev_H} (n : Nat) (q0 : Nat) (g0 : shp tb9 σ q0) (x1 : Int32) (x2 : Int32) (I : ev_I) (o : Int32 × ev_I) (h : pX10_handles n q0 x1 x2 I = some o) : ev_T E mX10_handles [.ref q0, .int x1, .int x2] (h_w σ I) (Option.some (Value.int o.1), h_w σ o.2) := by
  unfold pX10_handles at h
  refine ev_met rfl rfl (Nat.le_of_ble_eq_true rfl) (ev_L0 (L' := [some (.ref q0), some (.int x1), some (.int x2), none, none]) rfl ?_)
  refine ev_aload_n dX10_handles_0 rfl (fun _ e => by cases e) ?_
  refine ew_getr0 dX10_handles_1 fX10_7 g0 rfl rfl rfl rfl ?_
  refine ev_iconst (v := (4 : Int32)) dX10_handles_4 (by decide) ?_
  refine ew_iald dX10_handles_5 (shp_a g0 1 rfl) (by decide) ?_
  refine ev_if_le (tgt := 13) dX10_handles_6 (by decide) (fun c9 => ?_) (fun c9 => ?_)
  · have h := ev_ifT h c9
    refine ev_iconst (v := (0 : Int32)) dX10_handles_13 (by decide) ?_
    exact ev_weak (sb_s (sb_s (sb_s (sb_n (sb_n sb_0))))) (tX10_handles_14 q0 g0 n x1 x2 (0 : Int32) I _ h)
  · have h := ev_ifF h c9
    refine ev_iconst (v := (1 : Int32)) dX10_handles_9 (by decide) ?_
    refine ev_goto (tgt := 14) dX10_handles_10 (by decide) ?_
    exact ev_weak (sb_s (sb_s (sb_s (sb_n (sb_n sb_0))))) (tX10_handles_14 q0 g0 n x1 x2 (1 : Int32) I _ h)
-- ChainVotesModel runsLine(I)Z
def cX10_runsLine_65 (q0 : Nat) (n : Nat) (s1 : Int32) (s2 : Int32) (I : ev_I) : Option (Int32 × ev_I) :=
  (pX10_handles n q0 s1 s2 I).bind fun z1 =>
  ev_ck (ev_01 z1.1) <|
  some (z1.1, z1.2)
def cX10_runsLine_53 (q0 : Nat) (n : Nat) (y2 : Int32) (y3 : Int32) (I : ev_I) : Option (Int32 × ev_I) :=
  if y2 = (2 : Int32) then
    cX10_runsLine_65 q0 n y3 (1 : Int32) I
  else
    cX10_runsLine_65 q0 n y3 (0 : Int32) I
def pX10_runsLine (n : Nat) (q0 : Nat) (x1 : Int32) (I : ev_I) : Option (Int32 × ev_I) :=
  ev_ck (ev_in x1 240) <|
  ev_lt (I (q0 + 9) x1.toNatClampNeg) fun v5 =>
  ev_ck (ev_in (x1 + (2 : Int32)) 240) <|
  ev_lt (I (q0 + 9) (x1 + (2 : Int32)).toNatClampNeg) fun v7 =>
  if v5 = 0 then
    ev_ck (ev_in (x1 + (3 : Int32)) 240) <|
    (pX10_propose n q0 v7 (I (q0 + 9) (x1 + (3 : Int32)).toNatClampNeg) I).bind fun z29 =>
    if z29.1 = (-1 : Int32) then
      some ((0 : Int32), z29.2)
    else
      some ((1 : Int32), z29.2)
  else
    if v5 = (1 : Int32) then
      cX10_runsLine_53 q0 n v5 v7 I
    else
      if v5 = (2 : Int32) then
        cX10_runsLine_53 q0 n v5 v7 I
      else
        if v5 = (3 : Int32) then
          (pX10_lose n q0 v7 I).bind fun z26 =>
          if z26.1 = (-1 : Int32) then
            some ((0 : Int32), z26.2)
          else
            some ((1 : Int32), z26.2)
        else
          if v5 = (4 : Int32) then
            (pX10_turn n q0 v7 I).bind fun z24 =>
            ev_ck (ev_01 z24.1) <|
            some (z24.1, z24.2)
          else
            if v5 = (5 : Int32) then
              (pX10_timeout n q0 v7 I).bind fun z22 =>
              ev_ck (ev_01 z22.1) <|
              some (z22.1, z22.2)
            else
              if v5 = (6 : Int32) then
                ev_ck (ev_in (x1 + (1 : Int32)) 240) <|
                ev_ck (ev_in (x1 + (3 : Int32)) 240) <|
                ev_ck (ev_in (x1 + (4 : Int32)) 240) <|
                (pX10_lie n q0 v7 (I (q0 + 9) (x1 + (1 : Int32)).toNatClampNeg) (I (q0 + 9) (x1 + (3 : Int32)).toNatClampNeg) (I (q0 + 9) (x1 + (4 : Int32)).toNatClampNeg) (0 : Int32) I).bind fun z20 =>
                if z20.1 = (-1 : Int32) then
                  some ((0 : Int32), z20.2)
                else
                  some ((1 : Int32), z20.2)
              else
                (pX10_calm n q0 v7 I).bind fun z15 =>
                if z15.1 = (-1 : Int32) then
                  some ((0 : Int32), z15.2)
                else
                  some ((1 : Int32), z15.2)
set_option maxRecDepth 100000 in
set_option maxHeartbeats 4000000 in
theorem tX10_runsLine_65 {E : ev_N} {σ : ev_H} (q0 : Nat) (g0 : shp tb9 σ q0) (n : Nat) (s1 : Int32) (s2 : Int32) (I : ev_I) (o : Int32 × ev_I) : cX10_runsLine_65 q0 n s1 s2 I = some o → EV E mX10_runsLine 65 [none, none, none, none] [(.int s2), (.int s1), (.ref q0)] (h_w σ I) (Option.some (Value.int o.1), h_w σ o.2) := by
  intro h
  unfold cX10_runsLine_65 at h
  obtain ⟨z1, hz1, h⟩ := ev_bnE h
  refine ec_Vi (Y := mX10_handles) (ci := 9) (As := [.int s1, .int s2]) (rest := []) dX10_runsLine_65 kX10_350 oX10_handles ⟨Nat.le_of_ble_eq_true rfl, Nat.le_of_ble_eq_true rfl⟩ (by decide) rfl (shp_n g0 0 rfl) (shp_t g0 0 rfl) rfl (Nat.le_of_ble_eq_true rfl) (tX10_handles n q0 g0 s1 s2 I z1 hz1) rfl ?_
  obtain ⟨c2, h⟩ := ev_ckE h
  cases h
  exact er_i dX10_runsLine_68 rfl (ev_01E c2).1
set_option maxRecDepth 100000 in
set_option maxHeartbeats 4000000 in
theorem tX10_runsLine_53 {E : ev_N} {σ : ev_H} (q0 : Nat) (g0 : shp tb9 σ q0) (n : Nat) (y2 : Int32) (y3 : Int32) (I : ev_I) (o : Int32 × ev_I) : cX10_runsLine_53 q0 n y2 y3 I = some o → EV E mX10_runsLine 53 [some (.ref q0), none, some (.int y2), some (.int y3)] [] (h_w σ I) (Option.some (Value.int o.1), h_w σ o.2) := by
  intro h
  unfold cX10_runsLine_53 at h
  refine ev_aload_n dX10_runsLine_53 rfl (fun _ e => by cases e) ?_
  refine ev_iload_n dX10_runsLine_54 rfl ?_
  refine ev_iload_n dX10_runsLine_55 rfl ?_
  refine ev_iconst (v := (2 : Int32)) dX10_runsLine_56 (by decide) ?_
  refine ev_icmp_ne (tgt := 64) dX10_runsLine_57 (by decide) (fun c3 => ?_) (fun c3 => ?_)
  · have h := ev_ifF h c3
    refine ev_iconst (v := (0 : Int32)) dX10_runsLine_64 (by decide) ?_
    exact ev_weak (sb_n (sb_n (sb_n (sb_n sb_0)))) (tX10_runsLine_65 q0 g0 n y3 (0 : Int32) I _ h)
  · have h := ev_ifT h c3
    refine ev_iconst (v := (1 : Int32)) dX10_runsLine_60 (by decide) ?_
    refine ev_goto (tgt := 65) dX10_runsLine_61 (by decide) ?_
    exact ev_weak (sb_n (sb_n (sb_n (sb_n sb_0)))) (tX10_runsLine_65 q0 g0 n y3 (1 : Int32) I _ h)
set_option maxRecDepth 100000 in
set_option maxHeartbeats 4000000 in
theorem tX10_runsLine {E : ev_N} {σ : ev_H} (n : Nat) (q0 : Nat) (g0 : shp tb9 σ q0) (x1 : Int32) (I : ev_I) (o : Int32 × ev_I) (h : pX10_runsLine n q0 x1 I = some o) : ev_T E mX10_runsLine [.ref q0, .int x1] (h_w σ I) (Option.some (Value.int o.1), h_w σ o.2) := by
  unfold pX10_runsLine at h
  refine ev_met rfl rfl (Nat.le_of_ble_eq_true rfl) (ev_L0 (L' := [some (.ref q0), some (.int x1), none, none]) rfl ?_)
  refine ev_aload_n dX10_runsLine_0 rfl (fun _ e => by cases e) ?_
  refine ew_getr0 dX10_runsLine_1 fX10_38 g0 rfl rfl rfl rfl ?_
  refine ev_iload_n dX10_runsLine_4 rfl ?_
  obtain ⟨c4, h⟩ := ev_ckE h
  refine ew_iald dX10_runsLine_5 (shp_a g0 9 rfl) c4 ?_
  obtain ⟨v5, ev5, h⟩ := ev_ltE h
  refine ew_nm ev5 ?_
  refine ew_istn (L' := [some (.ref q0), some (.int x1), some (.int v5), none]) dX10_runsLine_6 (Nat.le_of_ble_eq_true rfl) rfl ?_
  refine ev_aload_n dX10_runsLine_7 rfl (fun _ e => by cases e) ?_
  refine ew_getr0 dX10_runsLine_8 fX10_38 g0 rfl rfl rfl rfl ?_
  refine ev_iload_n dX10_runsLine_11 rfl ?_
  refine ev_iconst (v := (2 : Int32)) dX10_runsLine_12 (by decide) ?_
  refine ev_iadd dX10_runsLine_13 ?_
  obtain ⟨c6, h⟩ := ev_ckE h
  refine ew_iald dX10_runsLine_14 (shp_a g0 9 rfl) c6 ?_
  obtain ⟨v7, ev7, h⟩ := ev_ltE h
  refine ew_nm ev7 ?_
  refine ew_istn (L' := [some (.ref q0), some (.int x1), some (.int v5), some (.int v7)]) dX10_runsLine_15 (Nat.le_of_ble_eq_true rfl) rfl ?_
  refine ev_iload_n dX10_runsLine_16 rfl ?_
  refine ev_if_ne (tgt := 43) dX10_runsLine_17 (by decide) (fun c8 => ?_) (fun c8 => ?_)
  · have h := ev_ifF h c8
    refine ev_iload_n dX10_runsLine_43 rfl ?_
    refine ev_iconst (v := (1 : Int32)) dX10_runsLine_44 (by decide) ?_
    refine ev_icmp_eq (tgt := 53) dX10_runsLine_45 (by decide) (fun c9 => ?_) (fun c9 => ?_)
    · have h := ev_ifT h c9
      exact ev_weak (sb_s (sb_n (sb_s (sb_s sb_0)))) (tX10_runsLine_53 q0 g0 n v5 v7 I _ h)
    · have h := ev_ifF h c9
      refine ev_iload_n dX10_runsLine_48 rfl ?_
      refine ev_iconst (v := (2 : Int32)) dX10_runsLine_49 (by decide) ?_
      refine ev_icmp_ne (tgt := 69) dX10_runsLine_50 (by decide) (fun c10 => ?_) (fun c10 => ?_)
      · have h := ev_ifF h c10
        refine ev_iload_n dX10_runsLine_69 rfl ?_
        refine ev_iconst (v := (3 : Int32)) dX10_runsLine_70 (by decide) ?_
        refine ev_icmp_ne (tgt := 89) dX10_runsLine_71 (by decide) (fun c11 => ?_) (fun c11 => ?_)
        · have h := ev_ifF h c11
          refine ev_iload_n dX10_runsLine_89 rfl ?_
          refine ev_iconst (v := (4 : Int32)) dX10_runsLine_90 (by decide) ?_
          refine ev_icmp_ne (tgt := 100) dX10_runsLine_91 (by decide) (fun c12 => ?_) (fun c12 => ?_)
          · have h := ev_ifF h c12
            refine ev_iload_n dX10_runsLine_100 rfl ?_
            refine ev_iconst (v := (5 : Int32)) dX10_runsLine_101 (by decide) ?_
            refine ev_icmp_ne (tgt := 111) dX10_runsLine_102 (by decide) (fun c13 => ?_) (fun c13 => ?_)
            · have h := ev_ifF h c13
              refine ev_iload_n dX10_runsLine_111 rfl ?_
              refine ev_bipush (v := (6 : Int32)) dX10_runsLine_112 (by decide) ?_
              refine ev_icmp_ne (tgt := 157) dX10_runsLine_114 (by decide) (fun c14 => ?_) (fun c14 => ?_)
              · have h := ev_ifF h c14
                refine ev_aload_n dX10_runsLine_157 rfl (fun _ e => by cases e) ?_
                refine ev_iload_n dX10_runsLine_158 rfl ?_
                obtain ⟨z15, hz15, h⟩ := ev_bnE h
                refine ec_Vi (Y := mX10_calm) (ci := 9) (As := [.int v7]) (rest := []) dX10_runsLine_159 kX10_366 oX10_calm ⟨Nat.le_of_ble_eq_true rfl, Nat.le_of_ble_eq_true rfl⟩ (by decide) rfl (shp_n g0 0 rfl) (shp_t g0 0 rfl) rfl (Nat.le_of_ble_eq_true rfl) (tX10_calm n q0 g0 v7 I z15 hz15) rfl ?_
                refine ev_iconst (v := (-1 : Int32)) dX10_runsLine_162 (by decide) ?_
                refine ev_icmp_eq (tgt := 170) dX10_runsLine_163 (by decide) (fun c16 => ?_) (fun c16 => ?_)
                · have h := ev_ifT h c16
                  refine ev_iconst (v := (0 : Int32)) dX10_runsLine_170 (by decide) ?_
                  cases h
                  exact er_i dX10_runsLine_171 rfl rfl
                · have h := ev_ifF h c16
                  refine ev_iconst (v := (1 : Int32)) dX10_runsLine_166 (by decide) ?_
                  refine ev_goto (tgt := 171) dX10_runsLine_167 (by decide) ?_
                  cases h
                  exact er_i dX10_runsLine_171 rfl rfl
              · have h := ev_ifT h c14
                refine ev_aload_n dX10_runsLine_117 rfl (fun _ e => by cases e) ?_
                refine ev_iload_n dX10_runsLine_118 rfl ?_
                refine ev_aload_n dX10_runsLine_119 rfl (fun _ e => by cases e) ?_
                refine ew_getr0 dX10_runsLine_120 fX10_38 g0 rfl rfl rfl rfl ?_
                refine ev_iload_n dX10_runsLine_123 rfl ?_
                refine ev_iconst (v := (1 : Int32)) dX10_runsLine_124 (by decide) ?_
                refine ev_iadd dX10_runsLine_125 ?_
                obtain ⟨c17, h⟩ := ev_ckE h
                refine ew_iald dX10_runsLine_126 (shp_a g0 9 rfl) c17 ?_
                refine ev_aload_n dX10_runsLine_127 rfl (fun _ e => by cases e) ?_
                refine ew_getr0 dX10_runsLine_128 fX10_38 g0 rfl rfl rfl rfl ?_
                refine ev_iload_n dX10_runsLine_131 rfl ?_
                refine ev_iconst (v := (3 : Int32)) dX10_runsLine_132 (by decide) ?_
                refine ev_iadd dX10_runsLine_133 ?_
                obtain ⟨c18, h⟩ := ev_ckE h
                refine ew_iald dX10_runsLine_134 (shp_a g0 9 rfl) c18 ?_
                refine ev_aload_n dX10_runsLine_135 rfl (fun _ e => by cases e) ?_
                refine ew_getr0 dX10_runsLine_136 fX10_38 g0 rfl rfl rfl rfl ?_
                refine ev_iload_n dX10_runsLine_139 rfl ?_
                refine ev_iconst (v := (4 : Int32)) dX10_runsLine_140 (by decide) ?_
                refine ev_iadd dX10_runsLine_141 ?_
                obtain ⟨c19, h⟩ := ev_ckE h
                refine ew_iald dX10_runsLine_142 (shp_a g0 9 rfl) c19 ?_
                refine ev_iconst (v := (0 : Int32)) dX10_runsLine_143 (by decide) ?_
                obtain ⟨z20, hz20, h⟩ := ev_bnE h
                refine ec_Vi (Y := mX10_lie) (ci := 9) (As := [.int v7, .int (I (q0 + 9) (x1 + (1 : Int32)).toNatClampNeg), .int (I (q0 + 9) (x1 + (3 : Int32)).toNatClampNeg), .int (I (q0 + 9) (x1 + (4 : Int32)).toNatClampNeg), .int (0 : Int32)]) (rest := []) dX10_runsLine_144 kX10_363 oX10_lie ⟨Nat.le_of_ble_eq_true rfl, Nat.le_of_ble_eq_true rfl⟩ (by decide) rfl (shp_n g0 0 rfl) (shp_t g0 0 rfl) rfl (Nat.le_of_ble_eq_true rfl) (tX10_lie n q0 g0 v7 (I (q0 + 9) (x1 + (1 : Int32)).toNatClampNeg) (I (q0 + 9) (x1 + (3 : Int32)).toNatClampNeg) (I (q0 + 9) (x1 + (4 : Int32)).toNatClampNeg) (0 : Int32) I z20 hz20) rfl ?_
                refine ev_iconst (v := (-1 : Int32)) dX10_runsLine_147 (by decide) ?_
                refine ev_icmp_eq (tgt := 155) dX10_runsLine_148 (by decide) (fun c21 => ?_) (fun c21 => ?_)
                · have h := ev_ifT h c21
                  refine ev_iconst (v := (0 : Int32)) dX10_runsLine_155 (by decide) ?_
                  cases h
                  exact er_i dX10_runsLine_156 rfl rfl
                · have h := ev_ifF h c21
                  refine ev_iconst (v := (1 : Int32)) dX10_runsLine_151 (by decide) ?_
                  refine ev_goto (tgt := 156) dX10_runsLine_152 (by decide) ?_
                  cases h
                  exact er_i dX10_runsLine_156 rfl rfl
            · have h := ev_ifT h c13
              refine ev_aload_n dX10_runsLine_105 rfl (fun _ e => by cases e) ?_
              refine ev_iload_n dX10_runsLine_106 rfl ?_
              obtain ⟨z22, hz22, h⟩ := ev_bnE h
              refine ec_Vi (Y := mX10_timeout) (ci := 9) (As := [.int v7]) (rest := []) dX10_runsLine_107 kX10_360 oX10_timeout ⟨Nat.le_of_ble_eq_true rfl, Nat.le_of_ble_eq_true rfl⟩ (by decide) rfl (shp_n g0 0 rfl) (shp_t g0 0 rfl) rfl (Nat.le_of_ble_eq_true rfl) (tX10_timeout n q0 g0 v7 I z22 hz22) rfl ?_
              obtain ⟨c23, h⟩ := ev_ckE h
              cases h
              exact er_i dX10_runsLine_110 rfl (ev_01E c23).1
          · have h := ev_ifT h c12
            refine ev_aload_n dX10_runsLine_94 rfl (fun _ e => by cases e) ?_
            refine ev_iload_n dX10_runsLine_95 rfl ?_
            obtain ⟨z24, hz24, h⟩ := ev_bnE h
            refine ec_Vi (Y := mX10_turn) (ci := 9) (As := [.int v7]) (rest := []) dX10_runsLine_96 kX10_357 oX10_turn ⟨Nat.le_of_ble_eq_true rfl, Nat.le_of_ble_eq_true rfl⟩ (by decide) rfl (shp_n g0 0 rfl) (shp_t g0 0 rfl) rfl (Nat.le_of_ble_eq_true rfl) (tX10_turn n q0 g0 v7 I z24 hz24) rfl ?_
            obtain ⟨c25, h⟩ := ev_ckE h
            cases h
            exact er_i dX10_runsLine_99 rfl (ev_01E c25).1
        · have h := ev_ifT h c11
          refine ev_aload_n dX10_runsLine_74 rfl (fun _ e => by cases e) ?_
          refine ev_iload_n dX10_runsLine_75 rfl ?_
          obtain ⟨z26, hz26, h⟩ := ev_bnE h
          refine ec_Vi (Y := mX10_lose) (ci := 9) (As := [.int v7]) (rest := []) dX10_runsLine_76 kX10_354 oX10_lose ⟨Nat.le_of_ble_eq_true rfl, Nat.le_of_ble_eq_true rfl⟩ (by decide) rfl (shp_n g0 0 rfl) (shp_t g0 0 rfl) rfl (Nat.le_of_ble_eq_true rfl) (tX10_lose n q0 g0 v7 I z26 hz26) rfl ?_
          refine ev_iconst (v := (-1 : Int32)) dX10_runsLine_79 (by decide) ?_
          refine ev_icmp_eq (tgt := 87) dX10_runsLine_80 (by decide) (fun c27 => ?_) (fun c27 => ?_)
          · have h := ev_ifT h c27
            refine ev_iconst (v := (0 : Int32)) dX10_runsLine_87 (by decide) ?_
            cases h
            exact er_i dX10_runsLine_88 rfl rfl
          · have h := ev_ifF h c27
            refine ev_iconst (v := (1 : Int32)) dX10_runsLine_83 (by decide) ?_
            refine ev_goto (tgt := 88) dX10_runsLine_84 (by decide) ?_
            cases h
            exact er_i dX10_runsLine_88 rfl rfl
      · have h := ev_ifT h c10
        exact ev_weak (sb_s (sb_n (sb_s (sb_s sb_0)))) (tX10_runsLine_53 q0 g0 n v5 v7 I _ h)
  · have h := ev_ifT h c8
    refine ev_aload_n dX10_runsLine_20 rfl (fun _ e => by cases e) ?_
    refine ev_iload_n dX10_runsLine_21 rfl ?_
    refine ev_aload_n dX10_runsLine_22 rfl (fun _ e => by cases e) ?_
    refine ew_getr0 dX10_runsLine_23 fX10_38 g0 rfl rfl rfl rfl ?_
    refine ev_iload_n dX10_runsLine_26 rfl ?_
    refine ev_iconst (v := (3 : Int32)) dX10_runsLine_27 (by decide) ?_
    refine ev_iadd dX10_runsLine_28 ?_
    obtain ⟨c28, h⟩ := ev_ckE h
    refine ew_iald dX10_runsLine_29 (shp_a g0 9 rfl) c28 ?_
    obtain ⟨z29, hz29, h⟩ := ev_bnE h
    refine ec_Vi (Y := mX10_propose) (ci := 9) (As := [.int v7, .int (I (q0 + 9) (x1 + (3 : Int32)).toNatClampNeg)]) (rest := []) dX10_runsLine_30 kX10_347 oX10_propose ⟨Nat.le_of_ble_eq_true rfl, Nat.le_of_ble_eq_true rfl⟩ (by decide) rfl (shp_n g0 0 rfl) (shp_t g0 0 rfl) rfl (Nat.le_of_ble_eq_true rfl) (tX10_propose n q0 g0 v7 (I (q0 + 9) (x1 + (3 : Int32)).toNatClampNeg) I z29 hz29) rfl ?_
    refine ev_iconst (v := (-1 : Int32)) dX10_runsLine_33 (by decide) ?_
    refine ev_icmp_eq (tgt := 41) dX10_runsLine_34 (by decide) (fun c30 => ?_) (fun c30 => ?_)
    · have h := ev_ifT h c30
      refine ev_iconst (v := (0 : Int32)) dX10_runsLine_41 (by decide) ?_
      cases h
      exact er_i dX10_runsLine_42 rfl rfl
    · have h := ev_ifF h c30
      refine ev_iconst (v := (1 : Int32)) dX10_runsLine_37 (by decide) ?_
      refine ev_goto (tgt := 42) dX10_runsLine_38 (by decide) ?_
      cases h
      exact er_i dX10_runsLine_42 rfl rfl
-- ChainVotesModel run(I)I
def cX10_run_61 (q0 : Nat) (K22 : Int32 → Int32 → Int32 → ev_I → Option (Int32 × ev_I)) (n : Nat) (y1 : Int32) (y2 : Int32) (y3 : Int32) (I : ev_I) : Option (Int32 × ev_I) :=
  ev_lt (ev_u2 I (q0 + 1) (9 : Int32).toNatClampNeg ((I (q0 + 1) (9 : Int32).toNatClampNeg) + (1 : Int32))) fun I1 =>
  ev_lt (y3 + (1 : Int32)) fun v2 =>
  K22 y1 y2 v2 I1
def cX10_run_22 (q0 : Nat) (K22 : Int32 → Int32 → Int32 → ev_I → Option (Int32 × ev_I)) (n : Nat) (y1 : Int32) (y2 : Int32) (y3 : Int32) (I : ev_I) : Option (Int32 × ev_I) :=
  if y1 ≤ y3 then
    some (y2, I)
  else
    if (I q0 18) ≤ (I (q0 + 1) (9 : Int32).toNatClampNeg) then
      some (y2, I)
    else
      (pX10_runsLine n q0 ((5 : Int32) * (I (q0 + 1) (9 : Int32).toNatClampNeg)) I).bind fun z5 =>
      if z5.1 = 0 then
        cX10_run_61 q0 K22 n y1 y2 y3 z5.2
      else
        ev_lt (y2 + (1 : Int32)) fun v7 =>
        cX10_run_61 q0 K22 n y1 v7 y3 z5.2
def lX10_run_22 (q0 : Nat) : Nat → Int32 → Int32 → Int32 → ev_I → Option (Int32 × ev_I)
  | 0, _, _, _, _ => none
  | n + 1, y1, y2, y3, I => cX10_run_22 q0 (lX10_run_22 q0 n) n y1 y2 y3 I
def pX10_run (n : Nat) (q0 : Nat) (x1 : Int32) (I : ev_I) : Option (Int32 × ev_I) :=
  ev_lt (ev_u2 I q0 0 (0 : Int32)) fun I8 =>
  (pX10_isIn n q0 x1 (1 : Int32) (24 : Int32) I8).bind fun z9 =>
  if z9 = 0 then
    some ((-1 : Int32), I8)
  else
    lX10_run_22 q0 n x1 (0 : Int32) (0 : Int32) I8
set_option maxRecDepth 100000 in
set_option maxHeartbeats 4000000 in
theorem tX10_run_61 {E : ev_N} {σ : ev_H} (q0 : Nat) (g0 : shp tb9 σ q0) (K22 : Int32 → Int32 → Int32 → ev_I → Option (Int32 × ev_I)) (k22 : ∀ (y1 : Int32) (y2 : Int32) (y3 : Int32) (I : ev_I) (o : Int32 × ev_I), K22 y1 y2 y3 I = some o → EV E mX10_run 22 [some (.ref q0), some (.int y1), some (.int y2), some (.int y3)] [] (h_w σ I) (Option.some (Value.int o.1), h_w σ o.2)) (n : Nat) (y1 : Int32) (y2 : Int32) (y3 : Int32) (I : ev_I) (o : Int32 × ev_I) : cX10_run_61 q0 K22 n y1 y2 y3 I = some o → EV E mX10_run 61 [some (.ref q0), some (.int y1), some (.int y2), some (.int y3)] [] (h_w σ I) (Option.some (Value.int o.1), h_w σ o.2) := by
  intro h
  unfold cX10_run_61 at h
  refine ev_aload_n dX10_run_61 rfl (fun _ e => by cases e) ?_
  refine ew_getr0 dX10_run_62 fX10_7 g0 rfl rfl rfl rfl ?_
  refine ev_bipush (v := (9 : Int32)) dX10_run_65 (by decide) ?_
  refine ev_aload_n dX10_run_67 rfl (fun _ e => by cases e) ?_
  refine ew_getr0 dX10_run_68 fX10_7 g0 rfl rfl rfl rfl ?_
  refine ev_bipush (v := (9 : Int32)) dX10_run_71 (by decide) ?_
  refine ew_iald dX10_run_73 (shp_a g0 1 rfl) (by decide) ?_
  refine ev_iconst (v := (1 : Int32)) dX10_run_74 (by decide) ?_
  refine ev_iadd dX10_run_75 ?_
  obtain ⟨I1, eI1, h⟩ := ev_ltE h
  refine ew_iast dX10_run_76 (shp_a g0 1 rfl) (by decide) (ew_nh eI1 ?_)
  obtain ⟨v2, ev2, h⟩ := ev_ltE h
  refine ew_iinc (L' := [some (.ref q0), some (.int y1), some (.int y2), some (.int v2)]) dX10_run_77 (Nat.le_of_ble_eq_true rfl) rfl (by decide) ev2 rfl ?_
  refine ev_goto (tgt := 22) dX10_run_80 (by decide) ?_
  exact ev_weak (sb_s (sb_s (sb_s (sb_s sb_0)))) (k22 y1 y2 v2 I1 _ h)
set_option maxRecDepth 100000 in
set_option maxHeartbeats 4000000 in
theorem tX10_run_22 {E : ev_N} {σ : ev_H} (q0 : Nat) (g0 : shp tb9 σ q0) (K22 : Int32 → Int32 → Int32 → ev_I → Option (Int32 × ev_I)) (k22 : ∀ (y1 : Int32) (y2 : Int32) (y3 : Int32) (I : ev_I) (o : Int32 × ev_I), K22 y1 y2 y3 I = some o → EV E mX10_run 22 [some (.ref q0), some (.int y1), some (.int y2), some (.int y3)] [] (h_w σ I) (Option.some (Value.int o.1), h_w σ o.2)) (n : Nat) (y1 : Int32) (y2 : Int32) (y3 : Int32) (I : ev_I) (o : Int32 × ev_I) : cX10_run_22 q0 K22 n y1 y2 y3 I = some o → EV E mX10_run 22 [some (.ref q0), some (.int y1), some (.int y2), some (.int y3)] [] (h_w σ I) (Option.some (Value.int o.1), h_w σ o.2) := by
  intro h
  unfold cX10_run_22 at h
  refine ev_iload_n dX10_run_22 rfl ?_
  refine ev_iload_n dX10_run_23 rfl ?_
  refine ev_icmp_ge (tgt := 83) dX10_run_24 (by decide) (fun c3 => ?_) (fun c3 => ?_)
  · have h := ev_ifT h c3
    refine ev_iload_n dX10_run_83 rfl ?_
    cases h
    exact er_i dX10_run_84 rfl rfl
  · have h := ev_ifF h c3
    refine ev_aload_n dX10_run_27 rfl (fun _ e => by cases e) ?_
    refine ew_getr0 dX10_run_28 fX10_7 g0 rfl rfl rfl rfl ?_
    refine ev_bipush (v := (9 : Int32)) dX10_run_31 (by decide) ?_
    refine ew_iald dX10_run_33 (shp_a g0 1 rfl) (by decide) ?_
    refine ev_aload_n dX10_run_34 rfl (fun _ e => by cases e) ?_
    refine ew_get0 dX10_run_35 fX10_272 g0 rfl rfl rfl ?_
    refine ev_icmp_ge (tgt := 83) dX10_run_38 (by decide) (fun c4 => ?_) (fun c4 => ?_)
    · have h := ev_ifT h c4
      refine ev_iload_n dX10_run_83 rfl ?_
      cases h
      exact er_i dX10_run_84 rfl rfl
    · have h := ev_ifF h c4
      refine ev_aload_n dX10_run_41 rfl (fun _ e => by cases e) ?_
      refine ev_iconst (v := (5 : Int32)) dX10_run_42 (by decide) ?_
      refine ev_aload_n dX10_run_43 rfl (fun _ e => by cases e) ?_
      refine ew_getr0 dX10_run_44 fX10_7 g0 rfl rfl rfl rfl ?_
      refine ev_bipush (v := (9 : Int32)) dX10_run_47 (by decide) ?_
      refine ew_iald dX10_run_49 (shp_a g0 1 rfl) (by decide) ?_
      refine ev_imul dX10_run_50 ?_
      obtain ⟨z5, hz5, h⟩ := ev_bnE h
      refine ec_Vi (Y := mX10_runsLine) (ci := 9) (As := [.int ((5 : Int32) * (I (q0 + 1) (9 : Int32).toNatClampNeg))]) (rest := []) dX10_run_51 kX10_369 oX10_runsLine ⟨Nat.le_of_ble_eq_true rfl, Nat.le_of_ble_eq_true rfl⟩ (by decide) rfl (shp_n g0 0 rfl) (shp_t g0 0 rfl) rfl (Nat.le_of_ble_eq_true rfl) (tX10_runsLine n q0 g0 ((5 : Int32) * (I (q0 + 1) (9 : Int32).toNatClampNeg)) I z5 hz5) rfl ?_
      refine ev_if_eq (tgt := 61) dX10_run_54 (by decide) (fun c6 => ?_) (fun c6 => ?_)
      · have h := ev_ifT h c6
        exact ev_weak (sb_s (sb_s (sb_s (sb_s sb_0)))) (tX10_run_61 q0 g0 K22 k22 n y1 y2 y3 z5.2 _ h)
      · have h := ev_ifF h c6
        refine ev_iload_n dX10_run_57 rfl ?_
        refine ev_iconst (v := (1 : Int32)) dX10_run_58 (by decide) ?_
        refine ev_iadd dX10_run_59 ?_
        obtain ⟨v7, ev7, h⟩ := ev_ltE h
        refine ew_nm ev7 ?_
        refine ew_istn (L' := [some (.ref q0), some (.int y1), some (.int v7), some (.int y3)]) dX10_run_60 (Nat.le_of_ble_eq_true rfl) rfl ?_
        exact ev_weak (sb_s (sb_s (sb_s (sb_s sb_0)))) (tX10_run_61 q0 g0 K22 k22 n y1 v7 y3 z5.2 _ h)
theorem tlX10_run_22 {E : ev_N} {σ : ev_H} (q0 : Nat) (g0 : shp tb9 σ q0) : ∀ (n : Nat) (y1 : Int32) (y2 : Int32) (y3 : Int32) (I : ev_I) (o : Int32 × ev_I), lX10_run_22 q0 n y1 y2 y3 I = some o → EV E mX10_run 22 [some (.ref q0), some (.int y1), some (.int y2), some (.int y3)] [] (h_w σ I) (Option.some (Value.int o.1), h_w σ o.2)
  | 0, _, _, _, _, _, h => by cases h
  | n + 1, y1, y2, y3, I, o, h => tX10_run_22 q0 g0 (lX10_run_22 q0 n) (tlX10_run_22 q0 g0 n) n y1 y2 y3 I o h
set_option maxRecDepth 100000 in
set_option maxHeartbeats 4000000 in
theorem tX10_run {E : ev_N} {σ : ev_H} (n : Nat) (q0 : Nat) (g0 : shp tb9 σ q0) (x1 : Int32) (I : ev_I) (o : Int32 × ev_I) (h : pX10_run n q0 x1 I = some o) : ev_T E mX10_run [.ref q0, .int x1] (h_w σ I) (Option.some (Value.int o.1), h_w σ o.2) := by
  unfold pX10_run at h
  refine ev_met rfl rfl (Nat.le_of_ble_eq_true rfl) (ev_L0 (L' := [some (.ref q0), some (.int x1), none, none]) rfl ?_)
  refine ev_aload_n dX10_run_0 rfl (fun _ e => by cases e) ?_
  refine ev_iconst (v := (0 : Int32)) dX10_run_1 (by decide) ?_
  obtain ⟨I8, eI8, h⟩ := ev_ltE h
  refine ew_put0 dX10_run_2 fX10_44 g0 rfl rfl rfl rfl rfl rfl (ew_nh eI8 ?_)
  refine ev_aload_n dX10_run_5 rfl (fun _ e => by cases e) ?_
  refine ev_iload_n dX10_run_6 rfl ?_
  refine ev_iconst (v := (1 : Int32)) dX10_run_7 (by decide) ?_
  refine ev_bipush (v := (24 : Int32)) dX10_run_8 (by decide) ?_
  obtain ⟨z9, hz9, h⟩ := ev_bnE h
  refine ec_Vi (Y := mX10_isIn) (ci := 9) (As := [.int x1, .int (1 : Int32), .int (24 : Int32)]) (rest := []) dX10_run_10 kX10_61 oX10_isIn ⟨Nat.le_of_ble_eq_true rfl, Nat.le_of_ble_eq_true rfl⟩ (by decide) rfl (shp_n g0 0 rfl) (shp_t g0 0 rfl) rfl (Nat.le_of_ble_eq_true rfl) (tX10_isIn n q0 g0 x1 (1 : Int32) (24 : Int32) I8 z9 hz9) rfl ?_
  refine ev_if_ne (tgt := 18) dX10_run_13 (by decide) (fun c10 => ?_) (fun c10 => ?_)
  · have h := ev_ifF h c10
    refine ev_iconst (v := (0 : Int32)) dX10_run_18 (by decide) ?_
    refine ew_istn (L' := [some (.ref q0), some (.int x1), some (.int (0 : Int32)), none]) dX10_run_19 (Nat.le_of_ble_eq_true rfl) rfl ?_
    refine ev_iconst (v := (0 : Int32)) dX10_run_20 (by decide) ?_
    refine ew_istn (L' := [some (.ref q0), some (.int x1), some (.int (0 : Int32)), some (.int (0 : Int32))]) dX10_run_21 (Nat.le_of_ble_eq_true rfl) rfl ?_
    exact ev_weak (sb_s (sb_s (sb_s (sb_s sb_0)))) (tlX10_run_22 q0 g0 n x1 (0 : Int32) (0 : Int32) I8 _ h)
  · have h := ev_ifT h c10
    refine ev_iconst (v := (-1 : Int32)) dX10_run_16 (by decide) ?_
    cases h
    exact er_i dX10_run_17 rfl rfl
-- ChainVotesModel image(Z)Z
def cX10_image_63 (q0 : Nat) (K25 : Int32 → Int32 → ev_I → Option (Int32 × ev_I)) (n : Nat) (y1 : Int32) (y2 : Int32) (I : ev_I) : Option (Int32 × ev_I) :=
  ev_lt (y2 + (1 : Int32)) fun v1 =>
  K25 y1 v1 I
def cX10_image_116 (q0 : Nat) (K71 : Int32 → Int32 → ev_I → Option (Int32 × ev_I)) (n : Nat) (y1 : Int32) (y2 : Int32) (I : ev_I) : Option (Int32 × ev_I) :=
  ev_lt (y2 + (1 : Int32)) fun v2 =>
  K71 y1 v2 I
def cX10_image_71 (q0 : Nat) (K71 : Int32 → Int32 → ev_I → Option (Int32 × ev_I)) (n : Nat) (y1 : Int32) (y2 : Int32) (I : ev_I) : Option (Int32 × ev_I) :=
  if (120 : Int32) ≤ y2 then
    if y1 = 0 then
      ev_lt (ev_u2 I q0 18 (I (q0 + 10) (6130 : Int32).toNatClampNeg)) fun I5 =>
      some ((1 : Int32), I5)
    else
      ev_lt (ev_u2 I (q0 + 10) (6130 : Int32).toNatClampNeg (I q0 18)) fun I6 =>
      some ((1 : Int32), I6)
  else
    if y1 = 0 then
      ev_ck (ev_in ((6010 : Int32) + y2) 6131) <|
      ev_ck (ev_in y2 240) <|
      ev_lt (ev_u2 I (q0 + 9) y2.toNatClampNeg (I (q0 + 10) ((6010 : Int32) + y2).toNatClampNeg)) fun I10 =>
      cX10_image_116 q0 K71 n y1 y2 I10
    else
      ev_ck (ev_in y2 240) <|
      ev_ck (ev_in ((6010 : Int32) + y2) 6131) <|
      ev_lt (ev_u2 I (q0 + 10) ((6010 : Int32) + y2).toNatClampNeg (I (q0 + 9) y2.toNatClampNeg)) fun I13 =>
      cX10_image_116 q0 K71 n y1 y2 I13
def lX10_image_71 (q0 : Nat) : Nat → Int32 → Int32 → ev_I → Option (Int32 × ev_I)
  | 0, _, _, _ => none
  | n + 1, y1, y2, I => cX10_image_71 q0 (lX10_image_71 q0 n) n y1 y2 I
def cX10_image_25 (q0 : Nat) (K25 : Int32 → Int32 → ev_I → Option (Int32 × ev_I)) (n : Nat) (y1 : Int32) (y2 : Int32) (I : ev_I) : Option (Int32 × ev_I) :=
  if (6010 : Int32) ≤ y2 then
    lX10_image_71 q0 n y1 (0 : Int32) I
  else
    if y1 = 0 then
      ev_ck (ev_in y2 6131) <|
      ev_ck (ev_in y2 6010) <|
      ev_lt (ev_u2 I (q0 + 1) y2.toNatClampNeg (I (q0 + 10) y2.toNatClampNeg)) fun I18 =>
      cX10_image_63 q0 K25 n y1 y2 I18
    else
      ev_ck (ev_in y2 6010) <|
      ev_ck (ev_in y2 6131) <|
      ev_lt (ev_u2 I (q0 + 10) y2.toNatClampNeg (I (q0 + 1) y2.toNatClampNeg)) fun I21 =>
      cX10_image_63 q0 K25 n y1 y2 I21
def lX10_image_25 (q0 : Nat) : Nat → Int32 → Int32 → ev_I → Option (Int32 × ev_I)
  | 0, _, _, _ => none
  | n + 1, y1, y2, I => cX10_image_25 q0 (lX10_image_25 q0 n) n y1 y2 I
def cX10_image_18 (q0 : Nat) (n : Nat) (y1 : Int32) (I : ev_I) : Option (Int32 × ev_I) :=
  ev_lt (ev_u2 I q0 20 (1 : Int32)) fun I22 =>
  lX10_image_25 q0 n y1 (0 : Int32) I22
def pX10_image (n : Nat) (q0 : Nat) (x1 : Int32) (I : ev_I) : Option (Int32 × ev_I) :=
  ev_lt (ev_u2 I q0 0 (0 : Int32)) fun I23 =>
  if x1 = 0 then
    if (I23 q0 20) = 0 then
      some ((0 : Int32), I23)
    else
      cX10_image_18 q0 n x1 I23
  else
    cX10_image_18 q0 n x1 I23
set_option maxRecDepth 100000 in
set_option maxHeartbeats 4000000 in
theorem tX10_image_63 {E : ev_N} {σ : ev_H} (q0 : Nat) (g0 : shp tb9 σ q0) (K25 : Int32 → Int32 → ev_I → Option (Int32 × ev_I)) (k25 : ∀ (y1 : Int32) (y2 : Int32) (I : ev_I) (o : Int32 × ev_I), K25 y1 y2 I = some o → EV E mX10_image 25 [some (.ref q0), some (.int y1), some (.int y2)] [] (h_w σ I) (Option.some (Value.int o.1), h_w σ o.2)) (n : Nat) (y1 : Int32) (y2 : Int32) (I : ev_I) (o : Int32 × ev_I) : cX10_image_63 q0 K25 n y1 y2 I = some o → EV E mX10_image 63 [some (.ref q0), some (.int y1), some (.int y2)] [] (h_w σ I) (Option.some (Value.int o.1), h_w σ o.2) := by
  intro h
  unfold cX10_image_63 at h
  obtain ⟨v1, ev1, h⟩ := ev_ltE h
  refine ew_iinc (L' := [some (.ref q0), some (.int y1), some (.int v1)]) dX10_image_63 (Nat.le_of_ble_eq_true rfl) rfl (by decide) ev1 rfl ?_
  refine ev_goto (tgt := 25) dX10_image_66 (by decide) ?_
  exact ev_weak (sb_s (sb_s (sb_s sb_0))) (k25 y1 v1 I _ h)
set_option maxRecDepth 100000 in
set_option maxHeartbeats 4000000 in
theorem tX10_image_116 {E : ev_N} {σ : ev_H} (q0 : Nat) (g0 : shp tb9 σ q0) (K71 : Int32 → Int32 → ev_I → Option (Int32 × ev_I)) (k71 : ∀ (y1 : Int32) (y2 : Int32) (I : ev_I) (o : Int32 × ev_I), K71 y1 y2 I = some o → EV E mX10_image 71 [some (.ref q0), some (.int y1), some (.int y2)] [] (h_w σ I) (Option.some (Value.int o.1), h_w σ o.2)) (n : Nat) (y1 : Int32) (y2 : Int32) (I : ev_I) (o : Int32 × ev_I) : cX10_image_116 q0 K71 n y1 y2 I = some o → EV E mX10_image 116 [some (.ref q0), some (.int y1), some (.int y2)] [] (h_w σ I) (Option.some (Value.int o.1), h_w σ o.2) := by
  intro h
  unfold cX10_image_116 at h
  obtain ⟨v2, ev2, h⟩ := ev_ltE h
  refine ew_iinc (L' := [some (.ref q0), some (.int y1), some (.int v2)]) dX10_image_116 (Nat.le_of_ble_eq_true rfl) rfl (by decide) ev2 rfl ?_
  refine ev_goto (tgt := 71) dX10_image_119 (by decide) ?_
  exact ev_weak (sb_s (sb_s (sb_s sb_0))) (k71 y1 v2 I _ h)
set_option maxRecDepth 100000 in
set_option maxHeartbeats 4000000 in
theorem tX10_image_71 {E : ev_N} {σ : ev_H} (q0 : Nat) (g0 : shp tb9 σ q0) (K71 : Int32 → Int32 → ev_I → Option (Int32 × ev_I)) (k71 : ∀ (y1 : Int32) (y2 : Int32) (I : ev_I) (o : Int32 × ev_I), K71 y1 y2 I = some o → EV E mX10_image 71 [some (.ref q0), some (.int y1), some (.int y2)] [] (h_w σ I) (Option.some (Value.int o.1), h_w σ o.2)) (n : Nat) (y1 : Int32) (y2 : Int32) (I : ev_I) (o : Int32 × ev_I) : cX10_image_71 q0 K71 n y1 y2 I = some o → EV E mX10_image 71 [some (.ref q0), some (.int y1), some (.int y2)] [] (h_w σ I) (Option.some (Value.int o.1), h_w σ o.2) := by
  intro h
  unfold cX10_image_71 at h
  refine ev_iload_n dX10_image_71 rfl ?_
  refine ev_bipush (v := (120 : Int32)) dX10_image_72 (by decide) ?_
  refine ev_icmp_ge (tgt := 122) dX10_image_74 (by decide) (fun c3 => ?_) (fun c3 => ?_)
  · have h := ev_ifT h c3
    refine ev_iload_n dX10_image_122 rfl ?_
    refine ev_if_eq (tgt := 141) dX10_image_123 (by decide) (fun c4 => ?_) (fun c4 => ?_)
    · have h := ev_ifT h c4
      refine ev_aload_n dX10_image_141 rfl (fun _ e => by cases e) ?_
      refine ev_aload_n dX10_image_142 rfl (fun _ e => by cases e) ?_
      refine ew_getr0 dX10_image_143 fX10_41 g0 rfl rfl rfl rfl ?_
      refine ev_sipush (v := (6130 : Int32)) dX10_image_146 (by decide) ?_
      refine ew_iald dX10_image_149 (shp_a g0 10 rfl) (by decide) ?_
      obtain ⟨I5, eI5, h⟩ := ev_ltE h
      refine ew_put0 dX10_image_150 fX10_272 g0 rfl rfl rfl rfl rfl rfl (ew_nh eI5 ?_)
      refine ev_iconst (v := (1 : Int32)) dX10_image_153 (by decide) ?_
      cases h
      exact er_i dX10_image_154 rfl rfl
    · have h := ev_ifF h c4
      refine ev_aload_n dX10_image_126 rfl (fun _ e => by cases e) ?_
      refine ew_getr0 dX10_image_127 fX10_41 g0 rfl rfl rfl rfl ?_
      refine ev_sipush (v := (6130 : Int32)) dX10_image_130 (by decide) ?_
      refine ev_aload_n dX10_image_133 rfl (fun _ e => by cases e) ?_
      refine ew_get0 dX10_image_134 fX10_272 g0 rfl rfl rfl ?_
      obtain ⟨I6, eI6, h⟩ := ev_ltE h
      refine ew_iast dX10_image_137 (shp_a g0 10 rfl) (by decide) (ew_nh eI6 ?_)
      refine ev_goto (tgt := 153) dX10_image_138 (by decide) ?_
      refine ev_iconst (v := (1 : Int32)) dX10_image_153 (by decide) ?_
      cases h
      exact er_i dX10_image_154 rfl rfl
  · have h := ev_ifF h c3
    refine ev_iload_n dX10_image_77 rfl ?_
    refine ev_if_eq (tgt := 100) dX10_image_78 (by decide) (fun c7 => ?_) (fun c7 => ?_)
    · have h := ev_ifT h c7
      refine ev_aload_n dX10_image_100 rfl (fun _ e => by cases e) ?_
      refine ew_getr0 dX10_image_101 fX10_38 g0 rfl rfl rfl rfl ?_
      refine ev_iload_n dX10_image_104 rfl ?_
      refine ev_aload_n dX10_image_105 rfl (fun _ e => by cases e) ?_
      refine ew_getr0 dX10_image_106 fX10_41 g0 rfl rfl rfl rfl ?_
      refine ev_sipush (v := (6010 : Int32)) dX10_image_109 (by decide) ?_
      refine ev_iload_n dX10_image_112 rfl ?_
      refine ev_iadd dX10_image_113 ?_
      obtain ⟨c8, h⟩ := ev_ckE h
      refine ew_iald dX10_image_114 (shp_a g0 10 rfl) c8 ?_
      obtain ⟨c9, h⟩ := ev_ckE h
      obtain ⟨I10, eI10, h⟩ := ev_ltE h
      refine ew_iast dX10_image_115 (shp_a g0 9 rfl) c9 (ew_nh eI10 ?_)
      exact ev_weak (sb_s (sb_s (sb_s sb_0))) (tX10_image_116 q0 g0 K71 k71 n y1 y2 I10 _ h)
    · have h := ev_ifF h c7
      refine ev_aload_n dX10_image_81 rfl (fun _ e => by cases e) ?_
      refine ew_getr0 dX10_image_82 fX10_41 g0 rfl rfl rfl rfl ?_
      refine ev_sipush (v := (6010 : Int32)) dX10_image_85 (by decide) ?_
      refine ev_iload_n dX10_image_88 rfl ?_
      refine ev_iadd dX10_image_89 ?_
      refine ev_aload_n dX10_image_90 rfl (fun _ e => by cases e) ?_
      refine ew_getr0 dX10_image_91 fX10_38 g0 rfl rfl rfl rfl ?_
      refine ev_iload_n dX10_image_94 rfl ?_
      obtain ⟨c11, h⟩ := ev_ckE h
      refine ew_iald dX10_image_95 (shp_a g0 9 rfl) c11 ?_
      obtain ⟨c12, h⟩ := ev_ckE h
      obtain ⟨I13, eI13, h⟩ := ev_ltE h
      refine ew_iast dX10_image_96 (shp_a g0 10 rfl) c12 (ew_nh eI13 ?_)
      refine ev_goto (tgt := 116) dX10_image_97 (by decide) ?_
      exact ev_weak (sb_s (sb_s (sb_s sb_0))) (tX10_image_116 q0 g0 K71 k71 n y1 y2 I13 _ h)
theorem tlX10_image_71 {E : ev_N} {σ : ev_H} (q0 : Nat) (g0 : shp tb9 σ q0) : ∀ (n : Nat) (y1 : Int32) (y2 : Int32) (I : ev_I) (o : Int32 × ev_I), lX10_image_71 q0 n y1 y2 I = some o → EV E mX10_image 71 [some (.ref q0), some (.int y1), some (.int y2)] [] (h_w σ I) (Option.some (Value.int o.1), h_w σ o.2)
  | 0, _, _, _, _, h => by cases h
  | n + 1, y1, y2, I, o, h => tX10_image_71 q0 g0 (lX10_image_71 q0 n) (tlX10_image_71 q0 g0 n) n y1 y2 I o h
set_option maxRecDepth 100000 in
set_option maxHeartbeats 4000000 in
theorem tX10_image_25 {E : ev_N} {σ : ev_H} (q0 : Nat) (g0 : shp tb9 σ q0) (K25 : Int32 → Int32 → ev_I → Option (Int32 × ev_I)) (k25 : ∀ (y1 : Int32) (y2 : Int32) (I : ev_I) (o : Int32 × ev_I), K25 y1 y2 I = some o → EV E mX10_image 25 [some (.ref q0), some (.int y1), some (.int y2)] [] (h_w σ I) (Option.some (Value.int o.1), h_w σ o.2)) (n : Nat) (y1 : Int32) (y2 : Int32) (I : ev_I) (o : Int32 × ev_I) : cX10_image_25 q0 K25 n y1 y2 I = some o → EV E mX10_image 25 [some (.ref q0), some (.int y1), some (.int y2)] [] (h_w σ I) (Option.some (Value.int o.1), h_w σ o.2) := by
  intro h
  unfold cX10_image_25 at h
  refine ev_iload_n dX10_image_25 rfl ?_
  refine ev_sipush (v := (6010 : Int32)) dX10_image_26 (by decide) ?_
  refine ev_icmp_ge (tgt := 69) dX10_image_29 (by decide) (fun c14 => ?_) (fun c14 => ?_)
  · have h := ev_ifT h c14
    refine ev_iconst (v := (0 : Int32)) dX10_image_69 (by decide) ?_
    refine ew_istn (L' := [some (.ref q0), some (.int y1), some (.int (0 : Int32))]) dX10_image_70 (Nat.le_of_ble_eq_true rfl) rfl ?_
    exact ev_weak (sb_s (sb_s (sb_s sb_0))) (tlX10_image_71 q0 g0 n y1 (0 : Int32) I _ h)
  · have h := ev_ifF h c14
    refine ev_iload_n dX10_image_32 rfl ?_
    refine ev_if_eq (tgt := 51) dX10_image_33 (by decide) (fun c15 => ?_) (fun c15 => ?_)
    · have h := ev_ifT h c15
      refine ev_aload_n dX10_image_51 rfl (fun _ e => by cases e) ?_
      refine ew_getr0 dX10_image_52 fX10_7 g0 rfl rfl rfl rfl ?_
      refine ev_iload_n dX10_image_55 rfl ?_
      refine ev_aload_n dX10_image_56 rfl (fun _ e => by cases e) ?_
      refine ew_getr0 dX10_image_57 fX10_41 g0 rfl rfl rfl rfl ?_
      refine ev_iload_n dX10_image_60 rfl ?_
      obtain ⟨c16, h⟩ := ev_ckE h
      refine ew_iald dX10_image_61 (shp_a g0 10 rfl) c16 ?_
      obtain ⟨c17, h⟩ := ev_ckE h
      obtain ⟨I18, eI18, h⟩ := ev_ltE h
      refine ew_iast dX10_image_62 (shp_a g0 1 rfl) c17 (ew_nh eI18 ?_)
      exact ev_weak (sb_s (sb_s (sb_s sb_0))) (tX10_image_63 q0 g0 K25 k25 n y1 y2 I18 _ h)
    · have h := ev_ifF h c15
      refine ev_aload_n dX10_image_36 rfl (fun _ e => by cases e) ?_
      refine ew_getr0 dX10_image_37 fX10_41 g0 rfl rfl rfl rfl ?_
      refine ev_iload_n dX10_image_40 rfl ?_
      refine ev_aload_n dX10_image_41 rfl (fun _ e => by cases e) ?_
      refine ew_getr0 dX10_image_42 fX10_7 g0 rfl rfl rfl rfl ?_
      refine ev_iload_n dX10_image_45 rfl ?_
      obtain ⟨c19, h⟩ := ev_ckE h
      refine ew_iald dX10_image_46 (shp_a g0 1 rfl) c19 ?_
      obtain ⟨c20, h⟩ := ev_ckE h
      obtain ⟨I21, eI21, h⟩ := ev_ltE h
      refine ew_iast dX10_image_47 (shp_a g0 10 rfl) c20 (ew_nh eI21 ?_)
      refine ev_goto (tgt := 63) dX10_image_48 (by decide) ?_
      exact ev_weak (sb_s (sb_s (sb_s sb_0))) (tX10_image_63 q0 g0 K25 k25 n y1 y2 I21 _ h)
theorem tlX10_image_25 {E : ev_N} {σ : ev_H} (q0 : Nat) (g0 : shp tb9 σ q0) : ∀ (n : Nat) (y1 : Int32) (y2 : Int32) (I : ev_I) (o : Int32 × ev_I), lX10_image_25 q0 n y1 y2 I = some o → EV E mX10_image 25 [some (.ref q0), some (.int y1), some (.int y2)] [] (h_w σ I) (Option.some (Value.int o.1), h_w σ o.2)
  | 0, _, _, _, _, h => by cases h
  | n + 1, y1, y2, I, o, h => tX10_image_25 q0 g0 (lX10_image_25 q0 n) (tlX10_image_25 q0 g0 n) n y1 y2 I o h
set_option maxRecDepth 100000 in
set_option maxHeartbeats 4000000 in
theorem tX10_image_18 {E : ev_N} {σ : ev_H} (q0 : Nat) (g0 : shp tb9 σ q0) (n : Nat) (y1 : Int32) (I : ev_I) (o : Int32 × ev_I) : cX10_image_18 q0 n y1 I = some o → EV E mX10_image 18 [some (.ref q0), some (.int y1), none] [] (h_w σ I) (Option.some (Value.int o.1), h_w σ o.2) := by
  intro h
  unfold cX10_image_18 at h
  refine ev_aload_n dX10_image_18 rfl (fun _ e => by cases e) ?_
  refine ev_iconst (v := (1 : Int32)) dX10_image_19 (by decide) ?_
  obtain ⟨I22, eI22, h⟩ := ev_ltE h
  refine ew_put0 dX10_image_20 fX10_372 g0 rfl rfl rfl rfl rfl rfl (ew_nh eI22 ?_)
  refine ev_iconst (v := (0 : Int32)) dX10_image_23 (by decide) ?_
  refine ew_istn (L' := [some (.ref q0), some (.int y1), some (.int (0 : Int32))]) dX10_image_24 (Nat.le_of_ble_eq_true rfl) rfl ?_
  exact ev_weak (sb_s (sb_s (sb_s sb_0))) (tlX10_image_25 q0 g0 n y1 (0 : Int32) I22 _ h)
set_option maxRecDepth 100000 in
set_option maxHeartbeats 4000000 in
theorem tX10_image {E : ev_N} {σ : ev_H} (n : Nat) (q0 : Nat) (g0 : shp tb9 σ q0) (x1 : Int32) (I : ev_I) (o : Int32 × ev_I) (h : pX10_image n q0 x1 I = some o) : ev_T E mX10_image [.ref q0, .int x1] (h_w σ I) (Option.some (Value.int o.1), h_w σ o.2) := by
  unfold pX10_image at h
  refine ev_met rfl rfl (Nat.le_of_ble_eq_true rfl) (ev_L0 (L' := [some (.ref q0), some (.int x1), none]) rfl ?_)
  refine ev_aload_n dX10_image_0 rfl (fun _ e => by cases e) ?_
  refine ev_iconst (v := (0 : Int32)) dX10_image_1 (by decide) ?_
  obtain ⟨I23, eI23, h⟩ := ev_ltE h
  refine ew_put0 dX10_image_2 fX10_44 g0 rfl rfl rfl rfl rfl rfl (ew_nh eI23 ?_)
  refine ev_iload_n dX10_image_5 rfl ?_
  refine ev_if_ne (tgt := 18) dX10_image_6 (by decide) (fun c24 => ?_) (fun c24 => ?_)
  · have h := ev_ifF h c24
    exact ev_weak (sb_s (sb_s (sb_n sb_0))) (tX10_image_18 q0 g0 n x1 I23 _ h)
  · have h := ev_ifT h c24
    refine ev_aload_n dX10_image_9 rfl (fun _ e => by cases e) ?_
    refine ew_get0 dX10_image_10 fX10_372 g0 rfl rfl rfl ?_
    refine ev_if_ne (tgt := 18) dX10_image_13 (by decide) (fun c25 => ?_) (fun c25 => ?_)
    · have h := ev_ifF h c25
      exact ev_weak (sb_s (sb_s (sb_n sb_0))) (tX10_image_18 q0 g0 n x1 I23 _ h)
    · have h := ev_ifT h c25
      refine ev_iconst (v := (0 : Int32)) dX10_image_16 (by decide) ?_
      cases h
      exact er_i dX10_image_17 rfl rfl
