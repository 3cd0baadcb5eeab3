-- ChainVotes nodes(I)Z
def pX9_nodes (n : Nat) (q0 : Nat) (x1 : Int32) (I : ev_I) : Option (Int32 × ev_I) :=
  if x1 < (4 : Int32) then
    some ((0 : Int32), I)
  else
    if (7 : Int32) < x1 then
      some ((0 : Int32), I)
    else
      (pX8_isUntouched n (q0 + 1)  I).bind fun z3 =>
      if z3 = 0 then
        some ((0 : Int32), I)
      else
        (pX8_beginWith n (q0 + 1) x1 I).bind fun z5 =>
        some ((1 : Int32), z5)
set_option maxRecDepth 100000 in
set_option maxHeartbeats 4000000 in
theorem tX9_nodes {E : ev_N} {σ : ev_H} (n : Nat) (q0 : Nat) (g0 : shp tb8 σ q0) (x1 : Int32) (I : ev_I) (o : Int32 × ev_I) (h : pX9_nodes n q0 x1 I = some o) : ev_T E mX9_nodes [.ref q0, .int x1] (h_w σ I) (Option.some (Value.int o.1), h_w σ o.2) := by
  unfold pX9_nodes at h
  refine ev_met rfl rfl (Nat.le_of_ble_eq_true rfl) (ev_L0 (L' := [some (.ref q0), some (.int x1)]) rfl ?_)
  refine ev_iload_n dX9_nodes_0 rfl ?_
  refine ev_iconst (v := (4 : Int32)) dX9_nodes_1 (by decide) ?_
  refine ev_icmp_lt (tgt := 21) dX9_nodes_2 (by decide) (fun c1 => ?_) (fun c1 => ?_)
  · have h := ev_ifT h c1
    refine ev_iconst (v := (0 : Int32)) dX9_nodes_21 (by decide) ?_
    cases h
    exact er_i dX9_nodes_22 rfl rfl
  · have h := ev_ifF h c1
    refine ev_iload_n dX9_nodes_5 rfl ?_
    refine ev_bipush (v := (7 : Int32)) dX9_nodes_6 (by decide) ?_
    refine ev_icmp_gt (tgt := 21) dX9_nodes_8 (by decide) (fun c2 => ?_) (fun c2 => ?_)
    · have h := ev_ifT h c2
      refine ev_iconst (v := (0 : Int32)) dX9_nodes_21 (by decide) ?_
      cases h
      exact er_i dX9_nodes_22 rfl rfl
    · have h := ev_ifF h c2
      refine ev_aload_n dX9_nodes_11 rfl (fun _ e => by cases e) ?_
      refine ew_getr0 dX9_nodes_12 fX9_12 g0 rfl rfl rfl rfl ?_
      obtain ⟨z3, hz3, h⟩ := ev_bnE h
      refine ec_Vi (Y := mX8_isUntouched) (ci := 7) (As := []) (rest := []) dX9_nodes_15 kX9_36 oX8_isUntouched ⟨Nat.le_of_ble_eq_true rfl, Nat.le_of_ble_eq_true rfl⟩ (by decide) rfl (shp_n (s87 g0) 0 rfl) (shp_t (s87 g0) 0 rfl) rfl (Nat.le_of_ble_eq_true rfl) (tX8_isUntouched n (q0 + 1) (s87 g0)  I z3 hz3) rfl ?_
      refine ev_if_ne (tgt := 23) dX9_nodes_18 (by decide) (fun c4 => ?_) (fun c4 => ?_)
      · have h := ev_ifF h c4
        refine ev_aload_n dX9_nodes_23 rfl (fun _ e => by cases e) ?_
        refine ew_getr0 dX9_nodes_24 fX9_12 g0 rfl rfl rfl rfl ?_
        refine ev_iload_n dX9_nodes_27 rfl ?_
        obtain ⟨z5, hz5, h⟩ := ev_bnE h
        refine ec_Vv (Y := mX8_beginWith) (ci := 7) (As := [.int x1]) (rest := []) dX9_nodes_28 kX9_40 oX8_beginWith ⟨Nat.le_of_ble_eq_true rfl, Nat.le_of_ble_eq_true rfl⟩ (by decide) rfl (shp_n (s87 g0) 0 rfl) (shp_t (s87 g0) 0 rfl) rfl (Nat.le_of_ble_eq_true rfl) (tX8_beginWith n (q0 + 1) (s87 g0) x1 I z5 hz5) rfl ?_
        refine ev_iconst (v := (1 : Int32)) dX9_nodes_31 (by decide) ?_
        cases h
        exact er_i dX9_nodes_32 rfl rfl
      · have h := ev_ifT h c4
        refine ev_iconst (v := (0 : Int32)) dX9_nodes_21 (by decide) ?_
        cases h
        exact er_i dX9_nodes_22 rfl rfl
-- ChainVotes mode(II)Z
def pX9_mode (n : Nat) (q0 : Nat) (x1 : Int32) (x2 : Int32) (I : ev_I) : Option (Int32 × ev_I) :=
  (pX8_hasNode n (q0 + 1) x1 I).bind fun z1 =>
  if z1 = 0 then
    some ((0 : Int32), I)
  else
    if x2 < 0 then
      some ((0 : Int32), I)
    else
      if x2 ≤ (2 : Int32) then
        ev_ck (ev_in x1 7) <|
        ev_lt (ev_u2 I ((q0 + 1) + (23 + 5 * x1.toNatClampNeg)) 0 x2) fun I6 =>
        some ((1 : Int32), I6)
      else
        some ((0 : Int32), I)
set_option maxRecDepth 100000 in
set_option maxHeartbeats 4000000 in
theorem tX9_mode {E : ev_N} {σ : ev_H} (n : Nat) (q0 : Nat) (g0 : shp tb8 σ q0) (x1 : Int32) (x2 : Int32) (I : ev_I) (o : Int32 × ev_I) (h : pX9_mode n q0 x1 x2 I = some o) : ev_T E mX9_mode [.ref q0, .int x1, .int x2] (h_w σ I) (Option.some (Value.int o.1), h_w σ o.2) := by
  unfold pX9_mode at h
  refine ev_met rfl rfl (Nat.le_of_ble_eq_true rfl) (ev_L0 (L' := [some (.ref q0), some (.int x1), some (.int x2)]) rfl ?_)
  refine ev_aload_n dX9_mode_0 rfl (fun _ e => by cases e) ?_
  refine ew_getr0 dX9_mode_1 fX9_12 g0 rfl rfl rfl rfl ?_
  refine ev_iload_n dX9_mode_4 rfl ?_
  obtain ⟨z1, hz1, h⟩ := ev_bnE h
  refine ec_Vi (Y := mX8_hasNode) (ci := 7) (As := [.int x1]) (rest := []) dX9_mode_5 kX9_44 oX8_hasNode ⟨Nat.le_of_ble_eq_true rfl, Nat.le_of_ble_eq_true rfl⟩ (by decide) rfl (shp_n (s87 g0) 0 rfl) (shp_t (s87 g0) 0 rfl) rfl (Nat.le_of_ble_eq_true rfl) (tX8_hasNode n (q0 + 1) (s87 g0) x1 I z1 hz1) rfl ?_
  refine ev_if_eq (tgt := 20) dX9_mode_8 (by decide) (fun c2 => ?_) (fun c2 => ?_)
  · have h := ev_ifT h c2
    refine ev_iconst (v := (0 : Int32)) dX9_mode_20 (by decide) ?_
    cases h
    exact er_i dX9_mode_21 rfl rfl
  · have h := ev_ifF h c2
    refine ev_iload_n dX9_mode_11 rfl ?_
    refine ev_if_lt (tgt := 20) dX9_mode_12 (by decide) (fun c3 => ?_) (fun c3 => ?_)
    · have h := ev_ifT h c3
      refine ev_iconst (v := (0 : Int32)) dX9_mode_20 (by decide) ?_
      cases h
      exact er_i dX9_mode_21 rfl rfl
    · have h := ev_ifF h c3
      refine ev_iload_n dX9_mode_15 rfl ?_
      refine ev_iconst (v := (2 : Int32)) dX9_mode_16 (by decide) ?_
      refine ev_icmp_le (tgt := 22) dX9_mode_17 (by decide) (fun c4 => ?_) (fun c4 => ?_)
      · have h := ev_ifT h c4
        refine ev_aload_n dX9_mode_22 rfl (fun _ e => by cases e) ?_
        refine ew_getr0 dX9_mode_23 fX9_12 g0 rfl rfl rfl rfl ?_
        refine ew_getr0 dX9_mode_26 fX9_48 (s87 g0) rfl rfl rfl rfl ?_
        refine ev_iload_n dX9_mode_29 rfl ?_
        obtain ⟨c5, h⟩ := ev_ckE h
        refine ew_memb dX9_mode_30 (s87 g0) c5 ?_
        refine ev_iload_n dX9_mode_31 rfl ?_
        obtain ⟨I6, eI6, h⟩ := ev_ltE h
        refine ew_put0 dX9_mode_32 fX9_52 (s73 (s87 g0) (ev_inL c5)) rfl rfl rfl rfl rfl rfl (ew_nh eI6 ?_)
        refine ev_iconst (v := (1 : Int32)) dX9_mode_35 (by decide) ?_
        cases h
        exact er_i dX9_mode_36 rfl rfl
      · have h := ev_ifF h c4
        refine ev_iconst (v := (0 : Int32)) dX9_mode_20 (by decide) ?_
        cases h
        exact er_i dX9_mode_21 rfl rfl
-- ChainVotes propose(II)I
def pX9_propose (n : Nat) (q0 : Nat) (x1 : Int32) (x2 : Int32) (I : ev_I) : Option (Int32 × ev_I) :=
  (pX8_proposeBy n (q0 + 1) x1 x2 I).bind fun z1 =>
  some (z1.1, z1.2)
set_option maxRecDepth 100000 in
set_option maxHeartbeats 4000000 in
theorem tX9_propose {E : ev_N} {σ : ev_H} (n : Nat) (q0 : Nat) (g0 : shp tb8 σ q0) (x1 : Int32) (x2 : Int32) (I : ev_I) (o : Int32 × ev_I) (h : pX9_propose n q0 x1 x2 I = some o) : ev_T E mX9_propose [.ref q0, .int x1, .int x2] (h_w σ I) (Option.some (Value.int o.1), h_w σ o.2) := by
  unfold pX9_propose at h
  refine ev_met rfl rfl (Nat.le_of_ble_eq_true rfl) (ev_L0 (L' := [some (.ref q0), some (.int x1), some (.int x2)]) rfl ?_)
  refine ev_aload_n dX9_propose_0 rfl (fun _ e => by cases e) ?_
  refine ew_getr0 dX9_propose_1 fX9_12 g0 rfl rfl rfl rfl ?_
  refine ev_iload_n dX9_propose_4 rfl ?_
  refine ev_iload_n dX9_propose_5 rfl ?_
  obtain ⟨z1, hz1, h⟩ := ev_bnE h
  refine ec_Vi (Y := mX8_proposeBy) (ci := 7) (As := [.int x1, .int x2]) (rest := []) dX9_propose_6 kX9_58 oX8_proposeBy ⟨Nat.le_of_ble_eq_true rfl, Nat.le_of_ble_eq_true rfl⟩ (by decide) rfl (shp_n (s87 g0) 0 rfl) (shp_t (s87 g0) 0 rfl) rfl (Nat.le_of_ble_eq_true rfl) (tX8_proposeBy n (q0 + 1) (s87 g0) x1 x2 I z1 hz1) rfl ?_
  cases h
  exact er_i dX9_propose_9 rfl rfl
-- ChainVotes timeout(I)Z
def pX9_timeout (n : Nat) (q0 : Nat) (x1 : Int32) (I : ev_I) : Option (Int32 × ev_I) :=
  (pX8_timeOutBy n (q0 + 1) x1 I).bind fun z1 =>
  ev_ck (ev_01 z1.1) <|
  some (z1.1, z1.2)
set_option maxRecDepth 100000 in
set_option maxHeartbeats 4000000 in
theorem tX9_timeout {E : ev_N} {σ : ev_H} (n : Nat) (q0 : Nat) (g0 : shp tb8 σ q0) (x1 : Int32) (I : ev_I) (o : Int32 × ev_I) (h : pX9_timeout n q0 x1 I = some o) : ev_T E mX9_timeout [.ref q0, .int x1] (h_w σ I) (Option.some (Value.int o.1), h_w σ o.2) := by
  unfold pX9_timeout at h
  refine ev_met rfl rfl (Nat.le_of_ble_eq_true rfl) (ev_L0 (L' := [some (.ref q0), some (.int x1)]) rfl ?_)
  refine ev_aload_n dX9_timeout_0 rfl (fun _ e => by cases e) ?_
  refine ew_getr0 dX9_timeout_1 fX9_12 g0 rfl rfl rfl rfl ?_
  refine ev_iload_n dX9_timeout_4 rfl ?_
  obtain ⟨z1, hz1, h⟩ := ev_bnE h
  refine ec_Vi (Y := mX8_timeOutBy) (ci := 7) (As := [.int x1]) (rest := []) dX9_timeout_5 kX9_62 oX8_timeOutBy ⟨Nat.le_of_ble_eq_true rfl, Nat.le_of_ble_eq_true rfl⟩ (by decide) rfl (shp_n (s87 g0) 0 rfl) (shp_t (s87 g0) 0 rfl) rfl (Nat.le_of_ble_eq_true rfl) (tX8_timeOutBy n (q0 + 1) (s87 g0) x1 I z1 hz1) rfl ?_
  obtain ⟨c2, h⟩ := ev_ckE h
  cases h
  exact er_i dX9_timeout_8 rfl (ev_01E c2).1
-- ChainVotes lie(IIIII)I
def pX9_lie (n : Nat) (q0 : Nat) (x1 : Int32) (x2 : Int32) (x3 : Int32) (x4 : Int32) (x5 : Int32) (I : ev_I) : Option (Int32 × ev_I) :=
  (pX8_lieBy n (q0 + 1) x1 x2 x3 x4 x5 I).bind fun z1 =>
  some (z1.1, z1.2)
set_option maxRecDepth 100000 in
set_option maxHeartbeats 4000000 in
theorem tX9_lie {E : ev_N} {σ : ev_H} (n : Nat) (q0 : Nat) (g0 : shp tb8 σ q0) (x1 : Int32) (x2 : Int32) (x3 : Int32) (x4 : Int32) (x5 : Int32) (I : ev_I) (o : Int32 × ev_I) (h : pX9_lie n q0 x1 x2 x3 x4 x5 I = some o) : ev_T E mX9_lie [.ref q0, .int x1, .int x2, .int x3, .int x4, .int x5] (h_w σ I) (Option.some (Value.int o.1), h_w σ o.2) := by
  unfold pX9_lie at h
  refine ev_met rfl rfl (Nat.le_of_ble_eq_true rfl) (ev_L0 (L' := [some (.ref q0), some (.int x1), some (.int x2), some (.int x3), some (.int x4), some (.int x5)]) rfl ?_)
  refine ev_aload_n dX9_lie_0 rfl (fun _ e => by cases e) ?_
  refine ew_getr0 dX9_lie_1 fX9_12 g0 rfl rfl rfl rfl ?_
  refine ev_iload_n dX9_lie_4 rfl ?_
  refine ev_iload_n dX9_lie_5 rfl ?_
  refine ev_iload_n dX9_lie_6 rfl ?_
  refine ev_iload dX9_lie_7 rfl ?_
  refine ev_iload dX9_lie_9 rfl ?_
  obtain ⟨z1, hz1, h⟩ := ev_bnE h
  refine ec_Vi (Y := mX8_lieBy) (ci := 7) (As := [.int x1, .int x2, .int x3, .int x4, .int x5]) (rest := []) dX9_lie_11 kX9_65 oX8_lieBy ⟨Nat.le_of_ble_eq_true rfl, Nat.le_of_ble_eq_true rfl⟩ (by decide) rfl (shp_n (s87 g0) 0 rfl) (shp_t (s87 g0) 0 rfl) rfl (Nat.le_of_ble_eq_true rfl) (tX8_lieBy n (q0 + 1) (s87 g0) x1 x2 x3 x4 x5 I z1 hz1) rfl ?_
  cases h
  exact er_i dX9_lie_14 rfl rfl
-- ChainVotes deliver(I)I
def pX9_deliver (n : Nat) (q0 : Nat) (x1 : Int32) (I : ev_I) : Option (Int32 × ev_I) :=
  (pX4_has n ((q0 + 1) + 11) x1 I).bind fun z1 =>
  if z1 = 0 then
    some ((-1 : Int32), I)
  else
    (pX4_at n ((q0 + 1) + 11) x1 I).bind fun z3 =>
    (pX4_kindOf n  z3 I).bind fun z4 =>
    (pX8_deliverSome n (q0 + 1) x1 (1 : Int32) I).bind fun z5 =>
    some (z4, z5.2)
set_option maxRecDepth 100000 in
set_option maxHeartbeats 4000000 in
theorem tX9_deliver {E : ev_N} {σ : ev_H} (n : Nat) (q0 : Nat) (g0 : shp tb8 σ q0) (x1 : Int32) (I : ev_I) (o : Int32 × ev_I) (h : pX9_deliver n q0 x1 I = some o) : ev_T E mX9_deliver [.ref q0, .int x1] (h_w σ I) (Option.some (Value.int o.1), h_w σ o.2) := by
  unfold pX9_deliver at h
  refine ev_met rfl rfl (Nat.le_of_ble_eq_true rfl) (ev_L0 (L' := [some (.ref q0), some (.int x1), none]) rfl ?_)
  refine ev_aload_n dX9_deliver_0 rfl (fun _ e => by cases e) ?_
  refine ew_getr0 dX9_deliver_1 fX9_12 g0 rfl rfl rfl rfl ?_
  refine ew_getr0 dX9_deliver_4 fX9_69 (s87 g0) rfl rfl rfl rfl ?_
  refine ev_iload_n dX9_deliver_7 rfl ?_
  obtain ⟨z1, hz1, h⟩ := ev_bnE h
  refine ec_Vi (Y := mX4_has) (ci := 4) (As := [.int x1]) (rest := []) dX9_deliver_8 kX9_73 oX4_has ⟨Nat.le_of_ble_eq_true rfl, Nat.le_of_ble_eq_true rfl⟩ (by decide) rfl (shp_n (s74 (s87 g0)) 0 rfl) (shp_t (s74 (s87 g0)) 0 rfl) rfl (Nat.le_of_ble_eq_true rfl) (tX4_has n ((q0 + 1) + 11) (s74 (s87 g0)) x1 I z1 hz1) rfl ?_
  refine ev_if_ne (tgt := 16) dX9_deliver_11 (by decide) (fun c2 => ?_) (fun c2 => ?_)
  · have h := ev_ifF h c2
    refine ev_aload_n dX9_deliver_16 rfl (fun _ e => by cases e) ?_
    refine ew_getr0 dX9_deliver_17 fX9_12 g0 rfl rfl rfl rfl ?_
    refine ew_getr0 dX9_deliver_20 fX9_69 (s87 g0) rfl rfl rfl rfl ?_
    refine ev_iload_n dX9_deliver_23 rfl ?_
    obtain ⟨z3, hz3, h⟩ := ev_bnE h
    refine ec_Vi (Y := mX4_at) (ci := 4) (As := [.int x1]) (rest := []) dX9_deliver_24 kX9_78 oX4_at ⟨Nat.le_of_ble_eq_true rfl, Nat.le_of_ble_eq_true rfl⟩ (by decide) rfl (shp_n (s74 (s87 g0)) 0 rfl) (shp_t (s74 (s87 g0)) 0 rfl) rfl (Nat.le_of_ble_eq_true rfl) (tX4_at n ((q0 + 1) + 11) (s74 (s87 g0)) x1 I z3 hz3) rfl ?_
    obtain ⟨z4, hz4, h⟩ := ev_bnE h
    refine ec_Si (Y := mX4_kindOf) (As := [.int z3]) (rest := []) dX9_deliver_27 kX9_82 oX4_kindOf ⟨Nat.le_of_ble_eq_true rfl, Nat.le_of_ble_eq_true rfl⟩ rfl (Nat.le_of_ble_eq_true rfl) (tX4_kindOf n   z3 I z4 hz4) rfl ?_
    refine ew_istn (L' := [some (.ref q0), some (.int x1), some (.int z4)]) dX9_deliver_30 (Nat.le_of_ble_eq_true rfl) rfl ?_
    refine ev_aload_n dX9_deliver_31 rfl (fun _ e => by cases e) ?_
    refine ew_getr0 dX9_deliver_32 fX9_12 g0 rfl rfl rfl rfl ?_
    refine ev_iload_n dX9_deliver_35 rfl ?_
    refine ev_iconst (v := (1 : Int32)) dX9_deliver_36 (by decide) ?_
    obtain ⟨z5, hz5, h⟩ := ev_bnE h
    refine ec_Vi (Y := mX8_deliverSome) (ci := 7) (As := [.int x1, .int (1 : Int32)]) (rest := []) dX9_deliver_37 kX9_85 oX8_deliverSome ⟨Nat.le_of_ble_eq_true rfl, Nat.le_of_ble_eq_true rfl⟩ (by decide) rfl (shp_n (s87 g0) 0 rfl) (shp_t (s87 g0) 0 rfl) rfl (Nat.le_of_ble_eq_true rfl) (tX8_deliverSome n (q0 + 1) (s87 g0) x1 (1 : Int32) I z5 hz5) rfl ?_
    refine ev_pop dX9_deliver_40 ?_
    refine ev_iload_n dX9_deliver_41 rfl ?_
    cases h
    exact er_i dX9_deliver_42 rfl rfl
  · have h := ev_ifT h c2
    refine ev_iconst (v := (-1 : Int32)) dX9_deliver_14 (by decide) ?_
    cases h
    exact er_i dX9_deliver_15 rfl rfl
-- ChainVotes drop(I)I
def pX9_drop (n : Nat) (q0 : Nat) (x1 : Int32) (I : ev_I) : Option (Int32 × ev_I) :=
  (pX4_has n ((q0 + 1) + 11) x1 I).bind fun z1 =>
  if z1 = 0 then
    some ((-1 : Int32), I)
  else
    (pX4_take n ((q0 + 1) + 11) x1 I).bind fun z3 =>
    (pX4_kindOf n  z3.1 z3.2).bind fun z4 =>
    some (z4, z3.2)
set_option maxRecDepth 100000 in
set_option maxHeartbeats 4000000 in
theorem tX9_drop {E : ev_N} {σ : ev_H} (n : Nat) (q0 : Nat) (g0 : shp tb8 σ q0) (x1 : Int32) (I : ev_I) (o : Int32 × ev_I) (h : pX9_drop n q0 x1 I = some o) : ev_T E mX9_drop [.ref q0, .int x1] (h_w σ I) (Option.some (Value.int o.1), h_w σ o.2) := by
  unfold pX9_drop at h
  refine ev_met rfl rfl (Nat.le_of_ble_eq_true rfl) (ev_L0 (L' := [some (.ref q0), some (.int x1)]) rfl ?_)
  refine ev_aload_n dX9_drop_0 rfl (fun _ e => by cases e) ?_
  refine ew_getr0 dX9_drop_1 fX9_12 g0 rfl rfl rfl rfl ?_
  refine ew_getr0 dX9_drop_4 fX9_69 (s87 g0) rfl rfl rfl rfl ?_
  refine ev_iload_n dX9_drop_7 rfl ?_
  obtain ⟨z1, hz1, h⟩ := ev_bnE h
  refine ec_Vi (Y := mX4_has) (ci := 4) (As := [.int x1]) (rest := []) dX9_drop_8 kX9_73 oX4_has ⟨Nat.le_of_ble_eq_true rfl, Nat.le_of_ble_eq_true rfl⟩ (by decide) rfl (shp_n (s74 (s87 g0)) 0 rfl) (shp_t (s74 (s87 g0)) 0 rfl) rfl (Nat.le_of_ble_eq_true rfl) (tX4_has n ((q0 + 1) + 11) (s74 (s87 g0)) x1 I z1 hz1) rfl ?_
  refine ev_if_eq (tgt := 31) dX9_drop_11 (by decide) (fun c2 => ?_) (fun c2 => ?_)
  · have h := ev_ifT h c2
    refine ev_iconst (v := (-1 : Int32)) dX9_drop_31 (by decide) ?_
    cases h
    exact er_i dX9_drop_32 rfl rfl
  · have h := ev_ifF h c2
    refine ev_aload_n dX9_drop_14 rfl (fun _ e => by cases e) ?_
    refine ew_getr0 dX9_drop_15 fX9_12 g0 rfl rfl rfl rfl ?_
    refine ew_getr0 dX9_drop_18 fX9_69 (s87 g0) rfl rfl rfl rfl ?_
    refine ev_iload_n dX9_drop_21 rfl ?_
    obtain ⟨z3, hz3, h⟩ := ev_bnE h
    refine ec_Vi (Y := mX4_take) (ci := 4) (As := [.int x1]) (rest := []) dX9_drop_22 kX9_88 oX4_take ⟨Nat.le_of_ble_eq_true rfl, Nat.le_of_ble_eq_true rfl⟩ (by decide) rfl (shp_n (s74 (s87 g0)) 0 rfl) (shp_t (s74 (s87 g0)) 0 rfl) rfl (Nat.le_of_ble_eq_true rfl) (tX4_take n ((q0 + 1) + 11) (s74 (s87 g0)) x1 I z3 hz3) rfl ?_
    obtain ⟨z4, hz4, h⟩ := ev_bnE h
    refine ec_Si (Y := mX4_kindOf) (As := [.int z3.1]) (rest := []) dX9_drop_25 kX9_82 oX4_kindOf ⟨Nat.le_of_ble_eq_true rfl, Nat.le_of_ble_eq_true rfl⟩ rfl (Nat.le_of_ble_eq_true rfl) (tX4_kindOf n   z3.1 z3.2 z4 hz4) rfl ?_
    refine ev_goto (tgt := 32) dX9_drop_28 (by decide) ?_
    cases h
    exact er_i dX9_drop_32 rfl rfl
-- ChainVotes lose(I)I
def pX9_lose (n : Nat) (q0 : Nat) (x1 : Int32) (I : ev_I) : Option (Int32 × ev_I) :=
  (pX8_hasNode n (q0 + 1) x1 I).bind fun z1 =>
  if z1 = 0 then
    some ((-1 : Int32), I)
  else
    (pX4_takeAllTo n ((q0 + 1) + 11) x1 I).bind fun z3 =>
    some (z3.1, z3.2)
set_option maxRecDepth 100000 in
set_option maxHeartbeats 4000000 in
theorem tX9_lose {E : ev_N} {σ : ev_H} (n : Nat) (q0 : Nat) (g0 : shp tb8 σ q0) (x1 : Int32) (I : ev_I) (o : Int32 × ev_I) (h : pX9_lose n q0 x1 I = some o) : ev_T E mX9_lose [.ref q0, .int x1] (h_w σ I) (Option.some (Value.int o.1), h_w σ o.2) := by
  unfold pX9_lose at h
  refine ev_met rfl rfl (Nat.le_of_ble_eq_true rfl) (ev_L0 (L' := [some (.ref q0), some (.int x1)]) rfl ?_)
  refine ev_aload_n dX9_lose_0 rfl (fun _ e => by cases e) ?_
  refine ew_getr0 dX9_lose_1 fX9_12 g0 rfl rfl rfl rfl ?_
  refine ev_iload_n dX9_lose_4 rfl ?_
  obtain ⟨z1, hz1, h⟩ := ev_bnE h
  refine ec_Vi (Y := mX8_hasNode) (ci := 7) (As := [.int x1]) (rest := []) dX9_lose_5 kX9_44 oX8_hasNode ⟨Nat.le_of_ble_eq_true rfl, Nat.le_of_ble_eq_true rfl⟩ (by decide) rfl (shp_n (s87 g0) 0 rfl) (shp_t (s87 g0) 0 rfl) rfl (Nat.le_of_ble_eq_true rfl) (tX8_hasNode n (q0 + 1) (s87 g0) x1 I z1 hz1) rfl ?_
  refine ev_if_eq (tgt := 25) dX9_lose_8 (by decide) (fun c2 => ?_) (fun c2 => ?_)
  · have h := ev_ifT h c2
    refine ev_iconst (v := (-1 : Int32)) dX9_lose_25 (by decide) ?_
    cases h
    exact er_i dX9_lose_26 rfl rfl
  · have h := ev_ifF h c2
    refine ev_aload_n dX9_lose_11 rfl (fun _ e => by cases e) ?_
    refine ew_getr0 dX9_lose_12 fX9_12 g0 rfl rfl rfl rfl ?_
    refine ew_getr0 dX9_lose_15 fX9_69 (s87 g0) rfl rfl rfl rfl ?_
    refine ev_iload_n dX9_lose_18 rfl ?_
    obtain ⟨z3, hz3, h⟩ := ev_bnE h
    refine ec_Vi (Y := mX4_takeAllTo) (ci := 4) (As := [.int x1]) (rest := []) dX9_lose_19 kX9_91 oX4_takeAllTo ⟨Nat.le_of_ble_eq_true rfl, Nat.le_of_ble_eq_true rfl⟩ (by decide) rfl (shp_n (s74 (s87 g0)) 0 rfl) (shp_t (s74 (s87 g0)) 0 rfl) rfl (Nat.le_of_ble_eq_true rfl) (tX4_takeAllTo n ((q0 + 1) + 11) (s74 (s87 g0)) x1 I z3 hz3) rfl ?_
    refine ev_goto (tgt := 26) dX9_lose_22 (by decide) ?_
    cases h
    exact er_i dX9_lose_26 rfl rfl
-- ChainVotes leaders(I)I
def pX9_leaders (n : Nat) (q0 : Nat) (x1 : Int32) (I : ev_I) : Option (Int32 × ev_I) :=
  if x1 < 0 then
    some ((-1 : Int32), I)
  else
    if (2 : Int32) < x1 then
      some ((-1 : Int32), I)
    else
      (pX8_isUntouched n (q0 + 1)  I).bind fun z3 =>
      if z3 = 0 then
        some ((-1 : Int32), I)
      else
        ev_lt (I (q0 + 1) 1) fun v5 =>
        ev_lt (ev_u2 I (q0 + 1) 1 x1) fun I6 =>
        some (v5, I6)
set_option maxRecDepth 100000 in
set_option maxHeartbeats 4000000 in
theorem tX9_leaders {E : ev_N} {σ : ev_H} (n : Nat) (q0 : Nat) (g0 : shp tb8 σ q0) (x1 : Int32) (I : ev_I) (o : Int32 × ev_I) (h : pX9_leaders n q0 x1 I = some o) : ev_T E mX9_leaders [.ref q0, .int x1] (h_w σ I) (Option.some (Value.int o.1), h_w σ o.2) := by
  unfold pX9_leaders at h
  refine ev_met rfl rfl (Nat.le_of_ble_eq_true rfl) (ev_L0 (L' := [some (.ref q0), some (.int x1), none]) rfl ?_)
  refine ev_iload_n dX9_leaders_0 rfl ?_
  refine ev_if_lt (tgt := 19) dX9_leaders_1 (by decide) (fun c1 => ?_) (fun c1 => ?_)
  · have h := ev_ifT h c1
    refine ev_iconst (v := (-1 : Int32)) dX9_leaders_19 (by decide) ?_
    cases h
    exact er_i dX9_leaders_20 rfl rfl
  · have h := ev_ifF h c1
    refine ev_iload_n dX9_leaders_4 rfl ?_
    refine ev_iconst (v := (2 : Int32)) dX9_leaders_5 (by decide) ?_
    refine ev_icmp_gt (tgt := 19) dX9_leaders_6 (by decide) (fun c2 => ?_) (fun c2 => ?_)
    · have h := ev_ifT h c2
      refine ev_iconst (v := (-1 : Int32)) dX9_leaders_19 (by decide) ?_
      cases h
      exact er_i dX9_leaders_20 rfl rfl
    · have h := ev_ifF h c2
      refine ev_aload_n dX9_leaders_9 rfl (fun _ e => by cases e) ?_
      refine ew_getr0 dX9_leaders_10 fX9_12 g0 rfl rfl rfl rfl ?_
      obtain ⟨z3, hz3, h⟩ := ev_bnE h
      refine ec_Vi (Y := mX8_isUntouched) (ci := 7) (As := []) (rest := []) dX9_leaders_13 kX9_36 oX8_isUntouched ⟨Nat.le_of_ble_eq_true rfl, Nat.le_of_ble_eq_true rfl⟩ (by decide) rfl (shp_n (s87 g0) 0 rfl) (shp_t (s87 g0) 0 rfl) rfl (Nat.le_of_ble_eq_true rfl) (tX8_isUntouched n (q0 + 1) (s87 g0)  I z3 hz3) rfl ?_
      refine ev_if_ne (tgt := 21) dX9_leaders_16 (by decide) (fun c4 => ?_) (fun c4 => ?_)
      · have h := ev_ifF h c4
        refine ev_aload_n dX9_leaders_21 rfl (fun _ e => by cases e) ?_
        refine ew_getr0 dX9_leaders_22 fX9_12 g0 rfl rfl rfl rfl ?_
        refine ew_get0 dX9_leaders_25 fX9_94 (s87 g0) rfl rfl rfl ?_
        obtain ⟨v5, ev5, h⟩ := ev_ltE h
        refine ew_nm ev5 ?_
        refine ew_istn (L' := [some (.ref q0), some (.int x1), some (.int v5)]) dX9_leaders_28 (Nat.le_of_ble_eq_true rfl) rfl ?_
        refine ev_aload_n dX9_leaders_29 rfl (fun _ e => by cases e) ?_
        refine ew_getr0 dX9_leaders_30 fX9_12 g0 rfl rfl rfl rfl ?_
        refine ev_iload_n dX9_leaders_33 rfl ?_
        obtain ⟨I6, eI6, h⟩ := ev_ltE h
        refine ew_put0 dX9_leaders_34 fX9_94 (s87 g0) rfl rfl rfl rfl rfl rfl (ew_nh eI6 ?_)
        refine ev_iload_n dX9_leaders_37 rfl ?_
        cases h
        exact er_i dX9_leaders_38 rfl rfl
      · have h := ev_ifT h c4
        refine ev_iconst (v := (-1 : Int32)) dX9_leaders_19 (by decide) ?_
        cases h
        exact er_i dX9_leaders_20 rfl rfl
-- ChainVotes cut(IIZ)Z
def pX9_cut (n : Nat) (q0 : Nat) (x1 : Int32) (x2 : Int32) (x3 : Int32) (I : ev_I) : Option (Int32 × ev_I) :=
  (pX8_hasNode n (q0 + 1) x1 I).bind fun z1 =>
  if z1 = 0 then
    some ((0 : Int32), I)
  else
    (pX8_hasNode n (q0 + 1) x2 I).bind fun z3 =>
    if z3 = 0 then
      some ((0 : Int32), I)
    else
      if x1 = x2 then
        some ((0 : Int32), I)
      else
        (pX4_setCut n ((q0 + 1) + 11) x1 x2 x3 I).bind fun z6 =>
        some ((1 : Int32), z6)
set_option maxRecDepth 100000 in
set_option maxHeartbeats 4000000 in
theorem tX9_cut {E : ev_N} {σ : ev_H} (n : Nat) (q0 : Nat) (g0 : shp tb8 σ q0) (x1 : Int32) (x2 : Int32) (x3 : Int32) (I : ev_I) (o : Int32 × ev_I) (h : pX9_cut n q0 x1 x2 x3 I = some o) : ev_T E mX9_cut [.ref q0, .int x1, .int x2, .int x3] (h_w σ I) (Option.some (Value.int o.1), h_w σ o.2) := by
  unfold pX9_cut at h
  refine ev_met rfl rfl (Nat.le_of_ble_eq_true rfl) (ev_L0 (L' := [some (.ref q0), some (.int x1), some (.int x2), some (.int x3)]) rfl ?_)
  refine ev_aload_n dX9_cut_0 rfl (fun _ e => by cases e) ?_
  refine ew_getr0 dX9_cut_1 fX9_12 g0 rfl rfl rfl rfl ?_
  refine ev_iload_n dX9_cut_4 rfl ?_
  obtain ⟨z1, hz1, h⟩ := ev_bnE h
  refine ec_Vi (Y := mX8_hasNode) (ci := 7) (As := [.int x1]) (rest := []) dX9_cut_5 kX9_44 oX8_hasNode ⟨Nat.le_of_ble_eq_true rfl, Nat.le_of_ble_eq_true rfl⟩ (by decide) rfl (shp_n (s87 g0) 0 rfl) (shp_t (s87 g0) 0 rfl) rfl (Nat.le_of_ble_eq_true rfl) (tX8_hasNode n (q0 + 1) (s87 g0) x1 I z1 hz1) rfl ?_
  refine ev_if_eq (tgt := 27) dX9_cut_8 (by decide) (fun c2 => ?_) (fun c2 => ?_)
  · have h := ev_ifT h c2
    refine ev_iconst (v := (0 : Int32)) dX9_cut_27 (by decide) ?_
    cases h
    exact er_i dX9_cut_28 rfl rfl
  · have h := ev_ifF h c2
    refine ev_aload_n dX9_cut_11 rfl (fun _ e => by cases e) ?_
    refine ew_getr0 dX9_cut_12 fX9_12 g0 rfl rfl rfl rfl ?_
    refine ev_iload_n dX9_cut_15 rfl ?_
    obtain ⟨z3, hz3, h⟩ := ev_bnE h
    refine ec_Vi (Y := mX8_hasNode) (ci := 7) (As := [.int x2]) (rest := []) dX9_cut_16 kX9_44 oX8_hasNode ⟨Nat.le_of_ble_eq_true rfl, Nat.le_of_ble_eq_true rfl⟩ (by decide) rfl (shp_n (s87 g0) 0 rfl) (shp_t (s87 g0) 0 rfl) rfl (Nat.le_of_ble_eq_true rfl) (tX8_hasNode n (q0 + 1) (s87 g0) x2 I z3 hz3) rfl ?_
    refine ev_if_eq (tgt := 27) dX9_cut_19 (by decide) (fun c4 => ?_) (fun c4 => ?_)
    · have h := ev_ifT h c4
      refine ev_iconst (v := (0 : Int32)) dX9_cut_27 (by decide) ?_
      cases h
      exact er_i dX9_cut_28 rfl rfl
    · have h := ev_ifF h c4
      refine ev_iload_n dX9_cut_22 rfl ?_
      refine ev_iload_n dX9_cut_23 rfl ?_
      refine ev_icmp_ne (tgt := 29) dX9_cut_24 (by decide) (fun c5 => ?_) (fun c5 => ?_)
      · have h := ev_ifF h c5
        refine ev_aload_n dX9_cut_29 rfl (fun _ e => by cases e) ?_
        refine ew_getr0 dX9_cut_30 fX9_12 g0 rfl rfl rfl rfl ?_
        refine ew_getr0 dX9_cut_33 fX9_69 (s87 g0) rfl rfl rfl rfl ?_
        refine ev_iload_n dX9_cut_36 rfl ?_
        refine ev_iload_n dX9_cut_37 rfl ?_
        refine ev_iload_n dX9_cut_38 rfl ?_
        obtain ⟨z6, hz6, h⟩ := ev_bnE h
        refine ec_Vv (Y := mX4_setCut) (ci := 4) (As := [.int x1, .int x2, .int x3]) (rest := []) dX9_cut_39 kX9_97 oX4_setCut ⟨Nat.le_of_ble_eq_true rfl, Nat.le_of_ble_eq_true rfl⟩ (by decide) rfl (shp_n (s74 (s87 g0)) 0 rfl) (shp_t (s74 (s87 g0)) 0 rfl) rfl (Nat.le_of_ble_eq_true rfl) (tX4_setCut n ((q0 + 1) + 11) (s74 (s87 g0)) x1 x2 x3 I z6 hz6) rfl ?_
        refine ev_iconst (v := (1 : Int32)) dX9_cut_42 (by decide) ?_
        cases h
        exact er_i dX9_cut_43 rfl rfl
      · have h := ev_ifT h c5
        refine ev_iconst (v := (0 : Int32)) dX9_cut_27 (by decide) ?_
        cases h
        exact er_i dX9_cut_28 rfl rfl
-- ChainVotes reach(I)I
def pX9_reach (n : Nat) (q0 : Nat) (x1 : Int32) (I : ev_I) : Option (Int32) :=
  (pX8_hasNode n (q0 + 1) x1 I).bind fun z1 =>
  if z1 = 0 then
    some (-1 : Int32)
  else
    (pX8_everybody n (q0 + 1)  I).bind fun z3 =>
    ev_ck (ev_in x1 7) <|
    some (z3 &&& ((I (((q0 + 1) + 11) + 2) x1.toNatClampNeg) ^^^ (-1 : Int32)))
set_option maxRecDepth 100000 in
set_option maxHeartbeats 4000000 in
theorem tX9_reach {E : ev_N} {σ : ev_H} (n : Nat) (q0 : Nat) (g0 : shp tb8 σ q0) (x1 : Int32) (I : ev_I) (o : Int32) (h : pX9_reach n q0 x1 I = some o) : ev_T E mX9_reach [.ref q0, .int x1] (h_w σ I) (Option.some (Value.int o), h_w σ I) := by
  unfold pX9_reach at h
  refine ev_met rfl rfl (Nat.le_of_ble_eq_true rfl) (ev_L0 (L' := [some (.ref q0), some (.int x1)]) rfl ?_)
  refine ev_aload_n dX9_reach_0 rfl (fun _ e => by cases e) ?_
  refine ew_getr0 dX9_reach_1 fX9_12 g0 rfl rfl rfl rfl ?_
  refine ev_iload_n dX9_reach_4 rfl ?_
  obtain ⟨z1, hz1, h⟩ := ev_bnE h
  refine ec_Vi (Y := mX8_hasNode) (ci := 7) (As := [.int x1]) (rest := []) dX9_reach_5 kX9_44 oX8_hasNode ⟨Nat.le_of_ble_eq_true rfl, Nat.le_of_ble_eq_true rfl⟩ (by decide) rfl (shp_n (s87 g0) 0 rfl) (shp_t (s87 g0) 0 rfl) rfl (Nat.le_of_ble_eq_true rfl) (tX8_hasNode n (q0 + 1) (s87 g0) x1 I z1 hz1) rfl ?_
  refine ev_if_eq (tgt := 36) dX9_reach_8 (by decide) (fun c2 => ?_) (fun c2 => ?_)
  · have h := ev_ifT h c2
    refine ev_iconst (v := (-1 : Int32)) dX9_reach_36 (by decide) ?_
    cases h
    exact er_i dX9_reach_37 rfl rfl
  · have h := ev_ifF h c2
    refine ev_aload_n dX9_reach_11 rfl (fun _ e => by cases e) ?_
    refine ew_getr0 dX9_reach_12 fX9_12 g0 rfl rfl rfl rfl ?_
    obtain ⟨z3, hz3, h⟩ := ev_bnE h
    refine ec_Vi (Y := mX8_everybody) (ci := 7) (As := []) (rest := []) dX9_reach_15 kX9_101 oX8_everybody ⟨Nat.le_of_ble_eq_true rfl, Nat.le_of_ble_eq_true rfl⟩ (by decide) rfl (shp_n (s87 g0) 0 rfl) (shp_t (s87 g0) 0 rfl) rfl (Nat.le_of_ble_eq_true rfl) (tX8_everybody n (q0 + 1) (s87 g0)  I z3 hz3) rfl ?_
    refine ev_aload_n dX9_reach_18 rfl (fun _ e => by cases e) ?_
    refine ew_getr0 dX9_reach_19 fX9_12 g0 rfl rfl rfl rfl ?_
    refine ew_getr0 dX9_reach_22 fX9_69 (s87 g0) rfl rfl rfl rfl ?_
    refine ew_getr0 dX9_reach_25 fX9_105 (s74 (s87 g0)) rfl rfl rfl rfl ?_
    refine ev_iload_n dX9_reach_28 rfl ?_
    obtain ⟨c4, h⟩ := ev_ckE h
    refine ew_iald dX9_reach_29 (shp_a (s74 (s87 g0)) 2 rfl) c4 ?_
    refine ev_iconst (v := (-1 : Int32)) dX9_reach_30 (by decide) ?_
    refine ev_ixor dX9_reach_31 ?_
    refine ev_iand dX9_reach_32 ?_
    refine ev_goto (tgt := 37) dX9_reach_33 (by decide) ?_
    cases h
    exact er_i dX9_reach_37 rfl rfl
-- ChainVotes since(II)I
def pX9_since (n : Nat) (q0 : Nat) (x1 : Int32) (x2 : Int32) (I : ev_I) : Option (Int32) :=
  (pX8_hasNode n (q0 + 1) x1 I).bind fun z1 =>
  if z1 = 0 then
    some (-100000 : Int32)
  else
    ev_ck (ev_in x1 7) <|
    (pX6_distance n (q0 + 1) ((q0 + 1) + (23 + 5 * x1.toNatClampNeg)) x2 I).bind fun z4 =>
    some z4
set_option maxRecDepth 100000 in
set_option maxHeartbeats 4000000 in
theorem tX9_since {E : ev_N} {σ : ev_H} (n : Nat) (q0 : Nat) (g0 : shp tb8 σ q0) (x1 : Int32) (x2 : Int32) (I : ev_I) (o : Int32) (h : pX9_since n q0 x1 x2 I = some o) : ev_T E mX9_since [.ref q0, .int x1, .int x2] (h_w σ I) (Option.some (Value.int o), h_w σ I) := by
  unfold pX9_since at h
  refine ev_met rfl rfl (Nat.le_of_ble_eq_true rfl) (ev_L0 (L' := [some (.ref q0), some (.int x1), some (.int x2)]) rfl ?_)
  refine ev_aload_n dX9_since_0 rfl (fun _ e => by cases e) ?_
  refine ew_getr0 dX9_since_1 fX9_12 g0 rfl rfl rfl rfl ?_
  refine ev_iload_n dX9_since_4 rfl ?_
  obtain ⟨z1, hz1, h⟩ := ev_bnE h
  refine ec_Vi (Y := mX8_hasNode) (ci := 7) (As := [.int x1]) (rest := []) dX9_since_5 kX9_44 oX8_hasNode ⟨Nat.le_of_ble_eq_true rfl, Nat.le_of_ble_eq_true rfl⟩ (by decide) rfl (shp_n (s87 g0) 0 rfl) (shp_t (s87 g0) 0 rfl) rfl (Nat.le_of_ble_eq_true rfl) (tX8_hasNode n (q0 + 1) (s87 g0) x1 I z1 hz1) rfl ?_
  refine ev_if_eq (tgt := 31) dX9_since_8 (by decide) (fun c2 => ?_) (fun c2 => ?_)
  · have h := ev_ifT h c2
    refine ev_ldc (v := (-100000 : Int32)) dX9_since_31 vX9_115 ?_
    cases h
    exact er_i dX9_since_33 rfl rfl
  · have h := ev_ifF h c2
    refine ev_aload_n dX9_since_11 rfl (fun _ e => by cases e) ?_
    refine ew_getr0 dX9_since_12 fX9_12 g0 rfl rfl rfl rfl ?_
    refine ev_aload_n dX9_since_15 rfl (fun _ e => by cases e) ?_
    refine ew_getr0 dX9_since_16 fX9_12 g0 rfl rfl rfl rfl ?_
    refine ew_getr0 dX9_since_19 fX9_48 (s87 g0) rfl rfl rfl rfl ?_
    refine ev_iload_n dX9_since_22 rfl ?_
    obtain ⟨c3, h⟩ := ev_ckE h
    refine ew_memb dX9_since_23 (s87 g0) c3 ?_
    refine ev_iload_n dX9_since_24 rfl ?_
    obtain ⟨z4, hz4, h⟩ := ev_bnE h
    refine ec_Si (Y := mX6_distance) (As := [.ref (q0 + 1), .ref ((q0 + 1) + (23 + 5 * x1.toNatClampNeg)), .int x2]) (rest := []) dX9_since_25 kX9_109 oX6_distance ⟨Nat.le_of_ble_eq_true rfl, Nat.le_of_ble_eq_true rfl⟩ rfl (Nat.le_of_ble_eq_true rfl) (tX6_distance n (q0 + 1) ((q0 + 1) + (23 + 5 * x1.toNatClampNeg)) (s87 g0) (s73 (s87 g0) (ev_inL c3)) x2 I z4 hz4) rfl ?_
    refine ev_goto (tgt := 33) dX9_since_28 (by decide) ?_
    cases h
    exact er_i dX9_since_33 rfl rfl
-- ChainVotes state(I)I
def pX9_state (n : Nat) (q0 : Nat) (x1 : Int32) (I : ev_I) : Option (Int32 × ev_I) :=
  ev_lt (I (q0 + 1) 2) fun v1 =>
  ev_lt (ev_u2 I (q0 + 1) 2 x1) fun I2 =>
  some (v1, I2)
set_option maxRecDepth 100000 in
set_option maxHeartbeats 4000000 in
theorem tX9_state {E : ev_N} {σ : ev_H} (n : Nat) (q0 : Nat) (g0 : shp tb8 σ q0) (x1 : Int32) (I : ev_I) (o : Int32 × ev_I) (h : pX9_state n q0 x1 I = some o) : ev_T E mX9_state [.ref q0, .int x1] (h_w σ I) (Option.some (Value.int o.1), h_w σ o.2) := by
  unfold pX9_state at h
  refine ev_met rfl rfl (Nat.le_of_ble_eq_true rfl) (ev_L0 (L' := [some (.ref q0), some (.int x1), none]) rfl ?_)
  refine ev_aload_n dX9_state_0 rfl (fun _ e => by cases e) ?_
  refine ew_getr0 dX9_state_1 fX9_12 g0 rfl rfl rfl rfl ?_
  refine ew_get0 dX9_state_4 fX9_116 (s87 g0) rfl rfl rfl ?_
  obtain ⟨v1, ev1, h⟩ := ev_ltE h
  refine ew_nm ev1 ?_
  refine ew_istn (L' := [some (.ref q0), some (.int x1), some (.int v1)]) dX9_state_7 (Nat.le_of_ble_eq_true rfl) rfl ?_
  refine ev_aload_n dX9_state_8 rfl (fun _ e => by cases e) ?_
  refine ew_getr0 dX9_state_9 fX9_12 g0 rfl rfl rfl rfl ?_
  refine ev_iload_n dX9_state_12 rfl ?_
  obtain ⟨I2, eI2, h⟩ := ev_ltE h
  refine ew_put0 dX9_state_13 fX9_116 (s87 g0) rfl rfl rfl rfl rfl rfl (ew_nh eI2 ?_)
  refine ev_iload_n dX9_state_16 rfl ?_
  cases h
  exact er_i dX9_state_17 rfl rfl
-- ChainVotes ask(II)Z
def pX9_ask (n : Nat) (q0 : Nat) (x1 : Int32) (x2 : Int32) (I : ev_I) : Option (Int32 × ev_I) :=
  (pX8_isAwake n (q0 + 1) x1 I).bind fun z1 =>
  if z1 = 0 then
    some ((0 : Int32), I)
  else
    (pX8_isAwake n (q0 + 1) x2 I).bind fun z3 =>
    if z3 = 0 then
      some ((0 : Int32), I)
    else
      if x1 = x2 then
        some ((0 : Int32), I)
      else
        (pX8_askAnother n (q0 + 1) x1 x2 I).bind fun z6 =>
        some ((1 : Int32), z6)
set_option maxRecDepth 100000 in
set_option maxHeartbeats 4000000 in
theorem tX9_ask {E : ev_N} {σ : ev_H} (n : Nat) (q0 : Nat) (g0 : shp tb8 σ q0) (x1 : Int32) (x2 : Int32) (I : ev_I) (o : Int32 × ev_I) (h : pX9_ask n q0 x1 x2 I = some o) : ev_T E mX9_ask [.ref q0, .int x1, .int x2] (h_w σ I) (Option.some (Value.int o.1), h_w σ o.2) := by
  unfold pX9_ask at h
  refine ev_met rfl rfl (Nat.le_of_ble_eq_true rfl) (ev_L0 (L' := [some (.ref q0), some (.int x1), some (.int x2)]) rfl ?_)
  refine ev_aload_n dX9_ask_0 rfl (fun _ e => by cases e) ?_
  refine ew_getr0 dX9_ask_1 fX9_12 g0 rfl rfl rfl rfl ?_
  refine ev_iload_n dX9_ask_4 rfl ?_
  obtain ⟨z1, hz1, h⟩ := ev_bnE h
  refine ec_Vi (Y := mX8_isAwake) (ci := 7) (As := [.int x1]) (rest := []) dX9_ask_5 kX9_119 oX8_isAwake ⟨Nat.le_of_ble_eq_true rfl, Nat.le_of_ble_eq_true rfl⟩ (by decide) rfl (shp_n (s87 g0) 0 rfl) (shp_t (s87 g0) 0 rfl) rfl (Nat.le_of_ble_eq_true rfl) (tX8_isAwake n (q0 + 1) (s87 g0) x1 I z1 hz1) rfl ?_
  refine ev_if_eq (tgt := 27) dX9_ask_8 (by decide) (fun c2 => ?_) (fun c2 => ?_)
  · have h := ev_ifT h c2
    refine ev_iconst (v := (0 : Int32)) dX9_ask_27 (by decide) ?_
    cases h
    exact er_i dX9_ask_28 rfl rfl
  · have h := ev_ifF h c2
    refine ev_aload_n dX9_ask_11 rfl (fun _ e => by cases e) ?_
    refine ew_getr0 dX9_ask_12 fX9_12 g0 rfl rfl rfl rfl ?_
    refine ev_iload_n dX9_ask_15 rfl ?_
    obtain ⟨z3, hz3, h⟩ := ev_bnE h
    refine ec_Vi (Y := mX8_isAwake) (ci := 7) (As := [.int x2]) (rest := []) dX9_ask_16 kX9_119 oX8_isAwake ⟨Nat.le_of_ble_eq_true rfl, Nat.le_of_ble_eq_true rfl⟩ (by decide) rfl (shp_n (s87 g0) 0 rfl) (shp_t (s87 g0) 0 rfl) rfl (Nat.le_of_ble_eq_true rfl) (tX8_isAwake n (q0 + 1) (s87 g0) x2 I z3 hz3) rfl ?_
    refine ev_if_eq (tgt := 27) dX9_ask_19 (by decide) (fun c4 => ?_) (fun c4 => ?_)
    · have h := ev_ifT h c4
      refine ev_iconst (v := (0 : Int32)) dX9_ask_27 (by decide) ?_
      cases h
      exact er_i dX9_ask_28 rfl rfl
    · have h := ev_ifF h c4
      refine ev_iload_n dX9_ask_22 rfl ?_
      refine ev_iload_n dX9_ask_23 rfl ?_
      refine ev_icmp_ne (tgt := 29) dX9_ask_24 (by decide) (fun c5 => ?_) (fun c5 => ?_)
      · have h := ev_ifF h c5
        refine ev_aload_n dX9_ask_29 rfl (fun _ e => by cases e) ?_
        refine ew_getr0 dX9_ask_30 fX9_12 g0 rfl rfl rfl rfl ?_
        refine ev_iload_n dX9_ask_33 rfl ?_
        refine ev_iload_n dX9_ask_34 rfl ?_
        obtain ⟨z6, hz6, h⟩ := ev_bnE h
        refine ec_Vv (Y := mX8_askAnother) (ci := 7) (As := [.int x1, .int x2]) (rest := []) dX9_ask_35 kX9_122 oX8_askAnother ⟨Nat.le_of_ble_eq_true rfl, Nat.le_of_ble_eq_true rfl⟩ (by decide) rfl (shp_n (s87 g0) 0 rfl) (shp_t (s87 g0) 0 rfl) rfl (Nat.le_of_ble_eq_true rfl) (tX8_askAnother n (q0 + 1) (s87 g0) x1 x2 I z6 hz6) rfl ?_
        refine ev_iconst (v := (1 : Int32)) dX9_ask_38 (by decide) ?_
        cases h
        exact er_i dX9_ask_39 rfl rfl
      · have h := ev_ifT h c5
        refine ev_iconst (v := (0 : Int32)) dX9_ask_27 (by decide) ?_
        cases h
        exact er_i dX9_ask_28 rfl rfl
-- ChainVotes storm(II)I
def pX9_storm (n : Nat) (q0 : Nat) (x1 : Int32) (x2 : Int32) (I : ev_I) : Option (Int32 × ev_I) :=
  if x1 < (1 : Int32) then
    some ((-1 : Int32), I)
  else
    if (40 : Int32) < x1 then
      some ((-1 : Int32), I)
    else
      if x2 < 0 then
        some ((-1 : Int32), I)
      else
        if x2 ≤ (9 : Int32) then
          (pX8_stormOf n (q0 + 1) x1 x2 I).bind fun z5 =>
          some (z5.1, z5.2)
        else
          some ((-1 : Int32), I)
set_option maxRecDepth 100000 in
set_option maxHeartbeats 4000000 in
theorem tX9_storm {E : ev_N} {σ : ev_H} (n : Nat) (q0 : Nat) (g0 : shp tb8 σ q0) (x1 : Int32) (x2 : Int32) (I : ev_I) (o : Int32 × ev_I) (h : pX9_storm n q0 x1 x2 I = some o) : ev_T E mX9_storm [.ref q0, .int x1, .int x2] (h_w σ I) (Option.some (Value.int o.1), h_w σ o.2) := by
  unfold pX9_storm at h
  refine ev_met rfl rfl (Nat.le_of_ble_eq_true rfl) (ev_L0 (L' := [some (.ref q0), some (.int x1), some (.int x2)]) rfl ?_)
  refine ev_iload_n dX9_storm_0 rfl ?_
  refine ev_iconst (v := (1 : Int32)) dX9_storm_1 (by decide) ?_
  refine ev_icmp_lt (tgt := 21) dX9_storm_2 (by decide) (fun c1 => ?_) (fun c1 => ?_)
  · have h := ev_ifT h c1
    refine ev_iconst (v := (-1 : Int32)) dX9_storm_21 (by decide) ?_
    cases h
    exact er_i dX9_storm_22 rfl rfl
  · have h := ev_ifF h c1
    refine ev_iload_n dX9_storm_5 rfl ?_
    refine ev_bipush (v := (40 : Int32)) dX9_storm_6 (by decide) ?_
    refine ev_icmp_gt (tgt := 21) dX9_storm_8 (by decide) (fun c2 => ?_) (fun c2 => ?_)
    · have h := ev_ifT h c2
      refine ev_iconst (v := (-1 : Int32)) dX9_storm_21 (by decide) ?_
      cases h
      exact er_i dX9_storm_22 rfl rfl
    · have h := ev_ifF h c2
      refine ev_iload_n dX9_storm_11 rfl ?_
      refine ev_if_lt (tgt := 21) dX9_storm_12 (by decide) (fun c3 => ?_) (fun c3 => ?_)
      · have h := ev_ifT h c3
        refine ev_iconst (v := (-1 : Int32)) dX9_storm_21 (by decide) ?_
        cases h
        exact er_i dX9_storm_22 rfl rfl
      · have h := ev_ifF h c3
        refine ev_iload_n dX9_storm_15 rfl ?_
        refine ev_bipush (v := (9 : Int32)) dX9_storm_16 (by decide) ?_
        refine ev_icmp_le (tgt := 23) dX9_storm_18 (by decide) (fun c4 => ?_) (fun c4 => ?_)
        · have h := ev_ifT h c4
          refine ev_aload_n dX9_storm_23 rfl (fun _ e => by cases e) ?_
          refine ew_getr0 dX9_storm_24 fX9_12 g0 rfl rfl rfl rfl ?_
          refine ev_iload_n dX9_storm_27 rfl ?_
          refine ev_iload_n dX9_storm_28 rfl ?_
          obtain ⟨z5, hz5, h⟩ := ev_bnE h
          refine ec_Vi (Y := mX8_stormOf) (ci := 7) (As := [.int x1, .int x2]) (rest := []) dX9_storm_29 kX9_126 oX8_stormOf ⟨Nat.le_of_ble_eq_true rfl, Nat.le_of_ble_eq_true rfl⟩ (by decide) rfl (shp_n (s87 g0) 0 rfl) (shp_t (s87 g0) 0 rfl) rfl (Nat.le_of_ble_eq_true rfl) (tX8_stormOf n (q0 + 1) (s87 g0) x1 x2 I z5 hz5) rfl ?_
          cases h
          exact er_i dX9_storm_32 rfl rfl
        · have h := ev_ifF h c4
          refine ev_iconst (v := (-1 : Int32)) dX9_storm_21 (by decide) ?_
          cases h
          exact er_i dX9_storm_22 rfl rfl
-- ChainVotes turn(I)Z
def pX9_turn (n : Nat) (q0 : Nat) (x1 : Int32) (I : ev_I) : Option (Int32 × ev_I) :=
  (pX4_turnFirst n ((q0 + 1) + 11) x1 I).bind fun z1 =>
  ev_ck (ev_01 z1.1) <|
  some (z1.1, z1.2)
set_option maxRecDepth 100000 in
set_option maxHeartbeats 4000000 in
theorem tX9_turn {E : ev_N} {σ : ev_H} (n : Nat) (q0 : Nat) (g0 : shp tb8 σ q0) (x1 : Int32) (I : ev_I) (o : Int32 × ev_I) (h : pX9_turn n q0 x1 I = some o) : ev_T E mX9_turn [.ref q0, .int x1] (h_w σ I) (Option.some (Value.int o.1), h_w σ o.2) := by
  unfold pX9_turn at h
  refine ev_met rfl rfl (Nat.le_of_ble_eq_true rfl) (ev_L0 (L' := [some (.ref q0), some (.int x1)]) rfl ?_)
  refine ev_aload_n dX9_turn_0 rfl (fun _ e => by cases e) ?_
  refine ew_getr0 dX9_turn_1 fX9_12 g0 rfl rfl rfl rfl ?_
  refine ew_getr0 dX9_turn_4 fX9_69 (s87 g0) rfl rfl rfl rfl ?_
  refine ev_iload_n dX9_turn_7 rfl ?_
  obtain ⟨z1, hz1, h⟩ := ev_bnE h
  refine ec_Vi (Y := mX4_turnFirst) (ci := 4) (As := [.int x1]) (rest := []) dX9_turn_8 kX9_129 oX4_turnFirst ⟨Nat.le_of_ble_eq_true rfl, Nat.le_of_ble_eq_true rfl⟩ (by decide) rfl (shp_n (s74 (s87 g0)) 0 rfl) (shp_t (s74 (s87 g0)) 0 rfl) rfl (Nat.le_of_ble_eq_true rfl) (tX4_turnFirst n ((q0 + 1) + 11) (s74 (s87 g0)) x1 I z1 hz1) rfl ?_
  obtain ⟨c2, h⟩ := ev_ckE h
  cases h
  exact er_i dX9_turn_11 rfl (ev_01E c2).1
-- ChainVotes calm(I)I
def pX9_calm (n : Nat) (q0 : Nat) (x1 : Int32) (I : ev_I) : Option (Int32 × ev_I) :=
  if x1 < (1 : Int32) then
    some ((-1 : Int32), I)
  else
    if x1 ≤ (20 : Int32) then
      (pX8_calmRounds n (q0 + 1) x1 I).bind fun z3 =>
      some (z3.1, z3.2)
    else
      some ((-1 : Int32), I)
set_option maxRecDepth 100000 in
set_option maxHeartbeats 4000000 in
theorem tX9_calm {E : ev_N} {σ : ev_H} (n : Nat) (q0 : Nat) (g0 : shp tb8 σ q0) (x1 : Int32) (I : ev_I) (o : Int32 × ev_I) (h : pX9_calm n q0 x1 I = some o) : ev_T E mX9_calm [.ref q0, .int x1] (h_w σ I) (Option.some (Value.int o.1), h_w σ o.2) := by
  unfold pX9_calm at h
  refine ev_met rfl rfl (Nat.le_of_ble_eq_true rfl) (ev_L0 (L' := [some (.ref q0), some (.int x1)]) rfl ?_)
  refine ev_iload_n dX9_calm_0 rfl ?_
  refine ev_iconst (v := (1 : Int32)) dX9_calm_1 (by decide) ?_
  refine ev_icmp_lt (tgt := 11) dX9_calm_2 (by decide) (fun c1 => ?_) (fun c1 => ?_)
  · have h := ev_ifT h c1
    refine ev_iconst (v := (-1 : Int32)) dX9_calm_11 (by decide) ?_
    refine ev_goto (tgt := 23) dX9_calm_12 (by decide) ?_
    cases h
    exact er_i dX9_calm_23 rfl rfl
  · have h := ev_ifF h c1
    refine ev_iload_n dX9_calm_5 rfl ?_
    refine ev_bipush (v := (20 : Int32)) dX9_calm_6 (by decide) ?_
    refine ev_icmp_le (tgt := 15) dX9_calm_8 (by decide) (fun c2 => ?_) (fun c2 => ?_)
    · have h := ev_ifT h c2
      refine ev_aload_n dX9_calm_15 rfl (fun _ e => by cases e) ?_
      refine ew_getr0 dX9_calm_16 fX9_12 g0 rfl rfl rfl rfl ?_
      refine ev_iload_n dX9_calm_19 rfl ?_
      obtain ⟨z3, hz3, h⟩ := ev_bnE h
      refine ec_Vi (Y := mX8_calmRounds) (ci := 7) (As := [.int x1]) (rest := []) dX9_calm_20 kX9_132 oX8_calmRounds ⟨Nat.le_of_ble_eq_true rfl, Nat.le_of_ble_eq_true rfl⟩ (by decide) rfl (shp_n (s87 g0) 0 rfl) (shp_t (s87 g0) 0 rfl) rfl (Nat.le_of_ble_eq_true rfl) (tX8_calmRounds n (q0 + 1) (s87 g0) x1 I z3 hz3) rfl ?_
      cases h
      exact er_i dX9_calm_23 rfl rfl
    · have h := ev_ifF h c2
      refine ev_iconst (v := (-1 : Int32)) dX9_calm_11 (by decide) ?_
      refine ev_goto (tgt := 23) dX9_calm_12 (by decide) ?_
      cases h
      exact er_i dX9_calm_23 rfl rfl
-- ChainVotes feed(IIIII)I
def pX9_feed (n : Nat) (q0 : Nat) (x1 : Int32) (x2 : Int32) (x3 : Int32) (x4 : Int32) (x5 : Int32) (I : ev_I) : Option (Int32 × ev_I) :=
  if ((I (q0 + 59) 1) + (20 : Int32)) ≤ (400 : Int32) then
    (pX7_write n (q0 + 59) x1 I).bind fun z2 =>
    (pX7_write n (q0 + 59) x2 z2).bind fun z3 =>
    (pX7_write n (q0 + 59) x3 z3).bind fun z4 =>
    (pX7_write n (q0 + 59) x4 z4).bind fun z5 =>
    (pX7_write n (q0 + 59) x5 z5).bind fun z6 =>
    some ((z6 (q0 + 59) 1), z6)
  else
    some ((-1 : Int32), I)
set_option maxRecDepth 100000 in
set_option maxHeartbeats 4000000 in
theorem tX9_feed {E : ev_N} {σ : ev_H} (n : Nat) (q0 : Nat) (g0 : shp tb8 σ q0) (x1 : Int32) (x2 : Int32) (x3 : Int32) (x4 : Int32) (x5 : Int32) (I : ev_I) (o : Int32 × ev_I) (h : pX9_feed n q0 x1 x2 x3 x4 x5 I = some o) : ev_T E mX9_feed [.ref q0, .int x1, .int x2, .int x3, .int x4, .int x5] (h_w σ I) (Option.some (Value.int o.1), h_w σ o.2) := by
  unfold pX9_feed at h
  refine ev_met rfl rfl (Nat.le_of_ble_eq_true rfl) (ev_L0 (L' := [some (.ref q0), some (.int x1), some (.int x2), some (.int x3), some (.int x4), some (.int x5)]) rfl ?_)
  refine ev_aload_n dX9_feed_0 rfl (fun _ e => by cases e) ?_
  refine ew_getr0 dX9_feed_1 fX9_19 g0 rfl rfl rfl rfl ?_
  refine ew_get0 dX9_feed_4 fX9_135 (s86 g0) rfl rfl rfl ?_
  refine ev_bipush (v := (20 : Int32)) dX9_feed_7 (by decide) ?_
  refine ev_iadd dX9_feed_9 ?_
  refine ev_sipush (v := (400 : Int32)) dX9_feed_10 (by decide) ?_
  refine ev_icmp_le (tgt := 18) dX9_feed_13 (by decide) (fun c1 => ?_) (fun c1 => ?_)
  · have h := ev_ifT h c1
    refine ev_aload_n dX9_feed_18 rfl (fun _ e => by cases e) ?_
    refine ew_getr0 dX9_feed_19 fX9_19 g0 rfl rfl rfl rfl ?_
    refine ev_iload_n dX9_feed_22 rfl ?_
    obtain ⟨z2, hz2, h⟩ := ev_bnE h
    refine ec_Vv (Y := mX7_write) (ci := 6) (As := [.int x1]) (rest := []) dX9_feed_23 kX9_138 oX7_write ⟨Nat.le_of_ble_eq_true rfl, Nat.le_of_ble_eq_true rfl⟩ (by decide) rfl (shp_n (s86 g0) 0 rfl) (shp_t (s86 g0) 0 rfl) rfl (Nat.le_of_ble_eq_true rfl) (tX7_write n (q0 + 59) (s86 g0) x1 I z2 hz2) rfl ?_
    refine ev_aload_n dX9_feed_26 rfl (fun _ e => by cases e) ?_
    refine ew_getr0 dX9_feed_27 fX9_19 g0 rfl rfl rfl rfl ?_
    refine ev_iload_n dX9_feed_30 rfl ?_
    obtain ⟨z3, hz3, h⟩ := ev_bnE h
    refine ec_Vv (Y := mX7_write) (ci := 6) (As := [.int x2]) (rest := []) dX9_feed_31 kX9_138 oX7_write ⟨Nat.le_of_ble_eq_true rfl, Nat.le_of_ble_eq_true rfl⟩ (by decide) rfl (shp_n (s86 g0) 0 rfl) (shp_t (s86 g0) 0 rfl) rfl (Nat.le_of_ble_eq_true rfl) (tX7_write n (q0 + 59) (s86 g0) x2 z2 z3 hz3) rfl ?_
    refine ev_aload_n dX9_feed_34 rfl (fun _ e => by cases e) ?_
    refine ew_getr0 dX9_feed_35 fX9_19 g0 rfl rfl rfl rfl ?_
    refine ev_iload_n dX9_feed_38 rfl ?_
    obtain ⟨z4, hz4, h⟩ := ev_bnE h
    refine ec_Vv (Y := mX7_write) (ci := 6) (As := [.int x3]) (rest := []) dX9_feed_39 kX9_138 oX7_write ⟨Nat.le_of_ble_eq_true rfl, Nat.le_of_ble_eq_true rfl⟩ (by decide) rfl (shp_n (s86 g0) 0 rfl) (shp_t (s86 g0) 0 rfl) rfl (Nat.le_of_ble_eq_true rfl) (tX7_write n (q0 + 59) (s86 g0) x3 z3 z4 hz4) rfl ?_
    refine ev_aload_n dX9_feed_42 rfl (fun _ e => by cases e) ?_
    refine ew_getr0 dX9_feed_43 fX9_19 g0 rfl rfl rfl rfl ?_
    refine ev_iload dX9_feed_46 rfl ?_
    obtain ⟨z5, hz5, h⟩ := ev_bnE h
    refine ec_Vv (Y := mX7_write) (ci := 6) (As := [.int x4]) (rest := []) dX9_feed_48 kX9_138 oX7_write ⟨Nat.le_of_ble_eq_true rfl, Nat.le_of_ble_eq_true rfl⟩ (by decide) rfl (shp_n (s86 g0) 0 rfl) (shp_t (s86 g0) 0 rfl) rfl (Nat.le_of_ble_eq_true rfl) (tX7_write n (q0 + 59) (s86 g0) x4 z4 z5 hz5) rfl ?_
    refine ev_aload_n dX9_feed_51 rfl (fun _ e => by cases e) ?_
    refine ew_getr0 dX9_feed_52 fX9_19 g0 rfl rfl rfl rfl ?_
    refine ev_iload dX9_feed_55 rfl ?_
    obtain ⟨z6, hz6, h⟩ := ev_bnE h
    refine ec_Vv (Y := mX7_write) (ci := 6) (As := [.int x5]) (rest := []) dX9_feed_57 kX9_138 oX7_write ⟨Nat.le_of_ble_eq_true rfl, Nat.le_of_ble_eq_true rfl⟩ (by decide) rfl (shp_n (s86 g0) 0 rfl) (shp_t (s86 g0) 0 rfl) rfl (Nat.le_of_ble_eq_true rfl) (tX7_write n (q0 + 59) (s86 g0) x5 z5 z6 hz6) rfl ?_
    refine ev_aload_n dX9_feed_60 rfl (fun _ e => by cases e) ?_
    refine ew_getr0 dX9_feed_61 fX9_19 g0 rfl rfl rfl rfl ?_
    refine ew_get0 dX9_feed_64 fX9_135 (s86 g0) rfl rfl rfl ?_
    cases h
    exact er_i dX9_feed_67 rfl rfl
  · have h := ev_ifF h c1
    refine ev_iconst (v := (-1 : Int32)) dX9_feed_16 (by decide) ?_
    cases h
    exact er_i dX9_feed_17 rfl rfl
-- ChainVotes end(I)Z
def pX9_end (n : Nat) (q0 : Nat) (x1 : Int32) (I : ev_I) : Option (Int32 × ev_I) :=
  if x1 < 0 then
    some ((0 : Int32), I)
  else
    if x1 ≤ (I (q0 + 59) 1) then
      ev_lt (ev_u2 I (q0 + 59) 1 x1) fun I3 =>
      some ((1 : Int32), I3)
    else
      some ((0 : Int32), I)
set_option maxRecDepth 100000 in
set_option maxHeartbeats 4000000 in
theorem tX9_end {E : ev_N} {σ : ev_H} (n : Nat) (q0 : Nat) (g0 : shp tb8 σ q0) (x1 : Int32) (I : ev_I) (o : Int32 × ev_I) (h : pX9_end n q0 x1 I = some o) : ev_T E mX9_end [.ref q0, .int x1] (h_w σ I) (Option.some (Value.int o.1), h_w σ o.2) := by
  unfold pX9_end at h
  refine ev_met rfl rfl (Nat.le_of_ble_eq_true rfl) (ev_L0 (L' := [some (.ref q0), some (.int x1)]) rfl ?_)
  refine ev_iload_n dX9_end_0 rfl ?_
  refine ev_if_lt (tgt := 15) dX9_end_1 (by decide) (fun c1 => ?_) (fun c1 => ?_)
  · have h := ev_ifT h c1
    refine ev_iconst (v := (0 : Int32)) dX9_end_15 (by decide) ?_
    cases h
    exact er_i dX9_end_16 rfl rfl
  · have h := ev_ifF h c1
    refine ev_iload_n dX9_end_4 rfl ?_
    refine ev_aload_n dX9_end_5 rfl (fun _ e => by cases e) ?_
    refine ew_getr0 dX9_end_6 fX9_19 g0 rfl rfl rfl rfl ?_
    refine ew_get0 dX9_end_9 fX9_135 (s86 g0) rfl rfl rfl ?_
    refine ev_icmp_le (tgt := 17) dX9_end_12 (by decide) (fun c2 => ?_) (fun c2 => ?_)
    · have h := ev_ifT h c2
      refine ev_aload_n dX9_end_17 rfl (fun _ e => by cases e) ?_
      refine ew_getr0 dX9_end_18 fX9_19 g0 rfl rfl rfl rfl ?_
      refine ev_iload_n dX9_end_21 rfl ?_
      obtain ⟨I3, eI3, h⟩ := ev_ltE h
      refine ew_put0 dX9_end_22 fX9_135 (s86 g0) rfl rfl rfl rfl rfl rfl (ew_nh eI3 ?_)
      refine ev_iconst (v := (1 : Int32)) dX9_end_25 (by decide) ?_
      cases h
      exact er_i dX9_end_26 rfl rfl
    · have h := ev_ifF h c2
      refine ev_iconst (v := (0 : Int32)) dX9_end_15 (by decide) ?_
      cases h
      exact er_i dX9_end_16 rfl rfl
-- ChainVotes fault(I)I
def pX9_fault (n : Nat) (q0 : Nat) (x1 : Int32) (I : ev_I) : Option (Int32) :=
  if x1 = (0 : Int32) then
    some (I (q0 + 59) 2)
  else
  if x1 = (1 : Int32) then
    some (I (q0 + 59) 3)
  else
  some (-1 : Int32)
set_option maxRecDepth 100000 in
set_option maxHeartbeats 4000000 in
theorem tX9_fault {E : ev_N} {σ : ev_H} (n : Nat) (q0 : Nat) (g0 : shp tb8 σ q0) (x1 : Int32) (I : ev_I) (o : Int32) (h : pX9_fault n q0 x1 I = some o) : ev_T E mX9_fault [.ref q0, .int x1] (h_w σ I) (Option.some (Value.int o), h_w σ I) := by
  unfold pX9_fault at h
  refine ev_met rfl rfl (Nat.le_of_ble_eq_true rfl) (ev_L0 (L' := [some (.ref q0), some (.int x1)]) rfl ?_)
  refine ev_iload_n dX9_fault_0 rfl ?_
  by_cases c1 : x1 = (0 : Int32)
  · have h := ev_ifT h c1
    refine ev_lookup (tgt := 28) dX9_fault_1 (by decide) (by rw [c1]; decide) ?_
    refine ev_aload_n dX9_fault_28 rfl (fun _ e => by cases e) ?_
    refine ew_getr0 dX9_fault_29 fX9_19 g0 rfl rfl rfl rfl ?_
    refine ew_get0 dX9_fault_32 fX9_160 (s86 g0) rfl rfl rfl ?_
    cases h
    exact er_i dX9_fault_35 rfl rfl
  have h := ev_ifF h c1
  by_cases c2 : x1 = (1 : Int32)
  · have h := ev_ifT h c2
    refine ev_lookup (tgt := 36) dX9_fault_1 (by decide) (by rw [c2]; decide) ?_
    refine ev_aload_n dX9_fault_36 rfl (fun _ e => by cases e) ?_
    refine ew_getr0 dX9_fault_37 fX9_19 g0 rfl rfl rfl rfl ?_
    refine ew_get0 dX9_fault_40 fX9_163 (s86 g0) rfl rfl rfl ?_
    cases h
    exact er_i dX9_fault_43 rfl rfl
  have h := ev_ifF h c2
  refine ev_lookup (tgt := 44) dX9_fault_1 (by decide) (by rw [sw_lk (by intro q hq; simp at hq; rcases hq with rfl | rfl <;> first | exact ⟨_, by decide, c1⟩ | exact ⟨_, by decide, c2⟩)]; decide) ?_
  refine ev_iconst (v := (-1 : Int32)) dX9_fault_44 (by decide) ?_
  cases h
  exact er_i dX9_fault_45 rfl rfl
-- ChainVotes run(I)I
def cX9_run_86 (q0 : Nat) (K17 : Int32 → Int32 → Int32 → ev_I → Option (Int32 × ev_I)) (n : Nat) (y1 : Int32) (y2 : Int32) (y3 : Int32) (I : ev_I) : Option (Int32 × ev_I) :=
  ev_lt (y3 + (1 : Int32)) fun v1 =>
  K17 y1 y2 v1 I
def cX9_run_17 (q0 : Nat) (K17 : Int32 → Int32 → Int32 → ev_I → Option (Int32 × ev_I)) (n : Nat) (y1 : Int32) (y2 : Int32) (y3 : Int32) (I : ev_I) : Option (Int32 × ev_I) :=
  if y1 ≤ y3 then
    some (y2, I)
  else
    if (I ((q0 + 1) + 18) 0) ≤ (I ((q0 + 1) + 18) 1) then
      some (y2, I)
    else
      ev_lt (I ((q0 + 1) + 18) 1) fun v4 =>
      ev_lt (ev_u2 I ((q0 + 1) + 18) 1 (v4 + (1 : Int32))) fun I5 =>
      (pX8_runLine n (q0 + 1) v4 I5).bind fun z6 =>
      if z6.1 = 0 then
        cX9_run_86 q0 K17 n y1 y2 y3 z6.2
      else
        ev_lt (y2 + (1 : Int32)) fun v8 =>
        cX9_run_86 q0 K17 n y1 v8 y3 z6.2
def lX9_run_17 (q0 : Nat) : Nat → Int32 → Int32 → Int32 → ev_I → Option (Int32 × ev_I)
  | 0, _, _, _, _ => none
  | n + 1, y1, y2, y3, I => cX9_run_17 q0 (lX9_run_17 q0 n) n y1 y2 y3 I
def pX9_run (n : Nat) (q0 : Nat) (x1 : Int32) (I : ev_I) : Option (Int32 × ev_I) :=
  if x1 < (1 : Int32) then
    some ((-1 : Int32), I)
  else
    if x1 ≤ (24 : Int32) then
      lX9_run_17 q0 n x1 (0 : Int32) (0 : Int32) I
    else
      some ((-1 : Int32), I)
set_option maxRecDepth 100000 in
set_option maxHeartbeats 4000000 in
theorem tX9_run_86 {E : ev_N} {σ : ev_H} (q0 : Nat) (g0 : shp tb8 σ q0) (K17 : Int32 → Int32 → Int32 → ev_I → Option (Int32 × ev_I)) (k17 : ∀ (y1 : Int32) (y2 : Int32) (y3 : Int32) (I : ev_I) (o : Int32 × ev_I), K17 y1 y2 y3 I = some o → EV E mX9_run 17 [some (.ref q0), some (.int y1), some (.int y2), some (.int y3), none] [] (h_w σ I) (Option.some (Value.int o.1), h_w σ o.2)) (n : Nat) (y1 : Int32) (y2 : Int32) (y3 : Int32) (I : ev_I) (o : Int32 × ev_I) : cX9_run_86 q0 K17 n y1 y2 y3 I = some o → EV E mX9_run 86 [some (.ref q0), some (.int y1), some (.int y2), some (.int y3), none] [] (h_w σ I) (Option.some (Value.int o.1), h_w σ o.2) := by
  intro h
  unfold cX9_run_86 at h
  obtain ⟨v1, ev1, h⟩ := ev_ltE h
  refine ew_iinc (L' := [some (.ref q0), some (.int y1), some (.int y2), some (.int v1), none]) dX9_run_86 (Nat.le_of_ble_eq_true rfl) rfl (by decide) ev1 rfl ?_
  refine ev_goto (tgt := 17) dX9_run_89 (by decide) ?_
  exact ev_weak (sb_s (sb_s (sb_s (sb_s (sb_n sb_0))))) (k17 y1 y2 v1 I _ h)
set_option maxRecDepth 100000 in
set_option maxHeartbeats 4000000 in
theorem tX9_run_17 {E : ev_N} {σ : ev_H} (q0 : Nat) (g0 : shp tb8 σ q0) (K17 : Int32 → Int32 → Int32 → ev_I → Option (Int32 × ev_I)) (k17 : ∀ (y1 : Int32) (y2 : Int32) (y3 : Int32) (I : ev_I) (o : Int32 × ev_I), K17 y1 y2 y3 I = some o → EV E mX9_run 17 [some (.ref q0), some (.int y1), some (.int y2), some (.int y3), none] [] (h_w σ I) (Option.some (Value.int o.1), h_w σ o.2)) (n : Nat) (y1 : Int32) (y2 : Int32) (y3 : Int32) (I : ev_I) (o : Int32 × ev_I) : cX9_run_17 q0 K17 n y1 y2 y3 I = some o → EV E mX9_run 17 [some (.ref q0), some (.int y1), some (.int y2), some (.int y3), none] [] (h_w σ I) (Option.some (Value.int o.1), h_w σ o.2) := by
  intro h
  unfold cX9_run_17 at h
  refine ev_iload_n dX9_run_17 rfl ?_
  refine ev_iload_n dX9_run_18 rfl ?_
  refine ev_icmp_ge (tgt := 92) dX9_run_19 (by decide) (fun c2 => ?_) (fun c2 => ?_)
  · have h := ev_ifT h c2
    refine ev_iload_n dX9_run_92 rfl ?_
    cases h
    exact er_i dX9_run_93 rfl rfl
  · have h := ev_ifF h c2
    refine ev_aload_n dX9_run_22 rfl (fun _ e => by cases e) ?_
    refine ew_getr0 dX9_run_23 fX9_12 g0 rfl rfl rfl rfl ?_
    refine ew_getr0 dX9_run_26 fX9_144 (s87 g0) rfl rfl rfl rfl ?_
    refine ew_get0 dX9_run_29 fX9_166 (s75 (s87 g0)) rfl rfl rfl ?_
    refine ev_aload_n dX9_run_32 rfl (fun _ e => by cases e) ?_
    refine ew_getr0 dX9_run_33 fX9_12 g0 rfl rfl rfl rfl ?_
    refine ew_getr0 dX9_run_36 fX9_144 (s87 g0) rfl rfl rfl rfl ?_
    refine ew_get0 dX9_run_39 fX9_157 (s75 (s87 g0)) rfl rfl rfl ?_
    refine ev_icmp_ge (tgt := 92) dX9_run_42 (by decide) (fun c3 => ?_) (fun c3 => ?_)
    · have h := ev_ifT h c3
      refine ev_iload_n dX9_run_92 rfl ?_
      cases h
      exact er_i dX9_run_93 rfl rfl
    · have h := ev_ifF h c3
      refine ev_aload_n dX9_run_45 rfl (fun _ e => by cases e) ?_
      refine ew_getr0 dX9_run_46 fX9_12 g0 rfl rfl rfl rfl ?_
      refine ew_getr0 dX9_run_49 fX9_144 (s87 g0) rfl rfl rfl rfl ?_
      refine ew_get0 dX9_run_52 fX9_166 (s75 (s87 g0)) rfl rfl rfl ?_
      obtain ⟨v4, ev4, h⟩ := ev_ltE h
      refine ew_nm ev4 ?_
      refine ew_ist (L' := [some (.ref q0), some (.int y1), some (.int y2), some (.int y3), some (.int v4)]) dX9_run_55 (Nat.le_of_ble_eq_true rfl) rfl ?_
      refine ev_aload_n dX9_run_57 rfl (fun _ e => by cases e) ?_
      refine ew_getr0 dX9_run_58 fX9_12 g0 rfl rfl rfl rfl ?_
      refine ew_getr0 dX9_run_61 fX9_144 (s87 g0) rfl rfl rfl rfl ?_
      refine ev_iload dX9_run_64 rfl ?_
      refine ev_iconst (v := (1 : Int32)) dX9_run_66 (by decide) ?_
      refine ev_iadd dX9_run_67 ?_
      obtain ⟨I5, eI5, h⟩ := ev_ltE h
      refine ew_put0 dX9_run_68 fX9_166 (s75 (s87 g0)) rfl rfl rfl rfl rfl rfl (ew_nh eI5 ?_)
      refine ev_aload_n dX9_run_71 rfl (fun _ e => by cases e) ?_
      refine ew_getr0 dX9_run_72 fX9_12 g0 rfl rfl rfl rfl ?_
      refine ev_iload dX9_run_75 rfl ?_
      obtain ⟨z6, hz6, h⟩ := ev_bnE h
      refine ec_Vi (Y := mX8_runLine) (ci := 7) (As := [.int v4]) (rest := []) dX9_run_77 kX9_169 oX8_runLine ⟨Nat.le_of_ble_eq_true rfl, Nat.le_of_ble_eq_true rfl⟩ (by decide) rfl (shp_n (s87 g0) 0 rfl) (shp_t (s87 g0) 0 rfl) rfl (Nat.le_of_ble_eq_true rfl) (tX8_runLine n (q0 + 1) (s87 g0) v4 I5 z6 hz6) rfl ?_
      refine ev_if_eq (tgt := 86) dX9_run_80 (by decide) (fun c7 => ?_) (fun c7 => ?_)
      · have h := ev_ifT h c7
        exact ev_weak (sb_s (sb_s (sb_s (sb_s (sb_n sb_0))))) (tX9_run_86 q0 g0 K17 k17 n y1 y2 y3 z6.2 _ h)
      · have h := ev_ifF h c7
        obtain ⟨v8, ev8, h⟩ := ev_ltE h
        refine ew_iinc (L' := [some (.ref q0), some (.int y1), some (.int v8), some (.int y3), some (.int v4)]) dX9_run_83 (Nat.le_of_ble_eq_true rfl) rfl (by decide) ev8 rfl ?_
        exact ev_weak (sb_s (sb_s (sb_s (sb_s (sb_n sb_0))))) (tX9_run_86 q0 g0 K17 k17 n y1 v8 y3 z6.2 _ h)
theorem tlX9_run_17 {E : ev_N} {σ : ev_H} (q0 : Nat) (g0 : shp tb8 σ q0) : ∀ (n : Nat) (y1 : Int32) (y2 : Int32) (y3 : Int32) (I : ev_I) (o : Int32 × ev_I), lX9_run_17 q0 n y1 y2 y3 I = some o → EV E mX9_run 17 [some (.ref q0), some (.int y1), some (.int y2), some (.int y3), none] [] (h_w σ I) (Option.some (Value.int o.1), h_w σ o.2)
  | 0, _, _, _, _, _, h => by cases h
  | n + 1, y1, y2, y3, I, o, h => tX9_run_17 q0 g0 (lX9_run_17 q0 n) (tlX9_run_17 q0 g0 n) n y1 y2 y3 I o h
set_option maxRecDepth 100000 in
set_option maxHeartbeats 4000000 in
theorem tX9_run {E : ev_N} {σ : ev_H} (n : Nat) (q0 : Nat) (g0 : shp tb8 σ q0) (x1 : Int32) (I : ev_I) (o : Int32 × ev_I) (h : pX9_run n q0 x1 I = some o) : ev_T E mX9_run [.ref q0, .int x1] (h_w σ I) (Option.some (Value.int o.1), h_w σ o.2) := by
  unfold pX9_run at h
  refine ev_met rfl rfl (Nat.le_of_ble_eq_true rfl) (ev_L0 (L' := [some (.ref q0), some (.int x1), none, none, none]) rfl ?_)
  refine ev_iload_n dX9_run_0 rfl ?_
  refine ev_iconst (v := (1 : Int32)) dX9_run_1 (by decide) ?_
  refine ev_icmp_lt (tgt := 11) dX9_run_2 (by decide) (fun c9 => ?_) (fun c9 => ?_)
  · have h := ev_ifT h c9
    refine ev_iconst (v := (-1 : Int32)) dX9_run_11 (by decide) ?_
    cases h
    exact er_i dX9_run_12 rfl rfl
  · have h := ev_ifF h c9
    refine ev_iload_n dX9_run_5 rfl ?_
    refine ev_bipush (v := (24 : Int32)) dX9_run_6 (by decide) ?_
    refine ev_icmp_le (tgt := 13) dX9_run_8 (by decide) (fun c10 => ?_) (fun c10 => ?_)
    · have h := ev_ifT h c10
      refine ev_iconst (v := (0 : Int32)) dX9_run_13 (by decide) ?_
      refine ew_istn (L' := [some (.ref q0), some (.int x1), some (.int (0 : Int32)), none, none]) dX9_run_14 (Nat.le_of_ble_eq_true rfl) rfl ?_
      refine ev_iconst (v := (0 : Int32)) dX9_run_15 (by decide) ?_
      refine ew_istn (L' := [some (.ref q0), some (.int x1), some (.int (0 : Int32)), some (.int (0 : Int32)), none]) dX9_run_16 (Nat.le_of_ble_eq_true rfl) rfl ?_
      exact ev_weak (sb_s (sb_s (sb_s (sb_s (sb_n sb_0))))) (tlX9_run_17 q0 g0 n x1 (0 : Int32) (0 : Int32) I _ h)
    · have h := ev_ifF h c10
      refine ev_iconst (v := (-1 : Int32)) dX9_run_11 (by decide) ?_
      cases h
      exact er_i dX9_run_12 rfl rfl
-- ChainVotes node(II)I
def pX9_node (n : Nat) (q0 : Nat) (x1 : Int32) (x2 : Int32) (I : ev_I) : Option (Int32) :=
  (pX8_hasNode n (q0 + 1) x1 I).bind fun z1 =>
  if z1 = 0 then
    some (-1 : Int32)
  else
    (pX6_ofNode n (q0 + 1) x1 x2 I).bind fun z3 =>
    some z3
set_option maxRecDepth 100000 in
set_option maxHeartbeats 4000000 in
theorem tX9_node {E : ev_N} {σ : ev_H} (n : Nat) (q0 : Nat) (g0 : shp tb8 σ q0) (x1 : Int32) (x2 : Int32) (I : ev_I) (o : Int32) (h : pX9_node n q0 x1 x2 I = some o) : ev_T E mX9_node [.ref q0, .int x1, .int x2] (h_w σ I) (Option.some (Value.int o), h_w σ I) := by
  unfold pX9_node at h
  refine ev_met rfl rfl (Nat.le_of_ble_eq_true rfl) (ev_L0 (L' := [some (.ref q0), some (.int x1), some (.int x2)]) rfl ?_)
  refine ev_aload_n dX9_node_0 rfl (fun _ e => by cases e) ?_
  refine ew_getr0 dX9_node_1 fX9_12 g0 rfl rfl rfl rfl ?_
  refine ev_iload_n dX9_node_4 rfl ?_
  obtain ⟨z1, hz1, h⟩ := ev_bnE h
  refine ec_Vi (Y := mX8_hasNode) (ci := 7) (As := [.int x1]) (rest := []) dX9_node_5 kX9_44 oX8_hasNode ⟨Nat.le_of_ble_eq_true rfl, Nat.le_of_ble_eq_true rfl⟩ (by decide) rfl (shp_n (s87 g0) 0 rfl) (shp_t (s87 g0) 0 rfl) rfl (Nat.le_of_ble_eq_true rfl) (tX8_hasNode n (q0 + 1) (s87 g0) x1 I z1 hz1) rfl ?_
  refine ev_if_eq (tgt := 23) dX9_node_8 (by decide) (fun c2 => ?_) (fun c2 => ?_)
  · have h := ev_ifT h c2
    refine ev_iconst (v := (-1 : Int32)) dX9_node_23 (by decide) ?_
    cases h
    exact er_i dX9_node_24 rfl rfl
  · have h := ev_ifF h c2
    refine ev_aload_n dX9_node_11 rfl (fun _ e => by cases e) ?_
    refine ew_getr0 dX9_node_12 fX9_12 g0 rfl rfl rfl rfl ?_
    refine ev_iload_n dX9_node_15 rfl ?_
    refine ev_iload_n dX9_node_16 rfl ?_
    obtain ⟨z3, hz3, h⟩ := ev_bnE h
    refine ec_Si (Y := mX6_ofNode) (As := [.ref (q0 + 1), .int x1, .int x2]) (rest := []) dX9_node_17 kX9_172 oX6_ofNode ⟨Nat.le_of_ble_eq_true rfl, Nat.le_of_ble_eq_true rfl⟩ rfl (Nat.le_of_ble_eq_true rfl) (tX6_ofNode n (q0 + 1) (s87 g0) x1 x2 I z3 hz3) rfl ?_
    refine ev_goto (tgt := 24) dX9_node_20 (by decide) ?_
    cases h
    exact er_i dX9_node_24 rfl rfl
-- ChainVotes log(II)I
def pX9_log (n : Nat) (q0 : Nat) (x1 : Int32) (x2 : Int32) (I : ev_I) : Option (Int32) :=
  (pX8_hasNode n (q0 + 1) x1 I).bind fun z1 =>
  if z1 = 0 then
    some (-1 : Int32)
  else
    if x2 < 0 then
      some (-1 : Int32)
    else
      ev_ck (ev_in x1 7) <|
      if x2 < (I ((q0 + 1) + (23 + 5 * x1.toNatClampNeg)) 9) then
        ev_ck (ev_in x1 7) <|
        ev_ck (ev_in x2 100) <|
        some (I (((q0 + 1) + (23 + 5 * x1.toNatClampNeg)) + 1) x2.toNatClampNeg)
      else
        some (-1 : Int32)
set_option maxRecDepth 100000 in
set_option maxHeartbeats 4000000 in
theorem tX9_log {E : ev_N} {σ : ev_H} (n : Nat) (q0 : Nat) (g0 : shp tb8 σ q0) (x1 : Int32) (x2 : Int32) (I : ev_I) (o : Int32) (h : pX9_log n q0 x1 x2 I = some o) : ev_T E mX9_log [.ref q0, .int x1, .int x2] (h_w σ I) (Option.some (Value.int o), h_w σ I) := by
  unfold pX9_log at h
  refine ev_met rfl rfl (Nat.le_of_ble_eq_true rfl) (ev_L0 (L' := [some (.ref q0), some (.int x1), some (.int x2)]) rfl ?_)
  refine ev_aload_n dX9_log_0 rfl (fun _ e => by cases e) ?_
  refine ew_getr0 dX9_log_1 fX9_12 g0 rfl rfl rfl rfl ?_
  refine ev_iload_n dX9_log_4 rfl ?_
  obtain ⟨z1, hz1, h⟩ := ev_bnE h
  refine ec_Vi (Y := mX8_hasNode) (ci := 7) (As := [.int x1]) (rest := []) dX9_log_5 kX9_44 oX8_hasNode ⟨Nat.le_of_ble_eq_true rfl, Nat.le_of_ble_eq_true rfl⟩ (by decide) rfl (shp_n (s87 g0) 0 rfl) (shp_t (s87 g0) 0 rfl) rfl (Nat.le_of_ble_eq_true rfl) (tX8_hasNode n (q0 + 1) (s87 g0) x1 I z1 hz1) rfl ?_
  refine ev_if_eq (tgt := 31) dX9_log_8 (by decide) (fun c2 => ?_) (fun c2 => ?_)
  · have h := ev_ifT h c2
    refine ev_iconst (v := (-1 : Int32)) dX9_log_31 (by decide) ?_
    cases h
    exact er_i dX9_log_32 rfl rfl
  · have h := ev_ifF h c2
    refine ev_iload_n dX9_log_11 rfl ?_
    refine ev_if_lt (tgt := 31) dX9_log_12 (by decide) (fun c3 => ?_) (fun c3 => ?_)
    · have h := ev_ifT h c3
      refine ev_iconst (v := (-1 : Int32)) dX9_log_31 (by decide) ?_
      cases h
      exact er_i dX9_log_32 rfl rfl
    · have h := ev_ifF h c3
      refine ev_iload_n dX9_log_15 rfl ?_
      refine ev_aload_n dX9_log_16 rfl (fun _ e => by cases e) ?_
      refine ew_getr0 dX9_log_17 fX9_12 g0 rfl rfl rfl rfl ?_
      refine ew_getr0 dX9_log_20 fX9_48 (s87 g0) rfl rfl rfl rfl ?_
      refine ev_iload_n dX9_log_23 rfl ?_
      obtain ⟨c4, h⟩ := ev_ckE h
      refine ew_memb dX9_log_24 (s87 g0) c4 ?_
      refine ew_get0 dX9_log_25 fX9_176 (s73 (s87 g0) (ev_inL c4)) rfl rfl rfl ?_
      refine ev_icmp_lt (tgt := 33) dX9_log_28 (by decide) (fun c5 => ?_) (fun c5 => ?_)
      · have h := ev_ifT h c5
        refine ev_aload_n dX9_log_33 rfl (fun _ e => by cases e) ?_
        refine ew_getr0 dX9_log_34 fX9_12 g0 rfl rfl rfl rfl ?_
        refine ew_getr0 dX9_log_37 fX9_48 (s87 g0) rfl rfl rfl rfl ?_
        refine ev_iload_n dX9_log_40 rfl ?_
        obtain ⟨c6, h⟩ := ev_ckE h
        refine ew_memb dX9_log_41 (s87 g0) c6 ?_
        refine ew_getr0 dX9_log_42 fX9_179 (s73 (s87 g0) (ev_inL c6)) rfl rfl rfl rfl ?_
        refine ev_iload_n dX9_log_45 rfl ?_
        obtain ⟨c7, h⟩ := ev_ckE h
        refine ew_iald dX9_log_46 (shp_a (s73 (s87 g0) (ev_inL c6)) 1 rfl) c7 ?_
        cases h
        exact er_i dX9_log_47 rfl rfl
      · have h := ev_ifF h c5
        refine ev_iconst (v := (-1 : Int32)) dX9_log_31 (by decide) ?_
        cases h
        exact er_i dX9_log_32 rfl rfl
-- ChainVotes block(II)I
def pX9_block (n : Nat) (q0 : Nat) (x1 : Int32) (x2 : Int32) (I : ev_I) : Option (Int32) :=
  (pX1_has n ((q0 + 1) + 1) x1 I).bind fun z1 =>
  if z1 = 0 then
    some (-1 : Int32)
  else
    (pX6_ofBlock n ((q0 + 1) + 1) x1 x2 I).bind fun z3 =>
    some z3
set_option maxRecDepth 100000 in
set_option maxHeartbeats 4000000 in
theorem tX9_block {E : ev_N} {σ : ev_H} (n : Nat) (q0 : Nat) (g0 : shp tb8 σ q0) (x1 : Int32) (x2 : Int32) (I : ev_I) (o : Int32) (h : pX9_block n q0 x1 x2 I = some o) : ev_T E mX9_block [.ref q0, .int x1, .int x2] (h_w σ I) (Option.some (Value.int o), h_w σ I) := by
  unfold pX9_block at h
  refine ev_met rfl rfl (Nat.le_of_ble_eq_true rfl) (ev_L0 (L' := [some (.ref q0), some (.int x1), some (.int x2)]) rfl ?_)
  refine ev_aload_n dX9_block_0 rfl (fun _ e => by cases e) ?_
  refine ew_getr0 dX9_block_1 fX9_12 g0 rfl rfl rfl rfl ?_
  refine ew_getr0 dX9_block_4 fX9_182 (s87 g0) rfl rfl rfl rfl ?_
  refine ev_iload_n dX9_block_7 rfl ?_
  obtain ⟨z1, hz1, h⟩ := ev_bnE h
  refine ec_Vi (Y := mX1_has) (ci := 1) (As := [.int x1]) (rest := []) dX9_block_8 kX9_186 oX1_has ⟨Nat.le_of_ble_eq_true rfl, Nat.le_of_ble_eq_true rfl⟩ (by decide) rfl (shp_n (s71 (s87 g0)) 0 rfl) (shp_t (s71 (s87 g0)) 0 rfl) rfl (Nat.le_of_ble_eq_true rfl) (tX1_has n ((q0 + 1) + 1) (s71 (s87 g0)) x1 I z1 hz1) rfl ?_
  refine ev_if_eq (tgt := 29) dX9_block_11 (by decide) (fun c2 => ?_) (fun c2 => ?_)
  · have h := ev_ifT h c2
    refine ev_iconst (v := (-1 : Int32)) dX9_block_29 (by decide) ?_
    cases h
    exact er_i dX9_block_30 rfl rfl
  · have h := ev_ifF h c2
    refine ev_aload_n dX9_block_14 rfl (fun _ e => by cases e) ?_
    refine ew_getr0 dX9_block_15 fX9_12 g0 rfl rfl rfl rfl ?_
    refine ew_getr0 dX9_block_18 fX9_182 (s87 g0) rfl rfl rfl rfl ?_
    refine ev_iload_n dX9_block_21 rfl ?_
    refine ev_iload_n dX9_block_22 rfl ?_
    obtain ⟨z3, hz3, h⟩ := ev_bnE h
    refine ec_Si (Y := mX6_ofBlock) (As := [.ref ((q0 + 1) + 1), .int x1, .int x2]) (rest := []) dX9_block_23 kX9_189 oX6_ofBlock ⟨Nat.le_of_ble_eq_true rfl, Nat.le_of_ble_eq_true rfl⟩ rfl (Nat.le_of_ble_eq_true rfl) (tX6_ofBlock n ((q0 + 1) + 1) (s71 (s87 g0)) x1 x2 I z3 hz3) rfl ?_
    refine ev_goto (tgt := 30) dX9_block_26 (by decide) ?_
    cases h
    exact er_i dX9_block_30 rfl rfl
-- ChainVotes timeouts(II)I
def pX9_timeouts (n : Nat) (q0 : Nat) (x1 : Int32) (x2 : Int32) (I : ev_I) : Option (Int32) :=
  (pX8_hasNode n (q0 + 1) x1 I).bind fun z1 =>
  if z1 = 0 then
    some (-1 : Int32)
  else
    if x2 < (1 : Int32) then
      some (-1 : Int32)
    else
      if x2 ≤ (200 : Int32) then
        ev_ck (ev_in x1 7) <|
        ev_ck (ev_in x2 201) <|
        (pJ6_bitCount_0f7a4 n  (I (((q0 + 1) + (23 + 5 * x1.toNatClampNeg)) + 4) x2.toNatClampNeg) I).bind fun z7 =>
        some z7
      else
        some (-1 : Int32)
set_option maxRecDepth 100000 in
set_option maxHeartbeats 4000000 in
theorem tX9_timeouts {E : ev_N} {σ : ev_H} (n : Nat) (q0 : Nat) (g0 : shp tb8 σ q0) (x1 : Int32) (x2 : Int32) (I : ev_I) (o : Int32) (h : pX9_timeouts n q0 x1 x2 I = some o) : ev_T E mX9_timeouts [.ref q0, .int x1, .int x2] (h_w σ I) (Option.some (Value.int o), h_w σ I) := by
  unfold pX9_timeouts at h
  refine ev_met rfl rfl (Nat.le_of_ble_eq_true rfl) (ev_L0 (L' := [some (.ref q0), some (.int x1), some (.int x2)]) rfl ?_)
  refine ev_aload_n dX9_timeouts_0 rfl (fun _ e => by cases e) ?_
  refine ew_getr0 dX9_timeouts_1 fX9_12 g0 rfl rfl rfl rfl ?_
  refine ev_iload_n dX9_timeouts_4 rfl ?_
  obtain ⟨z1, hz1, h⟩ := ev_bnE h
  refine ec_Vi (Y := mX8_hasNode) (ci := 7) (As := [.int x1]) (rest := []) dX9_timeouts_5 kX9_44 oX8_hasNode ⟨Nat.le_of_ble_eq_true rfl, Nat.le_of_ble_eq_true rfl⟩ (by decide) rfl (shp_n (s87 g0) 0 rfl) (shp_t (s87 g0) 0 rfl) rfl (Nat.le_of_ble_eq_true rfl) (tX8_hasNode n (q0 + 1) (s87 g0) x1 I z1 hz1) rfl ?_
  refine ev_if_eq (tgt := 23) dX9_timeouts_8 (by decide) (fun c2 => ?_) (fun c2 => ?_)
  · have h := ev_ifT h c2
    refine ev_iconst (v := (-1 : Int32)) dX9_timeouts_23 (by decide) ?_
    cases h
    exact er_i dX9_timeouts_24 rfl rfl
  · have h := ev_ifF h c2
    refine ev_iload_n dX9_timeouts_11 rfl ?_
    refine ev_iconst (v := (1 : Int32)) dX9_timeouts_12 (by decide) ?_
    refine ev_icmp_lt (tgt := 23) dX9_timeouts_13 (by decide) (fun c3 => ?_) (fun c3 => ?_)
    · have h := ev_ifT h c3
      refine ev_iconst (v := (-1 : Int32)) dX9_timeouts_23 (by decide) ?_
      cases h
      exact er_i dX9_timeouts_24 rfl rfl
    · have h := ev_ifF h c3
      refine ev_iload_n dX9_timeouts_16 rfl ?_
      refine ev_sipush (v := (200 : Int32)) dX9_timeouts_17 (by decide) ?_
      refine ev_icmp_le (tgt := 25) dX9_timeouts_20 (by decide) (fun c4 => ?_) (fun c4 => ?_)
      · have h := ev_ifT h c4
        refine ev_aload_n dX9_timeouts_25 rfl (fun _ e => by cases e) ?_
        refine ew_getr0 dX9_timeouts_26 fX9_12 g0 rfl rfl rfl rfl ?_
        refine ew_getr0 dX9_timeouts_29 fX9_48 (s87 g0) rfl rfl rfl rfl ?_
        refine ev_iload_n dX9_timeouts_32 rfl ?_
        obtain ⟨c5, h⟩ := ev_ckE h
        refine ew_memb dX9_timeouts_33 (s87 g0) c5 ?_
        refine ew_getr0 dX9_timeouts_34 fX9_205 (s73 (s87 g0) (ev_inL c5)) rfl rfl rfl rfl ?_
        refine ev_iload_n dX9_timeouts_37 rfl ?_
        obtain ⟨c6, h⟩ := ev_ckE h
        refine ew_iald dX9_timeouts_38 (shp_a (s73 (s87 g0) (ev_inL c5)) 4 rfl) c6 ?_
        obtain ⟨z7, hz7, h⟩ := ev_bnE h
        refine ec_Si (Y := mJ6_bitCount_0f7a4) (As := [.int (I (((q0 + 1) + (23 + 5 * x1.toNatClampNeg)) + 4) x2.toNatClampNeg)]) (rest := []) dX9_timeouts_39 kX9_200 oJ6_bitCount_0f7a4 ⟨Nat.le_of_ble_eq_true rfl, Nat.le_of_ble_eq_true rfl⟩ rfl (Nat.le_of_ble_eq_true rfl) (tJ6_bitCount_0f7a4 n   (I (((q0 + 1) + (23 + 5 * x1.toNatClampNeg)) + 4) x2.toNatClampNeg) I z7 hz7) rfl ?_
        cases h
        exact er_i dX9_timeouts_42 rfl rfl
      · have h := ev_ifF h c4
        refine ev_iconst (v := (-1 : Int32)) dX9_timeouts_23 (by decide) ?_
        cases h
        exact er_i dX9_timeouts_24 rfl rfl
-- ChainVotes message(II)I
def pX9_message (n : Nat) (q0 : Nat) (x1 : Int32) (x2 : Int32) (I : ev_I) : Option (Int32) :=
  (pX4_has n ((q0 + 1) + 11) x1 I).bind fun z1 =>
  if z1 = 0 then
    some (-2 : Int32)
  else
    (pX4_at n ((q0 + 1) + 11) x1 I).bind fun z3 =>
    (pX6_ofMessage n  z3 x2 I).bind fun z4 =>
    some z4
set_option maxRecDepth 100000 in
set_option maxHeartbeats 4000000 in
theorem tX9_message {E : ev_N} {σ : ev_H} (n : Nat) (q0 : Nat) (g0 : shp tb8 σ q0) (x1 : Int32) (x2 : Int32) (I : ev_I) (o : Int32) (h : pX9_message n q0 x1 x2 I = some o) : ev_T E mX9_message [.ref q0, .int x1, .int x2] (h_w σ I) (Option.some (Value.int o), h_w σ I) := by
  unfold pX9_message at h
  refine ev_met rfl rfl (Nat.le_of_ble_eq_true rfl) (ev_L0 (L' := [some (.ref q0), some (.int x1), some (.int x2)]) rfl ?_)
  refine ev_aload_n dX9_message_0 rfl (fun _ e => by cases e) ?_
  refine ew_getr0 dX9_message_1 fX9_12 g0 rfl rfl rfl rfl ?_
  refine ew_getr0 dX9_message_4 fX9_69 (s87 g0) rfl rfl rfl rfl ?_
  refine ev_iload_n dX9_message_7 rfl ?_
  obtain ⟨z1, hz1, h⟩ := ev_bnE h
  refine ec_Vi (Y := mX4_has) (ci := 4) (As := [.int x1]) (rest := []) dX9_message_8 kX9_73 oX4_has ⟨Nat.le_of_ble_eq_true rfl, Nat.le_of_ble_eq_true rfl⟩ (by decide) rfl (shp_n (s74 (s87 g0)) 0 rfl) (shp_t (s74 (s87 g0)) 0 rfl) rfl (Nat.le_of_ble_eq_true rfl) (tX4_has n ((q0 + 1) + 11) (s74 (s87 g0)) x1 I z1 hz1) rfl ?_
  refine ev_if_eq (tgt := 32) dX9_message_11 (by decide) (fun c2 => ?_) (fun c2 => ?_)
  · have h := ev_ifT h c2
    refine ev_bipush (v := (-2 : Int32)) dX9_message_32 (by decide) ?_
    cases h
    exact er_i dX9_message_34 rfl rfl
  · have h := ev_ifF h c2
    refine ev_aload_n dX9_message_14 rfl (fun _ e => by cases e) ?_
    refine ew_getr0 dX9_message_15 fX9_12 g0 rfl rfl rfl rfl ?_
    refine ew_getr0 dX9_message_18 fX9_69 (s87 g0) rfl rfl rfl rfl ?_
    refine ev_iload_n dX9_message_21 rfl ?_
    obtain ⟨z3, hz3, h⟩ := ev_bnE h
    refine ec_Vi (Y := mX4_at) (ci := 4) (As := [.int x1]) (rest := []) dX9_message_22 kX9_78 oX4_at ⟨Nat.le_of_ble_eq_true rfl, Nat.le_of_ble_eq_true rfl⟩ (by decide) rfl (shp_n (s74 (s87 g0)) 0 rfl) (shp_t (s74 (s87 g0)) 0 rfl) rfl (Nat.le_of_ble_eq_true rfl) (tX4_at n ((q0 + 1) + 11) (s74 (s87 g0)) x1 I z3 hz3) rfl ?_
    refine ev_iload_n dX9_message_25 rfl ?_
    obtain ⟨z4, hz4, h⟩ := ev_bnE h
    refine ec_Si (Y := mX6_ofMessage) (As := [.int z3, .int x2]) (rest := []) dX9_message_26 kX9_208 oX6_ofMessage ⟨Nat.le_of_ble_eq_true rfl, Nat.le_of_ble_eq_true rfl⟩ rfl (Nat.le_of_ble_eq_true rfl) (tX6_ofMessage n   z3 x2 I z4 hz4) rfl ?_
    refine ev_goto (tgt := 34) dX9_message_29 (by decide) ?_
    cases h
    exact er_i dX9_message_34 rfl rfl
-- ChainVotes evidence(II)I
def pX9_evidence (n : Nat) (q0 : Nat) (x1 : Int32) (x2 : Int32) (I : ev_I) : Option (Int32) :=
  (pX2_at n ((q0 + 1) + 14) 300 x1 x2 (5 : Int32) I).bind fun z1 =>
  some z1
set_option maxRecDepth 100000 in
set_option maxHeartbeats 4000000 in
theorem tX9_evidence {E : ev_N} {σ : ev_H} (n : Nat) (q0 : Nat) (g0 : shp tb8 σ q0) (x1 : Int32) (x2 : Int32) (I : ev_I) (o : Int32) (h : pX9_evidence n q0 x1 x2 I = some o) : ev_T E mX9_evidence [.ref q0, .int x1, .int x2] (h_w σ I) (Option.some (Value.int o), h_w σ I) := by
  unfold pX9_evidence at h
  refine ev_met rfl rfl (Nat.le_of_ble_eq_true rfl) (ev_L0 (L' := [some (.ref q0), some (.int x1), some (.int x2)]) rfl ?_)
  refine ev_aload_n dX9_evidence_0 rfl (fun _ e => by cases e) ?_
  refine ew_getr0 dX9_evidence_1 fX9_12 g0 rfl rfl rfl rfl ?_
  refine ew_getr0 dX9_evidence_4 fX9_211 (s87 g0) rfl rfl rfl rfl ?_
  refine ev_iload_n dX9_evidence_7 rfl ?_
  refine ev_iload_n dX9_evidence_8 rfl ?_
  refine ev_iconst (v := (5 : Int32)) dX9_evidence_9 (by decide) ?_
  obtain ⟨z1, hz1, h⟩ := ev_bnE h
  refine ec_Vi (Y := mX2_at) (ci := 2) (As := [.int x1, .int x2, .int (5 : Int32)]) (rest := []) dX9_evidence_10 kX9_215 oX2_at ⟨Nat.le_of_ble_eq_true rfl, Nat.le_of_ble_eq_true rfl⟩ (by decide) rfl (shp_n (s72e (s87 g0)) 0 rfl) (shp_t (s72e (s87 g0)) 0 rfl) rfl (Nat.le_of_ble_eq_true rfl) (tX2_at n ((q0 + 1) + 14) 300 (s72e (s87 g0)) x1 x2 (5 : Int32) I z1 hz1) rfl ?_
  cases h
  exact er_i dX9_evidence_13 rfl rfl
-- ChainVotes event(II)I
def pX9_event (n : Nat) (q0 : Nat) (x1 : Int32) (x2 : Int32) (I : ev_I) : Option (Int32) :=
  (pX2_at n ((q0 + 1) + 16) 500 x1 x2 (3 : Int32) I).bind fun z1 =>
  some z1
set_option maxRecDepth 100000 in
set_option maxHeartbeats 4000000 in
theorem tX9_event {E : ev_N} {σ : ev_H} (n : Nat) (q0 : Nat) (g0 : shp tb8 σ q0) (x1 : Int32) (x2 : Int32) (I : ev_I) (o : Int32) (h : pX9_event n q0 x1 x2 I = some o) : ev_T E mX9_event [.ref q0, .int x1, .int x2] (h_w σ I) (Option.some (Value.int o), h_w σ I) := by
  unfold pX9_event at h
  refine ev_met rfl rfl (Nat.le_of_ble_eq_true rfl) (ev_L0 (L' := [some (.ref q0), some (.int x1), some (.int x2)]) rfl ?_)
  refine ev_aload_n dX9_event_0 rfl (fun _ e => by cases e) ?_
  refine ew_getr0 dX9_event_1 fX9_12 g0 rfl rfl rfl rfl ?_
  refine ew_getr0 dX9_event_4 fX9_220 (s87 g0) rfl rfl rfl rfl ?_
  refine ev_iload_n dX9_event_7 rfl ?_
  refine ev_iload_n dX9_event_8 rfl ?_
  refine ev_iconst (v := (3 : Int32)) dX9_event_9 (by decide) ?_
  obtain ⟨z1, hz1, h⟩ := ev_bnE h
  refine ec_Vi (Y := mX2_at) (ci := 2) (As := [.int x1, .int x2, .int (3 : Int32)]) (rest := []) dX9_event_10 kX9_215 oX2_at ⟨Nat.le_of_ble_eq_true rfl, Nat.le_of_ble_eq_true rfl⟩ (by decide) rfl (shp_n (s72v (s87 g0)) 0 rfl) (shp_t (s72v (s87 g0)) 0 rfl) rfl (Nat.le_of_ble_eq_true rfl) (tX2_at n ((q0 + 1) + 16) 500 (s72v (s87 g0)) x1 x2 (3 : Int32) I z1 hz1) rfl ?_
  cases h
  exact er_i dX9_event_13 rfl rfl
-- ChainVotes ledger(IZI)I
def pX9_ledger (n : Nat) (q0 : Nat) (x1 : Int32) (x2 : Int32) (x3 : Int32) (I : ev_I) : Option (Int32 × ev_I) :=
  if x3 < 0 then
    some ((-1 : Int32), I)
  else
    if x3 < (5 : Int32) then
      if x2 = 0 then
        (pX8_hasNode n (q0 + 1) x1 I).bind fun z4 =>
        if z4 = 0 then
          some ((-1 : Int32), I)
        else
          ev_ck (ev_in x1 7) <|
          (pX3_lastLogged n ((q0 + 1) + (23 + 5 * x1.toNatClampNeg))  I).bind fun z7 =>
          (pX0_behind n (q0 + 66) ((q0 + 1) + 1) z7 x3 I).bind fun z8 =>
          some (z8.1, z8.2)
      else
        (pX1_has n ((q0 + 1) + 1) x1 I).bind fun z9 =>
        if z9 = 0 then
          some ((-1 : Int32), I)
        else
          (pX0_behind n (q0 + 66) ((q0 + 1) + 1) x1 x3 I).bind fun z11 =>
          some (z11.1, z11.2)
    else
      some ((-1 : Int32), I)
set_option maxRecDepth 100000 in
set_option maxHeartbeats 4000000 in
theorem tX9_ledger {E : ev_N} {σ : ev_H} (n : Nat) (q0 : Nat) (g0 : shp tb8 σ q0) (x1 : Int32) (x2 : Int32) (x3 : Int32) (I : ev_I) (o : Int32 × ev_I) (h : pX9_ledger n q0 x1 x2 x3 I = some o) : ev_T E mX9_ledger [.ref q0, .int x1, .int x2, .int x3] (h_w σ I) (Option.some (Value.int o.1), h_w σ o.2) := by
  unfold pX9_ledger at h
  refine ev_met rfl rfl (Nat.le_of_ble_eq_true rfl) (ev_L0 (L' := [some (.ref q0), some (.int x1), some (.int x2), some (.int x3)]) rfl ?_)
  refine ev_iload_n dX9_ledger_0 rfl ?_
  refine ev_if_lt (tgt := 9) dX9_ledger_1 (by decide) (fun c1 => ?_) (fun c1 => ?_)
  · have h := ev_ifT h c1
    refine ev_iconst (v := (-1 : Int32)) dX9_ledger_9 (by decide) ?_
    cases h
    exact er_i dX9_ledger_10 rfl rfl
  · have h := ev_ifF h c1
    refine ev_iload_n dX9_ledger_4 rfl ?_
    refine ev_iconst (v := (5 : Int32)) dX9_ledger_5 (by decide) ?_
    refine ev_icmp_lt (tgt := 11) dX9_ledger_6 (by decide) (fun c2 => ?_) (fun c2 => ?_)
    · have h := ev_ifT h c2
      refine ev_iload_n dX9_ledger_11 rfl ?_
      refine ev_if_eq (tgt := 50) dX9_ledger_12 (by decide) (fun c3 => ?_) (fun c3 => ?_)
      · have h := ev_ifT h c3
        refine ev_aload_n dX9_ledger_50 rfl (fun _ e => by cases e) ?_
        refine ew_getr0 dX9_ledger_51 fX9_12 g0 rfl rfl rfl rfl ?_
        refine ev_iload_n dX9_ledger_54 rfl ?_
        obtain ⟨z4, hz4, h⟩ := ev_bnE h
        refine ec_Vi (Y := mX8_hasNode) (ci := 7) (As := [.int x1]) (rest := []) dX9_ledger_55 kX9_44 oX8_hasNode ⟨Nat.le_of_ble_eq_true rfl, Nat.le_of_ble_eq_true rfl⟩ (by decide) rfl (shp_n (s87 g0) 0 rfl) (shp_t (s87 g0) 0 rfl) rfl (Nat.le_of_ble_eq_true rfl) (tX8_hasNode n (q0 + 1) (s87 g0) x1 I z4 hz4) rfl ?_
        refine ev_if_eq (tgt := 91) dX9_ledger_58 (by decide) (fun c5 => ?_) (fun c5 => ?_)
        · have h := ev_ifT h c5
          refine ev_iconst (v := (-1 : Int32)) dX9_ledger_91 (by decide) ?_
          cases h
          exact er_i dX9_ledger_92 rfl rfl
        · have h := ev_ifF h c5
          refine ev_aload_n dX9_ledger_61 rfl (fun _ e => by cases e) ?_
          refine ew_getr0 dX9_ledger_62 fX9_26 g0 rfl rfl rfl rfl ?_
          refine ev_aload_n dX9_ledger_65 rfl (fun _ e => by cases e) ?_
          refine ew_getr0 dX9_ledger_66 fX9_12 g0 rfl rfl rfl rfl ?_
          refine ew_getr0 dX9_ledger_69 fX9_182 (s87 g0) rfl rfl rfl rfl ?_
          refine ev_aload_n dX9_ledger_72 rfl (fun _ e => by cases e) ?_
          refine ew_getr0 dX9_ledger_73 fX9_12 g0 rfl rfl rfl rfl ?_
          refine ew_getr0 dX9_ledger_76 fX9_48 (s87 g0) rfl rfl rfl rfl ?_
          refine ev_iload_n dX9_ledger_79 rfl ?_
          obtain ⟨c6, h⟩ := ev_ckE h
          refine ew_memb dX9_ledger_80 (s87 g0) c6 ?_
          obtain ⟨z7, hz7, h⟩ := ev_bnE h
          refine ec_Vi (Y := mX3_lastLogged) (ci := 3) (As := []) (rest := [(.ref ((q0 + 1) + 1)), (.ref (q0 + 66))]) dX9_ledger_81 kX9_226 oX3_lastLogged ⟨Nat.le_of_ble_eq_true rfl, Nat.le_of_ble_eq_true rfl⟩ (by decide) rfl (shp_n (s73 (s87 g0) (ev_inL c6)) 0 rfl) (shp_t (s73 (s87 g0) (ev_inL c6)) 0 rfl) rfl (Nat.le_of_ble_eq_true rfl) (tX3_lastLogged n ((q0 + 1) + (23 + 5 * x1.toNatClampNeg)) (s73 (s87 g0) (ev_inL c6))  I z7 hz7) rfl ?_
          refine ev_iload_n dX9_ledger_84 rfl ?_
          obtain ⟨z8, hz8, h⟩ := ev_bnE h
          refine ec_Vi (Y := mX0_behind) (ci := 0) (As := [.ref ((q0 + 1) + 1), .int z7, .int x3]) (rest := []) dX9_ledger_85 kX9_223 oX0_behind ⟨Nat.le_of_ble_eq_true rfl, Nat.le_of_ble_eq_true rfl⟩ (by decide) rfl (shp_n (s80 g0) 0 rfl) (shp_t (s80 g0) 0 rfl) rfl (Nat.le_of_ble_eq_true rfl) (tX0_behind n (q0 + 66) ((q0 + 1) + 1) (s80 g0) (s71 (s87 g0)) z7 x3 I z8 hz8) rfl ?_
          refine ev_goto (tgt := 92) dX9_ledger_88 (by decide) ?_
          cases h
          exact er_i dX9_ledger_92 rfl rfl
      · have h := ev_ifF h c3
        refine ev_aload_n dX9_ledger_15 rfl (fun _ e => by cases e) ?_
        refine ew_getr0 dX9_ledger_16 fX9_12 g0 rfl rfl rfl rfl ?_
        refine ew_getr0 dX9_ledger_19 fX9_182 (s87 g0) rfl rfl rfl rfl ?_
        refine ev_iload_n dX9_ledger_22 rfl ?_
        obtain ⟨z9, hz9, h⟩ := ev_bnE h
        refine ec_Vi (Y := mX1_has) (ci := 1) (As := [.int x1]) (rest := []) dX9_ledger_23 kX9_186 oX1_has ⟨Nat.le_of_ble_eq_true rfl, Nat.le_of_ble_eq_true rfl⟩ (by decide) rfl (shp_n (s71 (s87 g0)) 0 rfl) (shp_t (s71 (s87 g0)) 0 rfl) rfl (Nat.le_of_ble_eq_true rfl) (tX1_has n ((q0 + 1) + 1) (s71 (s87 g0)) x1 I z9 hz9) rfl ?_
        refine ev_if_eq (tgt := 48) dX9_ledger_26 (by decide) (fun c10 => ?_) (fun c10 => ?_)
        · have h := ev_ifT h c10
          refine ev_iconst (v := (-1 : Int32)) dX9_ledger_48 (by decide) ?_
          cases h
          exact er_i dX9_ledger_49 rfl rfl
        · have h := ev_ifF h c10
          refine ev_aload_n dX9_ledger_29 rfl (fun _ e => by cases e) ?_
          refine ew_getr0 dX9_ledger_30 fX9_26 g0 rfl rfl rfl rfl ?_
          refine ev_aload_n dX9_ledger_33 rfl (fun _ e => by cases e) ?_
          refine ew_getr0 dX9_ledger_34 fX9_12 g0 rfl rfl rfl rfl ?_
          refine ew_getr0 dX9_ledger_37 fX9_182 (s87 g0) rfl rfl rfl rfl ?_
          refine ev_iload_n dX9_ledger_40 rfl ?_
          refine ev_iload_n dX9_ledger_41 rfl ?_
          obtain ⟨z11, hz11, h⟩ := ev_bnE h
          refine ec_Vi (Y := mX0_behind) (ci := 0) (As := [.ref ((q0 + 1) + 1), .int x1, .int x3]) (rest := []) dX9_ledger_42 kX9_223 oX0_behind ⟨Nat.le_of_ble_eq_true rfl, Nat.le_of_ble_eq_true rfl⟩ (by decide) rfl (shp_n (s80 g0) 0 rfl) (shp_t (s80 g0) 0 rfl) rfl (Nat.le_of_ble_eq_true rfl) (tX0_behind n (q0 + 66) ((q0 + 1) + 1) (s80 g0) (s71 (s87 g0)) x1 x3 I z11 hz11) rfl ?_
          refine ev_goto (tgt := 49) dX9_ledger_45 (by decide) ?_
          cases h
          exact er_i dX9_ledger_49 rfl rfl
    · have h := ev_ifF h c2
      refine ev_iconst (v := (-1 : Int32)) dX9_ledger_9 (by decide) ?_
      cases h
      exact er_i dX9_ledger_10 rfl rfl
-- ChainVotes audit(I)I
def pX9_audit (n : Nat) (q0 : Nat) (x1 : Int32) (I : ev_I) : Option (Int32) :=
  if x1 = (0 : Int32) then
    (pX6_rivalCertificates n ((q0 + 1) + 1)  I).bind fun z2 =>
    some z2
  else
  if x1 = (1 : Int32) then
    (pX6_accusedNodes n (q0 + 1)  I).bind fun z4 =>
    some z4
  else
  if x1 = (2 : Int32) then
    (pX6_commonLog n (q0 + 1)  I).bind fun z6 =>
    some z6
  else
  if x1 = (3 : Int32) then
    (pX6_longestLog n (q0 + 1)  I).bind fun z8 =>
    some z8
  else
  if x1 = (4 : Int32) then
    (pX6_strayBlocks n (q0 + 1)  I).bind fun z10 =>
    some z10
  else
  some (-1 : Int32)
set_option maxRecDepth 100000 in
set_option maxHeartbeats 4000000 in
theorem tX9_audit {E : ev_N} {σ : ev_H} (n : Nat) (q0 : Nat) (g0 : shp tb8 σ q0) (x1 : Int32) (I : ev_I) (o : Int32) (h : pX9_audit n q0 x1 I = some o) : ev_T E mX9_audit [.ref q0, .int x1] (h_w σ I) (Option.some (Value.int o), h_w σ I) := by
  unfold pX9_audit at h
  refine ev_met rfl rfl (Nat.le_of_ble_eq_true rfl) (ev_L0 (L' := [some (.ref q0), some (.int x1)]) rfl ?_)
  refine ev_iload_n dX9_audit_0 rfl ?_
  by_cases c1 : x1 = (0 : Int32)
  · have h := ev_ifT h c1
    refine ev_table (tgt := 36) dX9_audit_1 (by rw [c1]; decide) (by decide) ?_
    refine ev_aload_n dX9_audit_36 rfl (fun _ e => by cases e) ?_
    refine ew_getr0 dX9_audit_37 fX9_12 g0 rfl rfl rfl rfl ?_
    refine ew_getr0 dX9_audit_40 fX9_182 (s87 g0) rfl rfl rfl rfl ?_
    obtain ⟨z2, hz2, h⟩ := ev_bnE h
    refine ec_Si (Y := mX6_rivalCertificates) (As := [.ref ((q0 + 1) + 1)]) (rest := []) dX9_audit_43 kX9_236 oX6_rivalCertificates ⟨Nat.le_of_ble_eq_true rfl, Nat.le_of_ble_eq_true rfl⟩ rfl (Nat.le_of_ble_eq_true rfl) (tX6_rivalCertificates n ((q0 + 1) + 1) (s71 (s87 g0))  I z2 hz2) rfl ?_
    cases h
    exact er_i dX9_audit_46 rfl rfl
  have h := ev_ifF h c1
  by_cases c3 : x1 = (1 : Int32)
  · have h := ev_ifT h c3
    refine ev_table (tgt := 47) dX9_audit_1 (by rw [c3]; decide) (by decide) ?_
    refine ev_aload_n dX9_audit_47 rfl (fun _ e => by cases e) ?_
    refine ew_getr0 dX9_audit_48 fX9_12 g0 rfl rfl rfl rfl ?_
    obtain ⟨z4, hz4, h⟩ := ev_bnE h
    refine ec_Si (Y := mX6_accusedNodes) (As := [.ref (q0 + 1)]) (rest := []) dX9_audit_51 kX9_240 oX6_accusedNodes ⟨Nat.le_of_ble_eq_true rfl, Nat.le_of_ble_eq_true rfl⟩ rfl (Nat.le_of_ble_eq_true rfl) (tX6_accusedNodes n (q0 + 1) (s87 g0)  I z4 hz4) rfl ?_
    cases h
    exact er_i dX9_audit_54 rfl rfl
  have h := ev_ifF h c3
  by_cases c5 : x1 = (2 : Int32)
  · have h := ev_ifT h c5
    refine ev_table (tgt := 55) dX9_audit_1 (by rw [c5]; decide) (by decide) ?_
    refine ev_aload_n dX9_audit_55 rfl (fun _ e => by cases e) ?_
    refine ew_getr0 dX9_audit_56 fX9_12 g0 rfl rfl rfl rfl ?_
    obtain ⟨z6, hz6, h⟩ := ev_bnE h
    refine ec_Si (Y := mX6_commonLog) (As := [.ref (q0 + 1)]) (rest := []) dX9_audit_59 kX9_244 oX6_commonLog ⟨Nat.le_of_ble_eq_true rfl, Nat.le_of_ble_eq_true rfl⟩ rfl (Nat.le_of_ble_eq_true rfl) (tX6_commonLog n (q0 + 1) (s87 g0)  I z6 hz6) rfl ?_
    cases h
    exact er_i dX9_audit_62 rfl rfl
  have h := ev_ifF h c5
  by_cases c7 : x1 = (3 : Int32)
  · have h := ev_ifT h c7
    refine ev_table (tgt := 63) dX9_audit_1 (by rw [c7]; decide) (by decide) ?_
    refine ev_aload_n dX9_audit_63 rfl (fun _ e => by cases e) ?_
    refine ew_getr0 dX9_audit_64 fX9_12 g0 rfl rfl rfl rfl ?_
    obtain ⟨z8, hz8, h⟩ := ev_bnE h
    refine ec_Si (Y := mX6_longestLog) (As := [.ref (q0 + 1)]) (rest := []) dX9_audit_67 kX9_247 oX6_longestLog ⟨Nat.le_of_ble_eq_true rfl, Nat.le_of_ble_eq_true rfl⟩ rfl (Nat.le_of_ble_eq_true rfl) (tX6_longestLog n (q0 + 1) (s87 g0)  I z8 hz8) rfl ?_
    cases h
    exact er_i dX9_audit_70 rfl rfl
  have h := ev_ifF h c7
  by_cases c9 : x1 = (4 : Int32)
  · have h := ev_ifT h c9
    refine ev_table (tgt := 71) dX9_audit_1 (by rw [c9]; decide) (by decide) ?_
    refine ev_aload_n dX9_audit_71 rfl (fun _ e => by cases e) ?_
    refine ew_getr0 dX9_audit_72 fX9_12 g0 rfl rfl rfl rfl ?_
    obtain ⟨z10, hz10, h⟩ := ev_bnE h
    refine ec_Si (Y := mX6_strayBlocks) (As := [.ref (q0 + 1)]) (rest := []) dX9_audit_75 kX9_250 oX6_strayBlocks ⟨Nat.le_of_ble_eq_true rfl, Nat.le_of_ble_eq_true rfl⟩ rfl (Nat.le_of_ble_eq_true rfl) (tX6_strayBlocks n (q0 + 1) (s87 g0)  I z10 hz10) rfl ?_
    cases h
    exact er_i dX9_audit_78 rfl rfl
  have h := ev_ifF h c9
  refine ev_table (tgt := 79) dX9_audit_1 (by rw [if_pos (sw_out _ _ x1 (by intro i h1 h2; rcases (show i = 0 ∨ i = 1 ∨ i = 2 ∨ i = 3 ∨ i = 4 by omega) with rfl | rfl | rfl | rfl | rfl <;> first | exact ⟨_, by decide, c1⟩ | exact ⟨_, by decide, c3⟩ | exact ⟨_, by decide, c5⟩ | exact ⟨_, by decide, c7⟩ | exact ⟨_, by decide, c9⟩))]; rfl) (by decide) ?_
  refine ev_iconst (v := (-1 : Int32)) dX9_audit_79 (by decide) ?_
  cases h
  exact er_i dX9_audit_80 rfl rfl
-- ChainVotes pending(II)I
def pX9_pending (n : Nat) (q0 : Nat) (x1 : Int32) (x2 : Int32) (I : ev_I) : Option (Int32) :=
  (pX8_hasNode n (q0 + 1) x1 I).bind fun z1 =>
  if z1 = 0 then
    some (-1 : Int32)
  else
    if x2 < 0 then
      some (-1 : Int32)
    else
      if x2 ≤ (3 : Int32) then
        (pX4_countTo n ((q0 + 1) + 11) x1 x2 I).bind fun z5 =>
        some z5
      else
        some (-1 : Int32)
set_option maxRecDepth 100000 in
set_option maxHeartbeats 4000000 in
theorem tX9_pending {E : ev_N} {σ : ev_H} (n : Nat) (q0 : Nat) (g0 : shp tb8 σ q0) (x1 : Int32) (x2 : Int32) (I : ev_I) (o : Int32) (h : pX9_pending n q0 x1 x2 I = some o) : ev_T E mX9_pending [.ref q0, .int x1, .int x2] (h_w σ I) (Option.some (Value.int o), h_w σ I) := by
  unfold pX9_pending at h
  refine ev_met rfl rfl (Nat.le_of_ble_eq_true rfl) (ev_L0 (L' := [some (.ref q0), some (.int x1), some (.int x2)]) rfl ?_)
  refine ev_aload_n dX9_pending_0 rfl (fun _ e => by cases e) ?_
  refine ew_getr0 dX9_pending_1 fX9_12 g0 rfl rfl rfl rfl ?_
  refine ev_iload_n dX9_pending_4 rfl ?_
  obtain ⟨z1, hz1, h⟩ := ev_bnE h
  refine ec_Vi (Y := mX8_hasNode) (ci := 7) (As := [.int x1]) (rest := []) dX9_pending_5 kX9_44 oX8_hasNode ⟨Nat.le_of_ble_eq_true rfl, Nat.le_of_ble_eq_true rfl⟩ (by decide) rfl (shp_n (s87 g0) 0 rfl) (shp_t (s87 g0) 0 rfl) rfl (Nat.le_of_ble_eq_true rfl) (tX8_hasNode n (q0 + 1) (s87 g0) x1 I z1 hz1) rfl ?_
  refine ev_if_eq (tgt := 20) dX9_pending_8 (by decide) (fun c2 => ?_) (fun c2 => ?_)
  · have h := ev_ifT h c2
    refine ev_iconst (v := (-1 : Int32)) dX9_pending_20 (by decide) ?_
    cases h
    exact er_i dX9_pending_21 rfl rfl
  · have h := ev_ifF h c2
    refine ev_iload_n dX9_pending_11 rfl ?_
    refine ev_if_lt (tgt := 20) dX9_pending_12 (by decide) (fun c3 => ?_) (fun c3 => ?_)
    · have h := ev_ifT h c3
      refine ev_iconst (v := (-1 : Int32)) dX9_pending_20 (by decide) ?_
      cases h
      exact er_i dX9_pending_21 rfl rfl
    · have h := ev_ifF h c3
      refine ev_iload_n dX9_pending_15 rfl ?_
      refine ev_iconst (v := (3 : Int32)) dX9_pending_16 (by decide) ?_
      refine ev_icmp_le (tgt := 22) dX9_pending_17 (by decide) (fun c4 => ?_) (fun c4 => ?_)
      · have h := ev_ifT h c4
        refine ev_aload_n dX9_pending_22 rfl (fun _ e => by cases e) ?_
        refine ew_getr0 dX9_pending_23 fX9_12 g0 rfl rfl rfl rfl ?_
        refine ew_getr0 dX9_pending_26 fX9_69 (s87 g0) rfl rfl rfl rfl ?_
        refine ev_iload_n dX9_pending_29 rfl ?_
        refine ev_iload_n dX9_pending_30 rfl ?_
        obtain ⟨z5, hz5, h⟩ := ev_bnE h
        refine ec_Vi (Y := mX4_countTo) (ci := 4) (As := [.int x1, .int x2]) (rest := []) dX9_pending_31 kX9_253 oX4_countTo ⟨Nat.le_of_ble_eq_true rfl, Nat.le_of_ble_eq_true rfl⟩ (by decide) rfl (shp_n (s74 (s87 g0)) 0 rfl) (shp_t (s74 (s87 g0)) 0 rfl) rfl (Nat.le_of_ble_eq_true rfl) (tX4_countTo n ((q0 + 1) + 11) (s74 (s87 g0)) x1 x2 I z5 hz5) rfl ?_
        cases h
        exact er_i dX9_pending_34 rfl rfl
      · have h := ev_ifF h c4
        refine ev_iconst (v := (-1 : Int32)) dX9_pending_20 (by decide) ?_
        cases h
        exact er_i dX9_pending_21 rfl rfl
-- ChainVotes path(II)I
def pX9_path (n : Nat) (q0 : Nat) (x1 : Int32) (x2 : Int32) (I : ev_I) : Option (Int32) :=
  (pX1_has n ((q0 + 1) + 1) x1 I).bind fun z1 =>
  if z1 = 0 then
    some (-1 : Int32)
  else
    if x2 < 0 then
      some (-1 : Int32)
    else
      ev_ck (ev_in x1 100) <|
      if x2 ≤ (I (((q0 + 1) + 1) + 6) x1.toNatClampNeg) then
        (pX1_ancestorOfHeight n ((q0 + 1) + 1) x1 x2 I).bind fun z6 =>
        some z6
      else
        some (-1 : Int32)
set_option maxRecDepth 100000 in
set_option maxHeartbeats 4000000 in
theorem tX9_path {E : ev_N} {σ : ev_H} (n : Nat) (q0 : Nat) (g0 : shp tb8 σ q0) (x1 : Int32) (x2 : Int32) (I : ev_I) (o : Int32) (h : pX9_path n q0 x1 x2 I = some o) : ev_T E mX9_path [.ref q0, .int x1, .int x2] (h_w σ I) (Option.some (Value.int o), h_w σ I) := by
  unfold pX9_path at h
  refine ev_met rfl rfl (Nat.le_of_ble_eq_true rfl) (ev_L0 (L' := [some (.ref q0), some (.int x1), some (.int x2)]) rfl ?_)
  refine ev_aload_n dX9_path_0 rfl (fun _ e => by cases e) ?_
  refine ew_getr0 dX9_path_1 fX9_12 g0 rfl rfl rfl rfl ?_
  refine ew_getr0 dX9_path_4 fX9_182 (s87 g0) rfl rfl rfl rfl ?_
  refine ev_iload_n dX9_path_7 rfl ?_
  obtain ⟨z1, hz1, h⟩ := ev_bnE h
  refine ec_Vi (Y := mX1_has) (ci := 1) (As := [.int x1]) (rest := []) dX9_path_8 kX9_186 oX1_has ⟨Nat.le_of_ble_eq_true rfl, Nat.le_of_ble_eq_true rfl⟩ (by decide) rfl (shp_n (s71 (s87 g0)) 0 rfl) (shp_t (s71 (s87 g0)) 0 rfl) rfl (Nat.le_of_ble_eq_true rfl) (tX1_has n ((q0 + 1) + 1) (s71 (s87 g0)) x1 I z1 hz1) rfl ?_
  refine ev_if_eq (tgt := 34) dX9_path_11 (by decide) (fun c2 => ?_) (fun c2 => ?_)
  · have h := ev_ifT h c2
    refine ev_iconst (v := (-1 : Int32)) dX9_path_34 (by decide) ?_
    cases h
    exact er_i dX9_path_35 rfl rfl
  · have h := ev_ifF h c2
    refine ev_iload_n dX9_path_14 rfl ?_
    refine ev_if_lt (tgt := 34) dX9_path_15 (by decide) (fun c3 => ?_) (fun c3 => ?_)
    · have h := ev_ifT h c3
      refine ev_iconst (v := (-1 : Int32)) dX9_path_34 (by decide) ?_
      cases h
      exact er_i dX9_path_35 rfl rfl
    · have h := ev_ifF h c3
      refine ev_iload_n dX9_path_18 rfl ?_
      refine ev_aload_n dX9_path_19 rfl (fun _ e => by cases e) ?_
      refine ew_getr0 dX9_path_20 fX9_12 g0 rfl rfl rfl rfl ?_
      refine ew_getr0 dX9_path_23 fX9_182 (s87 g0) rfl rfl rfl rfl ?_
      refine ew_getr0 dX9_path_26 fX9_256 (s71 (s87 g0)) rfl rfl rfl rfl ?_
      refine ev_iload_n dX9_path_29 rfl ?_
      obtain ⟨c4, h⟩ := ev_ckE h
      refine ew_iald dX9_path_30 (shp_a (s71 (s87 g0)) 6 rfl) c4 ?_
      refine ev_icmp_le (tgt := 36) dX9_path_31 (by decide) (fun c5 => ?_) (fun c5 => ?_)
      · have h := ev_ifT h c5
        refine ev_aload_n dX9_path_36 rfl (fun _ e => by cases e) ?_
        refine ew_getr0 dX9_path_37 fX9_12 g0 rfl rfl rfl rfl ?_
        refine ew_getr0 dX9_path_40 fX9_182 (s87 g0) rfl rfl rfl rfl ?_
        refine ev_iload_n dX9_path_43 rfl ?_
        refine ev_iload_n dX9_path_44 rfl ?_
        obtain ⟨z6, hz6, h⟩ := ev_bnE h
        refine ec_Vi (Y := mX1_ancestorOfHeight) (ci := 1) (As := [.int x1, .int x2]) (rest := []) dX9_path_45 kX9_259 oX1_ancestorOfHeight ⟨Nat.le_of_ble_eq_true rfl, Nat.le_of_ble_eq_true rfl⟩ (by decide) rfl (shp_n (s71 (s87 g0)) 0 rfl) (shp_t (s71 (s87 g0)) 0 rfl) rfl (Nat.le_of_ble_eq_true rfl) (tX1_ancestorOfHeight n ((q0 + 1) + 1) (s71 (s87 g0)) x1 x2 I z6 hz6) rfl ?_
        cases h
        exact er_i dX9_path_48 rfl rfl
      · have h := ev_ifF h c5
        refine ev_iconst (v := (-1 : Int32)) dX9_path_34 (by decide) ?_
        cases h
        exact er_i dX9_path_35 rfl rfl
-- ChainVotes best(I)I
def pX9_best (n : Nat) (q0 : Nat) (x1 : Int32) (I : ev_I) : Option (Int32) :=
  if x1 = (0 : Int32) then
    (pX6_highestCertified n ((q0 + 1) + 1)  I).bind fun z2 =>
    some z2
  else
  if x1 = (1 : Int32) then
    (pX6_highestLock n (q0 + 1)  I).bind fun z4 =>
    some z4
  else
  if x1 = (2 : Int32) then
    (pX6_lowestHigh n (q0 + 1)  I).bind fun z6 =>
    some z6
  else
  if x1 = (3 : Int32) then
    (pX6_highestLogged n (q0 + 1)  I).bind fun z8 =>
    some z8
  else
  some (-1 : Int32)
set_option maxRecDepth 100000 in
set_option maxHeartbeats 4000000 in
theorem tX9_best {E : ev_N} {σ : ev_H} (n : Nat) (q0 : Nat) (g0 : shp tb8 σ q0) (x1 : Int32) (I : ev_I) (o : Int32) (h : pX9_best n q0 x1 I = some o) : ev_T E mX9_best [.ref q0, .int x1] (h_w σ I) (Option.some (Value.int o), h_w σ I) := by
  unfold pX9_best at h
  refine ev_met rfl rfl (Nat.le_of_ble_eq_true rfl) (ev_L0 (L' := [some (.ref q0), some (.int x1)]) rfl ?_)
  refine ev_iload_n dX9_best_0 rfl ?_
  by_cases c1 : x1 = (0 : Int32)
  · have h := ev_ifT h c1
    refine ev_table (tgt := 32) dX9_best_1 (by rw [c1]; decide) (by decide) ?_
    refine ev_aload_n dX9_best_32 rfl (fun _ e => by cases e) ?_
    refine ew_getr0 dX9_best_33 fX9_12 g0 rfl rfl rfl rfl ?_
    refine ew_getr0 dX9_best_36 fX9_182 (s87 g0) rfl rfl rfl rfl ?_
    obtain ⟨z2, hz2, h⟩ := ev_bnE h
    refine ec_Si (Y := mX6_highestCertified) (As := [.ref ((q0 + 1) + 1)]) (rest := []) dX9_best_39 kX9_262 oX6_highestCertified ⟨Nat.le_of_ble_eq_true rfl, Nat.le_of_ble_eq_true rfl⟩ rfl (Nat.le_of_ble_eq_true rfl) (tX6_highestCertified n ((q0 + 1) + 1) (s71 (s87 g0))  I z2 hz2) rfl ?_
    cases h
    exact er_i dX9_best_42 rfl rfl
  have h := ev_ifF h c1
  by_cases c3 : x1 = (1 : Int32)
  · have h := ev_ifT h c3
    refine ev_table (tgt := 43) dX9_best_1 (by rw [c3]; decide) (by decide) ?_
    refine ev_aload_n dX9_best_43 rfl (fun _ e => by cases e) ?_
    refine ew_getr0 dX9_best_44 fX9_12 g0 rfl rfl rfl rfl ?_
    obtain ⟨z4, hz4, h⟩ := ev_bnE h
    refine ec_Si (Y := mX6_highestLock) (As := [.ref (q0 + 1)]) (rest := []) dX9_best_47 kX9_265 oX6_highestLock ⟨Nat.le_of_ble_eq_true rfl, Nat.le_of_ble_eq_true rfl⟩ rfl (Nat.le_of_ble_eq_true rfl) (tX6_highestLock n (q0 + 1) (s87 g0)  I z4 hz4) rfl ?_
    cases h
    exact er_i dX9_best_50 rfl rfl
  have h := ev_ifF h c3
  by_cases c5 : x1 = (2 : Int32)
  · have h := ev_ifT h c5
    refine ev_table (tgt := 51) dX9_best_1 (by rw [c5]; decide) (by decide) ?_
    refine ev_aload_n dX9_best_51 rfl (fun _ e => by cases e) ?_
    refine ew_getr0 dX9_best_52 fX9_12 g0 rfl rfl rfl rfl ?_
    obtain ⟨z6, hz6, h⟩ := ev_bnE h
    refine ec_Si (Y := mX6_lowestHigh) (As := [.ref (q0 + 1)]) (rest := []) dX9_best_55 kX9_268 oX6_lowestHigh ⟨Nat.le_of_ble_eq_true rfl, Nat.le_of_ble_eq_true rfl⟩ rfl (Nat.le_of_ble_eq_true rfl) (tX6_lowestHigh n (q0 + 1) (s87 g0)  I z6 hz6) rfl ?_
    cases h
    exact er_i dX9_best_58 rfl rfl
  have h := ev_ifF h c5
  by_cases c7 : x1 = (3 : Int32)
  · have h := ev_ifT h c7
    refine ev_table (tgt := 59) dX9_best_1 (by rw [c7]; decide) (by decide) ?_
    refine ev_aload_n dX9_best_59 rfl (fun _ e => by cases e) ?_
    refine ew_getr0 dX9_best_60 fX9_12 g0 rfl rfl rfl rfl ?_
    obtain ⟨z8, hz8, h⟩ := ev_bnE h
    refine ec_Si (Y := mX6_highestLogged) (As := [.ref (q0 + 1)]) (rest := []) dX9_best_63 kX9_271 oX6_highestLogged ⟨Nat.le_of_ble_eq_true rfl, Nat.le_of_ble_eq_true rfl⟩ rfl (Nat.le_of_ble_eq_true rfl) (tX6_highestLogged n (q0 + 1) (s87 g0)  I z8 hz8) rfl ?_
    cases h
    exact er_i dX9_best_66 rfl rfl
  have h := ev_ifF h c7
  refine ev_table (tgt := 67) dX9_best_1 (by rw [if_pos (sw_out _ _ x1 (by intro i h1 h2; rcases (show i = 0 ∨ i = 1 ∨ i = 2 ∨ i = 3 by omega) with rfl | rfl | rfl | rfl <;> first | exact ⟨_, by decide, c1⟩ | exact ⟨_, by decide, c3⟩ | exact ⟨_, by decide, c5⟩ | exact ⟨_, by decide, c7⟩))]; rfl) (by decide) ?_
  refine ev_iconst (v := (-1 : Int32)) dX9_best_67 (by decide) ?_
  cases h
  exact er_i dX9_best_68 rfl rfl
-- ChainVotes two(III)I
def pX9_two (n : Nat) (q0 : Nat) (x1 : Int32) (x2 : Int32) (x3 : Int32) (I : ev_I) : Option (Int32) :=
  (pX1_has n ((q0 + 1) + 1) x1 I).bind fun z1 =>
  if z1 = 0 then
    some (-1 : Int32)
  else
    (pX1_has n ((q0 + 1) + 1) x2 I).bind fun z3 =>
    if z3 = 0 then
      some (-1 : Int32)
    else
      if x3 = (0 : Int32) then
        (pX1_reaches n ((q0 + 1) + 1) x1 x2 I).bind fun z6 =>
        (pX6_flag n  z6 I).bind fun z7 =>
        some z7
      else
      if x3 = (1 : Int32) then
        (pX1_commonOf n ((q0 + 1) + 1) x1 x2 I).bind fun z9 =>
        some z9
      else
      some (-1 : Int32)
set_option maxRecDepth 100000 in
set_option maxHeartbeats 4000000 in
theorem tX9_two {E : ev_N} {σ : ev_H} (n : Nat) (q0 : Nat) (g0 : shp tb8 σ q0) (x1 : Int32) (x2 : Int32) (x3 : Int32) (I : ev_I) (o : Int32) (h : pX9_two n q0 x1 x2 x3 I = some o) : ev_T E mX9_two [.ref q0, .int x1, .int x2, .int x3] (h_w σ I) (Option.some (Value.int o), h_w σ I) := by
  unfold pX9_two at h
  refine ev_met rfl rfl (Nat.le_of_ble_eq_true rfl) (ev_L0 (L' := [some (.ref q0), some (.int x1), some (.int x2), some (.int x3)]) rfl ?_)
  refine ev_aload_n dX9_two_0 rfl (fun _ e => by cases e) ?_
  refine ew_getr0 dX9_two_1 fX9_12 g0 rfl rfl rfl rfl ?_
  refine ew_getr0 dX9_two_4 fX9_182 (s87 g0) rfl rfl rfl rfl ?_
  refine ev_iload_n dX9_two_7 rfl ?_
  obtain ⟨z1, hz1, h⟩ := ev_bnE h
  refine ec_Vi (Y := mX1_has) (ci := 1) (As := [.int x1]) (rest := []) dX9_two_8 kX9_186 oX1_has ⟨Nat.le_of_ble_eq_true rfl, Nat.le_of_ble_eq_true rfl⟩ (by decide) rfl (shp_n (s71 (s87 g0)) 0 rfl) (shp_t (s71 (s87 g0)) 0 rfl) rfl (Nat.le_of_ble_eq_true rfl) (tX1_has n ((q0 + 1) + 1) (s71 (s87 g0)) x1 I z1 hz1) rfl ?_
  refine ev_if_eq (tgt := 28) dX9_two_11 (by decide) (fun c2 => ?_) (fun c2 => ?_)
  · have h := ev_ifT h c2
    refine ev_iconst (v := (-1 : Int32)) dX9_two_28 (by decide) ?_
    cases h
    exact er_i dX9_two_29 rfl rfl
  · have h := ev_ifF h c2
    refine ev_aload_n dX9_two_14 rfl (fun _ e => by cases e) ?_
    refine ew_getr0 dX9_two_15 fX9_12 g0 rfl rfl rfl rfl ?_
    refine ew_getr0 dX9_two_18 fX9_182 (s87 g0) rfl rfl rfl rfl ?_
    refine ev_iload_n dX9_two_21 rfl ?_
    obtain ⟨z3, hz3, h⟩ := ev_bnE h
    refine ec_Vi (Y := mX1_has) (ci := 1) (As := [.int x2]) (rest := []) dX9_two_22 kX9_186 oX1_has ⟨Nat.le_of_ble_eq_true rfl, Nat.le_of_ble_eq_true rfl⟩ (by decide) rfl (shp_n (s71 (s87 g0)) 0 rfl) (shp_t (s71 (s87 g0)) 0 rfl) rfl (Nat.le_of_ble_eq_true rfl) (tX1_has n ((q0 + 1) + 1) (s71 (s87 g0)) x2 I z3 hz3) rfl ?_
    refine ev_if_ne (tgt := 30) dX9_two_25 (by decide) (fun c4 => ?_) (fun c4 => ?_)
    · have h := ev_ifF h c4
      refine ev_iload_n dX9_two_30 rfl ?_
      by_cases c5 : x3 = (0 : Int32)
      · have h := ev_ifT h c5
        refine ev_lookup (tgt := 56) dX9_two_31 (by decide) (by rw [c5]; decide) ?_
        refine ev_aload_n dX9_two_56 rfl (fun _ e => by cases e) ?_
        refine ew_getr0 dX9_two_57 fX9_12 g0 rfl rfl rfl rfl ?_
        refine ew_getr0 dX9_two_60 fX9_182 (s87 g0) rfl rfl rfl rfl ?_
        refine ev_iload_n dX9_two_63 rfl ?_
        refine ev_iload_n dX9_two_64 rfl ?_
        obtain ⟨z6, hz6, h⟩ := ev_bnE h
        refine ec_Vi (Y := mX1_reaches) (ci := 1) (As := [.int x1, .int x2]) (rest := []) dX9_two_65 kX9_274 oX1_reaches ⟨Nat.le_of_ble_eq_true rfl, Nat.le_of_ble_eq_true rfl⟩ (by decide) rfl (shp_n (s71 (s87 g0)) 0 rfl) (shp_t (s71 (s87 g0)) 0 rfl) rfl (Nat.le_of_ble_eq_true rfl) (tX1_reaches n ((q0 + 1) + 1) (s71 (s87 g0)) x1 x2 I z6 hz6) rfl ?_
        obtain ⟨z7, hz7, h⟩ := ev_bnE h
        refine ec_Si (Y := mX6_flag) (As := [.int z6]) (rest := []) dX9_two_68 kX9_277 oX6_flag ⟨Nat.le_of_ble_eq_true rfl, Nat.le_of_ble_eq_true rfl⟩ rfl (Nat.le_of_ble_eq_true rfl) (tX6_flag n   z6 I z7 hz7) rfl ?_
        cases h
        exact er_i dX9_two_71 rfl rfl
      have h := ev_ifF h c5
      by_cases c8 : x3 = (1 : Int32)
      · have h := ev_ifT h c8
        refine ev_lookup (tgt := 72) dX9_two_31 (by decide) (by rw [c8]; decide) ?_
        refine ev_aload_n dX9_two_72 rfl (fun _ e => by cases e) ?_
        refine ew_getr0 dX9_two_73 fX9_12 g0 rfl rfl rfl rfl ?_
        refine ew_getr0 dX9_two_76 fX9_182 (s87 g0) rfl rfl rfl rfl ?_
        refine ev_iload_n dX9_two_79 rfl ?_
        refine ev_iload_n dX9_two_80 rfl ?_
        obtain ⟨z9, hz9, h⟩ := ev_bnE h
        refine ec_Vi (Y := mX1_commonOf) (ci := 1) (As := [.int x1, .int x2]) (rest := []) dX9_two_81 kX9_281 oX1_commonOf ⟨Nat.le_of_ble_eq_true rfl, Nat.le_of_ble_eq_true rfl⟩ (by decide) rfl (shp_n (s71 (s87 g0)) 0 rfl) (shp_t (s71 (s87 g0)) 0 rfl) rfl (Nat.le_of_ble_eq_true rfl) (tX1_commonOf n ((q0 + 1) + 1) (s71 (s87 g0)) x1 x2 I z9 hz9) rfl ?_
        cases h
        exact er_i dX9_two_84 rfl rfl
      have h := ev_ifF h c8
      refine ev_lookup (tgt := 85) dX9_two_31 (by decide) (by rw [sw_lk (by intro q hq; simp at hq; rcases hq with rfl | rfl <;> first | exact ⟨_, by decide, c5⟩ | exact ⟨_, by decide, c8⟩)]; decide) ?_
      refine ev_iconst (v := (-1 : Int32)) dX9_two_85 (by decide) ?_
      cases h
      exact er_i dX9_two_86 rfl rfl
    · have h := ev_ifT h c4
      refine ev_iconst (v := (-1 : Int32)) dX9_two_28 (by decide) ?_
      cases h
      exact er_i dX9_two_29 rfl rfl
-- ChainVotes chain(II)I
def pX9_chain (n : Nat) (q0 : Nat) (x1 : Int32) (x2 : Int32) (I : ev_I) : Option (Int32) :=
  (pX1_has n ((q0 + 1) + 1) x1 I).bind fun z1 =>
  if z1 = 0 then
    some (-1 : Int32)
  else
    (pX6_ofChain n (q0 + 1) x1 x2 I).bind fun z3 =>
    some z3
set_option maxRecDepth 100000 in
set_option maxHeartbeats 4000000 in
theorem tX9_chain {E : ev_N} {σ : ev_H} (n : Nat) (q0 : Nat) (g0 : shp tb8 σ q0) (x1 : Int32) (x2 : Int32) (I : ev_I) (o : Int32) (h : pX9_chain n q0 x1 x2 I = some o) : ev_T E mX9_chain [.ref q0, .int x1, .int x2] (h_w σ I) (Option.some (Value.int o), h_w σ I) := by
  unfold pX9_chain at h
  refine ev_met rfl rfl (Nat.le_of_ble_eq_true rfl) (ev_L0 (L' := [some (.ref q0), some (.int x1), some (.int x2)]) rfl ?_)
  refine ev_aload_n dX9_chain_0 rfl (fun _ e => by cases e) ?_
  refine ew_getr0 dX9_chain_1 fX9_12 g0 rfl rfl rfl rfl ?_
  refine ew_getr0 dX9_chain_4 fX9_182 (s87 g0) rfl rfl rfl rfl ?_
  refine ev_iload_n dX9_chain_7 rfl ?_
  obtain ⟨z1, hz1, h⟩ := ev_bnE h
  refine ec_Vi (Y := mX1_has) (ci := 1) (As := [.int x1]) (rest := []) dX9_chain_8 kX9_186 oX1_has ⟨Nat.le_of_ble_eq_true rfl, Nat.le_of_ble_eq_true rfl⟩ (by decide) rfl (shp_n (s71 (s87 g0)) 0 rfl) (shp_t (s71 (s87 g0)) 0 rfl) rfl (Nat.le_of_ble_eq_true rfl) (tX1_has n ((q0 + 1) + 1) (s71 (s87 g0)) x1 I z1 hz1) rfl ?_
  refine ev_if_eq (tgt := 26) dX9_chain_11 (by decide) (fun c2 => ?_) (fun c2 => ?_)
  · have h := ev_ifT h c2
    refine ev_iconst (v := (-1 : Int32)) dX9_chain_26 (by decide) ?_
    cases h
    exact er_i dX9_chain_27 rfl rfl
  · have h := ev_ifF h c2
    refine ev_aload_n dX9_chain_14 rfl (fun _ e => by cases e) ?_
    refine ew_getr0 dX9_chain_15 fX9_12 g0 rfl rfl rfl rfl ?_
    refine ev_iload_n dX9_chain_18 rfl ?_
    refine ev_iload_n dX9_chain_19 rfl ?_
    obtain ⟨z3, hz3, h⟩ := ev_bnE h
    refine ec_Si (Y := mX6_ofChain) (As := [.ref (q0 + 1), .int x1, .int x2]) (rest := []) dX9_chain_20 kX9_288 oX6_ofChain ⟨Nat.le_of_ble_eq_true rfl, Nat.le_of_ble_eq_true rfl⟩ rfl (Nat.le_of_ble_eq_true rfl) (tX6_ofChain n (q0 + 1) (s87 g0) x1 x2 I z3 hz3) rfl ?_
    refine ev_goto (tgt := 27) dX9_chain_23 (by decide) ?_
    cases h
    exact er_i dX9_chain_27 rfl rfl
-- ChainVotes look(I)I
def pX9_look (n : Nat) (q0 : Nat) (x1 : Int32) (I : ev_I) : Option (Int32) :=
  (pX6_ofWorld n (q0 + 1) x1 I).bind fun z1 =>
  some z1
set_option maxRecDepth 100000 in
set_option maxHeartbeats 4000000 in
theorem tX9_look {E : ev_N} {σ : ev_H} (n : Nat) (q0 : Nat) (g0 : shp tb8 σ q0) (x1 : Int32) (I : ev_I) (o : Int32) (h : pX9_look n q0 x1 I = some o) : ev_T E mX9_look [.ref q0, .int x1] (h_w σ I) (Option.some (Value.int o), h_w σ I) := by
  unfold pX9_look at h
  refine ev_met rfl rfl (Nat.le_of_ble_eq_true rfl) (ev_L0 (L' := [some (.ref q0), some (.int x1)]) rfl ?_)
  refine ev_aload_n dX9_look_0 rfl (fun _ e => by cases e) ?_
  refine ew_getr0 dX9_look_1 fX9_12 g0 rfl rfl rfl rfl ?_
  refine ev_iload_n dX9_look_4 rfl ?_
  obtain ⟨z1, hz1, h⟩ := ev_bnE h
  refine ec_Si (Y := mX6_ofWorld) (As := [.ref (q0 + 1), .int x1]) (rest := []) dX9_look_5 kX9_294 oX6_ofWorld ⟨Nat.le_of_ble_eq_true rfl, Nat.le_of_ble_eq_true rfl⟩ rfl (Nat.le_of_ble_eq_true rfl) (tX6_ofWorld n (q0 + 1) (s87 g0) x1 I z1 hz1) rfl ?_
  cases h
  exact er_i dX9_look_8 rfl rfl
-- ChainVotes hasBoth(II)Z
def pX9_hasBoth (n : Nat) (q0 : Nat) (x1 : Int32) (x2 : Int32) (I : ev_I) : Option (Int32) :=
  (pX8_hasNode n (q0 + 1) x1 I).bind fun z1 =>
  if z1 = 0 then
    some (0 : Int32)
  else
    (pX1_has n ((q0 + 1) + 1) x2 I).bind fun z3 =>
    if z3 = 0 then
      some (0 : Int32)
    else
      some (1 : Int32)
set_option maxRecDepth 100000 in
set_option maxHeartbeats 4000000 in
theorem tX9_hasBoth {E : ev_N} {σ : ev_H} (n : Nat) (q0 : Nat) (g0 : shp tb8 σ q0) (x1 : Int32) (x2 : Int32) (I : ev_I) (o : Int32) (h : pX9_hasBoth n q0 x1 x2 I = some o) : ev_T E mX9_hasBoth [.ref q0, .int x1, .int x2] (h_w σ I) (Option.some (Value.int o), h_w σ I) := by
  unfold pX9_hasBoth at h
  refine ev_met rfl rfl (Nat.le_of_ble_eq_true rfl) (ev_L0 (L' := [some (.ref q0), some (.int x1), some (.int x2)]) rfl ?_)
  refine ev_aload_n dX9_hasBoth_0 rfl (fun _ e => by cases e) ?_
  refine ew_getr0 dX9_hasBoth_1 fX9_12 g0 rfl rfl rfl rfl ?_
  refine ev_iload_n dX9_hasBoth_4 rfl ?_
  obtain ⟨z1, hz1, h⟩ := ev_bnE h
  refine ec_Vi (Y := mX8_hasNode) (ci := 7) (As := [.int x1]) (rest := []) dX9_hasBoth_5 kX9_44 oX8_hasNode ⟨Nat.le_of_ble_eq_true rfl, Nat.le_of_ble_eq_true rfl⟩ (by decide) rfl (shp_n (s87 g0) 0 rfl) (shp_t (s87 g0) 0 rfl) rfl (Nat.le_of_ble_eq_true rfl) (tX8_hasNode n (q0 + 1) (s87 g0) x1 I z1 hz1) rfl ?_
  refine ev_if_eq (tgt := 29) dX9_hasBoth_8 (by decide) (fun c2 => ?_) (fun c2 => ?_)
  · have h := ev_ifT h c2
    refine ev_iconst (v := (0 : Int32)) dX9_hasBoth_29 (by decide) ?_
    cases h
    exact er_i dX9_hasBoth_30 rfl rfl
  · have h := ev_ifF h c2
    refine ev_aload_n dX9_hasBoth_11 rfl (fun _ e => by cases e) ?_
    refine ew_getr0 dX9_hasBoth_12 fX9_12 g0 rfl rfl rfl rfl ?_
    refine ew_getr0 dX9_hasBoth_15 fX9_182 (s87 g0) rfl rfl rfl rfl ?_
    refine ev_iload_n dX9_hasBoth_18 rfl ?_
    obtain ⟨z3, hz3, h⟩ := ev_bnE h
    refine ec_Vi (Y := mX1_has) (ci := 1) (As := [.int x2]) (rest := []) dX9_hasBoth_19 kX9_186 oX1_has ⟨Nat.le_of_ble_eq_true rfl, Nat.le_of_ble_eq_true rfl⟩ (by decide) rfl (shp_n (s71 (s87 g0)) 0 rfl) (shp_t (s71 (s87 g0)) 0 rfl) rfl (Nat.le_of_ble_eq_true rfl) (tX1_has n ((q0 + 1) + 1) (s71 (s87 g0)) x2 I z3 hz3) rfl ?_
    refine ev_if_eq (tgt := 29) dX9_hasBoth_22 (by decide) (fun c4 => ?_) (fun c4 => ?_)
    · have h := ev_ifT h c4
      refine ev_iconst (v := (0 : Int32)) dX9_hasBoth_29 (by decide) ?_
      cases h
      exact er_i dX9_hasBoth_30 rfl rfl
    · have h := ev_ifF h c4
      refine ev_iconst (v := (1 : Int32)) dX9_hasBoth_25 (by decide) ?_
      refine ev_goto (tgt := 30) dX9_hasBoth_26 (by decide) ?_
      cases h
      exact er_i dX9_hasBoth_30 rfl rfl
-- ChainVotes marks(II)I
def pX9_marks (n : Nat) (q0 : Nat) (x1 : Int32) (x2 : Int32) (I : ev_I) : Option (Int32) :=
  (pX9_hasBoth n q0 x1 x2 I).bind fun z1 =>
  if z1 = 0 then
    some (-1 : Int32)
  else
    ev_ck (ev_in x1 7) <|
    ev_ck (ev_in x2 100) <|
    (pJ6_bitCount_0f7a4 n  (I (((q0 + 1) + (23 + 5 * x1.toNatClampNeg)) + 3) x2.toNatClampNeg) I).bind fun z5 =>
    some z5
set_option maxRecDepth 100000 in
set_option maxHeartbeats 4000000 in
theorem tX9_marks {E : ev_N} {σ : ev_H} (n : Nat) (q0 : Nat) (g0 : shp tb8 σ q0) (x1 : Int32) (x2 : Int32) (I : ev_I) (o : Int32) (h : pX9_marks n q0 x1 x2 I = some o) : ev_T E mX9_marks [.ref q0, .int x1, .int x2] (h_w σ I) (Option.some (Value.int o), h_w σ I) := by
  unfold pX9_marks at h
  refine ev_met rfl rfl (Nat.le_of_ble_eq_true rfl) (ev_L0 (L' := [some (.ref q0), some (.int x1), some (.int x2)]) rfl ?_)
  refine ev_aload_n dX9_marks_0 rfl (fun _ e => by cases e) ?_
  refine ev_iload_n dX9_marks_1 rfl ?_
  refine ev_iload_n dX9_marks_2 rfl ?_
  obtain ⟨z1, hz1, h⟩ := ev_bnE h
  refine ec_Vi (Y := mX9_hasBoth) (ci := 8) (As := [.int x1, .int x2]) (rest := []) dX9_marks_3 kX9_193 oX9_hasBoth ⟨Nat.le_of_ble_eq_true rfl, Nat.le_of_ble_eq_true rfl⟩ (by decide) rfl (shp_n g0 0 rfl) (shp_t g0 0 rfl) rfl (Nat.le_of_ble_eq_true rfl) (tX9_hasBoth n q0 g0 x1 x2 I z1 hz1) rfl ?_
  refine ev_if_eq (tgt := 29) dX9_marks_6 (by decide) (fun c2 => ?_) (fun c2 => ?_)
  · have h := ev_ifT h c2
    refine ev_iconst (v := (-1 : Int32)) dX9_marks_29 (by decide) ?_
    cases h
    exact er_i dX9_marks_30 rfl rfl
  · have h := ev_ifF h c2
    refine ev_aload_n dX9_marks_9 rfl (fun _ e => by cases e) ?_
    refine ew_getr0 dX9_marks_10 fX9_12 g0 rfl rfl rfl rfl ?_
    refine ew_getr0 dX9_marks_13 fX9_48 (s87 g0) rfl rfl rfl rfl ?_
    refine ev_iload_n dX9_marks_16 rfl ?_
    obtain ⟨c3, h⟩ := ev_ckE h
    refine ew_memb dX9_marks_17 (s87 g0) c3 ?_
    refine ew_getr0 dX9_marks_18 fX9_197 (s73 (s87 g0) (ev_inL c3)) rfl rfl rfl rfl ?_
    refine ev_iload_n dX9_marks_21 rfl ?_
    obtain ⟨c4, h⟩ := ev_ckE h
    refine ew_iald dX9_marks_22 (shp_a (s73 (s87 g0) (ev_inL c3)) 3 rfl) c4 ?_
    obtain ⟨z5, hz5, h⟩ := ev_bnE h
    refine ec_Si (Y := mJ6_bitCount_0f7a4) (As := [.int (I (((q0 + 1) + (23 + 5 * x1.toNatClampNeg)) + 3) x2.toNatClampNeg)]) (rest := []) dX9_marks_23 kX9_200 oJ6_bitCount_0f7a4 ⟨Nat.le_of_ble_eq_true rfl, Nat.le_of_ble_eq_true rfl⟩ rfl (Nat.le_of_ble_eq_true rfl) (tJ6_bitCount_0f7a4 n   (I (((q0 + 1) + (23 + 5 * x1.toNatClampNeg)) + 3) x2.toNatClampNeg) I z5 hz5) rfl ?_
    refine ev_goto (tgt := 30) dX9_marks_26 (by decide) ?_
    cases h
    exact er_i dX9_marks_30 rfl rfl
-- ChainVotes markers(II)I
def pX9_markers (n : Nat) (q0 : Nat) (x1 : Int32) (x2 : Int32) (I : ev_I) : Option (Int32) :=
  (pX9_hasBoth n q0 x1 x2 I).bind fun z1 =>
  if z1 = 0 then
    some (-1 : Int32)
  else
    ev_ck (ev_in x1 7) <|
    ev_ck (ev_in x2 100) <|
    some (I (((q0 + 1) + (23 + 5 * x1.toNatClampNeg)) + 3) x2.toNatClampNeg)
set_option maxRecDepth 100000 in
set_option maxHeartbeats 4000000 in
theorem tX9_markers {E : ev_N} {σ : ev_H} (n : Nat) (q0 : Nat) (g0 : shp tb8 σ q0) (x1 : Int32) (x2 : Int32) (I : ev_I) (o : Int32) (h : pX9_markers n q0 x1 x2 I = some o) : ev_T E mX9_markers [.ref q0, .int x1, .int x2] (h_w σ I) (Option.some (Value.int o), h_w σ I) := by
  unfold pX9_markers at h
  refine ev_met rfl rfl (Nat.le_of_ble_eq_true rfl) (ev_L0 (L' := [some (.ref q0), some (.int x1), some (.int x2)]) rfl ?_)
  refine ev_aload_n dX9_markers_0 rfl (fun _ e => by cases e) ?_
  refine ev_iload_n dX9_markers_1 rfl ?_
  refine ev_iload_n dX9_markers_2 rfl ?_
  obtain ⟨z1, hz1, h⟩ := ev_bnE h
  refine ec_Vi (Y := mX9_hasBoth) (ci := 8) (As := [.int x1, .int x2]) (rest := []) dX9_markers_3 kX9_193 oX9_hasBoth ⟨Nat.le_of_ble_eq_true rfl, Nat.le_of_ble_eq_true rfl⟩ (by decide) rfl (shp_n g0 0 rfl) (shp_t g0 0 rfl) rfl (Nat.le_of_ble_eq_true rfl) (tX9_hasBoth n q0 g0 x1 x2 I z1 hz1) rfl ?_
  refine ev_if_eq (tgt := 26) dX9_markers_6 (by decide) (fun c2 => ?_) (fun c2 => ?_)
  · have h := ev_ifT h c2
    refine ev_iconst (v := (-1 : Int32)) dX9_markers_26 (by decide) ?_
    cases h
    exact er_i dX9_markers_27 rfl rfl
  · have h := ev_ifF h c2
    refine ev_aload_n dX9_markers_9 rfl (fun _ e => by cases e) ?_
    refine ew_getr0 dX9_markers_10 fX9_12 g0 rfl rfl rfl rfl ?_
    refine ew_getr0 dX9_markers_13 fX9_48 (s87 g0) rfl rfl rfl rfl ?_
    refine ev_iload_n dX9_markers_16 rfl ?_
    obtain ⟨c3, h⟩ := ev_ckE h
    refine ew_memb dX9_markers_17 (s87 g0) c3 ?_
    refine ew_getr0 dX9_markers_18 fX9_197 (s73 (s87 g0) (ev_inL c3)) rfl rfl rfl rfl ?_
    refine ev_iload_n dX9_markers_21 rfl ?_
    obtain ⟨c4, h⟩ := ev_ckE h
    refine ew_iald dX9_markers_22 (shp_a (s73 (s87 g0) (ev_inL c3)) 3 rfl) c4 ?_
    refine ev_goto (tgt := 27) dX9_markers_23 (by decide) ?_
    cases h
    exact er_i dX9_markers_27 rfl rfl
-- ChainVotes would(II)I
def pX9_would (n : Nat) (q0 : Nat) (x1 : Int32) (x2 : Int32) (I : ev_I) : Option (Int32) :=
  (pX9_hasBoth n q0 x1 x2 I).bind fun z1 =>
  if z1 = 0 then
    some (-1 : Int32)
  else
    if x2 = 0 then
      some (-1 : Int32)
    else
      ev_ck (ev_in x1 7) <|
      (pX8_wouldVote n (q0 + 1) ((q0 + 1) + (23 + 5 * x1.toNatClampNeg)) x2 I).bind fun z5 =>
      (pX6_flag n  z5 I).bind fun z6 =>
      some z6
set_option maxRecDepth 100000 in
set_option maxHeartbeats 4000000 in
theorem tX9_would {E : ev_N} {σ : ev_H} (n : Nat) (q0 : Nat) (g0 : shp tb8 σ q0) (x1 : Int32) (x2 : Int32) (I : ev_I) (o : Int32) (h : pX9_would n q0 x1 x2 I = some o) : ev_T E mX9_would [.ref q0, .int x1, .int x2] (h_w σ I) (Option.some (Value.int o), h_w σ I) := by
  unfold pX9_would at h
  refine ev_met rfl rfl (Nat.le_of_ble_eq_true rfl) (ev_L0 (L' := [some (.ref q0), some (.int x1), some (.int x2)]) rfl ?_)
  refine ev_aload_n dX9_would_0 rfl (fun _ e => by cases e) ?_
  refine ev_iload_n dX9_would_1 rfl ?_
  refine ev_iload_n dX9_would_2 rfl ?_
  obtain ⟨z1, hz1, h⟩ := ev_bnE h
  refine ec_Vi (Y := mX9_hasBoth) (ci := 8) (As := [.int x1, .int x2]) (rest := []) dX9_would_3 kX9_193 oX9_hasBoth ⟨Nat.le_of_ble_eq_true rfl, Nat.le_of_ble_eq_true rfl⟩ (by decide) rfl (shp_n g0 0 rfl) (shp_t g0 0 rfl) rfl (Nat.le_of_ble_eq_true rfl) (tX9_hasBoth n q0 g0 x1 x2 I z1 hz1) rfl ?_
  refine ev_if_eq (tgt := 13) dX9_would_6 (by decide) (fun c2 => ?_) (fun c2 => ?_)
  · have h := ev_ifT h c2
    refine ev_iconst (v := (-1 : Int32)) dX9_would_13 (by decide) ?_
    cases h
    exact er_i dX9_would_14 rfl rfl
  · have h := ev_ifF h c2
    refine ev_iload_n dX9_would_9 rfl ?_
    refine ev_if_ne (tgt := 15) dX9_would_10 (by decide) (fun c3 => ?_) (fun c3 => ?_)
    · have h := ev_ifF h c3
      refine ev_aload_n dX9_would_15 rfl (fun _ e => by cases e) ?_
      refine ew_getr0 dX9_would_16 fX9_12 g0 rfl rfl rfl rfl ?_
      refine ev_aload_n dX9_would_19 rfl (fun _ e => by cases e) ?_
      refine ew_getr0 dX9_would_20 fX9_12 g0 rfl rfl rfl rfl ?_
      refine ew_getr0 dX9_would_23 fX9_48 (s87 g0) rfl rfl rfl rfl ?_
      refine ev_iload_n dX9_would_26 rfl ?_
      obtain ⟨c4, h⟩ := ev_ckE h
      refine ew_memb dX9_would_27 (s87 g0) c4 ?_
      refine ev_iload_n dX9_would_28 rfl ?_
      obtain ⟨z5, hz5, h⟩ := ev_bnE h
      refine ec_Vi (Y := mX8_wouldVote) (ci := 7) (As := [.ref ((q0 + 1) + (23 + 5 * x1.toNatClampNeg)), .int x2]) (rest := []) dX9_would_29 kX9_284 oX8_wouldVote ⟨Nat.le_of_ble_eq_true rfl, Nat.le_of_ble_eq_true rfl⟩ (by decide) rfl (shp_n (s87 g0) 0 rfl) (shp_t (s87 g0) 0 rfl) rfl (Nat.le_of_ble_eq_true rfl) (tX8_wouldVote n (q0 + 1) ((q0 + 1) + (23 + 5 * x1.toNatClampNeg)) (s87 g0) (s73 (s87 g0) (ev_inL c4)) x2 I z5 hz5) rfl ?_
      obtain ⟨z6, hz6, h⟩ := ev_bnE h
      refine ec_Si (Y := mX6_flag) (As := [.int z5]) (rest := []) dX9_would_32 kX9_277 oX6_flag ⟨Nat.le_of_ble_eq_true rfl, Nat.le_of_ble_eq_true rfl⟩ rfl (Nat.le_of_ble_eq_true rfl) (tX6_flag n   z5 I z6 hz6) rfl ?_
      cases h
      exact er_i dX9_would_35 rfl rfl
    · have h := ev_ifT h c3
      refine ev_iconst (v := (-1 : Int32)) dX9_would_13 (by decide) ?_
      cases h
      exact er_i dX9_would_14 rfl rfl
