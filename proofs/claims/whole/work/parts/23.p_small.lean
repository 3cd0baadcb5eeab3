-- ChainVotes$Accounts move(III)V
def pX0_move (n : Nat) (q0 : Nat) (x1 : Int32) (x2 : Int32) (x3 : Int32) (I : ev_I) : Option (ev_I) :=
  ev_ck (ev_in x1 5) <|
  ev_ck (ev_in x1 5) <|
  ev_lt (ev_u2 I (q0 + 1) x1.toNatClampNeg ((I (q0 + 1) x1.toNatClampNeg) - x3)) fun I3 =>
  ev_ck (ev_in x2 5) <|
  ev_ck (ev_in x2 5) <|
  ev_lt (ev_u2 I3 (q0 + 1) x2.toNatClampNeg ((I3 (q0 + 1) x2.toNatClampNeg) + x3)) fun I6 =>
  some I6
set_option maxRecDepth 100000 in
set_option maxHeartbeats 4000000 in
theorem tX0_move {E : ev_N} {σ : ev_H} (n : Nat) (q0 : Nat) (g0 : shp tb0 σ q0) (x1 : Int32) (x2 : Int32) (x3 : Int32) (I : ev_I) (o : ev_I) (h : pX0_move n q0 x1 x2 x3 I = some o) : ev_T E mX0_move [.ref q0, .int x1, .int x2, .int x3] (h_w σ I) (Option.none, h_w σ o) := by
  unfold pX0_move at h
  refine ev_met rfl rfl (Nat.le_of_ble_eq_true rfl) (ev_L0 (L' := [some (.ref q0), some (.int x1), some (.int x2), some (.int x3)]) rfl ?_)
  refine ev_aload_n dX0_move_0 rfl (fun _ e => by cases e) ?_
  refine ew_getr0 dX0_move_1 fX0_9 g0 rfl rfl rfl rfl ?_
  refine ev_iload_n dX0_move_4 rfl ?_
  refine ev_dup2 dX0_move_5 ?_
  obtain ⟨c1, h⟩ := ev_ckE h
  refine ew_iald dX0_move_6 (shp_a g0 1 rfl) c1 ?_
  refine ev_iload_n dX0_move_7 rfl ?_
  refine ev_isub dX0_move_8 ?_
  obtain ⟨c2, h⟩ := ev_ckE h
  obtain ⟨I3, eI3, h⟩ := ev_ltE h
  refine ew_iast dX0_move_9 (shp_a g0 1 rfl) c2 (ew_nh eI3 ?_)
  refine ev_aload_n dX0_move_10 rfl (fun _ e => by cases e) ?_
  refine ew_getr0 dX0_move_11 fX0_9 g0 rfl rfl rfl rfl ?_
  refine ev_iload_n dX0_move_14 rfl ?_
  refine ev_dup2 dX0_move_15 ?_
  obtain ⟨c4, h⟩ := ev_ckE h
  refine ew_iald dX0_move_16 (shp_a g0 1 rfl) c4 ?_
  refine ev_iload_n dX0_move_17 rfl ?_
  refine ev_iadd dX0_move_18 ?_
  obtain ⟨c5, h⟩ := ev_ckE h
  obtain ⟨I6, eI6, h⟩ := ev_ltE h
  refine ew_iast dX0_move_19 (shp_a g0 1 rfl) c5 (ew_nh eI6 ?_)
  cases h
  exact er_v dX0_move_20 rfl
-- ChainVotes$Book copyFrom(LChainVotes$Book;)V
def pX2_copyFrom (n : Nat) (q0 z0 : Nat) (q1 z1 : Nat) (I : ev_I) : Option (ev_I) :=
  ev_lt (ev_u2 I q0 1 (I q1 1)) fun I1 =>
  ev_ck (ev_ps (0 : Int32)) <|
  ev_ck (ev_ps (0 : Int32)) <|
  ev_ck (ev_ps (if (Int32.ofNat z1) < (Int32.ofNat z0) then (Int32.ofNat z1) else (Int32.ofNat z0))) <|
  ev_ck (ev_le ((0 : Int32).toNatClampNeg + (if (Int32.ofNat z1) < (Int32.ofNat z0) then (Int32.ofNat z1) else (Int32.ofNat z0)).toNatClampNeg) z1) <|
  ev_ck (ev_le ((0 : Int32).toNatClampNeg + (if (Int32.ofNat z1) < (Int32.ofNat z0) then (Int32.ofNat z1) else (Int32.ofNat z0)).toNatClampNeg) z0) <|
  ev_lt (ev_u1 I1 (q0 + 1) (va_cpy (I1 (q1 + 1)) (I1 (q0 + 1)) (0 : Int32).toNatClampNeg (0 : Int32).toNatClampNeg (if (Int32.ofNat z1) < (Int32.ofNat z0) then (Int32.ofNat z1) else (Int32.ofNat z0)).toNatClampNeg)) fun I7 =>
  some I7
set_option maxRecDepth 100000 in
set_option maxHeartbeats 4000000 in
theorem tX2_copyFrom {E : ev_N} {σ : ev_H} (n : Nat) (q0 z0 : Nat) (q1 z1 : Nat) (g0 : shp (tb2 z0) σ q0) (g1 : shp (tb2 z1) σ q1) (I : ev_I) (o : ev_I) (h : pX2_copyFrom n q0 z0 q1 z1  I = some o) : ev_T E mX2_copyFrom [.ref q0, .ref q1] (h_w σ I) (Option.none, h_w σ o) := by
  unfold pX2_copyFrom at h
  refine ev_met rfl rfl (Nat.le_of_ble_eq_true rfl) (ev_L0 (L' := [some (.ref q0), some (.ref q1)]) rfl ?_)
  refine ev_aload_n dX2_copyFrom_0 rfl (fun _ e => by cases e) ?_
  refine ev_aload_n dX2_copyFrom_1 rfl (fun _ e => by cases e) ?_
  refine ew_get0 dX2_copyFrom_2 fX2_19 g1 rfl rfl rfl ?_
  obtain ⟨I1, eI1, h⟩ := ev_ltE h
  refine ew_put0 dX2_copyFrom_5 fX2_19 g0 rfl rfl rfl rfl rfl rfl (ew_nh eI1 ?_)
  refine ev_aload_n dX2_copyFrom_8 rfl (fun _ e => by cases e) ?_
  refine ew_getr0 dX2_copyFrom_9 fX2_15 g1 rfl rfl rfl rfl ?_
  refine ev_iconst (v := (0 : Int32)) dX2_copyFrom_12 (by decide) ?_
  refine ev_aload_n dX2_copyFrom_13 rfl (fun _ e => by cases e) ?_
  refine ew_getr0 dX2_copyFrom_14 fX2_15 g0 rfl rfl rfl rfl ?_
  refine ev_iconst (v := (0 : Int32)) dX2_copyFrom_17 (by decide) ?_
  refine ev_aload_n dX2_copyFrom_18 rfl (fun _ e => by cases e) ?_
  refine ew_getr0 dX2_copyFrom_19 fX2_15 g0 rfl rfl rfl rfl ?_
  refine ew_alen dX2_copyFrom_22 (shp_a g0 1 rfl) ?_
  refine ev_aload_n dX2_copyFrom_23 rfl (fun _ e => by cases e) ?_
  refine ew_getr0 dX2_copyFrom_24 fX2_15 g1 rfl rfl rfl rfl ?_
  refine ew_alen dX2_copyFrom_27 (shp_a g1 1 rfl) ?_
  refine ev_min dX2_copyFrom_28 kX2_22 zM_min.1 zM_min.2.1 zM_min.2.2 (Nat.le_of_ble_eq_true rfl) (Nat.le_of_ble_eq_true rfl) ?_
  obtain ⟨c2, h⟩ := ev_ckE h
  obtain ⟨c3, h⟩ := ev_ckE h
  obtain ⟨c4, h⟩ := ev_ckE h
  obtain ⟨c5, h⟩ := ev_ckE h
  obtain ⟨c6, h⟩ := ev_ckE h
  obtain ⟨I7, eI7, h⟩ := ev_ltE h
  refine ew_copy dX2_copyFrom_31 kX2_28 zA.1 zA.2.1 zA.2.2 (shp_a g1 1 rfl) (shp_a g0 1 rfl) c2 c3 c4 c5 c6 (Nat.le_of_ble_eq_true rfl) (Nat.le_of_ble_eq_true rfl) (ew_nh eI7 ?_)
  cases h
  exact er_v dX2_copyFrom_34 rfl
-- ChainVotes$Book add(IIIII)V
def pX2_add (n : Nat) (q0 z0 : Nat) (x1 : Int32) (x2 : Int32) (x3 : Int32) (x4 : Int32) (x5 : Int32) (I : ev_I) : Option (ev_I) :=
  if (I q0 1) < (I q0 0) then
    ev_lt ((5 : Int32) * (I q0 1)) fun v2 =>
    ev_ck (ev_in v2 z0) <|
    ev_lt (ev_u2 I (q0 + 1) v2.toNatClampNeg x1) fun I4 =>
    ev_ck (ev_in (v2 + (1 : Int32)) z0) <|
    ev_lt (ev_u2 I4 (q0 + 1) (v2 + (1 : Int32)).toNatClampNeg x2) fun I6 =>
    ev_ck (ev_in (v2 + (2 : Int32)) z0) <|
    ev_lt (ev_u2 I6 (q0 + 1) (v2 + (2 : Int32)).toNatClampNeg x3) fun I8 =>
    ev_ck (ev_in (v2 + (3 : Int32)) z0) <|
    ev_lt (ev_u2 I8 (q0 + 1) (v2 + (3 : Int32)).toNatClampNeg x4) fun I10 =>
    ev_ck (ev_in (v2 + (4 : Int32)) z0) <|
    ev_lt (ev_u2 I10 (q0 + 1) (v2 + (4 : Int32)).toNatClampNeg x5) fun I12 =>
    ev_lt (ev_u2 I12 q0 1 ((I12 q0 1) + (1 : Int32))) fun I13 =>
    some I13
  else
    some I
set_option maxRecDepth 100000 in
set_option maxHeartbeats 4000000 in
theorem tX2_add {E : ev_N} {σ : ev_H} (n : Nat) (q0 z0 : Nat) (g0 : shp (tb2 z0) σ q0) (x1 : Int32) (x2 : Int32) (x3 : Int32) (x4 : Int32) (x5 : Int32) (I : ev_I) (o : ev_I) (h : pX2_add n q0 z0 x1 x2 x3 x4 x5 I = some o) : ev_T E mX2_add [.ref q0, .int x1, .int x2, .int x3, .int x4, .int x5] (h_w σ I) (Option.none, h_w σ o) := by
  unfold pX2_add at h
  refine ev_met rfl rfl (Nat.le_of_ble_eq_true rfl) (ev_L0 (L' := [some (.ref q0), some (.int x1), some (.int x2), some (.int x3), some (.int x4), some (.int x5), none]) rfl ?_)
  refine ev_aload_n dX2_add_0 rfl (fun _ e => by cases e) ?_
  refine ew_get0 dX2_add_1 fX2_19 g0 rfl rfl rfl ?_
  refine ev_aload_n dX2_add_4 rfl (fun _ e => by cases e) ?_
  refine ew_get0 dX2_add_5 fX2_9 g0 rfl rfl rfl ?_
  refine ev_icmp_lt (tgt := 12) dX2_add_8 (by decide) (fun c1 => ?_) (fun c1 => ?_)
  · have h := ev_ifT h c1
    refine ev_iconst (v := (5 : Int32)) dX2_add_12 (by decide) ?_
    refine ev_aload_n dX2_add_13 rfl (fun _ e => by cases e) ?_
    refine ew_get0 dX2_add_14 fX2_19 g0 rfl rfl rfl ?_
    refine ev_imul dX2_add_17 ?_
    obtain ⟨v2, ev2, h⟩ := ev_ltE h
    refine ew_nm ev2 ?_
    refine ew_ist (L' := [some (.ref q0), some (.int x1), some (.int x2), some (.int x3), some (.int x4), some (.int x5), some (.int v2)]) dX2_add_18 (Nat.le_of_ble_eq_true rfl) rfl ?_
    refine ev_aload_n dX2_add_20 rfl (fun _ e => by cases e) ?_
    refine ew_getr0 dX2_add_21 fX2_15 g0 rfl rfl rfl rfl ?_
    refine ev_iload dX2_add_24 rfl ?_
    refine ev_iload_n dX2_add_26 rfl ?_
    obtain ⟨c3, h⟩ := ev_ckE h
    obtain ⟨I4, eI4, h⟩ := ev_ltE h
    refine ew_iast dX2_add_27 (shp_a g0 1 rfl) c3 (ew_nh eI4 ?_)
    refine ev_aload_n dX2_add_28 rfl (fun _ e => by cases e) ?_
    refine ew_getr0 dX2_add_29 fX2_15 g0 rfl rfl rfl rfl ?_
    refine ev_iload dX2_add_32 rfl ?_
    refine ev_iconst (v := (1 : Int32)) dX2_add_34 (by decide) ?_
    refine ev_iadd dX2_add_35 ?_
    refine ev_iload_n dX2_add_36 rfl ?_
    obtain ⟨c5, h⟩ := ev_ckE h
    obtain ⟨I6, eI6, h⟩ := ev_ltE h
    refine ew_iast dX2_add_37 (shp_a g0 1 rfl) c5 (ew_nh eI6 ?_)
    refine ev_aload_n dX2_add_38 rfl (fun _ e => by cases e) ?_
    refine ew_getr0 dX2_add_39 fX2_15 g0 rfl rfl rfl rfl ?_
    refine ev_iload dX2_add_42 rfl ?_
    refine ev_iconst (v := (2 : Int32)) dX2_add_44 (by decide) ?_
    refine ev_iadd dX2_add_45 ?_
    refine ev_iload_n dX2_add_46 rfl ?_
    obtain ⟨c7, h⟩ := ev_ckE h
    obtain ⟨I8, eI8, h⟩ := ev_ltE h
    refine ew_iast dX2_add_47 (shp_a g0 1 rfl) c7 (ew_nh eI8 ?_)
    refine ev_aload_n dX2_add_48 rfl (fun _ e => by cases e) ?_
    refine ew_getr0 dX2_add_49 fX2_15 g0 rfl rfl rfl rfl ?_
    refine ev_iload dX2_add_52 rfl ?_
    refine ev_iconst (v := (3 : Int32)) dX2_add_54 (by decide) ?_
    refine ev_iadd dX2_add_55 ?_
    refine ev_iload dX2_add_56 rfl ?_
    obtain ⟨c9, h⟩ := ev_ckE h
    obtain ⟨I10, eI10, h⟩ := ev_ltE h
    refine ew_iast dX2_add_58 (shp_a g0 1 rfl) c9 (ew_nh eI10 ?_)
    refine ev_aload_n dX2_add_59 rfl (fun _ e => by cases e) ?_
    refine ew_getr0 dX2_add_60 fX2_15 g0 rfl rfl rfl rfl ?_
    refine ev_iload dX2_add_63 rfl ?_
    refine ev_iconst (v := (4 : Int32)) dX2_add_65 (by decide) ?_
    refine ev_iadd dX2_add_66 ?_
    refine ev_iload dX2_add_67 rfl ?_
    obtain ⟨c11, h⟩ := ev_ckE h
    obtain ⟨I12, eI12, h⟩ := ev_ltE h
    refine ew_iast dX2_add_69 (shp_a g0 1 rfl) c11 (ew_nh eI12 ?_)
    refine ev_aload_n dX2_add_70 rfl (fun _ e => by cases e) ?_
    refine ev_dup dX2_add_71 ?_
    refine ew_get0 dX2_add_72 fX2_19 g0 rfl rfl rfl ?_
    refine ev_iconst (v := (1 : Int32)) dX2_add_75 (by decide) ?_
    refine ev_iadd dX2_add_76 ?_
    obtain ⟨I13, eI13, h⟩ := ev_ltE h
    refine ew_put0 dX2_add_77 fX2_19 g0 rfl rfl rfl rfl rfl rfl (ew_nh eI13 ?_)
    cases h
    exact er_v dX2_add_80 rfl
  · have h := ev_ifF h c1
    cases h
    exact er_v dX2_add_11 rfl
-- ChainVotes$Book has(IIIII)Z
def cX2_has_93 (q0 z0 : Nat) (K3 : Int32 → Int32 → Int32 → Int32 → Int32 → Int32 → ev_I → Option (Int32)) (n : Nat) (y1 : Int32) (y2 : Int32) (y3 : Int32) (y4 : Int32) (y5 : Int32) (y6 : Int32) (I : ev_I) : Option (Int32) :=
  ev_lt (y6 + (5 : Int32)) fun v1 =>
  K3 y1 y2 y3 y4 y5 v1 I
def cX2_has_56 (q0 z0 : Nat) (K3 : Int32 → Int32 → Int32 → Int32 → Int32 → Int32 → ev_I → Option (Int32)) (n : Nat) (y1 : Int32) (y2 : Int32) (y3 : Int32) (y4 : Int32) (y5 : Int32) (y6 : Int32) (s0 : Int32) (I : ev_I) : Option (Int32) :=
  if s0 = 0 then
    cX2_has_93 q0 z0 K3 n y1 y2 y3 y4 y5 y6 I
  else
    ev_ck (ev_in (y6 + (3 : Int32)) z0) <|
    if (I (q0 + 1) (y6 + (3 : Int32)).toNatClampNeg) = y4 then
      ev_ck (ev_in (y6 + (4 : Int32)) z0) <|
      if (I (q0 + 1) (y6 + (4 : Int32)).toNatClampNeg) = y5 then
        some (1 : Int32)
      else
        cX2_has_93 q0 z0 K3 n y1 y2 y3 y4 y5 y6 I
    else
      cX2_has_93 q0 z0 K3 n y1 y2 y3 y4 y5 y6 I
def cX2_has_55 (q0 z0 : Nat) (K3 : Int32 → Int32 → Int32 → Int32 → Int32 → Int32 → ev_I → Option (Int32)) (n : Nat) (y1 : Int32) (y2 : Int32) (y3 : Int32) (y4 : Int32) (y5 : Int32) (y6 : Int32) (I : ev_I) : Option (Int32) :=
  cX2_has_56 q0 z0 K3 n y1 y2 y3 y4 y5 y6 (0 : Int32) I
def cX2_has_3 (q0 z0 : Nat) (K3 : Int32 → Int32 → Int32 → Int32 → Int32 → Int32 → ev_I → Option (Int32)) (n : Nat) (y1 : Int32) (y2 : Int32) (y3 : Int32) (y4 : Int32) (y5 : Int32) (y6 : Int32) (I : ev_I) : Option (Int32) :=
  if ((5 : Int32) * (I q0 1)) ≤ y6 then
    some (0 : Int32)
  else
    ev_ck (ev_in y6 z0) <|
    if (I (q0 + 1) y6.toNatClampNeg) = y1 then
      ev_ck (ev_in (y6 + (1 : Int32)) z0) <|
      if (I (q0 + 1) (y6 + (1 : Int32)).toNatClampNeg) = y2 then
        ev_ck (ev_in (y6 + (2 : Int32)) z0) <|
        if (I (q0 + 1) (y6 + (2 : Int32)).toNatClampNeg) = y3 then
          cX2_has_56 q0 z0 K3 n y1 y2 y3 y4 y5 y6 (1 : Int32) I
        else
          cX2_has_55 q0 z0 K3 n y1 y2 y3 y4 y5 y6 I
      else
        cX2_has_55 q0 z0 K3 n y1 y2 y3 y4 y5 y6 I
    else
      cX2_has_55 q0 z0 K3 n y1 y2 y3 y4 y5 y6 I
def lX2_has_3 (q0 z0 : Nat) : Nat → Int32 → Int32 → Int32 → Int32 → Int32 → Int32 → ev_I → Option (Int32)
  | 0, _, _, _, _, _, _, _ => none
  | n + 1, y1, y2, y3, y4, y5, y6, I => cX2_has_3 q0 z0 (lX2_has_3 q0 z0 n) n y1 y2 y3 y4 y5 y6 I
def pX2_has (n : Nat) (q0 z0 : Nat) (x1 : Int32) (x2 : Int32) (x3 : Int32) (x4 : Int32) (x5 : Int32) (I : ev_I) : Option (Int32) :=
  lX2_has_3 q0 z0 n x1 x2 x3 x4 x5 (0 : Int32) I
set_option maxRecDepth 100000 in
set_option maxHeartbeats 4000000 in
theorem tX2_has_93 {E : ev_N} {σ : ev_H} (q0 z0 : Nat) (g0 : shp (tb2 z0) σ q0) (K3 : Int32 → Int32 → Int32 → Int32 → Int32 → Int32 → ev_I → Option (Int32)) (k3 : ∀ (y1 : Int32) (y2 : Int32) (y3 : Int32) (y4 : Int32) (y5 : Int32) (y6 : Int32) (I : ev_I) (o : Int32), K3 y1 y2 y3 y4 y5 y6 I = some o → EV E mX2_has 3 [some (.ref q0), some (.int y1), some (.int y2), some (.int y3), some (.int y4), some (.int y5), some (.int y6), none] [] (h_w σ I) (Option.some (Value.int o), h_w σ I)) (n : Nat) (y1 : Int32) (y2 : Int32) (y3 : Int32) (y4 : Int32) (y5 : Int32) (y6 : Int32) (I : ev_I) (o : Int32) : cX2_has_93 q0 z0 K3 n y1 y2 y3 y4 y5 y6 I = some o → EV E mX2_has 93 [some (.ref q0), some (.int y1), some (.int y2), some (.int y3), some (.int y4), some (.int y5), some (.int y6), none] [] (h_w σ I) (Option.some (Value.int o), h_w σ I) := by
  intro h
  unfold cX2_has_93 at h
  obtain ⟨v1, ev1, h⟩ := ev_ltE h
  refine ew_iinc (L' := [some (.ref q0), some (.int y1), some (.int y2), some (.int y3), some (.int y4), some (.int y5), some (.int v1), none]) dX2_has_93 (Nat.le_of_ble_eq_true rfl) rfl (by decide) ev1 rfl ?_
  refine ev_goto (tgt := 3) dX2_has_96 (by decide) ?_
  exact ev_weak (sb_s (sb_s (sb_s (sb_s (sb_s (sb_s (sb_s (sb_n sb_0)))))))) (k3 y1 y2 y3 y4 y5 v1 I _ h)
set_option maxRecDepth 100000 in
set_option maxHeartbeats 4000000 in
theorem tX2_has_56 {E : ev_N} {σ : ev_H} (q0 z0 : Nat) (g0 : shp (tb2 z0) σ q0) (K3 : Int32 → Int32 → Int32 → Int32 → Int32 → Int32 → ev_I → Option (Int32)) (k3 : ∀ (y1 : Int32) (y2 : Int32) (y3 : Int32) (y4 : Int32) (y5 : Int32) (y6 : Int32) (I : ev_I) (o : Int32), K3 y1 y2 y3 y4 y5 y6 I = some o → EV E mX2_has 3 [some (.ref q0), some (.int y1), some (.int y2), some (.int y3), some (.int y4), some (.int y5), some (.int y6), none] [] (h_w σ I) (Option.some (Value.int o), h_w σ I)) (n : Nat) (y1 : Int32) (y2 : Int32) (y3 : Int32) (y4 : Int32) (y5 : Int32) (y6 : Int32) (s0 : Int32) (I : ev_I) (o : Int32) : cX2_has_56 q0 z0 K3 n y1 y2 y3 y4 y5 y6 s0 I = some o → EV E mX2_has 56 [some (.ref q0), some (.int y1), some (.int y2), some (.int y3), some (.int y4), some (.int y5), some (.int y6), none] [(.int s0)] (h_w σ I) (Option.some (Value.int o), h_w σ I) := by
  intro h
  unfold cX2_has_56 at h
  refine ew_ist (L' := [some (.ref q0), some (.int y1), some (.int y2), some (.int y3), some (.int y4), some (.int y5), some (.int y6), some (.int s0)]) dX2_has_56 (Nat.le_of_ble_eq_true rfl) rfl ?_
  refine ev_iload dX2_has_58 rfl ?_
  refine ev_if_eq (tgt := 93) dX2_has_60 (by decide) (fun c2 => ?_) (fun c2 => ?_)
  · have h := ev_ifT h c2
    exact ev_weak (sb_s (sb_s (sb_s (sb_s (sb_s (sb_s (sb_s (sb_n sb_0)))))))) (tX2_has_93 q0 z0 g0 K3 k3 n y1 y2 y3 y4 y5 y6 I _ h)
  · have h := ev_ifF h c2
    refine ev_aload_n dX2_has_63 rfl (fun _ e => by cases e) ?_
    refine ew_getr0 dX2_has_64 fX2_15 g0 rfl rfl rfl rfl ?_
    refine ev_iload dX2_has_67 rfl ?_
    refine ev_iconst (v := (3 : Int32)) dX2_has_69 (by decide) ?_
    refine ev_iadd dX2_has_70 ?_
    obtain ⟨c3, h⟩ := ev_ckE h
    refine ew_iald dX2_has_71 (shp_a g0 1 rfl) c3 ?_
    refine ev_iload dX2_has_72 rfl ?_
    refine ev_icmp_ne (tgt := 93) dX2_has_74 (by decide) (fun c4 => ?_) (fun c4 => ?_)
    · have h := ev_ifF h c4
      exact ev_weak (sb_s (sb_s (sb_s (sb_s (sb_s (sb_s (sb_s (sb_n sb_0)))))))) (tX2_has_93 q0 z0 g0 K3 k3 n y1 y2 y3 y4 y5 y6 I _ h)
    · have h := ev_ifT h c4
      refine ev_aload_n dX2_has_77 rfl (fun _ e => by cases e) ?_
      refine ew_getr0 dX2_has_78 fX2_15 g0 rfl rfl rfl rfl ?_
      refine ev_iload dX2_has_81 rfl ?_
      refine ev_iconst (v := (4 : Int32)) dX2_has_83 (by decide) ?_
      refine ev_iadd dX2_has_84 ?_
      obtain ⟨c5, h⟩ := ev_ckE h
      refine ew_iald dX2_has_85 (shp_a g0 1 rfl) c5 ?_
      refine ev_iload dX2_has_86 rfl ?_
      refine ev_icmp_ne (tgt := 93) dX2_has_88 (by decide) (fun c6 => ?_) (fun c6 => ?_)
      · have h := ev_ifF h c6
        exact ev_weak (sb_s (sb_s (sb_s (sb_s (sb_s (sb_s (sb_s (sb_n sb_0)))))))) (tX2_has_93 q0 z0 g0 K3 k3 n y1 y2 y3 y4 y5 y6 I _ h)
      · have h := ev_ifT h c6
        refine ev_iconst (v := (1 : Int32)) dX2_has_91 (by decide) ?_
        cases h
        exact er_i dX2_has_92 rfl rfl
set_option maxRecDepth 100000 in
set_option maxHeartbeats 4000000 in
theorem tX2_has_55 {E : ev_N} {σ : ev_H} (q0 z0 : Nat) (g0 : shp (tb2 z0) σ q0) (K3 : Int32 → Int32 → Int32 → Int32 → Int32 → Int32 → ev_I → Option (Int32)) (k3 : ∀ (y1 : Int32) (y2 : Int32) (y3 : Int32) (y4 : Int32) (y5 : Int32) (y6 : Int32) (I : ev_I) (o : Int32), K3 y1 y2 y3 y4 y5 y6 I = some o → EV E mX2_has 3 [some (.ref q0), some (.int y1), some (.int y2), some (.int y3), some (.int y4), some (.int y5), some (.int y6), none] [] (h_w σ I) (Option.some (Value.int o), h_w σ I)) (n : Nat) (y1 : Int32) (y2 : Int32) (y3 : Int32) (y4 : Int32) (y5 : Int32) (y6 : Int32) (I : ev_I) (o : Int32) : cX2_has_55 q0 z0 K3 n y1 y2 y3 y4 y5 y6 I = some o → EV E mX2_has 55 [some (.ref q0), some (.int y1), some (.int y2), some (.int y3), some (.int y4), some (.int y5), some (.int y6), none] [] (h_w σ I) (Option.some (Value.int o), h_w σ I) := by
  intro h
  unfold cX2_has_55 at h
  refine ev_iconst (v := (0 : Int32)) dX2_has_55 (by decide) ?_
  exact ev_weak (sb_s (sb_s (sb_s (sb_s (sb_s (sb_s (sb_s (sb_n sb_0)))))))) (tX2_has_56 q0 z0 g0 K3 k3 n y1 y2 y3 y4 y5 y6 (0 : Int32) I _ h)
set_option maxRecDepth 100000 in
set_option maxHeartbeats 4000000 in
theorem tX2_has_3 {E : ev_N} {σ : ev_H} (q0 z0 : Nat) (g0 : shp (tb2 z0) σ q0) (K3 : Int32 → Int32 → Int32 → Int32 → Int32 → Int32 → ev_I → Option (Int32)) (k3 : ∀ (y1 : Int32) (y2 : Int32) (y3 : Int32) (y4 : Int32) (y5 : Int32) (y6 : Int32) (I : ev_I) (o : Int32), K3 y1 y2 y3 y4 y5 y6 I = some o → EV E mX2_has 3 [some (.ref q0), some (.int y1), some (.int y2), some (.int y3), some (.int y4), some (.int y5), some (.int y6), none] [] (h_w σ I) (Option.some (Value.int o), h_w σ I)) (n : Nat) (y1 : Int32) (y2 : Int32) (y3 : Int32) (y4 : Int32) (y5 : Int32) (y6 : Int32) (I : ev_I) (o : Int32) : cX2_has_3 q0 z0 K3 n y1 y2 y3 y4 y5 y6 I = some o → EV E mX2_has 3 [some (.ref q0), some (.int y1), some (.int y2), some (.int y3), some (.int y4), some (.int y5), some (.int y6), none] [] (h_w σ I) (Option.some (Value.int o), h_w σ I) := by
  intro h
  unfold cX2_has_3 at h
  refine ev_iload dX2_has_3 rfl ?_
  refine ev_iconst (v := (5 : Int32)) dX2_has_5 (by decide) ?_
  refine ev_aload_n dX2_has_6 rfl (fun _ e => by cases e) ?_
  refine ew_get0 dX2_has_7 fX2_19 g0 rfl rfl rfl ?_
  refine ev_imul dX2_has_10 ?_
  refine ev_icmp_ge (tgt := 99) dX2_has_11 (by decide) (fun c7 => ?_) (fun c7 => ?_)
  · have h := ev_ifT h c7
    refine ev_iconst (v := (0 : Int32)) dX2_has_99 (by decide) ?_
    cases h
    exact er_i dX2_has_100 rfl rfl
  · have h := ev_ifF h c7
    refine ev_aload_n dX2_has_14 rfl (fun _ e => by cases e) ?_
    refine ew_getr0 dX2_has_15 fX2_15 g0 rfl rfl rfl rfl ?_
    refine ev_iload dX2_has_18 rfl ?_
    obtain ⟨c8, h⟩ := ev_ckE h
    refine ew_iald dX2_has_20 (shp_a g0 1 rfl) c8 ?_
    refine ev_iload_n dX2_has_21 rfl ?_
    refine ev_icmp_ne (tgt := 55) dX2_has_22 (by decide) (fun c9 => ?_) (fun c9 => ?_)
    · have h := ev_ifF h c9
      exact ev_weak (sb_s (sb_s (sb_s (sb_s (sb_s (sb_s (sb_s (sb_n sb_0)))))))) (tX2_has_55 q0 z0 g0 K3 k3 n y1 y2 y3 y4 y5 y6 I _ h)
    · have h := ev_ifT h c9
      refine ev_aload_n dX2_has_25 rfl (fun _ e => by cases e) ?_
      refine ew_getr0 dX2_has_26 fX2_15 g0 rfl rfl rfl rfl ?_
      refine ev_iload dX2_has_29 rfl ?_
      refine ev_iconst (v := (1 : Int32)) dX2_has_31 (by decide) ?_
      refine ev_iadd dX2_has_32 ?_
      obtain ⟨c10, h⟩ := ev_ckE h
      refine ew_iald dX2_has_33 (shp_a g0 1 rfl) c10 ?_
      refine ev_iload_n dX2_has_34 rfl ?_
      refine ev_icmp_ne (tgt := 55) dX2_has_35 (by decide) (fun c11 => ?_) (fun c11 => ?_)
      · have h := ev_ifF h c11
        exact ev_weak (sb_s (sb_s (sb_s (sb_s (sb_s (sb_s (sb_s (sb_n sb_0)))))))) (tX2_has_55 q0 z0 g0 K3 k3 n y1 y2 y3 y4 y5 y6 I _ h)
      · have h := ev_ifT h c11
        refine ev_aload_n dX2_has_38 rfl (fun _ e => by cases e) ?_
        refine ew_getr0 dX2_has_39 fX2_15 g0 rfl rfl rfl rfl ?_
        refine ev_iload dX2_has_42 rfl ?_
        refine ev_iconst (v := (2 : Int32)) dX2_has_44 (by decide) ?_
        refine ev_iadd dX2_has_45 ?_
        obtain ⟨c12, h⟩ := ev_ckE h
        refine ew_iald dX2_has_46 (shp_a g0 1 rfl) c12 ?_
        refine ev_iload_n dX2_has_47 rfl ?_
        refine ev_icmp_ne (tgt := 55) dX2_has_48 (by decide) (fun c13 => ?_) (fun c13 => ?_)
        · have h := ev_ifF h c13
          exact ev_weak (sb_s (sb_s (sb_s (sb_s (sb_s (sb_s (sb_s (sb_n sb_0)))))))) (tX2_has_55 q0 z0 g0 K3 k3 n y1 y2 y3 y4 y5 y6 I _ h)
        · have h := ev_ifT h c13
          refine ev_iconst (v := (1 : Int32)) dX2_has_51 (by decide) ?_
          refine ev_goto (tgt := 56) dX2_has_52 (by decide) ?_
          exact ev_weak (sb_s (sb_s (sb_s (sb_s (sb_s (sb_s (sb_s (sb_n sb_0)))))))) (tX2_has_56 q0 z0 g0 K3 k3 n y1 y2 y3 y4 y5 y6 (1 : Int32) I _ h)
theorem tlX2_has_3 {E : ev_N} {σ : ev_H} (q0 z0 : Nat) (g0 : shp (tb2 z0) σ q0) : ∀ (n : Nat) (y1 : Int32) (y2 : Int32) (y3 : Int32) (y4 : Int32) (y5 : Int32) (y6 : Int32) (I : ev_I) (o : Int32), lX2_has_3 q0 z0 n y1 y2 y3 y4 y5 y6 I = some o → EV E mX2_has 3 [some (.ref q0), some (.int y1), some (.int y2), some (.int y3), some (.int y4), some (.int y5), some (.int y6), none] [] (h_w σ I) (Option.some (Value.int o), h_w σ I)
  | 0, _, _, _, _, _, _, _, _, h => by cases h
  | n + 1, y1, y2, y3, y4, y5, y6, I, o, h => tX2_has_3 q0 z0 g0 (lX2_has_3 q0 z0 n) (tlX2_has_3 q0 z0 g0 n) n y1 y2 y3 y4 y5 y6 I o h
set_option maxRecDepth 100000 in
set_option maxHeartbeats 4000000 in
theorem tX2_has {E : ev_N} {σ : ev_H} (n : Nat) (q0 z0 : Nat) (g0 : shp (tb2 z0) σ q0) (x1 : Int32) (x2 : Int32) (x3 : Int32) (x4 : Int32) (x5 : Int32) (I : ev_I) (o : Int32) (h : pX2_has n q0 z0 x1 x2 x3 x4 x5 I = some o) : ev_T E mX2_has [.ref q0, .int x1, .int x2, .int x3, .int x4, .int x5] (h_w σ I) (Option.some (Value.int o), h_w σ I) := by
  unfold pX2_has at h
  refine ev_met rfl rfl (Nat.le_of_ble_eq_true rfl) (ev_L0 (L' := [some (.ref q0), some (.int x1), some (.int x2), some (.int x3), some (.int x4), some (.int x5), none, none]) rfl ?_)
  refine ev_iconst (v := (0 : Int32)) dX2_has_0 (by decide) ?_
  refine ew_ist (L' := [some (.ref q0), some (.int x1), some (.int x2), some (.int x3), some (.int x4), some (.int x5), some (.int (0 : Int32)), none]) dX2_has_1 (Nat.le_of_ble_eq_true rfl) rfl ?_
  exact ev_weak (sb_s (sb_s (sb_s (sb_s (sb_s (sb_s (sb_s (sb_n sb_0)))))))) (tlX2_has_3 q0 z0 g0 n x1 x2 x3 x4 x5 (0 : Int32) I _ h)
-- ChainVotes$Book at(III)I
def pX2_at (n : Nat) (q0 z0 : Nat) (x1 : Int32) (x2 : Int32) (x3 : Int32) (I : ev_I) : Option (Int32) :=
  if x1 < 0 then
    some (-1 : Int32)
  else
    if (I q0 1) ≤ x1 then
      some (-1 : Int32)
    else
      if x2 < 0 then
        some (-1 : Int32)
      else
        if x2 < x3 then
          ev_ck (ev_in (((5 : Int32) * x1) + x2) z0) <|
          some (I (q0 + 1) (((5 : Int32) * x1) + x2).toNatClampNeg)
        else
          some (-1 : Int32)
set_option maxRecDepth 100000 in
set_option maxHeartbeats 4000000 in
theorem tX2_at {E : ev_N} {σ : ev_H} (n : Nat) (q0 z0 : Nat) (g0 : shp (tb2 z0) σ q0) (x1 : Int32) (x2 : Int32) (x3 : Int32) (I : ev_I) (o : Int32) (h : pX2_at n q0 z0 x1 x2 x3 I = some o) : ev_T E mX2_at [.ref q0, .int x1, .int x2, .int x3] (h_w σ I) (Option.some (Value.int o), h_w σ I) := by
  unfold pX2_at at h
  refine ev_met rfl rfl (Nat.le_of_ble_eq_true rfl) (ev_L0 (L' := [some (.ref q0), some (.int x1), some (.int x2), some (.int x3)]) rfl ?_)
  refine ev_iload_n dX2_at_0 rfl ?_
  refine ev_if_lt (tgt := 21) dX2_at_1 (by decide) (fun c1 => ?_) (fun c1 => ?_)
  · have h := ev_ifT h c1
    refine ev_iconst (v := (-1 : Int32)) dX2_at_21 (by decide) ?_
    cases h
    exact er_i dX2_at_22 rfl rfl
  · have h := ev_ifF h c1
    refine ev_iload_n dX2_at_4 rfl ?_
    refine ev_aload_n dX2_at_5 rfl (fun _ e => by cases e) ?_
    refine ew_get0 dX2_at_6 fX2_19 g0 rfl rfl rfl ?_
    refine ev_icmp_ge (tgt := 21) dX2_at_9 (by decide) (fun c2 => ?_) (fun c2 => ?_)
    · have h := ev_ifT h c2
      refine ev_iconst (v := (-1 : Int32)) dX2_at_21 (by decide) ?_
      cases h
      exact er_i dX2_at_22 rfl rfl
    · have h := ev_ifF h c2
      refine ev_iload_n dX2_at_12 rfl ?_
      refine ev_if_lt (tgt := 21) dX2_at_13 (by decide) (fun c3 => ?_) (fun c3 => ?_)
      · have h := ev_ifT h c3
        refine ev_iconst (v := (-1 : Int32)) dX2_at_21 (by decide) ?_
        cases h
        exact er_i dX2_at_22 rfl rfl
      · have h := ev_ifF h c3
        refine ev_iload_n dX2_at_16 rfl ?_
        refine ev_iload_n dX2_at_17 rfl ?_
        refine ev_icmp_lt (tgt := 23) dX2_at_18 (by decide) (fun c4 => ?_) (fun c4 => ?_)
        · have h := ev_ifT h c4
          refine ev_aload_n dX2_at_23 rfl (fun _ e => by cases e) ?_
          refine ew_getr0 dX2_at_24 fX2_15 g0 rfl rfl rfl rfl ?_
          refine ev_iconst (v := (5 : Int32)) dX2_at_27 (by decide) ?_
          refine ev_iload_n dX2_at_28 rfl ?_
          refine ev_imul dX2_at_29 ?_
          refine ev_iload_n dX2_at_30 rfl ?_
          refine ev_iadd dX2_at_31 ?_
          obtain ⟨c5, h⟩ := ev_ckE h
          refine ew_iald dX2_at_32 (shp_a g0 1 rfl) c5 ?_
          cases h
          exact er_i dX2_at_33 rfl rfl
        · have h := ev_ifF h c4
          refine ev_iconst (v := (-1 : Int32)) dX2_at_21 (by decide) ?_
          cases h
          exact er_i dX2_at_22 rfl rfl
-- ChainVotes$Member reset()V
def pX3_reset (n : Nat) (q0 : Nat) (I : ev_I) : Option (ev_I) :=
  ev_lt (ev_u2 I q0 0 (0 : Int32)) fun I1 =>
  ev_lt (ev_u2 I1 q0 1 (1 : Int32)) fun I2 =>
  ev_lt (ev_u2 I2 q0 2 (0 : Int32)) fun I3 =>
  ev_lt (ev_u2 I3 q0 3 (0 : Int32)) fun I4 =>
  ev_lt (ev_u2 I4 q0 4 (0 : Int32)) fun I5 =>
  ev_lt (ev_u2 I5 q0 5 (0 : Int32)) fun I6 =>
  ev_lt (ev_u2 I6 q0 6 (0 : Int32)) fun I7 =>
  ev_lt (ev_u2 I7 q0 7 (0 : Int32)) fun I8 =>
  ev_lt (ev_u2 I8 q0 8 (0 : Int32)) fun I9 =>
  ev_lt (ev_u2 I9 q0 9 (1 : Int32)) fun I10 =>
  ev_lt (ev_u2 I10 q0 10 (0 : Int32)) fun I11 =>
  (pJ7_fill_53178 n (q0 + 1) 100 (0 : Int32) I11).bind fun z12 =>
  (pJ7_fill_53178 n (q0 + 2) 100 (0 : Int32) z12).bind fun z13 =>
  (pJ7_fill_53178 n (q0 + 3) 100 (0 : Int32) z13).bind fun z14 =>
  (pJ7_fill_53178 n (q0 + 4) 201 (0 : Int32) z14).bind fun z15 =>
  some z15
set_option maxRecDepth 100000 in
set_option maxHeartbeats 4000000 in
theorem tX3_reset {E : ev_N} {σ : ev_H} (n : Nat) (q0 : Nat) (g0 : shp tb3 σ q0) (I : ev_I) (o : ev_I) (h : pX3_reset n q0  I = some o) : ev_T E mX3_reset [.ref q0] (h_w σ I) (Option.none, h_w σ o) := by
  unfold pX3_reset at h
  refine ev_met rfl rfl (Nat.le_of_ble_eq_true rfl) (ev_L0 (L' := [some (.ref q0)]) rfl ?_)
  refine ev_aload_n dX3_reset_0 rfl (fun _ e => by cases e) ?_
  refine ev_iconst (v := (0 : Int32)) dX3_reset_1 (by decide) ?_
  obtain ⟨I1, eI1, h⟩ := ev_ltE h
  refine ew_put0 dX3_reset_2 fX3_31 g0 rfl rfl rfl rfl rfl rfl (ew_nh eI1 ?_)
  refine ev_aload_n dX3_reset_5 rfl (fun _ e => by cases e) ?_
  refine ev_iconst (v := (1 : Int32)) dX3_reset_6 (by decide) ?_
  obtain ⟨I2, eI2, h⟩ := ev_ltE h
  refine ew_put0 dX3_reset_7 fX3_24 g0 rfl rfl rfl rfl rfl rfl (ew_nh eI2 ?_)
  refine ev_aload_n dX3_reset_10 rfl (fun _ e => by cases e) ?_
  refine ev_iconst (v := (0 : Int32)) dX3_reset_11 (by decide) ?_
  obtain ⟨I3, eI3, h⟩ := ev_ltE h
  refine ew_put0 dX3_reset_12 fX3_34 g0 rfl rfl rfl rfl rfl rfl (ew_nh eI3 ?_)
  refine ev_aload_n dX3_reset_15 rfl (fun _ e => by cases e) ?_
  refine ev_iconst (v := (0 : Int32)) dX3_reset_16 (by decide) ?_
  obtain ⟨I4, eI4, h⟩ := ev_ltE h
  refine ew_put0 dX3_reset_17 fX3_37 g0 rfl rfl rfl rfl rfl rfl (ew_nh eI4 ?_)
  refine ev_aload_n dX3_reset_20 rfl (fun _ e => by cases e) ?_
  refine ev_iconst (v := (0 : Int32)) dX3_reset_21 (by decide) ?_
  obtain ⟨I5, eI5, h⟩ := ev_ltE h
  refine ew_put0 dX3_reset_22 fX3_40 g0 rfl rfl rfl rfl rfl rfl (ew_nh eI5 ?_)
  refine ev_aload_n dX3_reset_25 rfl (fun _ e => by cases e) ?_
  refine ev_iconst (v := (0 : Int32)) dX3_reset_26 (by decide) ?_
  obtain ⟨I6, eI6, h⟩ := ev_ltE h
  refine ew_put0 dX3_reset_27 fX3_43 g0 rfl rfl rfl rfl rfl rfl (ew_nh eI6 ?_)
  refine ev_aload_n dX3_reset_30 rfl (fun _ e => by cases e) ?_
  refine ev_iconst (v := (0 : Int32)) dX3_reset_31 (by decide) ?_
  obtain ⟨I7, eI7, h⟩ := ev_ltE h
  refine ew_put0 dX3_reset_32 fX3_46 g0 rfl rfl rfl rfl rfl rfl (ew_nh eI7 ?_)
  refine ev_aload_n dX3_reset_35 rfl (fun _ e => by cases e) ?_
  refine ev_iconst (v := (0 : Int32)) dX3_reset_36 (by decide) ?_
  obtain ⟨I8, eI8, h⟩ := ev_ltE h
  refine ew_put0 dX3_reset_37 fX3_49 g0 rfl rfl rfl rfl rfl rfl (ew_nh eI8 ?_)
  refine ev_aload_n dX3_reset_40 rfl (fun _ e => by cases e) ?_
  refine ev_iconst (v := (0 : Int32)) dX3_reset_41 (by decide) ?_
  obtain ⟨I9, eI9, h⟩ := ev_ltE h
  refine ew_put0 dX3_reset_42 fX3_52 g0 rfl rfl rfl rfl rfl rfl (ew_nh eI9 ?_)
  refine ev_aload_n dX3_reset_45 rfl (fun _ e => by cases e) ?_
  refine ev_iconst (v := (1 : Int32)) dX3_reset_46 (by decide) ?_
  obtain ⟨I10, eI10, h⟩ := ev_ltE h
  refine ew_put0 dX3_reset_47 fX3_28 g0 rfl rfl rfl rfl rfl rfl (ew_nh eI10 ?_)
  refine ev_aload_n dX3_reset_50 rfl (fun _ e => by cases e) ?_
  refine ev_iconst (v := (0 : Int32)) dX3_reset_51 (by decide) ?_
  obtain ⟨I11, eI11, h⟩ := ev_ltE h
  refine ew_put0 dX3_reset_52 fX3_55 g0 rfl rfl rfl rfl rfl rfl (ew_nh eI11 ?_)
  refine ev_aload_n dX3_reset_55 rfl (fun _ e => by cases e) ?_
  refine ew_getr0 dX3_reset_56 fX3_9 g0 rfl rfl rfl rfl ?_
  refine ev_iconst (v := (0 : Int32)) dX3_reset_59 (by decide) ?_
  obtain ⟨z12, hz12, h⟩ := ev_bnE h
  refine ec_Sv (Y := mJ7_fill_53178) (As := [.ref (q0 + 1), .int (0 : Int32)]) (rest := []) dX3_reset_60 kX3_58 oJ7_fill_53178 ⟨Nat.le_of_ble_eq_true rfl, Nat.le_of_ble_eq_true rfl⟩ rfl (Nat.le_of_ble_eq_true rfl) (tJ7_fill_53178 n (q0 + 1) 100 (shp_a g0 1 rfl) (0 : Int32) I11 z12 hz12) rfl ?_
  refine ev_aload_n dX3_reset_63 rfl (fun _ e => by cases e) ?_
  refine ew_getr0 dX3_reset_64 fX3_15 g0 rfl rfl rfl rfl ?_
  refine ev_iconst (v := (0 : Int32)) dX3_reset_67 (by decide) ?_
  obtain ⟨z13, hz13, h⟩ := ev_bnE h
  refine ec_Sv (Y := mJ7_fill_53178) (As := [.ref (q0 + 2), .int (0 : Int32)]) (rest := []) dX3_reset_68 kX3_58 oJ7_fill_53178 ⟨Nat.le_of_ble_eq_true rfl, Nat.le_of_ble_eq_true rfl⟩ rfl (Nat.le_of_ble_eq_true rfl) (tJ7_fill_53178 n (q0 + 2) 100 (shp_a g0 2 rfl) (0 : Int32) z12 z13 hz13) rfl ?_
  refine ev_aload_n dX3_reset_71 rfl (fun _ e => by cases e) ?_
  refine ew_getr0 dX3_reset_72 fX3_18 g0 rfl rfl rfl rfl ?_
  refine ev_iconst (v := (0 : Int32)) dX3_reset_75 (by decide) ?_
  obtain ⟨z14, hz14, h⟩ := ev_bnE h
  refine ec_Sv (Y := mJ7_fill_53178) (As := [.ref (q0 + 3), .int (0 : Int32)]) (rest := []) dX3_reset_76 kX3_58 oJ7_fill_53178 ⟨Nat.le_of_ble_eq_true rfl, Nat.le_of_ble_eq_true rfl⟩ rfl (Nat.le_of_ble_eq_true rfl) (tJ7_fill_53178 n (q0 + 3) 100 (shp_a g0 3 rfl) (0 : Int32) z13 z14 hz14) rfl ?_
  refine ev_aload_n dX3_reset_79 rfl (fun _ e => by cases e) ?_
  refine ew_getr0 dX3_reset_80 fX3_21 g0 rfl rfl rfl rfl ?_
  refine ev_iconst (v := (0 : Int32)) dX3_reset_83 (by decide) ?_
  obtain ⟨z15, hz15, h⟩ := ev_bnE h
  refine ec_Sv (Y := mJ7_fill_53178) (As := [.ref (q0 + 4), .int (0 : Int32)]) (rest := []) dX3_reset_84 kX3_58 oJ7_fill_53178 ⟨Nat.le_of_ble_eq_true rfl, Nat.le_of_ble_eq_true rfl⟩ rfl (Nat.le_of_ble_eq_true rfl) (tJ7_fill_53178 n (q0 + 4) 201 (shp_a g0 4 rfl) (0 : Int32) z14 z15 hz15) rfl ?_
  cases h
  exact er_v dX3_reset_87 rfl
-- ChainVotes$Member copyFrom(LChainVotes$Member;)V
def pX3_copyFrom (n : Nat) (q0 : Nat) (q1 : Nat) (I : ev_I) : Option (ev_I) :=
  ev_lt (ev_u2 I q0 0 (I q1 0)) fun I1 =>
  ev_lt (ev_u2 I1 q0 1 (I1 q1 1)) fun I2 =>
  ev_lt (ev_u2 I2 q0 2 (I2 q1 2)) fun I3 =>
  ev_lt (ev_u2 I3 q0 3 (I3 q1 3)) fun I4 =>
  ev_lt (ev_u2 I4 q0 4 (I4 q1 4)) fun I5 =>
  ev_lt (ev_u2 I5 q0 5 (I5 q1 5)) fun I6 =>
  ev_lt (ev_u2 I6 q0 6 (I6 q1 6)) fun I7 =>
  ev_lt (ev_u2 I7 q0 7 (I7 q1 7)) fun I8 =>
  ev_lt (ev_u2 I8 q0 8 (I8 q1 8)) fun I9 =>
  ev_lt (ev_u2 I9 q0 9 (I9 q1 9)) fun I10 =>
  ev_lt (ev_u2 I10 q0 10 (I10 q1 10)) fun I11 =>
  ev_lt (ev_u1 I11 (q0 + 1) (va_cpy (I11 (q1 + 1)) (I11 (q0 + 1)) (0 : Int32).toNatClampNeg (0 : Int32).toNatClampNeg (100 : Int32).toNatClampNeg)) fun I12 =>
  ev_lt (ev_u1 I12 (q0 + 2) (va_cpy (I12 (q1 + 2)) (I12 (q0 + 2)) (0 : Int32).toNatClampNeg (0 : Int32).toNatClampNeg (100 : Int32).toNatClampNeg)) fun I13 =>
  ev_lt (ev_u1 I13 (q0 + 3) (va_cpy (I13 (q1 + 3)) (I13 (q0 + 3)) (0 : Int32).toNatClampNeg (0 : Int32).toNatClampNeg (100 : Int32).toNatClampNeg)) fun I14 =>
  ev_lt (ev_u1 I14 (q0 + 4) (va_cpy (I14 (q1 + 4)) (I14 (q0 + 4)) (0 : Int32).toNatClampNeg (0 : Int32).toNatClampNeg (201 : Int32).toNatClampNeg)) fun I15 =>
  some I15
set_option maxRecDepth 100000 in
set_option maxHeartbeats 4000000 in
theorem tX3_copyFrom {E : ev_N} {σ : ev_H} (n : Nat) (q0 : Nat) (q1 : Nat) (g0 : shp tb3 σ q0) (g1 : shp tb3 σ q1) (I : ev_I) (o : ev_I) (h : pX3_copyFrom n q0 q1  I = some o) : ev_T E mX3_copyFrom [.ref q0, .ref q1] (h_w σ I) (Option.none, h_w σ o) := by
  unfold pX3_copyFrom at h
  refine ev_met rfl rfl (Nat.le_of_ble_eq_true rfl) (ev_L0 (L' := [some (.ref q0), some (.ref q1)]) rfl ?_)
  refine ev_aload_n dX3_copyFrom_0 rfl (fun _ e => by cases e) ?_
  refine ev_aload_n dX3_copyFrom_1 rfl (fun _ e => by cases e) ?_
  refine ew_get0 dX3_copyFrom_2 fX3_31 g1 rfl rfl rfl ?_
  obtain ⟨I1, eI1, h⟩ := ev_ltE h
  refine ew_put0 dX3_copyFrom_5 fX3_31 g0 rfl rfl rfl rfl rfl rfl (ew_nh eI1 ?_)
  refine ev_aload_n dX3_copyFrom_8 rfl (fun _ e => by cases e) ?_
  refine ev_aload_n dX3_copyFrom_9 rfl (fun _ e => by cases e) ?_
  refine ew_get0 dX3_copyFrom_10 fX3_24 g1 rfl rfl rfl ?_
  obtain ⟨I2, eI2, h⟩ := ev_ltE h
  refine ew_put0 dX3_copyFrom_13 fX3_24 g0 rfl rfl rfl rfl rfl rfl (ew_nh eI2 ?_)
  refine ev_aload_n dX3_copyFrom_16 rfl (fun _ e => by cases e) ?_
  refine ev_aload_n dX3_copyFrom_17 rfl (fun _ e => by cases e) ?_
  refine ew_get0 dX3_copyFrom_18 fX3_34 g1 rfl rfl rfl ?_
  obtain ⟨I3, eI3, h⟩ := ev_ltE h
  refine ew_put0 dX3_copyFrom_21 fX3_34 g0 rfl rfl rfl rfl rfl rfl (ew_nh eI3 ?_)
  refine ev_aload_n dX3_copyFrom_24 rfl (fun _ e => by cases e) ?_
  refine ev_aload_n dX3_copyFrom_25 rfl (fun _ e => by cases e) ?_
  refine ew_get0 dX3_copyFrom_26 fX3_37 g1 rfl rfl rfl ?_
  obtain ⟨I4, eI4, h⟩ := ev_ltE h
  refine ew_put0 dX3_copyFrom_29 fX3_37 g0 rfl rfl rfl rfl rfl rfl (ew_nh eI4 ?_)
  refine ev_aload_n dX3_copyFrom_32 rfl (fun _ e => by cases e) ?_
  refine ev_aload_n dX3_copyFrom_33 rfl (fun _ e => by cases e) ?_
  refine ew_get0 dX3_copyFrom_34 fX3_40 g1 rfl rfl rfl ?_
  obtain ⟨I5, eI5, h⟩ := ev_ltE h
  refine ew_put0 dX3_copyFrom_37 fX3_40 g0 rfl rfl rfl rfl rfl rfl (ew_nh eI5 ?_)
  refine ev_aload_n dX3_copyFrom_40 rfl (fun _ e => by cases e) ?_
  refine ev_aload_n dX3_copyFrom_41 rfl (fun _ e => by cases e) ?_
  refine ew_get0 dX3_copyFrom_42 fX3_43 g1 rfl rfl rfl ?_
  obtain ⟨I6, eI6, h⟩ := ev_ltE h
  refine ew_put0 dX3_copyFrom_45 fX3_43 g0 rfl rfl rfl rfl rfl rfl (ew_nh eI6 ?_)
  refine ev_aload_n dX3_copyFrom_48 rfl (fun _ e => by cases e) ?_
  refine ev_aload_n dX3_copyFrom_49 rfl (fun _ e => by cases e) ?_
  refine ew_get0 dX3_copyFrom_50 fX3_46 g1 rfl rfl rfl ?_
  obtain ⟨I7, eI7, h⟩ := ev_ltE h
  refine ew_put0 dX3_copyFrom_53 fX3_46 g0 rfl rfl rfl rfl rfl rfl (ew_nh eI7 ?_)
  refine ev_aload_n dX3_copyFrom_56 rfl (fun _ e => by cases e) ?_
  refine ev_aload_n dX3_copyFrom_57 rfl (fun _ e => by cases e) ?_
  refine ew_get0 dX3_copyFrom_58 fX3_49 g1 rfl rfl rfl ?_
  obtain ⟨I8, eI8, h⟩ := ev_ltE h
  refine ew_put0 dX3_copyFrom_61 fX3_49 g0 rfl rfl rfl rfl rfl rfl (ew_nh eI8 ?_)
  refine ev_aload_n dX3_copyFrom_64 rfl (fun _ e => by cases e) ?_
  refine ev_aload_n dX3_copyFrom_65 rfl (fun _ e => by cases e) ?_
  refine ew_get0 dX3_copyFrom_66 fX3_52 g1 rfl rfl rfl ?_
  obtain ⟨I9, eI9, h⟩ := ev_ltE h
  refine ew_put0 dX3_copyFrom_69 fX3_52 g0 rfl rfl rfl rfl rfl rfl (ew_nh eI9 ?_)
  refine ev_aload_n dX3_copyFrom_72 rfl (fun _ e => by cases e) ?_
  refine ev_aload_n dX3_copyFrom_73 rfl (fun _ e => by cases e) ?_
  refine ew_get0 dX3_copyFrom_74 fX3_28 g1 rfl rfl rfl ?_
  obtain ⟨I10, eI10, h⟩ := ev_ltE h
  refine ew_put0 dX3_copyFrom_77 fX3_28 g0 rfl rfl rfl rfl rfl rfl (ew_nh eI10 ?_)
  refine ev_aload_n dX3_copyFrom_80 rfl (fun _ e => by cases e) ?_
  refine ev_aload_n dX3_copyFrom_81 rfl (fun _ e => by cases e) ?_
  refine ew_get0 dX3_copyFrom_82 fX3_55 g1 rfl rfl rfl ?_
  obtain ⟨I11, eI11, h⟩ := ev_ltE h
  refine ew_put0 dX3_copyFrom_85 fX3_55 g0 rfl rfl rfl rfl rfl rfl (ew_nh eI11 ?_)
  refine ev_aload_n dX3_copyFrom_88 rfl (fun _ e => by cases e) ?_
  refine ew_getr0 dX3_copyFrom_89 fX3_9 g1 rfl rfl rfl rfl ?_
  refine ev_iconst (v := (0 : Int32)) dX3_copyFrom_92 (by decide) ?_
  refine ev_aload_n dX3_copyFrom_93 rfl (fun _ e => by cases e) ?_
  refine ew_getr0 dX3_copyFrom_94 fX3_9 g0 rfl rfl rfl rfl ?_
  refine ev_iconst (v := (0 : Int32)) dX3_copyFrom_97 (by decide) ?_
  refine ev_bipush (v := (100 : Int32)) dX3_copyFrom_98 (by decide) ?_
  obtain ⟨I12, eI12, h⟩ := ev_ltE h
  refine ew_copy dX3_copyFrom_100 kX3_64 zA.1 zA.2.1 zA.2.2 (shp_a g1 1 rfl) (shp_a g0 1 rfl) (by decide) (by decide) (by decide) (by decide) (by decide) (Nat.le_of_ble_eq_true rfl) (Nat.le_of_ble_eq_true rfl) (ew_nh eI12 ?_)
  refine ev_aload_n dX3_copyFrom_103 rfl (fun _ e => by cases e) ?_
  refine ew_getr0 dX3_copyFrom_104 fX3_15 g1 rfl rfl rfl rfl ?_
  refine ev_iconst (v := (0 : Int32)) dX3_copyFrom_107 (by decide) ?_
  refine ev_aload_n dX3_copyFrom_108 rfl (fun _ e => by cases e) ?_
  refine ew_getr0 dX3_copyFrom_109 fX3_15 g0 rfl rfl rfl rfl ?_
  refine ev_iconst (v := (0 : Int32)) dX3_copyFrom_112 (by decide) ?_
  refine ev_bipush (v := (100 : Int32)) dX3_copyFrom_113 (by decide) ?_
  obtain ⟨I13, eI13, h⟩ := ev_ltE h
  refine ew_copy dX3_copyFrom_115 kX3_64 zA.1 zA.2.1 zA.2.2 (shp_a g1 2 rfl) (shp_a g0 2 rfl) (by decide) (by decide) (by decide) (by decide) (by decide) (Nat.le_of_ble_eq_true rfl) (Nat.le_of_ble_eq_true rfl) (ew_nh eI13 ?_)
  refine ev_aload_n dX3_copyFrom_118 rfl (fun _ e => by cases e) ?_
  refine ew_getr0 dX3_copyFrom_119 fX3_18 g1 rfl rfl rfl rfl ?_
  refine ev_iconst (v := (0 : Int32)) dX3_copyFrom_122 (by decide) ?_
  refine ev_aload_n dX3_copyFrom_123 rfl (fun _ e => by cases e) ?_
  refine ew_getr0 dX3_copyFrom_124 fX3_18 g0 rfl rfl rfl rfl ?_
  refine ev_iconst (v := (0 : Int32)) dX3_copyFrom_127 (by decide) ?_
  refine ev_bipush (v := (100 : Int32)) dX3_copyFrom_128 (by decide) ?_
  obtain ⟨I14, eI14, h⟩ := ev_ltE h
  refine ew_copy dX3_copyFrom_130 kX3_64 zA.1 zA.2.1 zA.2.2 (shp_a g1 3 rfl) (shp_a g0 3 rfl) (by decide) (by decide) (by decide) (by decide) (by decide) (Nat.le_of_ble_eq_true rfl) (Nat.le_of_ble_eq_true rfl) (ew_nh eI14 ?_)
  refine ev_aload_n dX3_copyFrom_133 rfl (fun _ e => by cases e) ?_
  refine ew_getr0 dX3_copyFrom_134 fX3_21 g1 rfl rfl rfl rfl ?_
  refine ev_iconst (v := (0 : Int32)) dX3_copyFrom_137 (by decide) ?_
  refine ev_aload_n dX3_copyFrom_138 rfl (fun _ e => by cases e) ?_
  refine ew_getr0 dX3_copyFrom_139 fX3_21 g0 rfl rfl rfl rfl ?_
  refine ev_iconst (v := (0 : Int32)) dX3_copyFrom_142 (by decide) ?_
  refine ev_sipush (v := (201 : Int32)) dX3_copyFrom_143 (by decide) ?_
  obtain ⟨I15, eI15, h⟩ := ev_ltE h
  refine ew_copy dX3_copyFrom_146 kX3_64 zA.1 zA.2.1 zA.2.2 (shp_a g1 4 rfl) (shp_a g0 4 rfl) (by decide) (by decide) (by decide) (by decide) (by decide) (Nat.le_of_ble_eq_true rfl) (Nat.le_of_ble_eq_true rfl) (ew_nh eI15 ?_)
  cases h
  exact er_v dX3_copyFrom_149 rfl
-- ChainVotes$Member lastLogged()I
def pX3_lastLogged (n : Nat) (q0 : Nat) (I : ev_I) : Option (Int32) :=
  ev_ck (ev_in ((I q0 9) - (1 : Int32)) 100) <|
  some (I (q0 + 1) ((I q0 9) - (1 : Int32)).toNatClampNeg)
set_option maxRecDepth 100000 in
set_option maxHeartbeats 4000000 in
theorem tX3_lastLogged {E : ev_N} {σ : ev_H} (n : Nat) (q0 : Nat) (g0 : shp tb3 σ q0) (I : ev_I) (o : Int32) (h : pX3_lastLogged n q0  I = some o) : ev_T E mX3_lastLogged [.ref q0] (h_w σ I) (Option.some (Value.int o), h_w σ I) := by
  unfold pX3_lastLogged at h
  refine ev_met rfl rfl (Nat.le_of_ble_eq_true rfl) (ev_L0 (L' := [some (.ref q0)]) rfl ?_)
  refine ev_aload_n dX3_lastLogged_0 rfl (fun _ e => by cases e) ?_
  refine ew_getr0 dX3_lastLogged_1 fX3_9 g0 rfl rfl rfl rfl ?_
  refine ev_aload_n dX3_lastLogged_4 rfl (fun _ e => by cases e) ?_
  refine ew_get0 dX3_lastLogged_5 fX3_28 g0 rfl rfl rfl ?_
  refine ev_iconst (v := (1 : Int32)) dX3_lastLogged_8 (by decide) ?_
  refine ev_isub dX3_lastLogged_9 ?_
  obtain ⟨c1, h⟩ := ev_ckE h
  refine ew_iald dX3_lastLogged_10 (shp_a g0 1 rfl) c1 ?_
  cases h
  exact er_i dX3_lastLogged_11 rfl rfl
-- ChainVotes$Member hasLogged(LChainVotes$Blocks;I)Z
def pX3_hasLogged (n : Nat) (q0 : Nat) (q1 : Nat) (x2 : Int32) (I : ev_I) : Option (Int32) :=
  ev_ck (ev_in x2 100) <|
  ev_lt (I (q1 + 6) x2.toNatClampNeg) fun v2 =>
  if (I q0 9) ≤ v2 then
    some (0 : Int32)
  else
    ev_ck (ev_in v2 100) <|
    if (I (q0 + 1) v2.toNatClampNeg) = x2 then
      some (1 : Int32)
    else
      some (0 : Int32)
set_option maxRecDepth 100000 in
set_option maxHeartbeats 4000000 in
theorem tX3_hasLogged {E : ev_N} {σ : ev_H} (n : Nat) (q0 : Nat) (q1 : Nat) (g0 : shp tb3 σ q0) (g1 : shp tb1 σ q1) (x2 : Int32) (I : ev_I) (o : Int32) (h : pX3_hasLogged n q0 q1 x2 I = some o) : ev_T E mX3_hasLogged [.ref q0, .ref q1, .int x2] (h_w σ I) (Option.some (Value.int o), h_w σ I) := by
  unfold pX3_hasLogged at h
  refine ev_met rfl rfl (Nat.le_of_ble_eq_true rfl) (ev_L0 (L' := [some (.ref q0), some (.ref q1), some (.int x2), none]) rfl ?_)
  refine ev_aload_n dX3_hasLogged_0 rfl (fun _ e => by cases e) ?_
  refine ew_getr0 dX3_hasLogged_1 fX3_70 g1 rfl rfl rfl rfl ?_
  refine ev_iload_n dX3_hasLogged_4 rfl ?_
  obtain ⟨c1, h⟩ := ev_ckE h
  refine ew_iald dX3_hasLogged_5 (shp_a g1 6 rfl) c1 ?_
  obtain ⟨v2, ev2, h⟩ := ev_ltE h
  refine ew_nm ev2 ?_
  refine ew_istn (L' := [some (.ref q0), some (.ref q1), some (.int x2), some (.int v2)]) dX3_hasLogged_6 (Nat.le_of_ble_eq_true rfl) rfl ?_
  refine ev_iload_n dX3_hasLogged_7 rfl ?_
  refine ev_aload_n dX3_hasLogged_8 rfl (fun _ e => by cases e) ?_
  refine ew_get0 dX3_hasLogged_9 fX3_28 g0 rfl rfl rfl ?_
  refine ev_icmp_ge (tgt := 29) dX3_hasLogged_12 (by decide) (fun c3 => ?_) (fun c3 => ?_)
  · have h := ev_ifT h c3
    refine ev_iconst (v := (0 : Int32)) dX3_hasLogged_29 (by decide) ?_
    cases h
    exact er_i dX3_hasLogged_30 rfl rfl
  · have h := ev_ifF h c3
    refine ev_aload_n dX3_hasLogged_15 rfl (fun _ e => by cases e) ?_
    refine ew_getr0 dX3_hasLogged_16 fX3_9 g0 rfl rfl rfl rfl ?_
    refine ev_iload_n dX3_hasLogged_19 rfl ?_
    obtain ⟨c4, h⟩ := ev_ckE h
    refine ew_iald dX3_hasLogged_20 (shp_a g0 1 rfl) c4 ?_
    refine ev_iload_n dX3_hasLogged_21 rfl ?_
    refine ev_icmp_ne (tgt := 29) dX3_hasLogged_22 (by decide) (fun c5 => ?_) (fun c5 => ?_)
    · have h := ev_ifF h c5
      refine ev_iconst (v := (0 : Int32)) dX3_hasLogged_29 (by decide) ?_
      cases h
      exact er_i dX3_hasLogged_30 rfl rfl
    · have h := ev_ifT h c5
      refine ev_iconst (v := (1 : Int32)) dX3_hasLogged_25 (by decide) ?_
      refine ev_goto (tgt := 30) dX3_hasLogged_26 (by decide) ?_
      cases h
      exact er_i dX3_hasLogged_30 rfl rfl
-- ChainVotes$Member seenRival(LChainVotes$Blocks;I)I
def cX3_seenRival_47 (q0 : Nat) (q1 : Nat) (K2 : Int32 → Int32 → ev_I → Option (Int32)) (n : Nat) (y2 : Int32) (y3 : Int32) (I : ev_I) : Option (Int32) :=
  ev_lt (y3 + (1 : Int32)) fun v1 =>
  K2 y2 v1 I
def cX3_seenRival_2 (q0 : Nat) (q1 : Nat) (K2 : Int32 → Int32 → ev_I → Option (Int32)) (n : Nat) (y2 : Int32) (y3 : Int32) (I : ev_I) : Option (Int32) :=
  if (I q0 10) ≤ y3 then
    some (-1 : Int32)
  else
    ev_ck (ev_in y3 100) <|
    if (I (q0 + 2) y3.toNatClampNeg) = y2 then
      cX3_seenRival_47 q0 q1 K2 n y2 y3 I
    else
      ev_ck (ev_in y3 100) <|
      ev_ck (ev_in (I (q0 + 2) y3.toNatClampNeg) 100) <|
      ev_ck (ev_in y2 100) <|
      if (I (q1 + 1) (I (q0 + 2) y3.toNatClampNeg).toNatClampNeg) = (I (q1 + 1) y2.toNatClampNeg) then
        ev_ck (ev_in y3 100) <|
        some (I (q0 + 2) y3.toNatClampNeg)
      else
        cX3_seenRival_47 q0 q1 K2 n y2 y3 I
def lX3_seenRival_2 (q0 : Nat) (q1 : Nat) : Nat → Int32 → Int32 → ev_I → Option (Int32)
  | 0, _, _, _ => none
  | n + 1, y2, y3, I => cX3_seenRival_2 q0 q1 (lX3_seenRival_2 q0 q1 n) n y2 y3 I
def pX3_seenRival (n : Nat) (q0 : Nat) (q1 : Nat) (x2 : Int32) (I : ev_I) : Option (Int32) :=
  lX3_seenRival_2 q0 q1 n x2 (0 : Int32) I
set_option maxRecDepth 100000 in
set_option maxHeartbeats 4000000 in
theorem tX3_seenRival_47 {E : ev_N} {σ : ev_H} (q0 : Nat) (q1 : Nat) (g0 : shp tb3 σ q0) (g1 : shp tb1 σ q1) (K2 : Int32 → Int32 → ev_I → Option (Int32)) (k2 : ∀ (y2 : Int32) (y3 : Int32) (I : ev_I) (o : Int32), K2 y2 y3 I = some o → EV E mX3_seenRival 2 [some (.ref q0), some (.ref q1), some (.int y2), some (.int y3)] [] (h_w σ I) (Option.some (Value.int o), h_w σ I)) (n : Nat) (y2 : Int32) (y3 : Int32) (I : ev_I) (o : Int32) : cX3_seenRival_47 q0 q1 K2 n y2 y3 I = some o → EV E mX3_seenRival 47 [some (.ref q0), some (.ref q1), some (.int y2), some (.int y3)] [] (h_w σ I) (Option.some (Value.int o), h_w σ I) := by
  intro h
  unfold cX3_seenRival_47 at h
  obtain ⟨v1, ev1, h⟩ := ev_ltE h
  refine ew_iinc (L' := [some (.ref q0), some (.ref q1), some (.int y2), some (.int v1)]) dX3_seenRival_47 (Nat.le_of_ble_eq_true rfl) rfl (by decide) ev1 rfl ?_
  refine ev_goto (tgt := 2) dX3_seenRival_50 (by decide) ?_
  exact ev_weak (sb_s (sb_s (sb_s (sb_s sb_0)))) (k2 y2 v1 I _ h)
set_option maxRecDepth 100000 in
set_option maxHeartbeats 4000000 in
theorem tX3_seenRival_2 {E : ev_N} {σ : ev_H} (q0 : Nat) (q1 : Nat) (g0 : shp tb3 σ q0) (g1 : shp tb1 σ q1) (K2 : Int32 → Int32 → ev_I → Option (Int32)) (k2 : ∀ (y2 : Int32) (y3 : Int32) (I : ev_I) (o : Int32), K2 y2 y3 I = some o → EV E mX3_seenRival 2 [some (.ref q0), some (.ref q1), some (.int y2), some (.int y3)] [] (h_w σ I) (Option.some (Value.int o), h_w σ I)) (n : Nat) (y2 : Int32) (y3 : Int32) (I : ev_I) (o : Int32) : cX3_seenRival_2 q0 q1 K2 n y2 y3 I = some o → EV E mX3_seenRival 2 [some (.ref q0), some (.ref q1), some (.int y2), some (.int y3)] [] (h_w σ I) (Option.some (Value.int o), h_w σ I) := by
  intro h
  unfold cX3_seenRival_2 at h
  refine ev_iload_n dX3_seenRival_2 rfl ?_
  refine ev_aload_n dX3_seenRival_3 rfl (fun _ e => by cases e) ?_
  refine ew_get0 dX3_seenRival_4 fX3_55 g0 rfl rfl rfl ?_
  refine ev_icmp_ge (tgt := 53) dX3_seenRival_7 (by decide) (fun c2 => ?_) (fun c2 => ?_)
  · have h := ev_ifT h c2
    refine ev_iconst (v := (-1 : Int32)) dX3_seenRival_53 (by decide) ?_
    cases h
    exact er_i dX3_seenRival_54 rfl rfl
  · have h := ev_ifF h c2
    refine ev_aload_n dX3_seenRival_10 rfl (fun _ e => by cases e) ?_
    refine ew_getr0 dX3_seenRival_11 fX3_15 g0 rfl rfl rfl rfl ?_
    refine ev_iload_n dX3_seenRival_14 rfl ?_
    obtain ⟨c3, h⟩ := ev_ckE h
    refine ew_iald dX3_seenRival_15 (shp_a g0 2 rfl) c3 ?_
    refine ev_iload_n dX3_seenRival_16 rfl ?_
    refine ev_icmp_eq (tgt := 47) dX3_seenRival_17 (by decide) (fun c4 => ?_) (fun c4 => ?_)
    · have h := ev_ifT h c4
      exact ev_weak (sb_s (sb_s (sb_s (sb_s sb_0)))) (tX3_seenRival_47 q0 q1 g0 g1 K2 k2 n y2 y3 I _ h)
    · have h := ev_ifF h c4
      refine ev_aload_n dX3_seenRival_20 rfl (fun _ e => by cases e) ?_
      refine ew_getr0 dX3_seenRival_21 fX3_75 g1 rfl rfl rfl rfl ?_
      refine ev_aload_n dX3_seenRival_24 rfl (fun _ e => by cases e) ?_
      refine ew_getr0 dX3_seenRival_25 fX3_15 g0 rfl rfl rfl rfl ?_
      refine ev_iload_n dX3_seenRival_28 rfl ?_
      obtain ⟨c5, h⟩ := ev_ckE h
      refine ew_iald dX3_seenRival_29 (shp_a g0 2 rfl) c5 ?_
      obtain ⟨c6, h⟩ := ev_ckE h
      refine ew_iald dX3_seenRival_30 (shp_a g1 1 rfl) c6 ?_
      refine ev_aload_n dX3_seenRival_31 rfl (fun _ e => by cases e) ?_
      refine ew_getr0 dX3_seenRival_32 fX3_75 g1 rfl rfl rfl rfl ?_
      refine ev_iload_n dX3_seenRival_35 rfl ?_
      obtain ⟨c7, h⟩ := ev_ckE h
      refine ew_iald dX3_seenRival_36 (shp_a g1 1 rfl) c7 ?_
      refine ev_icmp_ne (tgt := 47) dX3_seenRival_37 (by decide) (fun c8 => ?_) (fun c8 => ?_)
      · have h := ev_ifF h c8
        exact ev_weak (sb_s (sb_s (sb_s (sb_s sb_0)))) (tX3_seenRival_47 q0 q1 g0 g1 K2 k2 n y2 y3 I _ h)
      · have h := ev_ifT h c8
        refine ev_aload_n dX3_seenRival_40 rfl (fun _ e => by cases e) ?_
        refine ew_getr0 dX3_seenRival_41 fX3_15 g0 rfl rfl rfl rfl ?_
        refine ev_iload_n dX3_seenRival_44 rfl ?_
        obtain ⟨c9, h⟩ := ev_ckE h
        refine ew_iald dX3_seenRival_45 (shp_a g0 2 rfl) c9 ?_
        cases h
        exact er_i dX3_seenRival_46 rfl rfl
theorem tlX3_seenRival_2 {E : ev_N} {σ : ev_H} (q0 : Nat) (q1 : Nat) (g0 : shp tb3 σ q0) (g1 : shp tb1 σ q1) : ∀ (n : Nat) (y2 : Int32) (y3 : Int32) (I : ev_I) (o : Int32), lX3_seenRival_2 q0 q1 n y2 y3 I = some o → EV E mX3_seenRival 2 [some (.ref q0), some (.ref q1), some (.int y2), some (.int y3)] [] (h_w σ I) (Option.some (Value.int o), h_w σ I)
  | 0, _, _, _, _, h => by cases h
  | n + 1, y2, y3, I, o, h => tX3_seenRival_2 q0 q1 g0 g1 (lX3_seenRival_2 q0 q1 n) (tlX3_seenRival_2 q0 q1 g0 g1 n) n y2 y3 I o h
set_option maxRecDepth 100000 in
set_option maxHeartbeats 4000000 in
theorem tX3_seenRival {E : ev_N} {σ : ev_H} (n : Nat) (q0 : Nat) (q1 : Nat) (g0 : shp tb3 σ q0) (g1 : shp tb1 σ q1) (x2 : Int32) (I : ev_I) (o : Int32) (h : pX3_seenRival n q0 q1 x2 I = some o) : ev_T E mX3_seenRival [.ref q0, .ref q1, .int x2] (h_w σ I) (Option.some (Value.int o), h_w σ I) := by
  unfold pX3_seenRival at h
  refine ev_met rfl rfl (Nat.le_of_ble_eq_true rfl) (ev_L0 (L' := [some (.ref q0), some (.ref q1), some (.int x2), none]) rfl ?_)
  refine ev_iconst (v := (0 : Int32)) dX3_seenRival_0 (by decide) ?_
  refine ew_istn (L' := [some (.ref q0), some (.ref q1), some (.int x2), some (.int (0 : Int32))]) dX3_seenRival_1 (Nat.le_of_ble_eq_true rfl) rfl ?_
  exact ev_weak (sb_s (sb_s (sb_s (sb_s sb_0)))) (tlX3_seenRival_2 q0 q1 g0 g1 n x2 (0 : Int32) I _ h)
-- ChainVotes$Member see(I)V
def cX3_see_2 (q0 : Nat) (K2 : Int32 → Int32 → ev_I → Option (ev_I)) (n : Nat) (y1 : Int32) (y2 : Int32) (I : ev_I) : Option (ev_I) :=
  if (I q0 10) ≤ y2 then
    if (100 : Int32) ≤ (I q0 10) then
      some I
    else
      ev_ck (ev_in (I q0 10) 100) <|
      ev_lt (ev_u2 I (q0 + 2) (I q0 10).toNatClampNeg y1) fun I4 =>
      ev_lt (ev_u2 I4 q0 10 ((I4 q0 10) + (1 : Int32))) fun I5 =>
      some I5
  else
    ev_ck (ev_in y2 100) <|
    if (I (q0 + 2) y2.toNatClampNeg) = y1 then
      some I
    else
      ev_lt (y2 + (1 : Int32)) fun v8 =>
      K2 y1 v8 I
def lX3_see_2 (q0 : Nat) : Nat → Int32 → Int32 → ev_I → Option (ev_I)
  | 0, _, _, _ => none
  | n + 1, y1, y2, I => cX3_see_2 q0 (lX3_see_2 q0 n) n y1 y2 I
def pX3_see (n : Nat) (q0 : Nat) (x1 : Int32) (I : ev_I) : Option (ev_I) :=
  lX3_see_2 q0 n x1 (0 : Int32) I
set_option maxRecDepth 100000 in
set_option maxHeartbeats 4000000 in
theorem tX3_see_2 {E : ev_N} {σ : ev_H} (q0 : Nat) (g0 : shp tb3 σ q0) (K2 : Int32 → Int32 → ev_I → Option (ev_I)) (k2 : ∀ (y1 : Int32) (y2 : Int32) (I : ev_I) (o : ev_I), K2 y1 y2 I = some o → EV E mX3_see 2 [some (.ref q0), some (.int y1), some (.int y2)] [] (h_w σ I) (Option.none, h_w σ o)) (n : Nat) (y1 : Int32) (y2 : Int32) (I : ev_I) (o : ev_I) : cX3_see_2 q0 K2 n y1 y2 I = some o → EV E mX3_see 2 [some (.ref q0), some (.int y1), some (.int y2)] [] (h_w σ I) (Option.none, h_w σ o) := by
  intro h
  unfold cX3_see_2 at h
  refine ev_iload_n dX3_see_2 rfl ?_
  refine ev_aload_n dX3_see_3 rfl (fun _ e => by cases e) ?_
  refine ew_get0 dX3_see_4 fX3_55 g0 rfl rfl rfl ?_
  refine ev_icmp_ge (tgt := 27) dX3_see_7 (by decide) (fun c1 => ?_) (fun c1 => ?_)
  · have h := ev_ifT h c1
    refine ev_aload_n dX3_see_27 rfl (fun _ e => by cases e) ?_
    refine ew_get0 dX3_see_28 fX3_55 g0 rfl rfl rfl ?_
    refine ev_bipush (v := (100 : Int32)) dX3_see_31 (by decide) ?_
    refine ev_icmp_ge (tgt := 56) dX3_see_33 (by decide) (fun c2 => ?_) (fun c2 => ?_)
    · have h := ev_ifT h c2
      cases h
      exact er_v dX3_see_56 rfl
    · have h := ev_ifF h c2
      refine ev_aload_n dX3_see_36 rfl (fun _ e => by cases e) ?_
      refine ew_getr0 dX3_see_37 fX3_15 g0 rfl rfl rfl rfl ?_
      refine ev_aload_n dX3_see_40 rfl (fun _ e => by cases e) ?_
      refine ew_get0 dX3_see_41 fX3_55 g0 rfl rfl rfl ?_
      refine ev_iload_n dX3_see_44 rfl ?_
      obtain ⟨c3, h⟩ := ev_ckE h
      obtain ⟨I4, eI4, h⟩ := ev_ltE h
      refine ew_iast dX3_see_45 (shp_a g0 2 rfl) c3 (ew_nh eI4 ?_)
      refine ev_aload_n dX3_see_46 rfl (fun _ e => by cases e) ?_
      refine ev_dup dX3_see_47 ?_
      refine ew_get0 dX3_see_48 fX3_55 g0 rfl rfl rfl ?_
      refine ev_iconst (v := (1 : Int32)) dX3_see_51 (by decide) ?_
      refine ev_iadd dX3_see_52 ?_
      obtain ⟨I5, eI5, h⟩ := ev_ltE h
      refine ew_put0 dX3_see_53 fX3_55 g0 rfl rfl rfl rfl rfl rfl (ew_nh eI5 ?_)
      cases h
      exact er_v dX3_see_56 rfl
  · have h := ev_ifF h c1
    refine ev_aload_n dX3_see_10 rfl (fun _ e => by cases e) ?_
    refine ew_getr0 dX3_see_11 fX3_15 g0 rfl rfl rfl rfl ?_
    refine ev_iload_n dX3_see_14 rfl ?_
    obtain ⟨c6, h⟩ := ev_ckE h
    refine ew_iald dX3_see_15 (shp_a g0 2 rfl) c6 ?_
    refine ev_iload_n dX3_see_16 rfl ?_
    refine ev_icmp_ne (tgt := 21) dX3_see_17 (by decide) (fun c7 => ?_) (fun c7 => ?_)
    · have h := ev_ifF h c7
      obtain ⟨v8, ev8, h⟩ := ev_ltE h
      refine ew_iinc (L' := [some (.ref q0), some (.int y1), some (.int v8)]) dX3_see_21 (Nat.le_of_ble_eq_true rfl) rfl (by decide) ev8 rfl ?_
      refine ev_goto (tgt := 2) dX3_see_24 (by decide) ?_
      exact ev_weak (sb_s (sb_s (sb_s sb_0))) (k2 y1 v8 I _ h)
    · have h := ev_ifT h c7
      cases h
      exact er_v dX3_see_20 rfl
theorem tlX3_see_2 {E : ev_N} {σ : ev_H} (q0 : Nat) (g0 : shp tb3 σ q0) : ∀ (n : Nat) (y1 : Int32) (y2 : Int32) (I : ev_I) (o : ev_I), lX3_see_2 q0 n y1 y2 I = some o → EV E mX3_see 2 [some (.ref q0), some (.int y1), some (.int y2)] [] (h_w σ I) (Option.none, h_w σ o)
  | 0, _, _, _, _, h => by cases h
  | n + 1, y1, y2, I, o, h => tX3_see_2 q0 g0 (lX3_see_2 q0 n) (tlX3_see_2 q0 g0 n) n y1 y2 I o h
set_option maxRecDepth 100000 in
set_option maxHeartbeats 4000000 in
theorem tX3_see {E : ev_N} {σ : ev_H} (n : Nat) (q0 : Nat) (g0 : shp tb3 σ q0) (x1 : Int32) (I : ev_I) (o : ev_I) (h : pX3_see n q0 x1 I = some o) : ev_T E mX3_see [.ref q0, .int x1] (h_w σ I) (Option.none, h_w σ o) := by
  unfold pX3_see at h
  refine ev_met rfl rfl (Nat.le_of_ble_eq_true rfl) (ev_L0 (L' := [some (.ref q0), some (.int x1), none]) rfl ?_)
  refine ev_iconst (v := (0 : Int32)) dX3_see_0 (by decide) ?_
  refine ew_istn (L' := [some (.ref q0), some (.int x1), some (.int (0 : Int32))]) dX3_see_1 (Nat.le_of_ble_eq_true rfl) rfl ?_
  exact ev_weak (sb_s (sb_s (sb_s sb_0))) (tlX3_see_2 q0 g0 n x1 (0 : Int32) I _ h)
-- ChainVotes$Member markedRival(LChainVotes$Blocks;II)I
def cX3_markedRival_52 (q0 : Nat) (q1 : Nat) (K3 : Int32 → Int32 → Int32 → ev_I → Option (Int32)) (n : Nat) (y2 : Int32) (y3 : Int32) (y4 : Int32) (I : ev_I) : Option (Int32) :=
  ev_lt (y4 + (1 : Int32)) fun v1 =>
  K3 y2 y3 v1 I
def cX3_markedRival_3 (q0 : Nat) (q1 : Nat) (K3 : Int32 → Int32 → Int32 → ev_I → Option (Int32)) (n : Nat) (y2 : Int32) (y3 : Int32) (y4 : Int32) (I : ev_I) : Option (Int32) :=
  if (I q1 0) ≤ y4 then
    some (-1 : Int32)
  else
    if y4 = y3 then
      cX3_markedRival_52 q0 q1 K3 n y2 y3 y4 I
    else
      ev_ck (ev_in y4 100) <|
      ev_ck (ev_in y3 100) <|
      if (I (q1 + 1) y4.toNatClampNeg) = (I (q1 + 1) y3.toNatClampNeg) then
        ev_ck (ev_in y4 100) <|
        if (((I (q0 + 3) y4.toNatClampNeg) >>> (y2 &&& 31)) &&& (1 : Int32)) = (1 : Int32) then
          some y4
        else
          cX3_markedRival_52 q0 q1 K3 n y2 y3 y4 I
      else
        cX3_markedRival_52 q0 q1 K3 n y2 y3 y4 I
def lX3_markedRival_3 (q0 : Nat) (q1 : Nat) : Nat → Int32 → Int32 → Int32 → ev_I → Option (Int32)
  | 0, _, _, _, _ => none
  | n + 1, y2, y3, y4, I => cX3_markedRival_3 q0 q1 (lX3_markedRival_3 q0 q1 n) n y2 y3 y4 I
def pX3_markedRival (n : Nat) (q0 : Nat) (q1 : Nat) (x2 : Int32) (x3 : Int32) (I : ev_I) : Option (Int32) :=
  lX3_markedRival_3 q0 q1 n x2 x3 (1 : Int32) I
set_option maxRecDepth 100000 in
set_option maxHeartbeats 4000000 in
theorem tX3_markedRival_52 {E : ev_N} {σ : ev_H} (q0 : Nat) (q1 : Nat) (g0 : shp tb3 σ q0) (g1 : shp tb1 σ q1) (K3 : Int32 → Int32 → Int32 → ev_I → Option (Int32)) (k3 : ∀ (y2 : Int32) (y3 : Int32) (y4 : Int32) (I : ev_I) (o : Int32), K3 y2 y3 y4 I = some o → EV E mX3_markedRival 3 [some (.ref q0), some (.ref q1), some (.int y2), some (.int y3), some (.int y4)] [] (h_w σ I) (Option.some (Value.int o), h_w σ I)) (n : Nat) (y2 : Int32) (y3 : Int32) (y4 : Int32) (I : ev_I) (o : Int32) : cX3_markedRival_52 q0 q1 K3 n y2 y3 y4 I = some o → EV E mX3_markedRival 52 [some (.ref q0), some (.ref q1), some (.int y2), some (.int y3), some (.int y4)] [] (h_w σ I) (Option.some (Value.int o), h_w σ I) := by
  intro h
  unfold cX3_markedRival_52 at h
  obtain ⟨v1, ev1, h⟩ := ev_ltE h
  refine ew_iinc (L' := [some (.ref q0), some (.ref q1), some (.int y2), some (.int y3), some (.int v1)]) dX3_markedRival_52 (Nat.le_of_ble_eq_true rfl) rfl (by decide) ev1 rfl ?_
  refine ev_goto (tgt := 3) dX3_markedRival_55 (by decide) ?_
  exact ev_weak (sb_s (sb_s (sb_s (sb_s (sb_s sb_0))))) (k3 y2 y3 v1 I _ h)
set_option maxRecDepth 100000 in
set_option maxHeartbeats 4000000 in
theorem tX3_markedRival_3 {E : ev_N} {σ : ev_H} (q0 : Nat) (q1 : Nat) (g0 : shp tb3 σ q0) (g1 : shp tb1 σ q1) (K3 : Int32 → Int32 → Int32 → ev_I → Option (Int32)) (k3 : ∀ (y2 : Int32) (y3 : Int32) (y4 : Int32) (I : ev_I) (o : Int32), K3 y2 y3 y4 I = some o → EV E mX3_markedRival 3 [some (.ref q0), some (.ref q1), some (.int y2), some (.int y3), some (.int y4)] [] (h_w σ I) (Option.some (Value.int o), h_w σ I)) (n : Nat) (y2 : Int32) (y3 : Int32) (y4 : Int32) (I : ev_I) (o : Int32) : cX3_markedRival_3 q0 q1 K3 n y2 y3 y4 I = some o → EV E mX3_markedRival 3 [some (.ref q0), some (.ref q1), some (.int y2), some (.int y3), some (.int y4)] [] (h_w σ I) (Option.some (Value.int o), h_w σ I) := by
  intro h
  unfold cX3_markedRival_3 at h
  refine ev_iload dX3_markedRival_3 rfl ?_
  refine ev_aload_n dX3_markedRival_5 rfl (fun _ e => by cases e) ?_
  refine ew_get0 dX3_markedRival_6 fX3_77 g1 rfl rfl rfl ?_
  refine ev_icmp_ge (tgt := 58) dX3_markedRival_9 (by decide) (fun c2 => ?_) (fun c2 => ?_)
  · have h := ev_ifT h c2
    refine ev_iconst (v := (-1 : Int32)) dX3_markedRival_58 (by decide) ?_
    cases h
    exact er_i dX3_markedRival_59 rfl rfl
  · have h := ev_ifF h c2
    refine ev_iload dX3_markedRival_12 rfl ?_
    refine ev_iload_n dX3_markedRival_14 rfl ?_
    refine ev_icmp_eq (tgt := 52) dX3_markedRival_15 (by decide) (fun c3 => ?_) (fun c3 => ?_)
    · have h := ev_ifT h c3
      exact ev_weak (sb_s (sb_s (sb_s (sb_s (sb_s sb_0))))) (tX3_markedRival_52 q0 q1 g0 g1 K3 k3 n y2 y3 y4 I _ h)
    · have h := ev_ifF h c3
      refine ev_aload_n dX3_markedRival_18 rfl (fun _ e => by cases e) ?_
      refine ew_getr0 dX3_markedRival_19 fX3_75 g1 rfl rfl rfl rfl ?_
      refine ev_iload dX3_markedRival_22 rfl ?_
      obtain ⟨c4, h⟩ := ev_ckE h
      refine ew_iald dX3_markedRival_24 (shp_a g1 1 rfl) c4 ?_
      refine ev_aload_n dX3_markedRival_25 rfl (fun _ e => by cases e) ?_
      refine ew_getr0 dX3_markedRival_26 fX3_75 g1 rfl rfl rfl rfl ?_
      refine ev_iload_n dX3_markedRival_29 rfl ?_
      obtain ⟨c5, h⟩ := ev_ckE h
      refine ew_iald dX3_markedRival_30 (shp_a g1 1 rfl) c5 ?_
      refine ev_icmp_ne (tgt := 52) dX3_markedRival_31 (by decide) (fun c6 => ?_) (fun c6 => ?_)
      · have h := ev_ifF h c6
        exact ev_weak (sb_s (sb_s (sb_s (sb_s (sb_s sb_0))))) (tX3_markedRival_52 q0 q1 g0 g1 K3 k3 n y2 y3 y4 I _ h)
      · have h := ev_ifT h c6
        refine ev_aload_n dX3_markedRival_34 rfl (fun _ e => by cases e) ?_
        refine ew_getr0 dX3_markedRival_35 fX3_18 g0 rfl rfl rfl rfl ?_
        refine ev_iload dX3_markedRival_38 rfl ?_
        obtain ⟨c7, h⟩ := ev_ckE h
        refine ew_iald dX3_markedRival_40 (shp_a g0 3 rfl) c7 ?_
        refine ev_iload_n dX3_markedRival_41 rfl ?_
        refine ev_ishr dX3_markedRival_42 ?_
        refine ev_iconst (v := (1 : Int32)) dX3_markedRival_43 (by decide) ?_
        refine ev_iand dX3_markedRival_44 ?_
        refine ev_iconst (v := (1 : Int32)) dX3_markedRival_45 (by decide) ?_
        refine ev_icmp_ne (tgt := 52) dX3_markedRival_46 (by decide) (fun c8 => ?_) (fun c8 => ?_)
        · have h := ev_ifF h c8
          exact ev_weak (sb_s (sb_s (sb_s (sb_s (sb_s sb_0))))) (tX3_markedRival_52 q0 q1 g0 g1 K3 k3 n y2 y3 y4 I _ h)
        · have h := ev_ifT h c8
          refine ev_iload dX3_markedRival_49 rfl ?_
          cases h
          exact er_i dX3_markedRival_51 rfl rfl
theorem tlX3_markedRival_3 {E : ev_N} {σ : ev_H} (q0 : Nat) (q1 : Nat) (g0 : shp tb3 σ q0) (g1 : shp tb1 σ q1) : ∀ (n : Nat) (y2 : Int32) (y3 : Int32) (y4 : Int32) (I : ev_I) (o : Int32), lX3_markedRival_3 q0 q1 n y2 y3 y4 I = some o → EV E mX3_markedRival 3 [some (.ref q0), some (.ref q1), some (.int y2), some (.int y3), some (.int y4)] [] (h_w σ I) (Option.some (Value.int o), h_w σ I)
  | 0, _, _, _, _, _, h => by cases h
  | n + 1, y2, y3, y4, I, o, h => tX3_markedRival_3 q0 q1 g0 g1 (lX3_markedRival_3 q0 q1 n) (tlX3_markedRival_3 q0 q1 g0 g1 n) n y2 y3 y4 I o h
set_option maxRecDepth 100000 in
set_option maxHeartbeats 4000000 in
theorem tX3_markedRival {E : ev_N} {σ : ev_H} (n : Nat) (q0 : Nat) (q1 : Nat) (g0 : shp tb3 σ q0) (g1 : shp tb1 σ q1) (x2 : Int32) (x3 : Int32) (I : ev_I) (o : Int32) (h : pX3_markedRival n q0 q1 x2 x3 I = some o) : ev_T E mX3_markedRival [.ref q0, .ref q1, .int x2, .int x3] (h_w σ I) (Option.some (Value.int o), h_w σ I) := by
  unfold pX3_markedRival at h
  refine ev_met rfl rfl (Nat.le_of_ble_eq_true rfl) (ev_L0 (L' := [some (.ref q0), some (.ref q1), some (.int x2), some (.int x3), none]) rfl ?_)
  refine ev_iconst (v := (1 : Int32)) dX3_markedRival_0 (by decide) ?_
  refine ew_ist (L' := [some (.ref q0), some (.ref q1), some (.int x2), some (.int x3), some (.int (1 : Int32))]) dX3_markedRival_1 (Nat.le_of_ble_eq_true rfl) rfl ?_
  exact ev_weak (sb_s (sb_s (sb_s (sb_s (sb_s sb_0))))) (tlX3_markedRival_3 q0 q1 g0 g1 n x2 x3 (1 : Int32) I _ h)
-- ChainVotes$Net copyFrom(LChainVotes$Net;)V
def pX4_copyFrom (n : Nat) (q0 : Nat) (q1 : Nat) (I : ev_I) : Option (ev_I) :=
  ev_lt (ev_u2 I q0 0 (I q1 0)) fun I1 =>
  ev_lt (ev_u2 I1 q0 1 (I1 q1 1)) fun I2 =>
  ev_lt (ev_u2 I2 q0 2 (I2 q1 2)) fun I3 =>
  ev_lt (ev_u2 I3 q0 3 (I3 q1 3)) fun I4 =>
  ev_lt (ev_u2 I4 q0 4 (I4 q1 4)) fun I5 =>
  ev_lt (ev_u1 I5 (q0 + 1) (va_cpy (I5 (q1 + 1)) (I5 (q0 + 1)) (0 : Int32).toNatClampNeg (0 : Int32).toNatClampNeg (200 : Int32).toNatClampNeg)) fun I6 =>
  ev_lt (ev_u1 I6 (q0 + 2) (va_cpy (I6 (q1 + 2)) (I6 (q0 + 2)) (0 : Int32).toNatClampNeg (0 : Int32).toNatClampNeg (7 : Int32).toNatClampNeg)) fun I7 =>
  some I7
set_option maxRecDepth 100000 in
set_option maxHeartbeats 4000000 in
theorem tX4_copyFrom {E : ev_N} {σ : ev_H} (n : Nat) (q0 : Nat) (q1 : Nat) (g0 : shp tb4 σ q0) (g1 : shp tb4 σ q1) (I : ev_I) (o : ev_I) (h : pX4_copyFrom n q0 q1  I = some o) : ev_T E mX4_copyFrom [.ref q0, .ref q1] (h_w σ I) (Option.none, h_w σ o) := by
  unfold pX4_copyFrom at h
  refine ev_met rfl rfl (Nat.le_of_ble_eq_true rfl) (ev_L0 (L' := [some (.ref q0), some (.ref q1)]) rfl ?_)
  refine ev_aload_n dX4_copyFrom_0 rfl (fun _ e => by cases e) ?_
  refine ev_aload_n dX4_copyFrom_1 rfl (fun _ e => by cases e) ?_
  refine ew_get0 dX4_copyFrom_2 fX4_18 g1 rfl rfl rfl ?_
  obtain ⟨I1, eI1, h⟩ := ev_ltE h
  refine ew_put0 dX4_copyFrom_5 fX4_18 g0 rfl rfl rfl rfl rfl rfl (ew_nh eI1 ?_)
  refine ev_aload_n dX4_copyFrom_8 rfl (fun _ e => by cases e) ?_
  refine ev_aload_n dX4_copyFrom_9 rfl (fun _ e => by cases e) ?_
  refine ew_get0 dX4_copyFrom_10 fX4_22 g1 rfl rfl rfl ?_
  obtain ⟨I2, eI2, h⟩ := ev_ltE h
  refine ew_put0 dX4_copyFrom_13 fX4_22 g0 rfl rfl rfl rfl rfl rfl (ew_nh eI2 ?_)
  refine ev_aload_n dX4_copyFrom_16 rfl (fun _ e => by cases e) ?_
  refine ev_aload_n dX4_copyFrom_17 rfl (fun _ e => by cases e) ?_
  refine ew_get0 dX4_copyFrom_18 fX4_25 g1 rfl rfl rfl ?_
  obtain ⟨I3, eI3, h⟩ := ev_ltE h
  refine ew_put0 dX4_copyFrom_21 fX4_25 g0 rfl rfl rfl rfl rfl rfl (ew_nh eI3 ?_)
  refine ev_aload_n dX4_copyFrom_24 rfl (fun _ e => by cases e) ?_
  refine ev_aload_n dX4_copyFrom_25 rfl (fun _ e => by cases e) ?_
  refine ew_get0 dX4_copyFrom_26 fX4_28 g1 rfl rfl rfl ?_
  obtain ⟨I4, eI4, h⟩ := ev_ltE h
  refine ew_put0 dX4_copyFrom_29 fX4_28 g0 rfl rfl rfl rfl rfl rfl (ew_nh eI4 ?_)
  refine ev_aload_n dX4_copyFrom_32 rfl (fun _ e => by cases e) ?_
  refine ev_aload_n dX4_copyFrom_33 rfl (fun _ e => by cases e) ?_
  refine ew_get0 dX4_copyFrom_34 fX4_31 g1 rfl rfl rfl ?_
  obtain ⟨I5, eI5, h⟩ := ev_ltE h
  refine ew_put0 dX4_copyFrom_37 fX4_31 g0 rfl rfl rfl rfl rfl rfl (ew_nh eI5 ?_)
  refine ev_aload_n dX4_copyFrom_40 rfl (fun _ e => by cases e) ?_
  refine ew_getr0 dX4_copyFrom_41 fX4_9 g1 rfl rfl rfl rfl ?_
  refine ev_iconst (v := (0 : Int32)) dX4_copyFrom_44 (by decide) ?_
  refine ev_aload_n dX4_copyFrom_45 rfl (fun _ e => by cases e) ?_
  refine ew_getr0 dX4_copyFrom_46 fX4_9 g0 rfl rfl rfl rfl ?_
  refine ev_iconst (v := (0 : Int32)) dX4_copyFrom_49 (by decide) ?_
  refine ev_sipush (v := (200 : Int32)) dX4_copyFrom_50 (by decide) ?_
  obtain ⟨I6, eI6, h⟩ := ev_ltE h
  refine ew_copy dX4_copyFrom_53 kX4_34 zA.1 zA.2.1 zA.2.2 (shp_a g1 1 rfl) (shp_a g0 1 rfl) (by decide) (by decide) (by decide) (by decide) (by decide) (Nat.le_of_ble_eq_true rfl) (Nat.le_of_ble_eq_true rfl) (ew_nh eI6 ?_)
  refine ev_aload_n dX4_copyFrom_56 rfl (fun _ e => by cases e) ?_
  refine ew_getr0 dX4_copyFrom_57 fX4_15 g1 rfl rfl rfl rfl ?_
  refine ev_iconst (v := (0 : Int32)) dX4_copyFrom_60 (by decide) ?_
  refine ev_aload_n dX4_copyFrom_61 rfl (fun _ e => by cases e) ?_
  refine ew_getr0 dX4_copyFrom_62 fX4_15 g0 rfl rfl rfl rfl ?_
  refine ev_iconst (v := (0 : Int32)) dX4_copyFrom_65 (by decide) ?_
  refine ev_bipush (v := (7 : Int32)) dX4_copyFrom_66 (by decide) ?_
  obtain ⟨I7, eI7, h⟩ := ev_ltE h
  refine ew_copy dX4_copyFrom_68 kX4_34 zA.1 zA.2.1 zA.2.2 (shp_a g1 2 rfl) (shp_a g0 2 rfl) (by decide) (by decide) (by decide) (by decide) (by decide) (Nat.le_of_ble_eq_true rfl) (Nat.le_of_ble_eq_true rfl) (ew_nh eI7 ?_)
  cases h
  exact er_v dX4_copyFrom_71 rfl
-- ChainVotes$Net senderOf(I)I
def pX4_senderOf (n : Nat)  (x0 : Int32) (I : ev_I) : Option (Int32) :=
  some ((x0 >>> ((20 : Int32) &&& 31)) &&& (7 : Int32))
set_option maxRecDepth 100000 in
set_option maxHeartbeats 4000000 in
theorem tX4_senderOf {E : ev_N} {σ : ev_H} (n : Nat)   (x0 : Int32) (I : ev_I) (o : Int32) (h : pX4_senderOf n  x0 I = some o) : ev_T E mX4_senderOf [.int x0] (h_w σ I) (Option.some (Value.int o), h_w σ I) := by
  unfold pX4_senderOf at h
  refine ev_met rfl rfl (Nat.le_of_ble_eq_true rfl) (ev_L0 (L' := [some (.int x0)]) rfl ?_)
  refine ev_iload_n dX4_senderOf_0 rfl ?_
  refine ev_bipush (v := (20 : Int32)) dX4_senderOf_1 (by decide) ?_
  refine ev_ishr dX4_senderOf_3 ?_
  refine ev_bipush (v := (7 : Int32)) dX4_senderOf_4 (by decide) ?_
  refine ev_iand dX4_senderOf_6 ?_
  cases h
  exact er_i dX4_senderOf_7 rfl rfl
-- ChainVotes$Net targetOf(I)I
def pX4_targetOf (n : Nat)  (x0 : Int32) (I : ev_I) : Option (Int32) :=
  some ((x0 >>> ((17 : Int32) &&& 31)) &&& (7 : Int32))
set_option maxRecDepth 100000 in
set_option maxHeartbeats 4000000 in
theorem tX4_targetOf {E : ev_N} {σ : ev_H} (n : Nat)   (x0 : Int32) (I : ev_I) (o : Int32) (h : pX4_targetOf n  x0 I = some o) : ev_T E mX4_targetOf [.int x0] (h_w σ I) (Option.some (Value.int o), h_w σ I) := by
  unfold pX4_targetOf at h
  refine ev_met rfl rfl (Nat.le_of_ble_eq_true rfl) (ev_L0 (L' := [some (.int x0)]) rfl ?_)
  refine ev_iload_n dX4_targetOf_0 rfl ?_
  refine ev_bipush (v := (17 : Int32)) dX4_targetOf_1 (by decide) ?_
  refine ev_ishr dX4_targetOf_3 ?_
  refine ev_bipush (v := (7 : Int32)) dX4_targetOf_4 (by decide) ?_
  refine ev_iand dX4_targetOf_6 ?_
  cases h
  exact er_i dX4_targetOf_7 rfl rfl
-- ChainVotes$Net kindOf(I)I
def pX4_kindOf (n : Nat)  (x0 : Int32) (I : ev_I) : Option (Int32) :=
  some ((x0 >>> ((15 : Int32) &&& 31)) &&& (3 : Int32))
set_option maxRecDepth 100000 in
set_option maxHeartbeats 4000000 in
theorem tX4_kindOf {E : ev_N} {σ : ev_H} (n : Nat)   (x0 : Int32) (I : ev_I) (o : Int32) (h : pX4_kindOf n  x0 I = some o) : ev_T E mX4_kindOf [.int x0] (h_w σ I) (Option.some (Value.int o), h_w σ I) := by
  unfold pX4_kindOf at h
  refine ev_met rfl rfl (Nat.le_of_ble_eq_true rfl) (ev_L0 (L' := [some (.int x0)]) rfl ?_)
  refine ev_iload_n dX4_kindOf_0 rfl ?_
  refine ev_bipush (v := (15 : Int32)) dX4_kindOf_1 (by decide) ?_
  refine ev_ishr dX4_kindOf_3 ?_
  refine ev_iconst (v := (3 : Int32)) dX4_kindOf_4 (by decide) ?_
  refine ev_iand dX4_kindOf_5 ?_
  cases h
  exact er_i dX4_kindOf_6 rfl rfl
-- ChainVotes$Net subjectOf(I)I
def pX4_subjectOf (n : Nat)  (x0 : Int32) (I : ev_I) : Option (Int32) :=
  some ((x0 >>> ((7 : Int32) &&& 31)) &&& (255 : Int32))
set_option maxRecDepth 100000 in
set_option maxHeartbeats 4000000 in
theorem tX4_subjectOf {E : ev_N} {σ : ev_H} (n : Nat)   (x0 : Int32) (I : ev_I) (o : Int32) (h : pX4_subjectOf n  x0 I = some o) : ev_T E mX4_subjectOf [.int x0] (h_w σ I) (Option.some (Value.int o), h_w σ I) := by
  unfold pX4_subjectOf at h
  refine ev_met rfl rfl (Nat.le_of_ble_eq_true rfl) (ev_L0 (L' := [some (.int x0)]) rfl ?_)
  refine ev_iload_n dX4_subjectOf_0 rfl ?_
  refine ev_bipush (v := (7 : Int32)) dX4_subjectOf_1 (by decide) ?_
  refine ev_ishr dX4_subjectOf_3 ?_
  refine ev_sipush (v := (255 : Int32)) dX4_subjectOf_4 (by decide) ?_
  refine ev_iand dX4_subjectOf_7 ?_
  cases h
  exact er_i dX4_subjectOf_8 rfl rfl
-- ChainVotes$Net highOf(I)I
def pX4_highOf (n : Nat)  (x0 : Int32) (I : ev_I) : Option (Int32) :=
  some ((x0 &&& (127 : Int32)) - (1 : Int32))
set_option maxRecDepth 100000 in
set_option maxHeartbeats 4000000 in
theorem tX4_highOf {E : ev_N} {σ : ev_H} (n : Nat)   (x0 : Int32) (I : ev_I) (o : Int32) (h : pX4_highOf n  x0 I = some o) : ev_T E mX4_highOf [.int x0] (h_w σ I) (Option.some (Value.int o), h_w σ I) := by
  unfold pX4_highOf at h
  refine ev_met rfl rfl (Nat.le_of_ble_eq_true rfl) (ev_L0 (L' := [some (.int x0)]) rfl ?_)
  refine ev_iload_n dX4_highOf_0 rfl ?_
  refine ev_bipush (v := (127 : Int32)) dX4_highOf_1 (by decide) ?_
  refine ev_iand dX4_highOf_3 ?_
  refine ev_iconst (v := (1 : Int32)) dX4_highOf_4 (by decide) ?_
  refine ev_isub dX4_highOf_5 ?_
  cases h
  exact er_i dX4_highOf_6 rfl rfl
-- ChainVotes$Net has(I)Z
def pX4_has (n : Nat) (q0 : Nat) (x1 : Int32) (I : ev_I) : Option (Int32) :=
  if x1 < 0 then
    some (0 : Int32)
  else
    if (I q0 0) ≤ x1 then
      some (0 : Int32)
    else
      some (1 : Int32)
set_option maxRecDepth 100000 in
set_option maxHeartbeats 4000000 in
theorem tX4_has {E : ev_N} {σ : ev_H} (n : Nat) (q0 : Nat) (g0 : shp tb4 σ q0) (x1 : Int32) (I : ev_I) (o : Int32) (h : pX4_has n q0 x1 I = some o) : ev_T E mX4_has [.ref q0, .int x1] (h_w σ I) (Option.some (Value.int o), h_w σ I) := by
  unfold pX4_has at h
  refine ev_met rfl rfl (Nat.le_of_ble_eq_true rfl) (ev_L0 (L' := [some (.ref q0), some (.int x1)]) rfl ?_)
  refine ev_iload_n dX4_has_0 rfl ?_
  refine ev_if_lt (tgt := 16) dX4_has_1 (by decide) (fun c1 => ?_) (fun c1 => ?_)
  · have h := ev_ifT h c1
    refine ev_iconst (v := (0 : Int32)) dX4_has_16 (by decide) ?_
    cases h
    exact er_i dX4_has_17 rfl rfl
  · have h := ev_ifF h c1
    refine ev_iload_n dX4_has_4 rfl ?_
    refine ev_aload_n dX4_has_5 rfl (fun _ e => by cases e) ?_
    refine ew_get0 dX4_has_6 fX4_18 g0 rfl rfl rfl ?_
    refine ev_icmp_ge (tgt := 16) dX4_has_9 (by decide) (fun c2 => ?_) (fun c2 => ?_)
    · have h := ev_ifT h c2
      refine ev_iconst (v := (0 : Int32)) dX4_has_16 (by decide) ?_
      cases h
      exact er_i dX4_has_17 rfl rfl
    · have h := ev_ifF h c2
      refine ev_iconst (v := (1 : Int32)) dX4_has_12 (by decide) ?_
      refine ev_goto (tgt := 17) dX4_has_13 (by decide) ?_
      cases h
      exact er_i dX4_has_17 rfl rfl
-- ChainVotes$Net at(I)I
def pX4_at (n : Nat) (q0 : Nat) (x1 : Int32) (I : ev_I) : Option (Int32) :=
  ev_ck (ev_in (((I q0 1) + x1) - ((I q0 1) + x1) / (200 : Int32) * (200 : Int32)) 200) <|
  some (I (q0 + 1) (((I q0 1) + x1) - ((I q0 1) + x1) / (200 : Int32) * (200 : Int32)).toNatClampNeg)
set_option maxRecDepth 100000 in
set_option maxHeartbeats 4000000 in
theorem tX4_at {E : ev_N} {σ : ev_H} (n : Nat) (q0 : Nat) (g0 : shp tb4 σ q0) (x1 : Int32) (I : ev_I) (o : Int32) (h : pX4_at n q0 x1 I = some o) : ev_T E mX4_at [.ref q0, .int x1] (h_w σ I) (Option.some (Value.int o), h_w σ I) := by
  unfold pX4_at at h
  refine ev_met rfl rfl (Nat.le_of_ble_eq_true rfl) (ev_L0 (L' := [some (.ref q0), some (.int x1)]) rfl ?_)
  refine ev_aload_n dX4_at_0 rfl (fun _ e => by cases e) ?_
  refine ew_getr0 dX4_at_1 fX4_9 g0 rfl rfl rfl rfl ?_
  refine ev_aload_n dX4_at_4 rfl (fun _ e => by cases e) ?_
  refine ew_get0 dX4_at_5 fX4_22 g0 rfl rfl rfl ?_
  refine ev_iload_n dX4_at_8 rfl ?_
  refine ev_iadd dX4_at_9 ?_
  refine ev_sipush (v := (200 : Int32)) dX4_at_10 (by decide) ?_
  refine ev_irem dX4_at_13 (by decide) ?_
  obtain ⟨c1, h⟩ := ev_ckE h
  refine ew_iald dX4_at_14 (shp_a g0 1 rfl) c1 ?_
  cases h
  exact er_i dX4_at_15 rfl rfl
-- ChainVotes$Net put(II)V
def pX4_put (n : Nat) (q0 : Nat) (x1 : Int32) (x2 : Int32) (I : ev_I) : Option (ev_I) :=
  ev_ck (ev_in (((I q0 1) + x1) - ((I q0 1) + x1) / (200 : Int32) * (200 : Int32)) 200) <|
  ev_lt (ev_u2 I (q0 + 1) (((I q0 1) + x1) - ((I q0 1) + x1) / (200 : Int32) * (200 : Int32)).toNatClampNeg x2) fun I2 =>
  some I2
set_option maxRecDepth 100000 in
set_option maxHeartbeats 4000000 in
theorem tX4_put {E : ev_N} {σ : ev_H} (n : Nat) (q0 : Nat) (g0 : shp tb4 σ q0) (x1 : Int32) (x2 : Int32) (I : ev_I) (o : ev_I) (h : pX4_put n q0 x1 x2 I = some o) : ev_T E mX4_put [.ref q0, .int x1, .int x2] (h_w σ I) (Option.none, h_w σ o) := by
  unfold pX4_put at h
  refine ev_met rfl rfl (Nat.le_of_ble_eq_true rfl) (ev_L0 (L' := [some (.ref q0), some (.int x1), some (.int x2)]) rfl ?_)
  refine ev_aload_n dX4_put_0 rfl (fun _ e => by cases e) ?_
  refine ew_getr0 dX4_put_1 fX4_9 g0 rfl rfl rfl rfl ?_
  refine ev_aload_n dX4_put_4 rfl (fun _ e => by cases e) ?_
  refine ew_get0 dX4_put_5 fX4_22 g0 rfl rfl rfl ?_
  refine ev_iload_n dX4_put_8 rfl ?_
  refine ev_iadd dX4_put_9 ?_
  refine ev_sipush (v := (200 : Int32)) dX4_put_10 (by decide) ?_
  refine ev_irem dX4_put_13 (by decide) ?_
  refine ev_iload_n dX4_put_14 rfl ?_
  obtain ⟨c1, h⟩ := ev_ckE h
  obtain ⟨I2, eI2, h⟩ := ev_ltE h
  refine ew_iast dX4_put_15 (shp_a g0 1 rfl) c1 (ew_nh eI2 ?_)
  cases h
  exact er_v dX4_put_16 rfl
-- ChainVotes$Net isCut(II)Z
def pX4_isCut (n : Nat) (q0 : Nat) (x1 : Int32) (x2 : Int32) (I : ev_I) : Option (Int32) :=
  ev_ck (ev_in x1 7) <|
  if (((I (q0 + 2) x1.toNatClampNeg) >>> (x2 &&& 31)) &&& (1 : Int32)) = (1 : Int32) then
    some (1 : Int32)
  else
    some (0 : Int32)
set_option maxRecDepth 100000 in
set_option maxHeartbeats 4000000 in
theorem tX4_isCut {E : ev_N} {σ : ev_H} (n : Nat) (q0 : Nat) (g0 : shp tb4 σ q0) (x1 : Int32) (x2 : Int32) (I : ev_I) (o : Int32) (h : pX4_isCut n q0 x1 x2 I = some o) : ev_T E mX4_isCut [.ref q0, .int x1, .int x2] (h_w σ I) (Option.some (Value.int o), h_w σ I) := by
  unfold pX4_isCut at h
  refine ev_met rfl rfl (Nat.le_of_ble_eq_true rfl) (ev_L0 (L' := [some (.ref q0), some (.int x1), some (.int x2)]) rfl ?_)
  refine ev_aload_n dX4_isCut_0 rfl (fun _ e => by cases e) ?_
  refine ew_getr0 dX4_isCut_1 fX4_15 g0 rfl rfl rfl rfl ?_
  refine ev_iload_n dX4_isCut_4 rfl ?_
  obtain ⟨c1, h⟩ := ev_ckE h
  refine ew_iald dX4_isCut_5 (shp_a g0 2 rfl) c1 ?_
  refine ev_iload_n dX4_isCut_6 rfl ?_
  refine ev_ishr dX4_isCut_7 ?_
  refine ev_iconst (v := (1 : Int32)) dX4_isCut_8 (by decide) ?_
  refine ev_iand dX4_isCut_9 ?_
  refine ev_iconst (v := (1 : Int32)) dX4_isCut_10 (by decide) ?_
  refine ev_icmp_ne (tgt := 18) dX4_isCut_11 (by decide) (fun c2 => ?_) (fun c2 => ?_)
  · have h := ev_ifF h c2
    refine ev_iconst (v := (0 : Int32)) dX4_isCut_18 (by decide) ?_
    cases h
    exact er_i dX4_isCut_19 rfl rfl
  · have h := ev_ifT h c2
    refine ev_iconst (v := (1 : Int32)) dX4_isCut_14 (by decide) ?_
    refine ev_goto (tgt := 19) dX4_isCut_15 (by decide) ?_
    cases h
    exact er_i dX4_isCut_19 rfl rfl
-- ChainVotes$Net setCut(IIZ)V
def cX4_setCut_69 (q0 : Nat) (n : Nat) (s1 : Int32) (s2 : Int32) (I : ev_I) : Option (ev_I) :=
  ev_ck (ev_in s1 7) <|
  ev_lt (ev_u2 I (q0 + 2) s1.toNatClampNeg s2) fun I2 =>
  some I2
def cX4_setCut_34 (q0 : Nat) (n : Nat) (y1 : Int32) (y2 : Int32) (y3 : Int32) (s1 : Int32) (s2 : Int32) (I : ev_I) : Option (ev_I) :=
  ev_ck (ev_in s1 7) <|
  ev_lt (ev_u2 I (q0 + 2) s1.toNatClampNeg s2) fun I4 =>
  if y3 = 0 then
    ev_ck (ev_in y2 7) <|
    cX4_setCut_69 q0 n y2 ((I4 (q0 + 2) y2.toNatClampNeg) &&& (((1 : Int32) <<< (y1 &&& 31)) ^^^ (-1 : Int32))) I4
  else
    ev_ck (ev_in y2 7) <|
    cX4_setCut_69 q0 n y2 ((I4 (q0 + 2) y2.toNatClampNeg) ||| ((1 : Int32) <<< (y1 &&& 31))) I4
def pX4_setCut (n : Nat) (q0 : Nat) (x1 : Int32) (x2 : Int32) (x3 : Int32) (I : ev_I) : Option (ev_I) :=
  if x3 = 0 then
    ev_ck (ev_in x1 7) <|
    cX4_setCut_34 q0 n x1 x2 x3 x1 ((I (q0 + 2) x1.toNatClampNeg) &&& (((1 : Int32) <<< (x2 &&& 31)) ^^^ (-1 : Int32))) I
  else
    ev_ck (ev_in x1 7) <|
    cX4_setCut_34 q0 n x1 x2 x3 x1 ((I (q0 + 2) x1.toNatClampNeg) ||| ((1 : Int32) <<< (x2 &&& 31))) I
set_option maxRecDepth 100000 in
set_option maxHeartbeats 4000000 in
theorem tX4_setCut_69 {E : ev_N} {σ : ev_H} (q0 : Nat) (g0 : shp tb4 σ q0) (n : Nat) (s1 : Int32) (s2 : Int32) (I : ev_I) (o : ev_I) : cX4_setCut_69 q0 n s1 s2 I = some o → EV E mX4_setCut 69 [none, none, none, none] [(.int s2), (.int s1), (.ref (q0 + 2))] (h_w σ I) (Option.none, h_w σ o) := by
  intro h
  unfold cX4_setCut_69 at h
  obtain ⟨c1, h⟩ := ev_ckE h
  obtain ⟨I2, eI2, h⟩ := ev_ltE h
  refine ew_iast dX4_setCut_69 (shp_a g0 2 rfl) c1 (ew_nh eI2 ?_)
  cases h
  exact er_v dX4_setCut_70 rfl
set_option maxRecDepth 100000 in
set_option maxHeartbeats 4000000 in
theorem tX4_setCut_34 {E : ev_N} {σ : ev_H} (q0 : Nat) (g0 : shp tb4 σ q0) (n : Nat) (y1 : Int32) (y2 : Int32) (y3 : Int32) (s1 : Int32) (s2 : Int32) (I : ev_I) (o : ev_I) : cX4_setCut_34 q0 n y1 y2 y3 s1 s2 I = some o → EV E mX4_setCut 34 [some (.ref q0), some (.int y1), some (.int y2), some (.int y3)] [(.int s2), (.int s1), (.ref (q0 + 2))] (h_w σ I) (Option.none, h_w σ o) := by
  intro h
  unfold cX4_setCut_34 at h
  obtain ⟨c3, h⟩ := ev_ckE h
  obtain ⟨I4, eI4, h⟩ := ev_ltE h
  refine ew_iast dX4_setCut_34 (shp_a g0 2 rfl) c3 (ew_nh eI4 ?_)
  refine ev_aload_n dX4_setCut_35 rfl (fun _ e => by cases e) ?_
  refine ew_getr0 dX4_setCut_36 fX4_15 g0 rfl rfl rfl rfl ?_
  refine ev_iload_n dX4_setCut_39 rfl ?_
  refine ev_iload_n dX4_setCut_40 rfl ?_
  refine ev_if_eq (tgt := 57) dX4_setCut_41 (by decide) (fun c5 => ?_) (fun c5 => ?_)
  · have h := ev_ifT h c5
    refine ev_aload_n dX4_setCut_57 rfl (fun _ e => by cases e) ?_
    refine ew_getr0 dX4_setCut_58 fX4_15 g0 rfl rfl rfl rfl ?_
    refine ev_iload_n dX4_setCut_61 rfl ?_
    obtain ⟨c6, h⟩ := ev_ckE h
    refine ew_iald dX4_setCut_62 (shp_a g0 2 rfl) c6 ?_
    refine ev_iconst (v := (1 : Int32)) dX4_setCut_63 (by decide) ?_
    refine ev_iload_n dX4_setCut_64 rfl ?_
    refine ev_ishl dX4_setCut_65 ?_
    refine ev_iconst (v := (-1 : Int32)) dX4_setCut_66 (by decide) ?_
    refine ev_ixor dX4_setCut_67 ?_
    refine ev_iand dX4_setCut_68 ?_
    exact ev_weak (sb_n (sb_n (sb_n (sb_n sb_0)))) (tX4_setCut_69 q0 g0 n y2 ((I4 (q0 + 2) y2.toNatClampNeg) &&& (((1 : Int32) <<< (y1 &&& 31)) ^^^ (-1 : Int32))) I4 _ h)
  · have h := ev_ifF h c5
    refine ev_aload_n dX4_setCut_44 rfl (fun _ e => by cases e) ?_
    refine ew_getr0 dX4_setCut_45 fX4_15 g0 rfl rfl rfl rfl ?_
    refine ev_iload_n dX4_setCut_48 rfl ?_
    obtain ⟨c7, h⟩ := ev_ckE h
    refine ew_iald dX4_setCut_49 (shp_a g0 2 rfl) c7 ?_
    refine ev_iconst (v := (1 : Int32)) dX4_setCut_50 (by decide) ?_
    refine ev_iload_n dX4_setCut_51 rfl ?_
    refine ev_ishl dX4_setCut_52 ?_
    refine ev_ior dX4_setCut_53 ?_
    refine ev_goto (tgt := 69) dX4_setCut_54 (by decide) ?_
    exact ev_weak (sb_n (sb_n (sb_n (sb_n sb_0)))) (tX4_setCut_69 q0 g0 n y2 ((I4 (q0 + 2) y2.toNatClampNeg) ||| ((1 : Int32) <<< (y1 &&& 31))) I4 _ h)
set_option maxRecDepth 100000 in
set_option maxHeartbeats 4000000 in
theorem tX4_setCut {E : ev_N} {σ : ev_H} (n : Nat) (q0 : Nat) (g0 : shp tb4 σ q0) (x1 : Int32) (x2 : Int32) (x3 : Int32) (I : ev_I) (o : ev_I) (h : pX4_setCut n q0 x1 x2 x3 I = some o) : ev_T E mX4_setCut [.ref q0, .int x1, .int x2, .int x3] (h_w σ I) (Option.none, h_w σ o) := by
  unfold pX4_setCut at h
  refine ev_met rfl rfl (Nat.le_of_ble_eq_true rfl) (ev_L0 (L' := [some (.ref q0), some (.int x1), some (.int x2), some (.int x3)]) rfl ?_)
  refine ev_aload_n dX4_setCut_0 rfl (fun _ e => by cases e) ?_
  refine ew_getr0 dX4_setCut_1 fX4_15 g0 rfl rfl rfl rfl ?_
  refine ev_iload_n dX4_setCut_4 rfl ?_
  refine ev_iload_n dX4_setCut_5 rfl ?_
  refine ev_if_eq (tgt := 22) dX4_setCut_6 (by decide) (fun c8 => ?_) (fun c8 => ?_)
  · have h := ev_ifT h c8
    refine ev_aload_n dX4_setCut_22 rfl (fun _ e => by cases e) ?_
    refine ew_getr0 dX4_setCut_23 fX4_15 g0 rfl rfl rfl rfl ?_
    refine ev_iload_n dX4_setCut_26 rfl ?_
    obtain ⟨c9, h⟩ := ev_ckE h
    refine ew_iald dX4_setCut_27 (shp_a g0 2 rfl) c9 ?_
    refine ev_iconst (v := (1 : Int32)) dX4_setCut_28 (by decide) ?_
    refine ev_iload_n dX4_setCut_29 rfl ?_
    refine ev_ishl dX4_setCut_30 ?_
    refine ev_iconst (v := (-1 : Int32)) dX4_setCut_31 (by decide) ?_
    refine ev_ixor dX4_setCut_32 ?_
    refine ev_iand dX4_setCut_33 ?_
    exact ev_weak (sb_s (sb_s (sb_s (sb_s sb_0)))) (tX4_setCut_34 q0 g0 n x1 x2 x3 x1 ((I (q0 + 2) x1.toNatClampNeg) &&& (((1 : Int32) <<< (x2 &&& 31)) ^^^ (-1 : Int32))) I _ h)
  · have h := ev_ifF h c8
    refine ev_aload_n dX4_setCut_9 rfl (fun _ e => by cases e) ?_
    refine ew_getr0 dX4_setCut_10 fX4_15 g0 rfl rfl rfl rfl ?_
    refine ev_iload_n dX4_setCut_13 rfl ?_
    obtain ⟨c10, h⟩ := ev_ckE h
    refine ew_iald dX4_setCut_14 (shp_a g0 2 rfl) c10 ?_
    refine ev_iconst (v := (1 : Int32)) dX4_setCut_15 (by decide) ?_
    refine ev_iload_n dX4_setCut_16 rfl ?_
    refine ev_ishl dX4_setCut_17 ?_
    refine ev_ior dX4_setCut_18 ?_
    refine ev_goto (tgt := 34) dX4_setCut_19 (by decide) ?_
    exact ev_weak (sb_s (sb_s (sb_s (sb_s sb_0)))) (tX4_setCut_34 q0 g0 n x1 x2 x3 x1 ((I (q0 + 2) x1.toNatClampNeg) ||| ((1 : Int32) <<< (x2 &&& 31))) I _ h)
-- ChainVotes$Net send(IIIII)V
def pX4_send (n : Nat) (q0 : Nat) (x1 : Int32) (x2 : Int32) (x3 : Int32) (x4 : Int32) (x5 : Int32) (I : ev_I) : Option (ev_I) :=
  (pX4_isCut n q0 x1 x2 I).bind fun z1 =>
  if z1 = 0 then
    if (I q0 0) < (200 : Int32) then
      (pX4_put n q0 (I q0 0) (((((x1 <<< ((20 : Int32) &&& 31)) ||| (x2 <<< ((17 : Int32) &&& 31))) ||| (x3 <<< ((15 : Int32) &&& 31))) ||| (x4 <<< ((7 : Int32) &&& 31))) ||| (x5 + (1 : Int32))) I).bind fun z4 =>
      ev_lt (ev_u2 z4 q0 0 ((z4 q0 0) + (1 : Int32))) fun I5 =>
      some I5
    else
      ev_lt (ev_u2 I q0 2 ((I q0 2) + (1 : Int32))) fun I6 =>
      some I6
  else
    ev_lt (ev_u2 I q0 3 ((I q0 3) + (1 : Int32))) fun I7 =>
    some I7
set_option maxRecDepth 100000 in
set_option maxHeartbeats 4000000 in
theorem tX4_send {E : ev_N} {σ : ev_H} (n : Nat) (q0 : Nat) (g0 : shp tb4 σ q0) (x1 : Int32) (x2 : Int32) (x3 : Int32) (x4 : Int32) (x5 : Int32) (I : ev_I) (o : ev_I) (h : pX4_send n q0 x1 x2 x3 x4 x5 I = some o) : ev_T E mX4_send [.ref q0, .int x1, .int x2, .int x3, .int x4, .int x5] (h_w σ I) (Option.none, h_w σ o) := by
  unfold pX4_send at h
  refine ev_met rfl rfl (Nat.le_of_ble_eq_true rfl) (ev_L0 (L' := [some (.ref q0), some (.int x1), some (.int x2), some (.int x3), some (.int x4), some (.int x5)]) rfl ?_)
  refine ev_aload_n dX4_send_0 rfl (fun _ e => by cases e) ?_
  refine ev_iload_n dX4_send_1 rfl ?_
  refine ev_iload_n dX4_send_2 rfl ?_
  obtain ⟨z1, hz1, h⟩ := ev_bnE h
  refine ec_Vi (Y := mX4_isCut) (ci := 4) (As := [.int x1, .int x2]) (rest := []) dX4_send_3 kX4_40 oX4_isCut ⟨Nat.le_of_ble_eq_true rfl, Nat.le_of_ble_eq_true rfl⟩ (by decide) rfl (shp_n g0 0 rfl) (shp_t g0 0 rfl) rfl (Nat.le_of_ble_eq_true rfl) (tX4_isCut n q0 g0 x1 x2 I z1 hz1) rfl ?_
  refine ev_if_eq (tgt := 22) dX4_send_6 (by decide) (fun c2 => ?_) (fun c2 => ?_)
  · have h := ev_ifT h c2
    refine ev_aload_n dX4_send_22 rfl (fun _ e => by cases e) ?_
    refine ew_get0 dX4_send_23 fX4_18 g0 rfl rfl rfl ?_
    refine ev_sipush (v := (200 : Int32)) dX4_send_26 (by decide) ?_
    refine ev_icmp_lt (tgt := 45) dX4_send_29 (by decide) (fun c3 => ?_) (fun c3 => ?_)
    · have h := ev_ifT h c3
      refine ev_aload_n dX4_send_45 rfl (fun _ e => by cases e) ?_
      refine ev_aload_n dX4_send_46 rfl (fun _ e => by cases e) ?_
      refine ew_get0 dX4_send_47 fX4_18 g0 rfl rfl rfl ?_
      refine ev_iload_n dX4_send_50 rfl ?_
      refine ev_bipush (v := (20 : Int32)) dX4_send_51 (by decide) ?_
      refine ev_ishl dX4_send_53 ?_
      refine ev_iload_n dX4_send_54 rfl ?_
      refine ev_bipush (v := (17 : Int32)) dX4_send_55 (by decide) ?_
      refine ev_ishl dX4_send_57 ?_
      refine ev_ior dX4_send_58 ?_
      refine ev_iload_n dX4_send_59 rfl ?_
      refine ev_bipush (v := (15 : Int32)) dX4_send_60 (by decide) ?_
      refine ev_ishl dX4_send_62 ?_
      refine ev_ior dX4_send_63 ?_
      refine ev_iload dX4_send_64 rfl ?_
      refine ev_bipush (v := (7 : Int32)) dX4_send_66 (by decide) ?_
      refine ev_ishl dX4_send_68 ?_
      refine ev_ior dX4_send_69 ?_
      refine ev_iload dX4_send_70 rfl ?_
      refine ev_iconst (v := (1 : Int32)) dX4_send_72 (by decide) ?_
      refine ev_iadd dX4_send_73 ?_
      refine ev_ior dX4_send_74 ?_
      obtain ⟨z4, hz4, h⟩ := ev_bnE h
      refine ec_Vv (Y := mX4_put) (ci := 4) (As := [.int (I q0 0), .int (((((x1 <<< ((20 : Int32) &&& 31)) ||| (x2 <<< ((17 : Int32) &&& 31))) ||| (x3 <<< ((15 : Int32) &&& 31))) ||| (x4 <<< ((7 : Int32) &&& 31))) ||| (x5 + (1 : Int32)))]) (rest := []) dX4_send_75 kX4_44 oX4_put ⟨Nat.le_of_ble_eq_true rfl, Nat.le_of_ble_eq_true rfl⟩ (by decide) rfl (shp_n g0 0 rfl) (shp_t g0 0 rfl) rfl (Nat.le_of_ble_eq_true rfl) (tX4_put n q0 g0 (I q0 0) (((((x1 <<< ((20 : Int32) &&& 31)) ||| (x2 <<< ((17 : Int32) &&& 31))) ||| (x3 <<< ((15 : Int32) &&& 31))) ||| (x4 <<< ((7 : Int32) &&& 31))) ||| (x5 + (1 : Int32))) I z4 hz4) rfl ?_
      refine ev_aload_n dX4_send_78 rfl (fun _ e => by cases e) ?_
      refine ev_dup dX4_send_79 ?_
      refine ew_get0 dX4_send_80 fX4_18 g0 rfl rfl rfl ?_
      refine ev_iconst (v := (1 : Int32)) dX4_send_83 (by decide) ?_
      refine ev_iadd dX4_send_84 ?_
      obtain ⟨I5, eI5, h⟩ := ev_ltE h
      refine ew_put0 dX4_send_85 fX4_18 g0 rfl rfl rfl rfl rfl rfl (ew_nh eI5 ?_)
      cases h
      exact er_v dX4_send_88 rfl
    · have h := ev_ifF h c3
      refine ev_aload_n dX4_send_32 rfl (fun _ e => by cases e) ?_
      refine ev_dup dX4_send_33 ?_
      refine ew_get0 dX4_send_34 fX4_25 g0 rfl rfl rfl ?_
      refine ev_iconst (v := (1 : Int32)) dX4_send_37 (by decide) ?_
      refine ev_iadd dX4_send_38 ?_
      obtain ⟨I6, eI6, h⟩ := ev_ltE h
      refine ew_put0 dX4_send_39 fX4_25 g0 rfl rfl rfl rfl rfl rfl (ew_nh eI6 ?_)
      refine ev_goto (tgt := 88) dX4_send_42 (by decide) ?_
      cases h
      exact er_v dX4_send_88 rfl
  · have h := ev_ifF h c2
    refine ev_aload_n dX4_send_9 rfl (fun _ e => by cases e) ?_
    refine ev_dup dX4_send_10 ?_
    refine ew_get0 dX4_send_11 fX4_28 g0 rfl rfl rfl ?_
    refine ev_iconst (v := (1 : Int32)) dX4_send_14 (by decide) ?_
    refine ev_iadd dX4_send_15 ?_
    obtain ⟨I7, eI7, h⟩ := ev_ltE h
    refine ew_put0 dX4_send_16 fX4_28 g0 rfl rfl rfl rfl rfl rfl (ew_nh eI7 ?_)
    refine ev_goto (tgt := 88) dX4_send_19 (by decide) ?_
    cases h
    exact er_v dX4_send_88 rfl
-- ChainVotes$Net take(I)I
def cX4_take_57 (q0 : Nat) (n : Nat) (y2 : Int32) (I : ev_I) : Option (Int32 × ev_I) :=
  ev_lt (ev_u2 I q0 0 ((I q0 0) - (1 : Int32))) fun I1 =>
  some (y2, I1)
def cX4_take_29 (q0 : Nat) (K29 : Int32 → Int32 → ev_I → Option (Int32 × ev_I)) (n : Nat) (y2 : Int32) (y3 : Int32) (I : ev_I) : Option (Int32 × ev_I) :=
  if ((I q0 0) - (1 : Int32)) ≤ y3 then
    cX4_take_57 q0 n y2 I
  else
    (pX4_at n q0 (y3 + (1 : Int32)) I).bind fun z3 =>
    (pX4_put n q0 y3 z3 I).bind fun z4 =>
    ev_lt (y3 + (1 : Int32)) fun v5 =>
    K29 y2 v5 z4
def lX4_take_29 (q0 : Nat) : Nat → Int32 → Int32 → ev_I → Option (Int32 × ev_I)
  | 0, _, _, _ => none
  | n + 1, y2, y3, I => cX4_take_29 q0 (lX4_take_29 q0 n) n y2 y3 I
def pX4_take (n : Nat) (q0 : Nat) (x1 : Int32) (I : ev_I) : Option (Int32 × ev_I) :=
  (pX4_at n q0 x1 I).bind fun z6 =>
  if x1 = 0 then
    ev_lt (ev_u2 I q0 1 (((I q0 1) + (1 : Int32)) - ((I q0 1) + (1 : Int32)) / (200 : Int32) * (200 : Int32))) fun I8 =>
    cX4_take_57 q0 n z6 I8
  else
    lX4_take_29 q0 n z6 x1 I
set_option maxRecDepth 100000 in
set_option maxHeartbeats 4000000 in
theorem tX4_take_57 {E : ev_N} {σ : ev_H} (q0 : Nat) (g0 : shp tb4 σ q0) (n : Nat) (y2 : Int32) (I : ev_I) (o : Int32 × ev_I) : cX4_take_57 q0 n y2 I = some o → EV E mX4_take 57 [some (.ref q0), none, some (.int y2), none] [] (h_w σ I) (Option.some (Value.int o.1), h_w σ o.2) := by
  intro h
  unfold cX4_take_57 at h
  refine ev_aload_n dX4_take_57 rfl (fun _ e => by cases e) ?_
  refine ev_dup dX4_take_58 ?_
  refine ew_get0 dX4_take_59 fX4_18 g0 rfl rfl rfl ?_
  refine ev_iconst (v := (1 : Int32)) dX4_take_62 (by decide) ?_
  refine ev_isub dX4_take_63 ?_
  obtain ⟨I1, eI1, h⟩ := ev_ltE h
  refine ew_put0 dX4_take_64 fX4_18 g0 rfl rfl rfl rfl rfl rfl (ew_nh eI1 ?_)
  refine ev_iload_n dX4_take_67 rfl ?_
  cases h
  exact er_i dX4_take_68 rfl rfl
set_option maxRecDepth 100000 in
set_option maxHeartbeats 4000000 in
theorem tX4_take_29 {E : ev_N} {σ : ev_H} (q0 : Nat) (g0 : shp tb4 σ q0) (K29 : Int32 → Int32 → ev_I → Option (Int32 × ev_I)) (k29 : ∀ (y2 : Int32) (y3 : Int32) (I : ev_I) (o : Int32 × ev_I), K29 y2 y3 I = some o → EV E mX4_take 29 [some (.ref q0), none, some (.int y2), some (.int y3)] [] (h_w σ I) (Option.some (Value.int o.1), h_w σ o.2)) (n : Nat) (y2 : Int32) (y3 : Int32) (I : ev_I) (o : Int32 × ev_I) : cX4_take_29 q0 K29 n y2 y3 I = some o → EV E mX4_take 29 [some (.ref q0), none, some (.int y2), some (.int y3)] [] (h_w σ I) (Option.some (Value.int o.1), h_w σ o.2) := by
  intro h
  unfold cX4_take_29 at h
  refine ev_iload_n dX4_take_29 rfl ?_
  refine ev_aload_n dX4_take_30 rfl (fun _ e => by cases e) ?_
  refine ew_get0 dX4_take_31 fX4_18 g0 rfl rfl rfl ?_
  refine ev_iconst (v := (1 : Int32)) dX4_take_34 (by decide) ?_
  refine ev_isub dX4_take_35 ?_
  refine ev_icmp_ge (tgt := 57) dX4_take_36 (by decide) (fun c2 => ?_) (fun c2 => ?_)
  · have h := ev_ifT h c2
    exact ev_weak (sb_s (sb_n (sb_s (sb_n sb_0)))) (tX4_take_57 q0 g0 n y2 I _ h)
  · have h := ev_ifF h c2
    refine ev_aload_n dX4_take_39 rfl (fun _ e => by cases e) ?_
    refine ev_iload_n dX4_take_40 rfl ?_
    refine ev_aload_n dX4_take_41 rfl (fun _ e => by cases e) ?_
    refine ev_iload_n dX4_take_42 rfl ?_
    refine ev_iconst (v := (1 : Int32)) dX4_take_43 (by decide) ?_
    refine ev_iadd dX4_take_44 ?_
    obtain ⟨z3, hz3, h⟩ := ev_bnE h
    refine ec_Vi (Y := mX4_at) (ci := 4) (As := [.int (y3 + (1 : Int32))]) (rest := [(.int y3), (.ref q0)]) dX4_take_45 kX4_48 oX4_at ⟨Nat.le_of_ble_eq_true rfl, Nat.le_of_ble_eq_true rfl⟩ (by decide) rfl (shp_n g0 0 rfl) (shp_t g0 0 rfl) rfl (Nat.le_of_ble_eq_true rfl) (tX4_at n q0 g0 (y3 + (1 : Int32)) I z3 hz3) rfl ?_
    obtain ⟨z4, hz4, h⟩ := ev_bnE h
    refine ec_Vv (Y := mX4_put) (ci := 4) (As := [.int y3, .int z3]) (rest := []) dX4_take_48 kX4_44 oX4_put ⟨Nat.le_of_ble_eq_true rfl, Nat.le_of_ble_eq_true rfl⟩ (by decide) rfl (shp_n g0 0 rfl) (shp_t g0 0 rfl) rfl (Nat.le_of_ble_eq_true rfl) (tX4_put n q0 g0 y3 z3 I z4 hz4) rfl ?_
    obtain ⟨v5, ev5, h⟩ := ev_ltE h
    refine ew_iinc (L' := [some (.ref q0), none, some (.int y2), some (.int v5)]) dX4_take_51 (Nat.le_of_ble_eq_true rfl) rfl (by decide) ev5 rfl ?_
    refine ev_goto (tgt := 29) dX4_take_54 (by decide) ?_
    exact ev_weak (sb_s (sb_n (sb_s (sb_s sb_0)))) (k29 y2 v5 z4 _ h)
theorem tlX4_take_29 {E : ev_N} {σ : ev_H} (q0 : Nat) (g0 : shp tb4 σ q0) : ∀ (n : Nat) (y2 : Int32) (y3 : Int32) (I : ev_I) (o : Int32 × ev_I), lX4_take_29 q0 n y2 y3 I = some o → EV E mX4_take 29 [some (.ref q0), none, some (.int y2), some (.int y3)] [] (h_w σ I) (Option.some (Value.int o.1), h_w σ o.2)
  | 0, _, _, _, _, h => by cases h
  | n + 1, y2, y3, I, o, h => tX4_take_29 q0 g0 (lX4_take_29 q0 n) (tlX4_take_29 q0 g0 n) n y2 y3 I o h
set_option maxRecDepth 100000 in
set_option maxHeartbeats 4000000 in
theorem tX4_take {E : ev_N} {σ : ev_H} (n : Nat) (q0 : Nat) (g0 : shp tb4 σ q0) (x1 : Int32) (I : ev_I) (o : Int32 × ev_I) (h : pX4_take n q0 x1 I = some o) : ev_T E mX4_take [.ref q0, .int x1] (h_w σ I) (Option.some (Value.int o.1), h_w σ o.2) := by
  unfold pX4_take at h
  refine ev_met rfl rfl (Nat.le_of_ble_eq_true rfl) (ev_L0 (L' := [some (.ref q0), some (.int x1), none, none]) rfl ?_)
  refine ev_aload_n dX4_take_0 rfl (fun _ e => by cases e) ?_
  refine ev_iload_n dX4_take_1 rfl ?_
  obtain ⟨z6, hz6, h⟩ := ev_bnE h
  refine ec_Vi (Y := mX4_at) (ci := 4) (As := [.int x1]) (rest := []) dX4_take_2 kX4_48 oX4_at ⟨Nat.le_of_ble_eq_true rfl, Nat.le_of_ble_eq_true rfl⟩ (by decide) rfl (shp_n g0 0 rfl) (shp_t g0 0 rfl) rfl (Nat.le_of_ble_eq_true rfl) (tX4_at n q0 g0 x1 I z6 hz6) rfl ?_
  refine ew_istn (L' := [some (.ref q0), some (.int x1), some (.int z6), none]) dX4_take_5 (Nat.le_of_ble_eq_true rfl) rfl ?_
  refine ev_iload_n dX4_take_6 rfl ?_
  refine ev_if_ne (tgt := 27) dX4_take_7 (by decide) (fun c7 => ?_) (fun c7 => ?_)
  · have h := ev_ifF h c7
    refine ev_iload_n dX4_take_27 rfl ?_
    refine ew_istn (L' := [some (.ref q0), some (.int x1), some (.int z6), some (.int x1)]) dX4_take_28 (Nat.le_of_ble_eq_true rfl) rfl ?_
    exact ev_weak (sb_s (sb_n (sb_s (sb_s sb_0)))) (tlX4_take_29 q0 g0 n z6 x1 I _ h)
  · have h := ev_ifT h c7
    refine ev_aload_n dX4_take_10 rfl (fun _ e => by cases e) ?_
    refine ev_aload_n dX4_take_11 rfl (fun _ e => by cases e) ?_
    refine ew_get0 dX4_take_12 fX4_22 g0 rfl rfl rfl ?_
    refine ev_iconst (v := (1 : Int32)) dX4_take_15 (by decide) ?_
    refine ev_iadd dX4_take_16 ?_
    refine ev_sipush (v := (200 : Int32)) dX4_take_17 (by decide) ?_
    refine ev_irem dX4_take_20 (by decide) ?_
    obtain ⟨I8, eI8, h⟩ := ev_ltE h
    refine ew_put0 dX4_take_21 fX4_22 g0 rfl rfl rfl rfl rfl rfl (ew_nh eI8 ?_)
    refine ev_goto (tgt := 57) dX4_take_24 (by decide) ?_
    exact ev_weak (sb_s (sb_n (sb_s (sb_n sb_0)))) (tX4_take_57 q0 g0 n z6 I8 _ h)
-- ChainVotes$Net takeFirst(I)I
def pX4_takeFirst (n : Nat) (q0 : Nat) (x1 : Int32) (I : ev_I) : Option (Int32 × ev_I) :=
  ev_lt (if (I q0 0) < x1 then (I q0 0) else x1) fun v1 =>
  ev_lt (ev_u2 I q0 1 (((I q0 1) + v1) - ((I q0 1) + v1) / (200 : Int32) * (200 : Int32))) fun I2 =>
  ev_lt (ev_u2 I2 q0 0 ((I2 q0 0) - v1)) fun I3 =>
  some (v1, I3)
set_option maxRecDepth 100000 in
set_option maxHeartbeats 4000000 in
theorem tX4_takeFirst {E : ev_N} {σ : ev_H} (n : Nat) (q0 : Nat) (g0 : shp tb4 σ q0) (x1 : Int32) (I : ev_I) (o : Int32 × ev_I) (h : pX4_takeFirst n q0 x1 I = some o) : ev_T E mX4_takeFirst [.ref q0, .int x1] (h_w σ I) (Option.some (Value.int o.1), h_w σ o.2) := by
  unfold pX4_takeFirst at h
  refine ev_met rfl rfl (Nat.le_of_ble_eq_true rfl) (ev_L0 (L' := [some (.ref q0), some (.int x1), none]) rfl ?_)
  refine ev_iload_n dX4_takeFirst_0 rfl ?_
  refine ev_aload_n dX4_takeFirst_1 rfl (fun _ e => by cases e) ?_
  refine ew_get0 dX4_takeFirst_2 fX4_18 g0 rfl rfl rfl ?_
  refine ev_min dX4_takeFirst_5 kX4_52 zM_min.1 zM_min.2.1 zM_min.2.2 (Nat.le_of_ble_eq_true rfl) (Nat.le_of_ble_eq_true rfl) ?_
  obtain ⟨v1, ev1, h⟩ := ev_ltE h
  refine ew_nm ev1 ?_
  refine ew_istn (L' := [some (.ref q0), some (.int x1), some (.int v1)]) dX4_takeFirst_8 (Nat.le_of_ble_eq_true rfl) rfl ?_
  refine ev_aload_n dX4_takeFirst_9 rfl (fun _ e => by cases e) ?_
  refine ev_aload_n dX4_takeFirst_10 rfl (fun _ e => by cases e) ?_
  refine ew_get0 dX4_takeFirst_11 fX4_22 g0 rfl rfl rfl ?_
  refine ev_iload_n dX4_takeFirst_14 rfl ?_
  refine ev_iadd dX4_takeFirst_15 ?_
  refine ev_sipush (v := (200 : Int32)) dX4_takeFirst_16 (by decide) ?_
  refine ev_irem dX4_takeFirst_19 (by decide) ?_
  obtain ⟨I2, eI2, h⟩ := ev_ltE h
  refine ew_put0 dX4_takeFirst_20 fX4_22 g0 rfl rfl rfl rfl rfl rfl (ew_nh eI2 ?_)
  refine ev_aload_n dX4_takeFirst_23 rfl (fun _ e => by cases e) ?_
  refine ev_dup dX4_takeFirst_24 ?_
  refine ew_get0 dX4_takeFirst_25 fX4_18 g0 rfl rfl rfl ?_
  refine ev_iload_n dX4_takeFirst_28 rfl ?_
  refine ev_isub dX4_takeFirst_29 ?_
  obtain ⟨I3, eI3, h⟩ := ev_ltE h
  refine ew_put0 dX4_takeFirst_30 fX4_18 g0 rfl rfl rfl rfl rfl rfl (ew_nh eI3 ?_)
  refine ev_iload_n dX4_takeFirst_33 rfl ?_
  cases h
  exact er_i dX4_takeFirst_34 rfl rfl
-- ChainVotes$Net takeAllTo(I)I
def cX4_takeAllTo_38 (q0 : Nat) (K4 : Int32 → Int32 → Int32 → ev_I → Option (Int32 × ev_I)) (n : Nat) (y1 : Int32) (y2 : Int32) (y3 : Int32) (I : ev_I) : Option (Int32 × ev_I) :=
  ev_lt (y3 + (1 : Int32)) fun v1 =>
  K4 y1 y2 v1 I
def cX4_takeAllTo_4 (q0 : Nat) (K4 : Int32 → Int32 → Int32 → ev_I → Option (Int32 × ev_I)) (n : Nat) (y1 : Int32) (y2 : Int32) (y3 : Int32) (I : ev_I) : Option (Int32 × ev_I) :=
  if (I q0 0) ≤ y3 then
    ev_lt ((I q0 0) - y2) fun v3 =>
    ev_lt (ev_u2 I q0 0 y2) fun I4 =>
    some (v3, I4)
  else
    (pX4_at n q0 y3 I).bind fun z5 =>
    (pX4_targetOf n  z5 I).bind fun z6 =>
    if z6 = y1 then
      cX4_takeAllTo_38 q0 K4 n y1 y2 y3 I
    else
      (pX4_put n q0 y2 z5 I).bind fun z8 =>
      ev_lt (y2 + (1 : Int32)) fun v9 =>
      cX4_takeAllTo_38 q0 K4 n y1 v9 y3 z8
def lX4_takeAllTo_4 (q0 : Nat) : Nat → Int32 → Int32 → Int32 → ev_I → Option (Int32 × ev_I)
  | 0, _, _, _, _ => none
  | n + 1, y1, y2, y3, I => cX4_takeAllTo_4 q0 (lX4_takeAllTo_4 q0 n) n y1 y2 y3 I
def pX4_takeAllTo (n : Nat) (q0 : Nat) (x1 : Int32) (I : ev_I) : Option (Int32 × ev_I) :=
  lX4_takeAllTo_4 q0 n x1 (0 : Int32) (0 : Int32) I
set_option maxRecDepth 100000 in
set_option maxHeartbeats 4000000 in
theorem tX4_takeAllTo_38 {E : ev_N} {σ : ev_H} (q0 : Nat) (g0 : shp tb4 σ q0) (K4 : Int32 → Int32 → Int32 → ev_I → Option (Int32 × ev_I)) (k4 : ∀ (y1 : Int32) (y2 : Int32) (y3 : Int32) (I : ev_I) (o : Int32 × ev_I), K4 y1 y2 y3 I = some o → EV E mX4_takeAllTo 4 [some (.ref q0), some (.int y1), some (.int y2), some (.int y3), none] [] (h_w σ I) (Option.some (Value.int o.1), h_w σ o.2)) (n : Nat) (y1 : Int32) (y2 : Int32) (y3 : Int32) (I : ev_I) (o : Int32 × ev_I) : cX4_takeAllTo_38 q0 K4 n y1 y2 y3 I = some o → EV E mX4_takeAllTo 38 [some (.ref q0), some (.int y1), some (.int y2), some (.int y3), none] [] (h_w σ I) (Option.some (Value.int o.1), h_w σ o.2) := by
  intro h
  unfold cX4_takeAllTo_38 at h
  obtain ⟨v1, ev1, h⟩ := ev_ltE h
  refine ew_iinc (L' := [some (.ref q0), some (.int y1), some (.int y2), some (.int v1), none]) dX4_takeAllTo_38 (Nat.le_of_ble_eq_true rfl) rfl (by decide) ev1 rfl ?_
  refine ev_goto (tgt := 4) dX4_takeAllTo_41 (by decide) ?_
  exact ev_weak (sb_s (sb_s (sb_s (sb_s (sb_n sb_0))))) (k4 y1 y2 v1 I _ h)
set_option maxRecDepth 100000 in
set_option maxHeartbeats 4000000 in
theorem tX4_takeAllTo_4 {E : ev_N} {σ : ev_H} (q0 : Nat) (g0 : shp tb4 σ q0) (K4 : Int32 → Int32 → Int32 → ev_I → Option (Int32 × ev_I)) (k4 : ∀ (y1 : Int32) (y2 : Int32) (y3 : Int32) (I : ev_I) (o : Int32 × ev_I), K4 y1 y2 y3 I = some o → EV E mX4_takeAllTo 4 [some (.ref q0), some (.int y1), some (.int y2), some (.int y3), none] [] (h_w σ I) (Option.some (Value.int o.1), h_w σ o.2)) (n : Nat) (y1 : Int32) (y2 : Int32) (y3 : Int32) (I : ev_I) (o : Int32 × ev_I) : cX4_takeAllTo_4 q0 K4 n y1 y2 y3 I = some o → EV E mX4_takeAllTo 4 [some (.ref q0), some (.int y1), some (.int y2), some (.int y3), none] [] (h_w σ I) (Option.some (Value.int o.1), h_w σ o.2) := by
  intro h
  unfold cX4_takeAllTo_4 at h
  refine ev_iload_n dX4_takeAllTo_4 rfl ?_
  refine ev_aload_n dX4_takeAllTo_5 rfl (fun _ e => by cases e) ?_
  refine ew_get0 dX4_takeAllTo_6 fX4_18 g0 rfl rfl rfl ?_
  refine ev_icmp_ge (tgt := 44) dX4_takeAllTo_9 (by decide) (fun c2 => ?_) (fun c2 => ?_)
  · have h := ev_ifT h c2
    refine ev_aload_n dX4_takeAllTo_44 rfl (fun _ e => by cases e) ?_
    refine ew_get0 dX4_takeAllTo_45 fX4_18 g0 rfl rfl rfl ?_
    refine ev_iload_n dX4_takeAllTo_48 rfl ?_
    refine ev_isub dX4_takeAllTo_49 ?_
    obtain ⟨v3, ev3, h⟩ := ev_ltE h
    refine ew_nm ev3 ?_
    refine ew_istn (L' := [some (.ref q0), some (.int y1), some (.int y2), some (.int v3), none]) dX4_takeAllTo_50 (Nat.le_of_ble_eq_true rfl) rfl ?_
    refine ev_aload_n dX4_takeAllTo_51 rfl (fun _ e => by cases e) ?_
    refine ev_iload_n dX4_takeAllTo_52 rfl ?_
    obtain ⟨I4, eI4, h⟩ := ev_ltE h
    refine ew_put0 dX4_takeAllTo_53 fX4_18 g0 rfl rfl rfl rfl rfl rfl (ew_nh eI4 ?_)
    refine ev_iload_n dX4_takeAllTo_56 rfl ?_
    cases h
    exact er_i dX4_takeAllTo_57 rfl rfl
  · have h := ev_ifF h c2
    refine ev_aload_n dX4_takeAllTo_12 rfl (fun _ e => by cases e) ?_
    refine ev_iload_n dX4_takeAllTo_13 rfl ?_
    obtain ⟨z5, hz5, h⟩ := ev_bnE h
    refine ec_Vi (Y := mX4_at) (ci := 4) (As := [.int y3]) (rest := []) dX4_takeAllTo_14 kX4_48 oX4_at ⟨Nat.le_of_ble_eq_true rfl, Nat.le_of_ble_eq_true rfl⟩ (by decide) rfl (shp_n g0 0 rfl) (shp_t g0 0 rfl) rfl (Nat.le_of_ble_eq_true rfl) (tX4_at n q0 g0 y3 I z5 hz5) rfl ?_
    refine ew_ist (L' := [some (.ref q0), some (.int y1), some (.int y2), some (.int y3), some (.int z5)]) dX4_takeAllTo_17 (Nat.le_of_ble_eq_true rfl) rfl ?_
    refine ev_iload dX4_takeAllTo_19 rfl ?_
    obtain ⟨z6, hz6, h⟩ := ev_bnE h
    refine ec_Si (Y := mX4_targetOf) (As := [.int z5]) (rest := []) dX4_takeAllTo_21 kX4_58 oX4_targetOf ⟨Nat.le_of_ble_eq_true rfl, Nat.le_of_ble_eq_true rfl⟩ rfl (Nat.le_of_ble_eq_true rfl) (tX4_targetOf n   z5 I z6 hz6) rfl ?_
    refine ev_iload_n dX4_takeAllTo_24 rfl ?_
    refine ev_icmp_eq (tgt := 38) dX4_takeAllTo_25 (by decide) (fun c7 => ?_) (fun c7 => ?_)
    · have h := ev_ifT h c7
      exact ev_weak (sb_s (sb_s (sb_s (sb_s (sb_n sb_0))))) (tX4_takeAllTo_38 q0 g0 K4 k4 n y1 y2 y3 I _ h)
    · have h := ev_ifF h c7
      refine ev_aload_n dX4_takeAllTo_28 rfl (fun _ e => by cases e) ?_
      refine ev_iload_n dX4_takeAllTo_29 rfl ?_
      refine ev_iload dX4_takeAllTo_30 rfl ?_
      obtain ⟨z8, hz8, h⟩ := ev_bnE h
      refine ec_Vv (Y := mX4_put) (ci := 4) (As := [.int y2, .int z5]) (rest := []) dX4_takeAllTo_32 kX4_44 oX4_put ⟨Nat.le_of_ble_eq_true rfl, Nat.le_of_ble_eq_true rfl⟩ (by decide) rfl (shp_n g0 0 rfl) (shp_t g0 0 rfl) rfl (Nat.le_of_ble_eq_true rfl) (tX4_put n q0 g0 y2 z5 I z8 hz8) rfl ?_
      obtain ⟨v9, ev9, h⟩ := ev_ltE h
      refine ew_iinc (L' := [some (.ref q0), some (.int y1), some (.int v9), some (.int y3), some (.int z5)]) dX4_takeAllTo_35 (Nat.le_of_ble_eq_true rfl) rfl (by decide) ev9 rfl ?_
      exact ev_weak (sb_s (sb_s (sb_s (sb_s (sb_n sb_0))))) (tX4_takeAllTo_38 q0 g0 K4 k4 n y1 v9 y3 z8 _ h)
theorem tlX4_takeAllTo_4 {E : ev_N} {σ : ev_H} (q0 : Nat) (g0 : shp tb4 σ q0) : ∀ (n : Nat) (y1 : Int32) (y2 : Int32) (y3 : Int32) (I : ev_I) (o : Int32 × ev_I), lX4_takeAllTo_4 q0 n y1 y2 y3 I = some o → EV E mX4_takeAllTo 4 [some (.ref q0), some (.int y1), some (.int y2), some (.int y3), none] [] (h_w σ I) (Option.some (Value.int o.1), h_w σ o.2)
  | 0, _, _, _, _, _, h => by cases h
  | n + 1, y1, y2, y3, I, o, h => tX4_takeAllTo_4 q0 g0 (lX4_takeAllTo_4 q0 n) (tlX4_takeAllTo_4 q0 g0 n) n y1 y2 y3 I o h
set_option maxRecDepth 100000 in
set_option maxHeartbeats 4000000 in
theorem tX4_takeAllTo {E : ev_N} {σ : ev_H} (n : Nat) (q0 : Nat) (g0 : shp tb4 σ q0) (x1 : Int32) (I : ev_I) (o : Int32 × ev_I) (h : pX4_takeAllTo n q0 x1 I = some o) : ev_T E mX4_takeAllTo [.ref q0, .int x1] (h_w σ I) (Option.some (Value.int o.1), h_w σ o.2) := by
  unfold pX4_takeAllTo at h
  refine ev_met rfl rfl (Nat.le_of_ble_eq_true rfl) (ev_L0 (L' := [some (.ref q0), some (.int x1), none, none, none]) rfl ?_)
  refine ev_iconst (v := (0 : Int32)) dX4_takeAllTo_0 (by decide) ?_
  refine ew_istn (L' := [some (.ref q0), some (.int x1), some (.int (0 : Int32)), none, none]) dX4_takeAllTo_1 (Nat.le_of_ble_eq_true rfl) rfl ?_
  refine ev_iconst (v := (0 : Int32)) dX4_takeAllTo_2 (by decide) ?_
  refine ew_istn (L' := [some (.ref q0), some (.int x1), some (.int (0 : Int32)), some (.int (0 : Int32)), none]) dX4_takeAllTo_3 (Nat.le_of_ble_eq_true rfl) rfl ?_
  exact ev_weak (sb_s (sb_s (sb_s (sb_s (sb_n sb_0))))) (tlX4_takeAllTo_4 q0 g0 n x1 (0 : Int32) (0 : Int32) I _ h)
-- ChainVotes$Net reverseFirst(I)V
def cX4_reverseFirst_2 (q0 : Nat) (K2 : Int32 → Int32 → ev_I → Option (ev_I)) (n : Nat) (y1 : Int32) (y2 : Int32) (I : ev_I) : Option (ev_I) :=
  if (y1 / (2 : Int32)) ≤ y2 then
    some I
  else
    (pX4_at n q0 y2 I).bind fun z2 =>
    (pX4_at n q0 ((y1 - (1 : Int32)) - y2) I).bind fun z3 =>
    (pX4_put n q0 y2 z3 I).bind fun z4 =>
    (pX4_put n q0 ((y1 - (1 : Int32)) - y2) z2 z4).bind fun z5 =>
    ev_lt (y2 + (1 : Int32)) fun v6 =>
    K2 y1 v6 z5
def lX4_reverseFirst_2 (q0 : Nat) : Nat → Int32 → Int32 → ev_I → Option (ev_I)
  | 0, _, _, _ => none
  | n + 1, y1, y2, I => cX4_reverseFirst_2 q0 (lX4_reverseFirst_2 q0 n) n y1 y2 I
def pX4_reverseFirst (n : Nat) (q0 : Nat) (x1 : Int32) (I : ev_I) : Option (ev_I) :=
  lX4_reverseFirst_2 q0 n x1 (0 : Int32) I
set_option maxRecDepth 100000 in
set_option maxHeartbeats 4000000 in
theorem tX4_reverseFirst_2 {E : ev_N} {σ : ev_H} (q0 : Nat) (g0 : shp tb4 σ q0) (K2 : Int32 → Int32 → ev_I → Option (ev_I)) (k2 : ∀ (y1 : Int32) (y2 : Int32) (I : ev_I) (o : ev_I), K2 y1 y2 I = some o → EV E mX4_reverseFirst 2 [some (.ref q0), some (.int y1), some (.int y2), none] [] (h_w σ I) (Option.none, h_w σ o)) (n : Nat) (y1 : Int32) (y2 : Int32) (I : ev_I) (o : ev_I) : cX4_reverseFirst_2 q0 K2 n y1 y2 I = some o → EV E mX4_reverseFirst 2 [some (.ref q0), some (.int y1), some (.int y2), none] [] (h_w σ I) (Option.none, h_w σ o) := by
  intro h
  unfold cX4_reverseFirst_2 at h
  refine ev_iload_n dX4_reverseFirst_2 rfl ?_
  refine ev_iload_n dX4_reverseFirst_3 rfl ?_
  refine ev_iconst (v := (2 : Int32)) dX4_reverseFirst_4 (by decide) ?_
  refine ev_idiv dX4_reverseFirst_5 (by decide) ?_
  refine ev_icmp_ge (tgt := 45) dX4_reverseFirst_6 (by decide) (fun c1 => ?_) (fun c1 => ?_)
  · have h := ev_ifT h c1
    cases h
    exact er_v dX4_reverseFirst_45 rfl
  · have h := ev_ifF h c1
    refine ev_aload_n dX4_reverseFirst_9 rfl (fun _ e => by cases e) ?_
    refine ev_iload_n dX4_reverseFirst_10 rfl ?_
    obtain ⟨z2, hz2, h⟩ := ev_bnE h
    refine ec_Vi (Y := mX4_at) (ci := 4) (As := [.int y2]) (rest := []) dX4_reverseFirst_11 kX4_48 oX4_at ⟨Nat.le_of_ble_eq_true rfl, Nat.le_of_ble_eq_true rfl⟩ (by decide) rfl (shp_n g0 0 rfl) (shp_t g0 0 rfl) rfl (Nat.le_of_ble_eq_true rfl) (tX4_at n q0 g0 y2 I z2 hz2) rfl ?_
    refine ew_istn (L' := [some (.ref q0), some (.int y1), some (.int y2), some (.int z2)]) dX4_reverseFirst_14 (Nat.le_of_ble_eq_true rfl) rfl ?_
    refine ev_aload_n dX4_reverseFirst_15 rfl (fun _ e => by cases e) ?_
    refine ev_iload_n dX4_reverseFirst_16 rfl ?_
    refine ev_aload_n dX4_reverseFirst_17 rfl (fun _ e => by cases e) ?_
    refine ev_iload_n dX4_reverseFirst_18 rfl ?_
    refine ev_iconst (v := (1 : Int32)) dX4_reverseFirst_19 (by decide) ?_
    refine ev_isub dX4_reverseFirst_20 ?_
    refine ev_iload_n dX4_reverseFirst_21 rfl ?_
    refine ev_isub dX4_reverseFirst_22 ?_
    obtain ⟨z3, hz3, h⟩ := ev_bnE h
    refine ec_Vi (Y := mX4_at) (ci := 4) (As := [.int ((y1 - (1 : Int32)) - y2)]) (rest := [(.int y2), (.ref q0)]) dX4_reverseFirst_23 kX4_48 oX4_at ⟨Nat.le_of_ble_eq_true rfl, Nat.le_of_ble_eq_true rfl⟩ (by decide) rfl (shp_n g0 0 rfl) (shp_t g0 0 rfl) rfl (Nat.le_of_ble_eq_true rfl) (tX4_at n q0 g0 ((y1 - (1 : Int32)) - y2) I z3 hz3) rfl ?_
    obtain ⟨z4, hz4, h⟩ := ev_bnE h
    refine ec_Vv (Y := mX4_put) (ci := 4) (As := [.int y2, .int z3]) (rest := []) dX4_reverseFirst_26 kX4_44 oX4_put ⟨Nat.le_of_ble_eq_true rfl, Nat.le_of_ble_eq_true rfl⟩ (by decide) rfl (shp_n g0 0 rfl) (shp_t g0 0 rfl) rfl (Nat.le_of_ble_eq_true rfl) (tX4_put n q0 g0 y2 z3 I z4 hz4) rfl ?_
    refine ev_aload_n dX4_reverseFirst_29 rfl (fun _ e => by cases e) ?_
    refine ev_iload_n dX4_reverseFirst_30 rfl ?_
    refine ev_iconst (v := (1 : Int32)) dX4_reverseFirst_31 (by decide) ?_
    refine ev_isub dX4_reverseFirst_32 ?_
    refine ev_iload_n dX4_reverseFirst_33 rfl ?_
    refine ev_isub dX4_reverseFirst_34 ?_
    refine ev_iload_n dX4_reverseFirst_35 rfl ?_
    obtain ⟨z5, hz5, h⟩ := ev_bnE h
    refine ec_Vv (Y := mX4_put) (ci := 4) (As := [.int ((y1 - (1 : Int32)) - y2), .int z2]) (rest := []) dX4_reverseFirst_36 kX4_44 oX4_put ⟨Nat.le_of_ble_eq_true rfl, Nat.le_of_ble_eq_true rfl⟩ (by decide) rfl (shp_n g0 0 rfl) (shp_t g0 0 rfl) rfl (Nat.le_of_ble_eq_true rfl) (tX4_put n q0 g0 ((y1 - (1 : Int32)) - y2) z2 z4 z5 hz5) rfl ?_
    obtain ⟨v6, ev6, h⟩ := ev_ltE h
    refine ew_iinc (L' := [some (.ref q0), some (.int y1), some (.int v6), some (.int z2)]) dX4_reverseFirst_39 (Nat.le_of_ble_eq_true rfl) rfl (by decide) ev6 rfl ?_
    refine ev_goto (tgt := 2) dX4_reverseFirst_42 (by decide) ?_
    exact ev_weak (sb_s (sb_s (sb_s (sb_n sb_0)))) (k2 y1 v6 z5 _ h)
theorem tlX4_reverseFirst_2 {E : ev_N} {σ : ev_H} (q0 : Nat) (g0 : shp tb4 σ q0) : ∀ (n : Nat) (y1 : Int32) (y2 : Int32) (I : ev_I) (o : ev_I), lX4_reverseFirst_2 q0 n y1 y2 I = some o → EV E mX4_reverseFirst 2 [some (.ref q0), some (.int y1), some (.int y2), none] [] (h_w σ I) (Option.none, h_w σ o)
  | 0, _, _, _, _, h => by cases h
  | n + 1, y1, y2, I, o, h => tX4_reverseFirst_2 q0 g0 (lX4_reverseFirst_2 q0 n) (tlX4_reverseFirst_2 q0 g0 n) n y1 y2 I o h
set_option maxRecDepth 100000 in
set_option maxHeartbeats 4000000 in
theorem tX4_reverseFirst {E : ev_N} {σ : ev_H} (n : Nat) (q0 : Nat) (g0 : shp tb4 σ q0) (x1 : Int32) (I : ev_I) (o : ev_I) (h : pX4_reverseFirst n q0 x1 I = some o) : ev_T E mX4_reverseFirst [.ref q0, .int x1] (h_w σ I) (Option.none, h_w σ o) := by
  unfold pX4_reverseFirst at h
  refine ev_met rfl rfl (Nat.le_of_ble_eq_true rfl) (ev_L0 (L' := [some (.ref q0), some (.int x1), none, none]) rfl ?_)
  refine ev_iconst (v := (0 : Int32)) dX4_reverseFirst_0 (by decide) ?_
  refine ew_istn (L' := [some (.ref q0), some (.int x1), some (.int (0 : Int32)), none]) dX4_reverseFirst_1 (Nat.le_of_ble_eq_true rfl) rfl ?_
  exact ev_weak (sb_s (sb_s (sb_s (sb_n sb_0)))) (tlX4_reverseFirst_2 q0 g0 n x1 (0 : Int32) I _ h)
-- ChainVotes$Net countTo(II)I
def cX4_countTo_47 (q0 : Nat) (K5 : Int32 → Int32 → Int32 → Int32 → ev_I → Option (Int32)) (n : Nat) (y1 : Int32) (y2 : Int32) (y3 : Int32) (y4 : Int32) (I : ev_I) : Option (Int32) :=
  ev_lt (y4 + (1 : Int32)) fun v1 =>
  K5 y1 y2 y3 v1 I
def cX4_countTo_44 (q0 : Nat) (K5 : Int32 → Int32 → Int32 → Int32 → ev_I → Option (Int32)) (n : Nat) (y1 : Int32) (y2 : Int32) (y3 : Int32) (y4 : Int32) (I : ev_I) : Option (Int32) :=
  ev_lt (y3 + (1 : Int32)) fun v2 =>
  cX4_countTo_47 q0 K5 n y1 y2 v2 y4 I
def cX4_countTo_5 (q0 : Nat) (K5 : Int32 → Int32 → Int32 → Int32 → ev_I → Option (Int32)) (n : Nat) (y1 : Int32) (y2 : Int32) (y3 : Int32) (y4 : Int32) (I : ev_I) : Option (Int32) :=
  if (I q0 0) ≤ y4 then
    some y3
  else
    (pX4_at n q0 y4 I).bind fun z4 =>
    (pX4_targetOf n  z4 I).bind fun z5 =>
    if z5 = y1 then
      if y2 = 0 then
        cX4_countTo_44 q0 K5 n y1 y2 y3 y4 I
      else
        (pX4_kindOf n  z4 I).bind fun z8 =>
        if z8 = y2 then
          cX4_countTo_44 q0 K5 n y1 y2 y3 y4 I
        else
          cX4_countTo_47 q0 K5 n y1 y2 y3 y4 I
    else
      cX4_countTo_47 q0 K5 n y1 y2 y3 y4 I
def lX4_countTo_5 (q0 : Nat) : Nat → Int32 → Int32 → Int32 → Int32 → ev_I → Option (Int32)
  | 0, _, _, _, _, _ => none
  | n + 1, y1, y2, y3, y4, I => cX4_countTo_5 q0 (lX4_countTo_5 q0 n) n y1 y2 y3 y4 I
def pX4_countTo (n : Nat) (q0 : Nat) (x1 : Int32) (x2 : Int32) (I : ev_I) : Option (Int32) :=
  lX4_countTo_5 q0 n x1 x2 (0 : Int32) (0 : Int32) I
set_option maxRecDepth 100000 in
set_option maxHeartbeats 4000000 in
theorem tX4_countTo_47 {E : ev_N} {σ : ev_H} (q0 : Nat) (g0 : shp tb4 σ q0) (K5 : Int32 → Int32 → Int32 → Int32 → ev_I → Option (Int32)) (k5 : ∀ (y1 : Int32) (y2 : Int32) (y3 : Int32) (y4 : Int32) (I : ev_I) (o : Int32), K5 y1 y2 y3 y4 I = some o → EV E mX4_countTo 5 [some (.ref q0), some (.int y1), some (.int y2), some (.int y3), some (.int y4), none] [] (h_w σ I) (Option.some (Value.int o), h_w σ I)) (n : Nat) (y1 : Int32) (y2 : Int32) (y3 : Int32) (y4 : Int32) (I : ev_I) (o : Int32) : cX4_countTo_47 q0 K5 n y1 y2 y3 y4 I = some o → EV E mX4_countTo 47 [some (.ref q0), some (.int y1), some (.int y2), some (.int y3), some (.int y4), none] [] (h_w σ I) (Option.some (Value.int o), h_w σ I) := by
  intro h
  unfold cX4_countTo_47 at h
  obtain ⟨v1, ev1, h⟩ := ev_ltE h
  refine ew_iinc (L' := [some (.ref q0), some (.int y1), some (.int y2), some (.int y3), some (.int v1), none]) dX4_countTo_47 (Nat.le_of_ble_eq_true rfl) rfl (by decide) ev1 rfl ?_
  refine ev_goto (tgt := 5) dX4_countTo_50 (by decide) ?_
  exact ev_weak (sb_s (sb_s (sb_s (sb_s (sb_s (sb_n sb_0)))))) (k5 y1 y2 y3 v1 I _ h)
set_option maxRecDepth 100000 in
set_option maxHeartbeats 4000000 in
theorem tX4_countTo_44 {E : ev_N} {σ : ev_H} (q0 : Nat) (g0 : shp tb4 σ q0) (K5 : Int32 → Int32 → Int32 → Int32 → ev_I → Option (Int32)) (k5 : ∀ (y1 : Int32) (y2 : Int32) (y3 : Int32) (y4 : Int32) (I : ev_I) (o : Int32), K5 y1 y2 y3 y4 I = some o → EV E mX4_countTo 5 [some (.ref q0), some (.int y1), some (.int y2), some (.int y3), some (.int y4), none] [] (h_w σ I) (Option.some (Value.int o), h_w σ I)) (n : Nat) (y1 : Int32) (y2 : Int32) (y3 : Int32) (y4 : Int32) (I : ev_I) (o : Int32) : cX4_countTo_44 q0 K5 n y1 y2 y3 y4 I = some o → EV E mX4_countTo 44 [some (.ref q0), some (.int y1), some (.int y2), some (.int y3), some (.int y4), none] [] (h_w σ I) (Option.some (Value.int o), h_w σ I) := by
  intro h
  unfold cX4_countTo_44 at h
  obtain ⟨v2, ev2, h⟩ := ev_ltE h
  refine ew_iinc (L' := [some (.ref q0), some (.int y1), some (.int y2), some (.int v2), some (.int y4), none]) dX4_countTo_44 (Nat.le_of_ble_eq_true rfl) rfl (by decide) ev2 rfl ?_
  exact ev_weak (sb_s (sb_s (sb_s (sb_s (sb_s (sb_n sb_0)))))) (tX4_countTo_47 q0 g0 K5 k5 n y1 y2 v2 y4 I _ h)
set_option maxRecDepth 100000 in
set_option maxHeartbeats 4000000 in
theorem tX4_countTo_5 {E : ev_N} {σ : ev_H} (q0 : Nat) (g0 : shp tb4 σ q0) (K5 : Int32 → Int32 → Int32 → Int32 → ev_I → Option (Int32)) (k5 : ∀ (y1 : Int32) (y2 : Int32) (y3 : Int32) (y4 : Int32) (I : ev_I) (o : Int32), K5 y1 y2 y3 y4 I = some o → EV E mX4_countTo 5 [some (.ref q0), some (.int y1), some (.int y2), some (.int y3), some (.int y4), none] [] (h_w σ I) (Option.some (Value.int o), h_w σ I)) (n : Nat) (y1 : Int32) (y2 : Int32) (y3 : Int32) (y4 : Int32) (I : ev_I) (o : Int32) : cX4_countTo_5 q0 K5 n y1 y2 y3 y4 I = some o → EV E mX4_countTo 5 [some (.ref q0), some (.int y1), some (.int y2), some (.int y3), some (.int y4), none] [] (h_w σ I) (Option.some (Value.int o), h_w σ I) := by
  intro h
  unfold cX4_countTo_5 at h
  refine ev_iload dX4_countTo_5 rfl ?_
  refine ev_aload_n dX4_countTo_7 rfl (fun _ e => by cases e) ?_
  refine ew_get0 dX4_countTo_8 fX4_18 g0 rfl rfl rfl ?_
  refine ev_icmp_ge (tgt := 53) dX4_countTo_11 (by decide) (fun c3 => ?_) (fun c3 => ?_)
  · have h := ev_ifT h c3
    refine ev_iload_n dX4_countTo_53 rfl ?_
    cases h
    exact er_i dX4_countTo_54 rfl rfl
  · have h := ev_ifF h c3
    refine ev_aload_n dX4_countTo_14 rfl (fun _ e => by cases e) ?_
    refine ev_iload dX4_countTo_15 rfl ?_
    obtain ⟨z4, hz4, h⟩ := ev_bnE h
    refine ec_Vi (Y := mX4_at) (ci := 4) (As := [.int y4]) (rest := []) dX4_countTo_17 kX4_48 oX4_at ⟨Nat.le_of_ble_eq_true rfl, Nat.le_of_ble_eq_true rfl⟩ (by decide) rfl (shp_n g0 0 rfl) (shp_t g0 0 rfl) rfl (Nat.le_of_ble_eq_true rfl) (tX4_at n q0 g0 y4 I z4 hz4) rfl ?_
    refine ew_ist (L' := [some (.ref q0), some (.int y1), some (.int y2), some (.int y3), some (.int y4), some (.int z4)]) dX4_countTo_20 (Nat.le_of_ble_eq_true rfl) rfl ?_
    refine ev_iload dX4_countTo_22 rfl ?_
    obtain ⟨z5, hz5, h⟩ := ev_bnE h
    refine ec_Si (Y := mX4_targetOf) (As := [.int z4]) (rest := []) dX4_countTo_24 kX4_58 oX4_targetOf ⟨Nat.le_of_ble_eq_true rfl, Nat.le_of_ble_eq_true rfl⟩ rfl (Nat.le_of_ble_eq_true rfl) (tX4_targetOf n   z4 I z5 hz5) rfl ?_
    refine ev_iload_n dX4_countTo_27 rfl ?_
    refine ev_icmp_ne (tgt := 47) dX4_countTo_28 (by decide) (fun c6 => ?_) (fun c6 => ?_)
    · have h := ev_ifF h c6
      exact ev_weak (sb_s (sb_s (sb_s (sb_s (sb_s (sb_n sb_0)))))) (tX4_countTo_47 q0 g0 K5 k5 n y1 y2 y3 y4 I _ h)
    · have h := ev_ifT h c6
      refine ev_iload_n dX4_countTo_31 rfl ?_
      refine ev_if_eq (tgt := 44) dX4_countTo_32 (by decide) (fun c7 => ?_) (fun c7 => ?_)
      · have h := ev_ifT h c7
        exact ev_weak (sb_s (sb_s (sb_s (sb_s (sb_s (sb_n sb_0)))))) (tX4_countTo_44 q0 g0 K5 k5 n y1 y2 y3 y4 I _ h)
      · have h := ev_ifF h c7
        refine ev_iload dX4_countTo_35 rfl ?_
        obtain ⟨z8, hz8, h⟩ := ev_bnE h
        refine ec_Si (Y := mX4_kindOf) (As := [.int z4]) (rest := []) dX4_countTo_37 kX4_65 oX4_kindOf ⟨Nat.le_of_ble_eq_true rfl, Nat.le_of_ble_eq_true rfl⟩ rfl (Nat.le_of_ble_eq_true rfl) (tX4_kindOf n   z4 I z8 hz8) rfl ?_
        refine ev_iload_n dX4_countTo_40 rfl ?_
        refine ev_icmp_ne (tgt := 47) dX4_countTo_41 (by decide) (fun c9 => ?_) (fun c9 => ?_)
        · have h := ev_ifF h c9
          exact ev_weak (sb_s (sb_s (sb_s (sb_s (sb_s (sb_n sb_0)))))) (tX4_countTo_47 q0 g0 K5 k5 n y1 y2 y3 y4 I _ h)
        · have h := ev_ifT h c9
          exact ev_weak (sb_s (sb_s (sb_s (sb_s (sb_s (sb_n sb_0)))))) (tX4_countTo_44 q0 g0 K5 k5 n y1 y2 y3 y4 I _ h)
theorem tlX4_countTo_5 {E : ev_N} {σ : ev_H} (q0 : Nat) (g0 : shp tb4 σ q0) : ∀ (n : Nat) (y1 : Int32) (y2 : Int32) (y3 : Int32) (y4 : Int32) (I : ev_I) (o : Int32), lX4_countTo_5 q0 n y1 y2 y3 y4 I = some o → EV E mX4_countTo 5 [some (.ref q0), some (.int y1), some (.int y2), some (.int y3), some (.int y4), none] [] (h_w σ I) (Option.some (Value.int o), h_w σ I)
  | 0, _, _, _, _, _, _, h => by cases h
  | n + 1, y1, y2, y3, y4, I, o, h => tX4_countTo_5 q0 g0 (lX4_countTo_5 q0 n) (tlX4_countTo_5 q0 g0 n) n y1 y2 y3 y4 I o h
set_option maxRecDepth 100000 in
set_option maxHeartbeats 4000000 in
theorem tX4_countTo {E : ev_N} {σ : ev_H} (n : Nat) (q0 : Nat) (g0 : shp tb4 σ q0) (x1 : Int32) (x2 : Int32) (I : ev_I) (o : Int32) (h : pX4_countTo n q0 x1 x2 I = some o) : ev_T E mX4_countTo [.ref q0, .int x1, .int x2] (h_w σ I) (Option.some (Value.int o), h_w σ I) := by
  unfold pX4_countTo at h
  refine ev_met rfl rfl (Nat.le_of_ble_eq_true rfl) (ev_L0 (L' := [some (.ref q0), some (.int x1), some (.int x2), none, none, none]) rfl ?_)
  refine ev_iconst (v := (0 : Int32)) dX4_countTo_0 (by decide) ?_
  refine ew_istn (L' := [some (.ref q0), some (.int x1), some (.int x2), some (.int (0 : Int32)), none, none]) dX4_countTo_1 (Nat.le_of_ble_eq_true rfl) rfl ?_
  refine ev_iconst (v := (0 : Int32)) dX4_countTo_2 (by decide) ?_
  refine ew_ist (L' := [some (.ref q0), some (.int x1), some (.int x2), some (.int (0 : Int32)), some (.int (0 : Int32)), none]) dX4_countTo_3 (Nat.le_of_ble_eq_true rfl) rfl ?_
  exact ev_weak (sb_s (sb_s (sb_s (sb_s (sb_s (sb_n sb_0)))))) (tlX4_countTo_5 q0 g0 n x1 x2 (0 : Int32) (0 : Int32) I _ h)
-- ChainVotes$Script copyFrom(LChainVotes$Script;)V
def pX5_copyFrom (n : Nat) (q0 : Nat) (q1 : Nat) (I : ev_I) : Option (ev_I) :=
  ev_lt (ev_u2 I q0 0 (I q1 0)) fun I1 =>
  ev_lt (ev_u2 I1 q0 1 (I1 q1 1)) fun I2 =>
  ev_lt (ev_u1 I2 (q0 + 1) (va_cpy (I2 (q1 + 1)) (I2 (q0 + 1)) (0 : Int32).toNatClampNeg (0 : Int32).toNatClampNeg (24 : Int32).toNatClampNeg)) fun I3 =>
  ev_lt (ev_u1 I3 (q0 + 2) (va_cpy (I3 (q1 + 2)) (I3 (q0 + 2)) (0 : Int32).toNatClampNeg (0 : Int32).toNatClampNeg (24 : Int32).toNatClampNeg)) fun I4 =>
  ev_lt (ev_u1 I4 (q0 + 3) (va_cpy (I4 (q1 + 3)) (I4 (q0 + 3)) (0 : Int32).toNatClampNeg (0 : Int32).toNatClampNeg (24 : Int32).toNatClampNeg)) fun I5 =>
  ev_lt (ev_u1 I5 (q0 + 4) (va_cpy (I5 (q1 + 4)) (I5 (q0 + 4)) (0 : Int32).toNatClampNeg (0 : Int32).toNatClampNeg (24 : Int32).toNatClampNeg)) fun I6 =>
  some I6
set_option maxRecDepth 100000 in
set_option maxHeartbeats 4000000 in
theorem tX5_copyFrom {E : ev_N} {σ : ev_H} (n : Nat) (q0 : Nat) (q1 : Nat) (g0 : shp tb5 σ q0) (g1 : shp tb5 σ q1) (I : ev_I) (o : ev_I) (h : pX5_copyFrom n q0 q1  I = some o) : ev_T E mX5_copyFrom [.ref q0, .ref q1] (h_w σ I) (Option.none, h_w σ o) := by
  unfold pX5_copyFrom at h
  refine ev_met rfl rfl (Nat.le_of_ble_eq_true rfl) (ev_L0 (L' := [some (.ref q0), some (.ref q1)]) rfl ?_)
  refine ev_aload_n dX5_copyFrom_0 rfl (fun _ e => by cases e) ?_
  refine ev_aload_n dX5_copyFrom_1 rfl (fun _ e => by cases e) ?_
  refine ew_get0 dX5_copyFrom_2 fX5_24 g1 rfl rfl rfl ?_
  obtain ⟨I1, eI1, h⟩ := ev_ltE h
  refine ew_put0 dX5_copyFrom_5 fX5_24 g0 rfl rfl rfl rfl rfl rfl (ew_nh eI1 ?_)
  refine ev_aload_n dX5_copyFrom_8 rfl (fun _ e => by cases e) ?_
  refine ev_aload_n dX5_copyFrom_9 rfl (fun _ e => by cases e) ?_
  refine ew_get0 dX5_copyFrom_10 fX5_28 g1 rfl rfl rfl ?_
  obtain ⟨I2, eI2, h⟩ := ev_ltE h
  refine ew_put0 dX5_copyFrom_13 fX5_28 g0 rfl rfl rfl rfl rfl rfl (ew_nh eI2 ?_)
  refine ev_aload_n dX5_copyFrom_16 rfl (fun _ e => by cases e) ?_
  refine ew_getr0 dX5_copyFrom_17 fX5_9 g1 rfl rfl rfl rfl ?_
  refine ev_iconst (v := (0 : Int32)) dX5_copyFrom_20 (by decide) ?_
  refine ev_aload_n dX5_copyFrom_21 rfl (fun _ e => by cases e) ?_
  refine ew_getr0 dX5_copyFrom_22 fX5_9 g0 rfl rfl rfl rfl ?_
  refine ev_iconst (v := (0 : Int32)) dX5_copyFrom_25 (by decide) ?_
  refine ev_bipush (v := (24 : Int32)) dX5_copyFrom_26 (by decide) ?_
  obtain ⟨I3, eI3, h⟩ := ev_ltE h
  refine ew_copy dX5_copyFrom_28 kX5_31 zA.1 zA.2.1 zA.2.2 (shp_a g1 1 rfl) (shp_a g0 1 rfl) (by decide) (by decide) (by decide) (by decide) (by decide) (Nat.le_of_ble_eq_true rfl) (Nat.le_of_ble_eq_true rfl) (ew_nh eI3 ?_)
  refine ev_aload_n dX5_copyFrom_31 rfl (fun _ e => by cases e) ?_
  refine ew_getr0 dX5_copyFrom_32 fX5_15 g1 rfl rfl rfl rfl ?_
  refine ev_iconst (v := (0 : Int32)) dX5_copyFrom_35 (by decide) ?_
  refine ev_aload_n dX5_copyFrom_36 rfl (fun _ e => by cases e) ?_
  refine ew_getr0 dX5_copyFrom_37 fX5_15 g0 rfl rfl rfl rfl ?_
  refine ev_iconst (v := (0 : Int32)) dX5_copyFrom_40 (by decide) ?_
  refine ev_bipush (v := (24 : Int32)) dX5_copyFrom_41 (by decide) ?_
  obtain ⟨I4, eI4, h⟩ := ev_ltE h
  refine ew_copy dX5_copyFrom_43 kX5_31 zA.1 zA.2.1 zA.2.2 (shp_a g1 2 rfl) (shp_a g0 2 rfl) (by decide) (by decide) (by decide) (by decide) (by decide) (Nat.le_of_ble_eq_true rfl) (Nat.le_of_ble_eq_true rfl) (ew_nh eI4 ?_)
  refine ev_aload_n dX5_copyFrom_46 rfl (fun _ e => by cases e) ?_
  refine ew_getr0 dX5_copyFrom_47 fX5_18 g1 rfl rfl rfl rfl ?_
  refine ev_iconst (v := (0 : Int32)) dX5_copyFrom_50 (by decide) ?_
  refine ev_aload_n dX5_copyFrom_51 rfl (fun _ e => by cases e) ?_
  refine ew_getr0 dX5_copyFrom_52 fX5_18 g0 rfl rfl rfl rfl ?_
  refine ev_iconst (v := (0 : Int32)) dX5_copyFrom_55 (by decide) ?_
  refine ev_bipush (v := (24 : Int32)) dX5_copyFrom_56 (by decide) ?_
  obtain ⟨I5, eI5, h⟩ := ev_ltE h
  refine ew_copy dX5_copyFrom_58 kX5_31 zA.1 zA.2.1 zA.2.2 (shp_a g1 3 rfl) (shp_a g0 3 rfl) (by decide) (by decide) (by decide) (by decide) (by decide) (Nat.le_of_ble_eq_true rfl) (Nat.le_of_ble_eq_true rfl) (ew_nh eI5 ?_)
  refine ev_aload_n dX5_copyFrom_61 rfl (fun _ e => by cases e) ?_
  refine ew_getr0 dX5_copyFrom_62 fX5_21 g1 rfl rfl rfl rfl ?_
  refine ev_iconst (v := (0 : Int32)) dX5_copyFrom_65 (by decide) ?_
  refine ev_aload_n dX5_copyFrom_66 rfl (fun _ e => by cases e) ?_
  refine ew_getr0 dX5_copyFrom_67 fX5_21 g0 rfl rfl rfl rfl ?_
  refine ev_iconst (v := (0 : Int32)) dX5_copyFrom_70 (by decide) ?_
  refine ev_bipush (v := (24 : Int32)) dX5_copyFrom_71 (by decide) ?_
  obtain ⟨I6, eI6, h⟩ := ev_ltE h
  refine ew_copy dX5_copyFrom_73 kX5_31 zA.1 zA.2.1 zA.2.2 (shp_a g1 4 rfl) (shp_a g0 4 rfl) (by decide) (by decide) (by decide) (by decide) (by decide) (Nat.le_of_ble_eq_true rfl) (Nat.le_of_ble_eq_true rfl) (ew_nh eI6 ?_)
  cases h
  exact er_v dX5_copyFrom_76 rfl
-- ChainVotes$Script clear()V
def pX5_clear (n : Nat) (q0 : Nat) (I : ev_I) : Option (ev_I) :=
  ev_lt (ev_u2 I q0 0 (0 : Int32)) fun I1 =>
  ev_lt (ev_u2 I1 q0 1 (0 : Int32)) fun I2 =>
  some I2
set_option maxRecDepth 100000 in
set_option maxHeartbeats 4000000 in
theorem tX5_clear {E : ev_N} {σ : ev_H} (n : Nat) (q0 : Nat) (g0 : shp tb5 σ q0) (I : ev_I) (o : ev_I) (h : pX5_clear n q0  I = some o) : ev_T E mX5_clear [.ref q0] (h_w σ I) (Option.none, h_w σ o) := by
  unfold pX5_clear at h
  refine ev_met rfl rfl (Nat.le_of_ble_eq_true rfl) (ev_L0 (L' := [some (.ref q0)]) rfl ?_)
  refine ev_aload_n dX5_clear_0 rfl (fun _ e => by cases e) ?_
  refine ev_iconst (v := (0 : Int32)) dX5_clear_1 (by decide) ?_
  obtain ⟨I1, eI1, h⟩ := ev_ltE h
  refine ew_put0 dX5_clear_2 fX5_24 g0 rfl rfl rfl rfl rfl rfl (ew_nh eI1 ?_)
  refine ev_aload_n dX5_clear_5 rfl (fun _ e => by cases e) ?_
  refine ev_iconst (v := (0 : Int32)) dX5_clear_6 (by decide) ?_
  obtain ⟨I2, eI2, h⟩ := ev_ltE h
  refine ew_put0 dX5_clear_7 fX5_28 g0 rfl rfl rfl rfl rfl rfl (ew_nh eI2 ?_)
  cases h
  exact er_v dX5_clear_10 rfl
-- ChainVotes$Script isFull()Z
def pX5_isFull (n : Nat) (q0 : Nat) (I : ev_I) : Option (Int32) :=
  if (I q0 0) < (24 : Int32) then
    some (0 : Int32)
  else
    some (1 : Int32)
set_option maxRecDepth 100000 in
set_option maxHeartbeats 4000000 in
theorem tX5_isFull {E : ev_N} {σ : ev_H} (n : Nat) (q0 : Nat) (g0 : shp tb5 σ q0) (I : ev_I) (o : Int32) (h : pX5_isFull n q0  I = some o) : ev_T E mX5_isFull [.ref q0] (h_w σ I) (Option.some (Value.int o), h_w σ I) := by
  unfold pX5_isFull at h
  refine ev_met rfl rfl (Nat.le_of_ble_eq_true rfl) (ev_L0 (L' := [some (.ref q0)]) rfl ?_)
  refine ev_aload_n dX5_isFull_0 rfl (fun _ e => by cases e) ?_
  refine ew_get0 dX5_isFull_1 fX5_24 g0 rfl rfl rfl ?_
  refine ev_bipush (v := (24 : Int32)) dX5_isFull_4 (by decide) ?_
  refine ev_icmp_lt (tgt := 13) dX5_isFull_6 (by decide) (fun c1 => ?_) (fun c1 => ?_)
  · have h := ev_ifT h c1
    refine ev_iconst (v := (0 : Int32)) dX5_isFull_13 (by decide) ?_
    cases h
    exact er_i dX5_isFull_14 rfl rfl
  · have h := ev_ifF h c1
    refine ev_iconst (v := (1 : Int32)) dX5_isFull_9 (by decide) ?_
    refine ev_goto (tgt := 14) dX5_isFull_10 (by decide) ?_
    cases h
    exact er_i dX5_isFull_14 rfl rfl
-- ChainVotes$Script add(IIII)V
def pX5_add (n : Nat) (q0 : Nat) (x1 : Int32) (x2 : Int32) (x3 : Int32) (x4 : Int32) (I : ev_I) : Option (ev_I) :=
  (pX5_isFull n q0  I).bind fun z1 =>
  if z1 = 0 then
    ev_ck (ev_in (I q0 0) 24) <|
    ev_lt (ev_u2 I (q0 + 1) (I q0 0).toNatClampNeg x1) fun I4 =>
    ev_ck (ev_in (I4 q0 0) 24) <|
    ev_lt (ev_u2 I4 (q0 + 2) (I4 q0 0).toNatClampNeg x2) fun I6 =>
    ev_ck (ev_in (I6 q0 0) 24) <|
    ev_lt (ev_u2 I6 (q0 + 3) (I6 q0 0).toNatClampNeg x3) fun I8 =>
    ev_ck (ev_in (I8 q0 0) 24) <|
    ev_lt (ev_u2 I8 (q0 + 4) (I8 q0 0).toNatClampNeg x4) fun I10 =>
    ev_lt (ev_u2 I10 q0 0 ((I10 q0 0) + (1 : Int32))) fun I11 =>
    some I11
  else
    some I
set_option maxRecDepth 100000 in
set_option maxHeartbeats 4000000 in
theorem tX5_add {E : ev_N} {σ : ev_H} (n : Nat) (q0 : Nat) (g0 : shp tb5 σ q0) (x1 : Int32) (x2 : Int32) (x3 : Int32) (x4 : Int32) (I : ev_I) (o : ev_I) (h : pX5_add n q0 x1 x2 x3 x4 I = some o) : ev_T E mX5_add [.ref q0, .int x1, .int x2, .int x3, .int x4] (h_w σ I) (Option.none, h_w σ o) := by
  unfold pX5_add at h
  refine ev_met rfl rfl (Nat.le_of_ble_eq_true rfl) (ev_L0 (L' := [some (.ref q0), some (.int x1), some (.int x2), some (.int x3), some (.int x4)]) rfl ?_)
  refine ev_aload_n dX5_add_0 rfl (fun _ e => by cases e) ?_
  obtain ⟨z1, hz1, h⟩ := ev_bnE h
  refine ec_Vi (Y := mX5_isFull) (ci := 5) (As := []) (rest := []) dX5_add_1 kX5_37 oX5_isFull ⟨Nat.le_of_ble_eq_true rfl, Nat.le_of_ble_eq_true rfl⟩ (by decide) rfl (shp_n g0 0 rfl) (shp_t g0 0 rfl) rfl (Nat.le_of_ble_eq_true rfl) (tX5_isFull n q0 g0  I z1 hz1) rfl ?_
  refine ev_if_eq (tgt := 8) dX5_add_4 (by decide) (fun c2 => ?_) (fun c2 => ?_)
  · have h := ev_ifT h c2
    refine ev_aload_n dX5_add_8 rfl (fun _ e => by cases e) ?_
    refine ew_getr0 dX5_add_9 fX5_9 g0 rfl rfl rfl rfl ?_
    refine ev_aload_n dX5_add_12 rfl (fun _ e => by cases e) ?_
    refine ew_get0 dX5_add_13 fX5_24 g0 rfl rfl rfl ?_
    refine ev_iload_n dX5_add_16 rfl ?_
    obtain ⟨c3, h⟩ := ev_ckE h
    obtain ⟨I4, eI4, h⟩ := ev_ltE h
    refine ew_iast dX5_add_17 (shp_a g0 1 rfl) c3 (ew_nh eI4 ?_)
    refine ev_aload_n dX5_add_18 rfl (fun _ e => by cases e) ?_
    refine ew_getr0 dX5_add_19 fX5_15 g0 rfl rfl rfl rfl ?_
    refine ev_aload_n dX5_add_22 rfl (fun _ e => by cases e) ?_
    refine ew_get0 dX5_add_23 fX5_24 g0 rfl rfl rfl ?_
    refine ev_iload_n dX5_add_26 rfl ?_
    obtain ⟨c5, h⟩ := ev_ckE h
    obtain ⟨I6, eI6, h⟩ := ev_ltE h
    refine ew_iast dX5_add_27 (shp_a g0 2 rfl) c5 (ew_nh eI6 ?_)
    refine ev_aload_n dX5_add_28 rfl (fun _ e => by cases e) ?_
    refine ew_getr0 dX5_add_29 fX5_18 g0 rfl rfl rfl rfl ?_
    refine ev_aload_n dX5_add_32 rfl (fun _ e => by cases e) ?_
    refine ew_get0 dX5_add_33 fX5_24 g0 rfl rfl rfl ?_
    refine ev_iload_n dX5_add_36 rfl ?_
    obtain ⟨c7, h⟩ := ev_ckE h
    obtain ⟨I8, eI8, h⟩ := ev_ltE h
    refine ew_iast dX5_add_37 (shp_a g0 3 rfl) c7 (ew_nh eI8 ?_)
    refine ev_aload_n dX5_add_38 rfl (fun _ e => by cases e) ?_
    refine ew_getr0 dX5_add_39 fX5_21 g0 rfl rfl rfl rfl ?_
    refine ev_aload_n dX5_add_42 rfl (fun _ e => by cases e) ?_
    refine ew_get0 dX5_add_43 fX5_24 g0 rfl rfl rfl ?_
    refine ev_iload dX5_add_46 rfl ?_
    obtain ⟨c9, h⟩ := ev_ckE h
    obtain ⟨I10, eI10, h⟩ := ev_ltE h
    refine ew_iast dX5_add_48 (shp_a g0 4 rfl) c9 (ew_nh eI10 ?_)
    refine ev_aload_n dX5_add_49 rfl (fun _ e => by cases e) ?_
    refine ev_dup dX5_add_50 ?_
    refine ew_get0 dX5_add_51 fX5_24 g0 rfl rfl rfl ?_
    refine ev_iconst (v := (1 : Int32)) dX5_add_54 (by decide) ?_
    refine ev_iadd dX5_add_55 ?_
    obtain ⟨I11, eI11, h⟩ := ev_ltE h
    refine ew_put0 dX5_add_56 fX5_24 g0 rfl rfl rfl rfl rfl rfl (ew_nh eI11 ?_)
    cases h
    exact er_v dX5_add_59 rfl
  · have h := ev_ifF h c2
    cases h
    exact er_v dX5_add_7 rfl
-- ChainVotes$Accounts apply(I)V
def pX0_apply (n : Nat) (q0 : Nat) (x1 : Int32) (I : ev_I) : Option (ev_I) :=
  ev_lt ((x1 / (50 : Int32)) - (x1 / (50 : Int32)) / (5 : Int32) * (5 : Int32)) fun v1 =>
  ev_lt ((v1 + (1 : Int32)) - (v1 + (1 : Int32)) / (5 : Int32) * (5 : Int32)) fun v2 =>
  ev_lt (x1 - x1 / (50 : Int32) * (50 : Int32)) fun v3 =>
  ev_lt (x1 / (250 : Int32)) fun v4 =>
  if v4 = (0 : Int32) then
    ev_ck (ev_in v1 5) <|
    ev_ck (ev_in v1 5) <|
    ev_lt (ev_u2 I (q0 + 1) v1.toNatClampNeg ((I (q0 + 1) v1.toNatClampNeg) + v3)) fun I8 =>
    some I8
  else
  if v4 = (1 : Int32) then
    ev_ck (ev_in v1 5) <|
    ev_ck (ev_in v1 5) <|
    ev_lt (ev_u2 I (q0 + 1) v1.toNatClampNeg (if (0 : Int32) < ((I (q0 + 1) v1.toNatClampNeg) - v3) then ((I (q0 + 1) v1.toNatClampNeg) - v3) else (0 : Int32))) fun I12 =>
    some I12
  else
  if v4 = (2 : Int32) then
    ev_ck (ev_in v1 5) <|
    (pX0_move n q0 v1 v2 (if (I (q0 + 1) v1.toNatClampNeg) < v3 then (I (q0 + 1) v1.toNatClampNeg) else v3) I).bind fun z15 =>
    some z15
  else
  ev_ck (ev_in v2 5) <|
  (pX0_move n q0 v2 v1 (I (q0 + 1) v2.toNatClampNeg) I).bind fun z17 =>
  some z17
set_option maxRecDepth 100000 in
set_option maxHeartbeats 4000000 in
theorem tX0_apply {E : ev_N} {σ : ev_H} (n : Nat) (q0 : Nat) (g0 : shp tb0 σ q0) (x1 : Int32) (I : ev_I) (o : ev_I) (h : pX0_apply n q0 x1 I = some o) : ev_T E mX0_apply [.ref q0, .int x1] (h_w σ I) (Option.none, h_w σ o) := by
  unfold pX0_apply at h
  refine ev_met rfl rfl (Nat.le_of_ble_eq_true rfl) (ev_L0 (L' := [some (.ref q0), some (.int x1), none, none, none]) rfl ?_)
  refine ev_iload_n dX0_apply_0 rfl ?_
  refine ev_bipush (v := (50 : Int32)) dX0_apply_1 (by decide) ?_
  refine ev_idiv dX0_apply_3 (by decide) ?_
  refine ev_iconst (v := (5 : Int32)) dX0_apply_4 (by decide) ?_
  refine ev_irem dX0_apply_5 (by decide) ?_
  obtain ⟨v1, ev1, h⟩ := ev_ltE h
  refine ew_nm ev1 ?_
  refine ew_istn (L' := [some (.ref q0), some (.int x1), some (.int v1), none, none]) dX0_apply_6 (Nat.le_of_ble_eq_true rfl) rfl ?_
  refine ev_iload_n dX0_apply_7 rfl ?_
  refine ev_iconst (v := (1 : Int32)) dX0_apply_8 (by decide) ?_
  refine ev_iadd dX0_apply_9 ?_
  refine ev_iconst (v := (5 : Int32)) dX0_apply_10 (by decide) ?_
  refine ev_irem dX0_apply_11 (by decide) ?_
  obtain ⟨v2, ev2, h⟩ := ev_ltE h
  refine ew_nm ev2 ?_
  refine ew_istn (L' := [some (.ref q0), some (.int x1), some (.int v1), some (.int v2), none]) dX0_apply_12 (Nat.le_of_ble_eq_true rfl) rfl ?_
  refine ev_iload_n dX0_apply_13 rfl ?_
  refine ev_bipush (v := (50 : Int32)) dX0_apply_14 (by decide) ?_
  refine ev_irem dX0_apply_16 (by decide) ?_
  obtain ⟨v3, ev3, h⟩ := ev_ltE h
  refine ew_nm ev3 ?_
  refine ew_ist (L' := [some (.ref q0), some (.int x1), some (.int v1), some (.int v2), some (.int v3)]) dX0_apply_17 (Nat.le_of_ble_eq_true rfl) rfl ?_
  refine ev_iload_n dX0_apply_19 rfl ?_
  refine ev_sipush (v := (250 : Int32)) dX0_apply_20 (by decide) ?_
  refine ev_idiv dX0_apply_23 (by decide) ?_
  obtain ⟨v4, ev4, h⟩ := ev_ltE h
  refine ew_nm ev4 ?_
  by_cases c5 : v4 = (0 : Int32)
  · have h := ev_ifT h c5
    refine ev_table (tgt := 52) dX0_apply_24 (by rw [c5]; decide) (by decide) ?_
    refine ev_aload_n dX0_apply_52 rfl (fun _ e => by cases e) ?_
    refine ew_getr0 dX0_apply_53 fX0_9 g0 rfl rfl rfl rfl ?_
    refine ev_iload_n dX0_apply_56 rfl ?_
    refine ev_dup2 dX0_apply_57 ?_
    obtain ⟨c6, h⟩ := ev_ckE h
    refine ew_iald dX0_apply_58 (shp_a g0 1 rfl) c6 ?_
    refine ev_iload dX0_apply_59 rfl ?_
    refine ev_iadd dX0_apply_61 ?_
    obtain ⟨c7, h⟩ := ev_ckE h
    obtain ⟨I8, eI8, h⟩ := ev_ltE h
    refine ew_iast dX0_apply_62 (shp_a g0 1 rfl) c7 (ew_nh eI8 ?_)
    refine ev_goto (tgt := 120) dX0_apply_63 (by decide) ?_
    cases h
    exact er_v dX0_apply_120 rfl
  have h := ev_ifF h c5
  by_cases c9 : v4 = (1 : Int32)
  · have h := ev_ifT h c9
    refine ev_table (tgt := 66) dX0_apply_24 (by rw [c9]; decide) (by decide) ?_
    refine ev_aload_n dX0_apply_66 rfl (fun _ e => by cases e) ?_
    refine ew_getr0 dX0_apply_67 fX0_9 g0 rfl rfl rfl rfl ?_
    refine ev_iload_n dX0_apply_70 rfl ?_
    refine ev_iconst (v := (0 : Int32)) dX0_apply_71 (by decide) ?_
    refine ev_aload_n dX0_apply_72 rfl (fun _ e => by cases e) ?_
    refine ew_getr0 dX0_apply_73 fX0_9 g0 rfl rfl rfl rfl ?_
    refine ev_iload_n dX0_apply_76 rfl ?_
    obtain ⟨c10, h⟩ := ev_ckE h
    refine ew_iald dX0_apply_77 (shp_a g0 1 rfl) c10 ?_
    refine ev_iload dX0_apply_78 rfl ?_
    refine ev_isub dX0_apply_80 ?_
    refine ev_max dX0_apply_81 kX0_39 zM_max.1 zM_max.2.1 zM_max.2.2 (Nat.le_of_ble_eq_true rfl) (Nat.le_of_ble_eq_true rfl) ?_
    obtain ⟨c11, h⟩ := ev_ckE h
    obtain ⟨I12, eI12, h⟩ := ev_ltE h
    refine ew_iast dX0_apply_84 (shp_a g0 1 rfl) c11 (ew_nh eI12 ?_)
    refine ev_goto (tgt := 120) dX0_apply_85 (by decide) ?_
    cases h
    exact er_v dX0_apply_120 rfl
  have h := ev_ifF h c9
  by_cases c13 : v4 = (2 : Int32)
  · have h := ev_ifT h c13
    refine ev_table (tgt := 88) dX0_apply_24 (by rw [c13]; decide) (by decide) ?_
    refine ev_aload_n dX0_apply_88 rfl (fun _ e => by cases e) ?_
    refine ev_iload_n dX0_apply_89 rfl ?_
    refine ev_iload_n dX0_apply_90 rfl ?_
    refine ev_iload dX0_apply_91 rfl ?_
    refine ev_aload_n dX0_apply_93 rfl (fun _ e => by cases e) ?_
    refine ew_getr0 dX0_apply_94 fX0_9 g0 rfl rfl rfl rfl ?_
    refine ev_iload_n dX0_apply_97 rfl ?_
    obtain ⟨c14, h⟩ := ev_ckE h
    refine ew_iald dX0_apply_98 (shp_a g0 1 rfl) c14 ?_
    refine ev_min dX0_apply_99 kX0_45 zM_min.1 zM_min.2.1 zM_min.2.2 (Nat.le_of_ble_eq_true rfl) (Nat.le_of_ble_eq_true rfl) ?_
    obtain ⟨z15, hz15, h⟩ := ev_bnE h
    refine ec_Vv (Y := mX0_move) (ci := 0) (As := [.int v1, .int v2, .int (if (I (q0 + 1) v1.toNatClampNeg) < v3 then (I (q0 + 1) v1.toNatClampNeg) else v3)]) (rest := []) dX0_apply_102 kX0_48 oX0_move ⟨Nat.le_of_ble_eq_true rfl, Nat.le_of_ble_eq_true rfl⟩ (by decide) rfl (shp_n g0 0 rfl) (shp_t g0 0 rfl) rfl (Nat.le_of_ble_eq_true rfl) (tX0_move n q0 g0 v1 v2 (if (I (q0 + 1) v1.toNatClampNeg) < v3 then (I (q0 + 1) v1.toNatClampNeg) else v3) I z15 hz15) rfl ?_
    refine ev_goto (tgt := 120) dX0_apply_105 (by decide) ?_
    cases h
    exact er_v dX0_apply_120 rfl
  have h := ev_ifF h c13
  refine ev_table (tgt := 108) dX0_apply_24 (by rw [if_pos (sw_out _ _ v4 (by intro i h1 h2; rcases (show i = 0 ∨ i = 1 ∨ i = 2 by omega) with rfl | rfl | rfl <;> first | exact ⟨_, by decide, c5⟩ | exact ⟨_, by decide, c9⟩ | exact ⟨_, by decide, c13⟩))]; rfl) (by decide) ?_
  refine ev_aload_n dX0_apply_108 rfl (fun _ e => by cases e) ?_
  refine ev_iload_n dX0_apply_109 rfl ?_
  refine ev_iload_n dX0_apply_110 rfl ?_
  refine ev_aload_n dX0_apply_111 rfl (fun _ e => by cases e) ?_
  refine ew_getr0 dX0_apply_112 fX0_9 g0 rfl rfl rfl rfl ?_
  refine ev_iload_n dX0_apply_115 rfl ?_
  obtain ⟨c16, h⟩ := ev_ckE h
  refine ew_iald dX0_apply_116 (shp_a g0 1 rfl) c16 ?_
  obtain ⟨z17, hz17, h⟩ := ev_bnE h
  refine ec_Vv (Y := mX0_move) (ci := 0) (As := [.int v2, .int v1, .int (I (q0 + 1) v2.toNatClampNeg)]) (rest := []) dX0_apply_117 kX0_48 oX0_move ⟨Nat.le_of_ble_eq_true rfl, Nat.le_of_ble_eq_true rfl⟩ (by decide) rfl (shp_n g0 0 rfl) (shp_t g0 0 rfl) rfl (Nat.le_of_ble_eq_true rfl) (tX0_move n q0 g0 v2 v1 (I (q0 + 1) v2.toNatClampNeg) I z17 hz17) rfl ?_
  cases h
  exact er_v dX0_apply_120 rfl
-- ChainVotes$Net turnFirst(I)Z
def pX4_turnFirst (n : Nat) (q0 : Nat) (x1 : Int32) (I : ev_I) : Option (Int32 × ev_I) :=
  if x1 < 0 then
    some ((0 : Int32), I)
  else
    if x1 ≤ (I q0 0) then
      (pX4_reverseFirst n q0 (I q0 0) I).bind fun z3 =>
      (pX4_reverseFirst n q0 ((z3 q0 0) - x1) z3).bind fun z4 =>
      some ((1 : Int32), z4)
    else
      some ((0 : Int32), I)
set_option maxRecDepth 100000 in
set_option maxHeartbeats 4000000 in
theorem tX4_turnFirst {E : ev_N} {σ : ev_H} (n : Nat) (q0 : Nat) (g0 : shp tb4 σ q0) (x1 : Int32) (I : ev_I) (o : Int32 × ev_I) (h : pX4_turnFirst n q0 x1 I = some o) : ev_T E mX4_turnFirst [.ref q0, .int x1] (h_w σ I) (Option.some (Value.int o.1), h_w σ o.2) := by
  unfold pX4_turnFirst at h
  refine ev_met rfl rfl (Nat.le_of_ble_eq_true rfl) (ev_L0 (L' := [some (.ref q0), some (.int x1)]) rfl ?_)
  refine ev_iload_n dX4_turnFirst_0 rfl ?_
  refine ev_if_lt (tgt := 12) dX4_turnFirst_1 (by decide) (fun c1 => ?_) (fun c1 => ?_)
  · have h := ev_ifT h c1
    refine ev_iconst (v := (0 : Int32)) dX4_turnFirst_12 (by decide) ?_
    cases h
    exact er_i dX4_turnFirst_13 rfl rfl
  · have h := ev_ifF h c1
    refine ev_iload_n dX4_turnFirst_4 rfl ?_
    refine ev_aload_n dX4_turnFirst_5 rfl (fun _ e => by cases e) ?_
    refine ew_get0 dX4_turnFirst_6 fX4_18 g0 rfl rfl rfl ?_
    refine ev_icmp_le (tgt := 14) dX4_turnFirst_9 (by decide) (fun c2 => ?_) (fun c2 => ?_)
    · have h := ev_ifT h c2
      refine ev_aload_n dX4_turnFirst_14 rfl (fun _ e => by cases e) ?_
      refine ev_aload_n dX4_turnFirst_15 rfl (fun _ e => by cases e) ?_
      refine ew_get0 dX4_turnFirst_16 fX4_18 g0 rfl rfl rfl ?_
      obtain ⟨z3, hz3, h⟩ := ev_bnE h
      refine ec_Vv (Y := mX4_reverseFirst) (ci := 4) (As := [.int (I q0 0)]) (rest := []) dX4_turnFirst_19 kX4_61 oX4_reverseFirst ⟨Nat.le_of_ble_eq_true rfl, Nat.le_of_ble_eq_true rfl⟩ (by decide) rfl (shp_n g0 0 rfl) (shp_t g0 0 rfl) rfl (Nat.le_of_ble_eq_true rfl) (tX4_reverseFirst n q0 g0 (I q0 0) I z3 hz3) rfl ?_
      refine ev_aload_n dX4_turnFirst_22 rfl (fun _ e => by cases e) ?_
      refine ev_aload_n dX4_turnFirst_23 rfl (fun _ e => by cases e) ?_
      refine ew_get0 dX4_turnFirst_24 fX4_18 g0 rfl rfl rfl ?_
      refine ev_iload_n dX4_turnFirst_27 rfl ?_
      refine ev_isub dX4_turnFirst_28 ?_
      obtain ⟨z4, hz4, h⟩ := ev_bnE h
      refine ec_Vv (Y := mX4_reverseFirst) (ci := 4) (As := [.int ((z3 q0 0) - x1)]) (rest := []) dX4_turnFirst_29 kX4_61 oX4_reverseFirst ⟨Nat.le_of_ble_eq_true rfl, Nat.le_of_ble_eq_true rfl⟩ (by decide) rfl (shp_n g0 0 rfl) (shp_t g0 0 rfl) rfl (Nat.le_of_ble_eq_true rfl) (tX4_reverseFirst n q0 g0 ((z3 q0 0) - x1) z3 z4 hz4) rfl ?_
      refine ev_iconst (v := (1 : Int32)) dX4_turnFirst_32 (by decide) ?_
      cases h
      exact er_i dX4_turnFirst_33 rfl rfl
    · have h := ev_ifF h c2
      refine ev_iconst (v := (0 : Int32)) dX4_turnFirst_12 (by decide) ?_
      cases h
      exact er_i dX4_turnFirst_13 rfl rfl
-- ChainVotes$Accounts behind(LChainVotes$Blocks;II)I
def cX0_behind_41 (q0 : Nat) (q1 : Nat) (K11 : Int32 → Int32 → Int32 → Int32 → ev_I → Option (Int32 × ev_I)) (n : Nat) (y2 : Int32) (y3 : Int32) (y5 : Int32) (s0 : Int32) (I : ev_I) : Option (Int32 × ev_I) :=
  ev_lt (y5 + (-1 : Int32)) fun v1 =>
  K11 y2 y3 s0 v1 I
def cX0_behind_61 (q0 : Nat) (q1 : Nat) (K61 : Int32 → Int32 → Int32 → ev_I → Option (Int32 × ev_I)) (n : Nat) (y2 : Int32) (y3 : Int32) (y5 : Int32) (I : ev_I) : Option (Int32 × ev_I) :=
  ev_ck (ev_in y2 100) <|
  if (I (q1 + 6) y2.toNatClampNeg) < y5 then
    ev_ck (ev_in y3 5) <|
    some ((I (q0 + 1) y3.toNatClampNeg), I)
  else
    ev_ck (ev_in y5 100) <|
    ev_ck (ev_in (I (q0 + 2) y5.toNatClampNeg) 100) <|
    (pX0_apply n q0 (I (q1 + 4) (I (q0 + 2) y5.toNatClampNeg).toNatClampNeg) I).bind fun z7 =>
    ev_lt (y5 + (1 : Int32)) fun v8 =>
    K61 y2 y3 v8 z7
def lX0_behind_61 (q0 : Nat) (q1 : Nat) : Nat → Int32 → Int32 → Int32 → ev_I → Option (Int32 × ev_I)
  | 0, _, _, _, _ => none
  | n + 1, y2, y3, y5, I => cX0_behind_61 q0 q1 (lX0_behind_61 q0 q1 n) n y2 y3 y5 I
def cX0_behind_11 (q0 : Nat) (q1 : Nat) (K11 : Int32 → Int32 → Int32 → Int32 → ev_I → Option (Int32 × ev_I)) (n : Nat) (y2 : Int32) (y3 : Int32) (y4 : Int32) (y5 : Int32) (I : ev_I) : Option (Int32 × ev_I) :=
  if y5 < 0 then
    (pJ7_fill_53178 n (q0 + 1) 5 (10 : Int32) I).bind fun z10 =>
    lX0_behind_61 q0 q1 n y2 y3 (0 : Int32) z10
  else
    ev_ck (ev_in y5 100) <|
    ev_lt (ev_u2 I (q0 + 2) y5.toNatClampNeg y4) fun I12 =>
    if y5 ≤ 0 then
      cX0_behind_41 q0 q1 K11 n y2 y3 y5 (0 : Int32) I12
    else
      ev_ck (ev_in y4 100) <|
      cX0_behind_41 q0 q1 K11 n y2 y3 y5 (I12 (q1 + 2) y4.toNatClampNeg) I12
def lX0_behind_11 (q0 : Nat) (q1 : Nat) : Nat → Int32 → Int32 → Int32 → Int32 → ev_I → Option (Int32 × ev_I)
  | 0, _, _, _, _, _ => none
  | n + 1, y2, y3, y4, y5, I => cX0_behind_11 q0 q1 (lX0_behind_11 q0 q1 n) n y2 y3 y4 y5 I
def pX0_behind (n : Nat) (q0 : Nat) (q1 : Nat) (x2 : Int32) (x3 : Int32) (I : ev_I) : Option (Int32 × ev_I) :=
  ev_ck (ev_in x2 100) <|
  ev_lt (I (q1 + 6) x2.toNatClampNeg) fun v16 =>
  lX0_behind_11 q0 q1 n x2 x3 x2 v16 I
set_option maxRecDepth 100000 in
set_option maxHeartbeats 4000000 in
theorem tX0_behind_41 {E : ev_N} {σ : ev_H} (q0 : Nat) (q1 : Nat) (g0 : shp tb0 σ q0) (g1 : shp tb1 σ q1) (K11 : Int32 → Int32 → Int32 → Int32 → ev_I → Option (Int32 × ev_I)) (k11 : ∀ (y2 : Int32) (y3 : Int32) (y4 : Int32) (y5 : Int32) (I : ev_I) (o : Int32 × ev_I), K11 y2 y3 y4 y5 I = some o → EV E mX0_behind 11 [some (.ref q0), some (.ref q1), some (.int y2), some (.int y3), some (.int y4), some (.int y5)] [] (h_w σ I) (Option.some (Value.int o.1), h_w σ o.2)) (n : Nat) (y2 : Int32) (y3 : Int32) (y5 : Int32) (s0 : Int32) (I : ev_I) (o : Int32 × ev_I) : cX0_behind_41 q0 q1 K11 n y2 y3 y5 s0 I = some o → EV E mX0_behind 41 [some (.ref q0), some (.ref q1), some (.int y2), some (.int y3), none, some (.int y5)] [(.int s0)] (h_w σ I) (Option.some (Value.int o.1), h_w σ o.2) := by
  intro h
  unfold cX0_behind_41 at h
  refine ew_ist (L' := [some (.ref q0), some (.ref q1), some (.int y2), some (.int y3), some (.int s0), some (.int y5)]) dX0_behind_41 (Nat.le_of_ble_eq_true rfl) rfl ?_
  obtain ⟨v1, ev1, h⟩ := ev_ltE h
  refine ew_iinc (L' := [some (.ref q0), some (.ref q1), some (.int y2), some (.int y3), some (.int s0), some (.int v1)]) dX0_behind_43 (Nat.le_of_ble_eq_true rfl) rfl (by decide) ev1 rfl ?_
  refine ev_goto (tgt := 11) dX0_behind_46 (by decide) ?_
  exact ev_weak (sb_s (sb_s (sb_s (sb_s (sb_s (sb_s sb_0)))))) (k11 y2 y3 s0 v1 I _ h)
set_option maxRecDepth 100000 in
set_option maxHeartbeats 4000000 in
theorem tX0_behind_61 {E : ev_N} {σ : ev_H} (q0 : Nat) (q1 : Nat) (g0 : shp tb0 σ q0) (g1 : shp tb1 σ q1) (K61 : Int32 → Int32 → Int32 → ev_I → Option (Int32 × ev_I)) (k61 : ∀ (y2 : Int32) (y3 : Int32) (y5 : Int32) (I : ev_I) (o : Int32 × ev_I), K61 y2 y3 y5 I = some o → EV E mX0_behind 61 [some (.ref q0), some (.ref q1), some (.int y2), some (.int y3), none, some (.int y5)] [] (h_w σ I) (Option.some (Value.int o.1), h_w σ o.2)) (n : Nat) (y2 : Int32) (y3 : Int32) (y5 : Int32) (I : ev_I) (o : Int32 × ev_I) : cX0_behind_61 q0 q1 K61 n y2 y3 y5 I = some o → EV E mX0_behind 61 [some (.ref q0), some (.ref q1), some (.int y2), some (.int y3), none, some (.int y5)] [] (h_w σ I) (Option.some (Value.int o.1), h_w σ o.2) := by
  intro h
  unfold cX0_behind_61 at h
  refine ev_iload dX0_behind_61 rfl ?_
  refine ev_aload_n dX0_behind_63 rfl (fun _ e => by cases e) ?_
  refine ew_getr0 dX0_behind_64 fX0_18 g1 rfl rfl rfl rfl ?_
  refine ev_iload_n dX0_behind_67 rfl ?_
  obtain ⟨c2, h⟩ := ev_ckE h
  refine ew_iald dX0_behind_68 (shp_a g1 6 rfl) c2 ?_
  refine ev_icmp_gt (tgt := 94) dX0_behind_69 (by decide) (fun c3 => ?_) (fun c3 => ?_)
  · have h := ev_ifT h c3
    refine ev_aload_n dX0_behind_94 rfl (fun _ e => by cases e) ?_
    refine ew_getr0 dX0_behind_95 fX0_9 g0 rfl rfl rfl rfl ?_
    refine ev_iload_n dX0_behind_98 rfl ?_
    obtain ⟨c4, h⟩ := ev_ckE h
    refine ew_iald dX0_behind_99 (shp_a g0 1 rfl) c4 ?_
    cases h
    exact er_i dX0_behind_100 rfl rfl
  · have h := ev_ifF h c3
    refine ev_aload_n dX0_behind_72 rfl (fun _ e => by cases e) ?_
    refine ev_aload_n dX0_behind_73 rfl (fun _ e => by cases e) ?_
    refine ew_getr0 dX0_behind_74 fX0_32 g1 rfl rfl rfl rfl ?_
    refine ev_aload_n dX0_behind_77 rfl (fun _ e => by cases e) ?_
    refine ew_getr0 dX0_behind_78 fX0_15 g0 rfl rfl rfl rfl ?_
    refine ev_iload dX0_behind_81 rfl ?_
    obtain ⟨c5, h⟩ := ev_ckE h
    refine ew_iald dX0_behind_83 (shp_a g0 2 rfl) c5 ?_
    obtain ⟨c6, h⟩ := ev_ckE h
    refine ew_iald dX0_behind_84 (shp_a g1 4 rfl) c6 ?_
    obtain ⟨z7, hz7, h⟩ := ev_bnE h
    refine ec_Vv (Y := mX0_apply) (ci := 0) (As := [.int (I (q1 + 4) (I (q0 + 2) y5.toNatClampNeg).toNatClampNeg)]) (rest := []) dX0_behind_85 kX0_35 oX0_apply ⟨Nat.le_of_ble_eq_true rfl, Nat.le_of_ble_eq_true rfl⟩ (by decide) rfl (shp_n g0 0 rfl) (shp_t g0 0 rfl) rfl (Nat.le_of_ble_eq_true rfl) (tX0_apply n q0 g0 (I (q1 + 4) (I (q0 + 2) y5.toNatClampNeg).toNatClampNeg) I z7 hz7) rfl ?_
    obtain ⟨v8, ev8, h⟩ := ev_ltE h
    refine ew_iinc (L' := [some (.ref q0), some (.ref q1), some (.int y2), some (.int y3), none, some (.int v8)]) dX0_behind_88 (Nat.le_of_ble_eq_true rfl) rfl (by decide) ev8 rfl ?_
    refine ev_goto (tgt := 61) dX0_behind_91 (by decide) ?_
    exact ev_weak (sb_s (sb_s (sb_s (sb_s (sb_n (sb_s sb_0)))))) (k61 y2 y3 v8 z7 _ h)
theorem tlX0_behind_61 {E : ev_N} {σ : ev_H} (q0 : Nat) (q1 : Nat) (g0 : shp tb0 σ q0) (g1 : shp tb1 σ q1) : ∀ (n : Nat) (y2 : Int32) (y3 : Int32) (y5 : Int32) (I : ev_I) (o : Int32 × ev_I), lX0_behind_61 q0 q1 n y2 y3 y5 I = some o → EV E mX0_behind 61 [some (.ref q0), some (.ref q1), some (.int y2), some (.int y3), none, some (.int y5)] [] (h_w σ I) (Option.some (Value.int o.1), h_w σ o.2)
  | 0, _, _, _, _, _, h => by cases h
  | n + 1, y2, y3, y5, I, o, h => tX0_behind_61 q0 q1 g0 g1 (lX0_behind_61 q0 q1 n) (tlX0_behind_61 q0 q1 g0 g1 n) n y2 y3 y5 I o h
set_option maxRecDepth 100000 in
set_option maxHeartbeats 4000000 in
theorem tX0_behind_11 {E : ev_N} {σ : ev_H} (q0 : Nat) (q1 : Nat) (g0 : shp tb0 σ q0) (g1 : shp tb1 σ q1) (K11 : Int32 → Int32 → Int32 → Int32 → ev_I → Option (Int32 × ev_I)) (k11 : ∀ (y2 : Int32) (y3 : Int32) (y4 : Int32) (y5 : Int32) (I : ev_I) (o : Int32 × ev_I), K11 y2 y3 y4 y5 I = some o → EV E mX0_behind 11 [some (.ref q0), some (.ref q1), some (.int y2), some (.int y3), some (.int y4), some (.int y5)] [] (h_w σ I) (Option.some (Value.int o.1), h_w σ o.2)) (n : Nat) (y2 : Int32) (y3 : Int32) (y4 : Int32) (y5 : Int32) (I : ev_I) (o : Int32 × ev_I) : cX0_behind_11 q0 q1 K11 n y2 y3 y4 y5 I = some o → EV E mX0_behind 11 [some (.ref q0), some (.ref q1), some (.int y2), some (.int y3), some (.int y4), some (.int y5)] [] (h_w σ I) (Option.some (Value.int o.1), h_w σ o.2) := by
  intro h
  unfold cX0_behind_11 at h
  refine ev_iload dX0_behind_11 rfl ?_
  refine ev_if_lt (tgt := 49) dX0_behind_13 (by decide) (fun c9 => ?_) (fun c9 => ?_)
  · have h := ev_ifT h c9
    refine ev_aload_n dX0_behind_49 rfl (fun _ e => by cases e) ?_
    refine ew_getr0 dX0_behind_50 fX0_9 g0 rfl rfl rfl rfl ?_
    refine ev_bipush (v := (10 : Int32)) dX0_behind_53 (by decide) ?_
    obtain ⟨z10, hz10, h⟩ := ev_bnE h
    refine ec_Sv (Y := mJ7_fill_53178) (As := [.ref (q0 + 1), .int (10 : Int32)]) (rest := []) dX0_behind_55 kX0_26 oJ7_fill_53178 ⟨Nat.le_of_ble_eq_true rfl, Nat.le_of_ble_eq_true rfl⟩ rfl (Nat.le_of_ble_eq_true rfl) (tJ7_fill_53178 n (q0 + 1) 5 (shp_a g0 1 rfl) (10 : Int32) I z10 hz10) rfl ?_
    refine ev_iconst (v := (0 : Int32)) dX0_behind_58 (by decide) ?_
    refine ew_ist (L' := [some (.ref q0), some (.ref q1), some (.int y2), some (.int y3), some (.int y4), some (.int (0 : Int32))]) dX0_behind_59 (Nat.le_of_ble_eq_true rfl) rfl ?_
    exact ev_weak (sb_s (sb_s (sb_s (sb_s (sb_n (sb_s sb_0)))))) (tlX0_behind_61 q0 q1 g0 g1 n y2 y3 (0 : Int32) z10 _ h)
  · have h := ev_ifF h c9
    refine ev_aload_n dX0_behind_16 rfl (fun _ e => by cases e) ?_
    refine ew_getr0 dX0_behind_17 fX0_15 g0 rfl rfl rfl rfl ?_
    refine ev_iload dX0_behind_20 rfl ?_
    refine ev_iload dX0_behind_22 rfl ?_
    obtain ⟨c11, h⟩ := ev_ckE h
    obtain ⟨I12, eI12, h⟩ := ev_ltE h
    refine ew_iast dX0_behind_24 (shp_a g0 2 rfl) c11 (ew_nh eI12 ?_)
    refine ev_iload dX0_behind_25 rfl ?_
    refine ev_if_le (tgt := 40) dX0_behind_27 (by decide) (fun c13 => ?_) (fun c13 => ?_)
    · have h := ev_ifT h c13
      refine ev_iconst (v := (0 : Int32)) dX0_behind_40 (by decide) ?_
      exact ev_weak (sb_s (sb_s (sb_s (sb_s (sb_n (sb_s sb_0)))))) (tX0_behind_41 q0 q1 g0 g1 K11 k11 n y2 y3 y5 (0 : Int32) I12 _ h)
    · have h := ev_ifF h c13
      refine ev_aload_n dX0_behind_30 rfl (fun _ e => by cases e) ?_
      refine ew_getr0 dX0_behind_31 fX0_23 g1 rfl rfl rfl rfl ?_
      refine ev_iload dX0_behind_34 rfl ?_
      obtain ⟨c14, h⟩ := ev_ckE h
      refine ew_iald dX0_behind_36 (shp_a g1 2 rfl) c14 ?_
      refine ev_goto (tgt := 41) dX0_behind_37 (by decide) ?_
      exact ev_weak (sb_s (sb_s (sb_s (sb_s (sb_n (sb_s sb_0)))))) (tX0_behind_41 q0 q1 g0 g1 K11 k11 n y2 y3 y5 (I12 (q1 + 2) y4.toNatClampNeg) I12 _ h)
theorem tlX0_behind_11 {E : ev_N} {σ : ev_H} (q0 : Nat) (q1 : Nat) (g0 : shp tb0 σ q0) (g1 : shp tb1 σ q1) : ∀ (n : Nat) (y2 : Int32) (y3 : Int32) (y4 : Int32) (y5 : Int32) (I : ev_I) (o : Int32 × ev_I), lX0_behind_11 q0 q1 n y2 y3 y4 y5 I = some o → EV E mX0_behind 11 [some (.ref q0), some (.ref q1), some (.int y2), some (.int y3), some (.int y4), some (.int y5)] [] (h_w σ I) (Option.some (Value.int o.1), h_w σ o.2)
  | 0, _, _, _, _, _, _, h => by cases h
  | n + 1, y2, y3, y4, y5, I, o, h => tX0_behind_11 q0 q1 g0 g1 (lX0_behind_11 q0 q1 n) (tlX0_behind_11 q0 q1 g0 g1 n) n y2 y3 y4 y5 I o h
set_option maxRecDepth 100000 in
set_option maxHeartbeats 4000000 in
theorem tX0_behind {E : ev_N} {σ : ev_H} (n : Nat) (q0 : Nat) (q1 : Nat) (g0 : shp tb0 σ q0) (g1 : shp tb1 σ q1) (x2 : Int32) (x3 : Int32) (I : ev_I) (o : Int32 × ev_I) (h : pX0_behind n q0 q1 x2 x3 I = some o) : ev_T E mX0_behind [.ref q0, .ref q1, .int x2, .int x3] (h_w σ I) (Option.some (Value.int o.1), h_w σ o.2) := by
  unfold pX0_behind at h
  refine ev_met rfl rfl (Nat.le_of_ble_eq_true rfl) (ev_L0 (L' := [some (.ref q0), some (.ref q1), some (.int x2), some (.int x3), none, none]) rfl ?_)
  refine ev_iload_n dX0_behind_0 rfl ?_
  refine ew_ist (L' := [some (.ref q0), some (.ref q1), some (.int x2), some (.int x3), some (.int x2), none]) dX0_behind_1 (Nat.le_of_ble_eq_true rfl) rfl ?_
  refine ev_aload_n dX0_behind_3 rfl (fun _ e => by cases e) ?_
  refine ew_getr0 dX0_behind_4 fX0_18 g1 rfl rfl rfl rfl ?_
  refine ev_iload_n dX0_behind_7 rfl ?_
  obtain ⟨c15, h⟩ := ev_ckE h
  refine ew_iald dX0_behind_8 (shp_a g1 6 rfl) c15 ?_
  obtain ⟨v16, ev16, h⟩ := ev_ltE h
  refine ew_nm ev16 ?_
  refine ew_ist (L' := [some (.ref q0), some (.ref q1), some (.int x2), some (.int x3), some (.int x2), some (.int v16)]) dX0_behind_9 (Nat.le_of_ble_eq_true rfl) rfl ?_
  exact ev_weak (sb_s (sb_s (sb_s (sb_s (sb_s (sb_s sb_0)))))) (tlX0_behind_11 q0 q1 g0 g1 n x2 x3 x2 v16 I _ h)
