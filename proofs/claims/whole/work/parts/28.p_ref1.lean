-- ChainVotesModel isIn(III)Z
def pX10_isIn (n : Nat) (q0 : Nat) (x1 : Int32) (x2 : Int32) (x3 : Int32) (I : ev_I) : Option (Int32) :=
  if x1 < x2 then
    some (0 : Int32)
  else
    if x3 < x1 then
      some (0 : Int32)
    else
      some (1 : Int32)
set_option maxRecDepth 100000 in
set_option maxHeartbeats 4000000 in
theorem tX10_isIn {E : ev_N} {σ : ev_H} (n : Nat) (q0 : Nat) (g0 : shp tb9 σ q0) (x1 : Int32) (x2 : Int32) (x3 : Int32) (I : ev_I) (o : Int32) (h : pX10_isIn n q0 x1 x2 x3 I = some o) : ev_T E mX10_isIn [.ref q0, .int x1, .int x2, .int x3] (h_w σ I) (Option.some (Value.int o), h_w σ I) := by
  unfold pX10_isIn at h
  refine ev_met rfl rfl (Nat.le_of_ble_eq_true rfl) (ev_L0 (L' := [some (.ref q0), some (.int x1), some (.int x2), some (.int x3)]) rfl ?_)
  refine ev_iload_n dX10_isIn_0 rfl ?_
  refine ev_iload_n dX10_isIn_1 rfl ?_
  refine ev_icmp_lt (tgt := 14) dX10_isIn_2 (by decide) (fun c1 => ?_) (fun c1 => ?_)
  · have h := ev_ifT h c1
    refine ev_iconst (v := (0 : Int32)) dX10_isIn_14 (by decide) ?_
    cases h
    exact er_i dX10_isIn_15 rfl rfl
  · have h := ev_ifF h c1
    refine ev_iload_n dX10_isIn_5 rfl ?_
    refine ev_iload_n dX10_isIn_6 rfl ?_
    refine ev_icmp_gt (tgt := 14) dX10_isIn_7 (by decide) (fun c2 => ?_) (fun c2 => ?_)
    · have h := ev_ifT h c2
      refine ev_iconst (v := (0 : Int32)) dX10_isIn_14 (by decide) ?_
      cases h
      exact er_i dX10_isIn_15 rfl rfl
    · have h := ev_ifF h c2
      refine ev_iconst (v := (1 : Int32)) dX10_isIn_10 (by decide) ?_
      refine ev_goto (tgt := 15) dX10_isIn_11 (by decide) ?_
      cases h
      exact er_i dX10_isIn_15 rfl rfl
-- ChainVotesModel greater(II)I
def pX10_greater (n : Nat) (q0 : Nat) (x1 : Int32) (x2 : Int32) (I : ev_I) : Option (Int32) :=
  if x1 ≤ x2 then
    some x2
  else
    some x1
set_option maxRecDepth 100000 in
set_option maxHeartbeats 4000000 in
theorem tX10_greater {E : ev_N} {σ : ev_H} (n : Nat) (q0 : Nat) (g0 : shp tb9 σ q0) (x1 : Int32) (x2 : Int32) (I : ev_I) (o : Int32) (h : pX10_greater n q0 x1 x2 I = some o) : ev_T E mX10_greater [.ref q0, .int x1, .int x2] (h_w σ I) (Option.some (Value.int o), h_w σ I) := by
  unfold pX10_greater at h
  refine ev_met rfl rfl (Nat.le_of_ble_eq_true rfl) (ev_L0 (L' := [some (.ref q0), some (.int x1), some (.int x2)]) rfl ?_)
  refine ev_iload_n dX10_greater_0 rfl ?_
  refine ev_iload_n dX10_greater_1 rfl ?_
  refine ev_icmp_le (tgt := 9) dX10_greater_2 (by decide) (fun c1 => ?_) (fun c1 => ?_)
  · have h := ev_ifT h c1
    refine ev_iload_n dX10_greater_9 rfl ?_
    cases h
    exact er_i dX10_greater_10 rfl rfl
  · have h := ev_ifF h c1
    refine ev_iload_n dX10_greater_5 rfl ?_
    refine ev_goto (tgt := 10) dX10_greater_6 (by decide) ?_
    cases h
    exact er_i dX10_greater_10 rfl rfl
-- ChainVotesModel lesser(II)I
def pX10_lesser (n : Nat) (q0 : Nat) (x1 : Int32) (x2 : Int32) (I : ev_I) : Option (Int32) :=
  if x2 ≤ x1 then
    some x2
  else
    some x1
set_option maxRecDepth 100000 in
set_option maxHeartbeats 4000000 in
theorem tX10_lesser {E : ev_N} {σ : ev_H} (n : Nat) (q0 : Nat) (g0 : shp tb9 σ q0) (x1 : Int32) (x2 : Int32) (I : ev_I) (o : Int32) (h : pX10_lesser n q0 x1 x2 I = some o) : ev_T E mX10_lesser [.ref q0, .int x1, .int x2] (h_w σ I) (Option.some (Value.int o), h_w σ I) := by
  unfold pX10_lesser at h
  refine ev_met rfl rfl (Nat.le_of_ble_eq_true rfl) (ev_L0 (L' := [some (.ref q0), some (.int x1), some (.int x2)]) rfl ?_)
  refine ev_iload_n dX10_lesser_0 rfl ?_
  refine ev_iload_n dX10_lesser_1 rfl ?_
  refine ev_icmp_ge (tgt := 9) dX10_lesser_2 (by decide) (fun c1 => ?_) (fun c1 => ?_)
  · have h := ev_ifT h c1
    refine ev_iload_n dX10_lesser_9 rfl ?_
    cases h
    exact er_i dX10_lesser_10 rfl rfl
  · have h := ev_ifF h c1
    refine ev_iload_n dX10_lesser_5 rfl ?_
    refine ev_goto (tgt := 10) dX10_lesser_6 (by decide) ?_
    cases h
    exact er_i dX10_lesser_10 rfl rfl
-- ChainVotesModel has(II)Z
def pX10_has (n : Nat) (q0 : Nat) (x1 : Int32) (x2 : Int32) (I : ev_I) : Option (Int32) :=
  if ((x1 >>> (x2 &&& 31)) &&& (1 : Int32)) = (1 : Int32) then
    some (1 : Int32)
  else
    some (0 : Int32)
set_option maxRecDepth 100000 in
set_option maxHeartbeats 4000000 in
theorem tX10_has {E : ev_N} {σ : ev_H} (n : Nat) (q0 : Nat) (g0 : shp tb9 σ q0) (x1 : Int32) (x2 : Int32) (I : ev_I) (o : Int32) (h : pX10_has n q0 x1 x2 I = some o) : ev_T E mX10_has [.ref q0, .int x1, .int x2] (h_w σ I) (Option.some (Value.int o), h_w σ I) := by
  unfold pX10_has at h
  refine ev_met rfl rfl (Nat.le_of_ble_eq_true rfl) (ev_L0 (L' := [some (.ref q0), some (.int x1), some (.int x2)]) rfl ?_)
  refine ev_iload_n dX10_has_0 rfl ?_
  refine ev_iload_n dX10_has_1 rfl ?_
  refine ev_ishr dX10_has_2 ?_
  refine ev_iconst (v := (1 : Int32)) dX10_has_3 (by decide) ?_
  refine ev_iand dX10_has_4 ?_
  refine ev_iconst (v := (1 : Int32)) dX10_has_5 (by decide) ?_
  refine ev_icmp_ne (tgt := 13) dX10_has_6 (by decide) (fun c1 => ?_) (fun c1 => ?_)
  · have h := ev_ifF h c1
    refine ev_iconst (v := (0 : Int32)) dX10_has_13 (by decide) ?_
    cases h
    exact er_i dX10_has_14 rfl rfl
  · have h := ev_ifT h c1
    refine ev_iconst (v := (1 : Int32)) dX10_has_9 (by decide) ?_
    refine ev_goto (tgt := 14) dX10_has_10 (by decide) ?_
    cases h
    exact er_i dX10_has_14 rfl rfl
-- ChainVotesModel onesOf(I)I
def cX10_onesOf_4 (q0 : Nat) (K4 : Int32 → Int32 → ev_I → Option (Int32)) (n : Nat) (y2 : Int32) (y3 : Int32) (I : ev_I) : Option (Int32) :=
  if y3 = 0 then
    some y2
  else
    ev_lt (y2 + (1 : Int32)) fun v2 =>
    ev_lt (y3 &&& (y3 - (1 : Int32))) fun v3 =>
    K4 v2 v3 I
def lX10_onesOf_4 (q0 : Nat) : Nat → Int32 → Int32 → ev_I → Option (Int32)
  | 0, _, _, _ => none
  | n + 1, y2, y3, I => cX10_onesOf_4 q0 (lX10_onesOf_4 q0 n) n y2 y3 I
def pX10_onesOf (n : Nat) (q0 : Nat) (x1 : Int32) (I : ev_I) : Option (Int32) :=
  lX10_onesOf_4 q0 n (0 : Int32) x1 I
set_option maxRecDepth 100000 in
set_option maxHeartbeats 4000000 in
theorem tX10_onesOf_4 {E : ev_N} {σ : ev_H} (q0 : Nat) (g0 : shp tb9 σ q0) (K4 : Int32 → Int32 → ev_I → Option (Int32)) (k4 : ∀ (y2 : Int32) (y3 : Int32) (I : ev_I) (o : Int32), K4 y2 y3 I = some o → EV E mX10_onesOf 4 [none, none, some (.int y2), some (.int y3)] [] (h_w σ I) (Option.some (Value.int o), h_w σ I)) (n : Nat) (y2 : Int32) (y3 : Int32) (I : ev_I) (o : Int32) : cX10_onesOf_4 q0 K4 n y2 y3 I = some o → EV E mX10_onesOf 4 [none, none, some (.int y2), some (.int y3)] [] (h_w σ I) (Option.some (Value.int o), h_w σ I) := by
  intro h
  unfold cX10_onesOf_4 at h
  refine ev_iload_n dX10_onesOf_4 rfl ?_
  refine ev_if_eq (tgt := 21) dX10_onesOf_5 (by decide) (fun c1 => ?_) (fun c1 => ?_)
  · have h := ev_ifT h c1
    refine ev_iload_n dX10_onesOf_21 rfl ?_
    cases h
    exact er_i dX10_onesOf_22 rfl rfl
  · have h := ev_ifF h c1
    refine ev_iload_n dX10_onesOf_8 rfl ?_
    refine ev_iconst (v := (1 : Int32)) dX10_onesOf_9 (by decide) ?_
    refine ev_iadd dX10_onesOf_10 ?_
    obtain ⟨v2, ev2, h⟩ := ev_ltE h
    refine ew_nm ev2 ?_
    refine ew_istn (L' := [none, none, some (.int v2), some (.int y3)]) dX10_onesOf_11 (Nat.le_of_ble_eq_true rfl) rfl ?_
    refine ev_iload_n dX10_onesOf_12 rfl ?_
    refine ev_iload_n dX10_onesOf_13 rfl ?_
    refine ev_iconst (v := (1 : Int32)) dX10_onesOf_14 (by decide) ?_
    refine ev_isub dX10_onesOf_15 ?_
    refine ev_iand dX10_onesOf_16 ?_
    obtain ⟨v3, ev3, h⟩ := ev_ltE h
    refine ew_nm ev3 ?_
    refine ew_istn (L' := [none, none, some (.int v2), some (.int v3)]) dX10_onesOf_17 (Nat.le_of_ble_eq_true rfl) rfl ?_
    refine ev_goto (tgt := 4) dX10_onesOf_18 (by decide) ?_
    exact ev_weak (sb_n (sb_n (sb_s (sb_s sb_0)))) (k4 v2 v3 I _ h)
theorem tlX10_onesOf_4 {E : ev_N} {σ : ev_H} (q0 : Nat) (g0 : shp tb9 σ q0) : ∀ (n : Nat) (y2 : Int32) (y3 : Int32) (I : ev_I) (o : Int32), lX10_onesOf_4 q0 n y2 y3 I = some o → EV E mX10_onesOf 4 [none, none, some (.int y2), some (.int y3)] [] (h_w σ I) (Option.some (Value.int o), h_w σ I)
  | 0, _, _, _, _, h => by cases h
  | n + 1, y2, y3, I, o, h => tX10_onesOf_4 q0 g0 (lX10_onesOf_4 q0 n) (tlX10_onesOf_4 q0 g0 n) n y2 y3 I o h
set_option maxRecDepth 100000 in
set_option maxHeartbeats 4000000 in
theorem tX10_onesOf {E : ev_N} {σ : ev_H} (n : Nat) (q0 : Nat) (g0 : shp tb9 σ q0) (x1 : Int32) (I : ev_I) (o : Int32) (h : pX10_onesOf n q0 x1 I = some o) : ev_T E mX10_onesOf [.ref q0, .int x1] (h_w σ I) (Option.some (Value.int o), h_w σ I) := by
  unfold pX10_onesOf at h
  refine ev_met rfl rfl (Nat.le_of_ble_eq_true rfl) (ev_L0 (L' := [some (.ref q0), some (.int x1), none, none]) rfl ?_)
  refine ev_iconst (v := (0 : Int32)) dX10_onesOf_0 (by decide) ?_
  refine ew_istn (L' := [some (.ref q0), some (.int x1), some (.int (0 : Int32)), none]) dX10_onesOf_1 (Nat.le_of_ble_eq_true rfl) rfl ?_
  refine ev_iload_n dX10_onesOf_2 rfl ?_
  refine ew_istn (L' := [some (.ref q0), some (.int x1), some (.int (0 : Int32)), some (.int x1)]) dX10_onesOf_3 (Nat.le_of_ble_eq_true rfl) rfl ?_
  exact ev_weak (sb_n (sb_n (sb_s (sb_s sb_0)))) (tlX10_onesOf_4 q0 g0 n (0 : Int32) x1 I _ h)
-- ChainVotesModel thinks()V
def cX10_thinks_2 (q0 : Nat) (K2 : Int32 → ev_I → Option (ev_I)) (n : Nat) (y1 : Int32) (I : ev_I) : Option (ev_I) :=
  if (6010 : Int32) ≤ y1 then
    some I
  else
    ev_ck (ev_in y1 6010) <|
    ev_ck (ev_in y1 6010) <|
    ev_lt (ev_u2 I (q0 + 2) y1.toNatClampNeg (I (q0 + 1) y1.toNatClampNeg)) fun I4 =>
    ev_lt (y1 + (1 : Int32)) fun v5 =>
    K2 v5 I4
def lX10_thinks_2 (q0 : Nat) : Nat → Int32 → ev_I → Option (ev_I)
  | 0, _, _ => none
  | n + 1, y1, I => cX10_thinks_2 q0 (lX10_thinks_2 q0 n) n y1 I
def pX10_thinks (n : Nat) (q0 : Nat) (I : ev_I) : Option (ev_I) :=
  lX10_thinks_2 q0 n (0 : Int32) I
set_option maxRecDepth 100000 in
set_option maxHeartbeats 4000000 in
theorem tX10_thinks_2 {E : ev_N} {σ : ev_H} (q0 : Nat) (g0 : shp tb9 σ q0) (K2 : Int32 → ev_I → Option (ev_I)) (k2 : ∀ (y1 : Int32) (I : ev_I) (o : ev_I), K2 y1 I = some o → EV E mX10_thinks 2 [some (.ref q0), some (.int y1)] [] (h_w σ I) (Option.none, h_w σ o)) (n : Nat) (y1 : Int32) (I : ev_I) (o : ev_I) : cX10_thinks_2 q0 K2 n y1 I = some o → EV E mX10_thinks 2 [some (.ref q0), some (.int y1)] [] (h_w σ I) (Option.none, h_w σ o) := by
  intro h
  unfold cX10_thinks_2 at h
  refine ev_iload_n dX10_thinks_2 rfl ?_
  refine ev_sipush (v := (6010 : Int32)) dX10_thinks_3 (by decide) ?_
  refine ev_icmp_ge (tgt := 27) dX10_thinks_6 (by decide) (fun c1 => ?_) (fun c1 => ?_)
  · have h := ev_ifT h c1
    cases h
    exact er_v dX10_thinks_27 rfl
  · have h := ev_ifF h c1
    refine ev_aload_n dX10_thinks_9 rfl (fun _ e => by cases e) ?_
    refine ew_getr0 dX10_thinks_10 fX10_13 g0 rfl rfl rfl rfl ?_
    refine ev_iload_n dX10_thinks_13 rfl ?_
    refine ev_aload_n dX10_thinks_14 rfl (fun _ e => by cases e) ?_
    refine ew_getr0 dX10_thinks_15 fX10_7 g0 rfl rfl rfl rfl ?_
    refine ev_iload_n dX10_thinks_18 rfl ?_
    obtain ⟨c2, h⟩ := ev_ckE h
    refine ew_iald dX10_thinks_19 (shp_a g0 1 rfl) c2 ?_
    obtain ⟨c3, h⟩ := ev_ckE h
    obtain ⟨I4, eI4, h⟩ := ev_ltE h
    refine ew_iast dX10_thinks_20 (shp_a g0 2 rfl) c3 (ew_nh eI4 ?_)
    obtain ⟨v5, ev5, h⟩ := ev_ltE h
    refine ew_iinc (L' := [some (.ref q0), some (.int v5)]) dX10_thinks_21 (Nat.le_of_ble_eq_true rfl) rfl (by decide) ev5 rfl ?_
    refine ev_goto (tgt := 2) dX10_thinks_24 (by decide) ?_
    exact ev_weak (sb_s (sb_s sb_0)) (k2 v5 I4 _ h)
theorem tlX10_thinks_2 {E : ev_N} {σ : ev_H} (q0 : Nat) (g0 : shp tb9 σ q0) : ∀ (n : Nat) (y1 : Int32) (I : ev_I) (o : ev_I), lX10_thinks_2 q0 n y1 I = some o → EV E mX10_thinks 2 [some (.ref q0), some (.int y1)] [] (h_w σ I) (Option.none, h_w σ o)
  | 0, _, _, _, h => by cases h
  | n + 1, y1, I, o, h => tX10_thinks_2 q0 g0 (lX10_thinks_2 q0 n) (tlX10_thinks_2 q0 g0 n) n y1 I o h
set_option maxRecDepth 100000 in
set_option maxHeartbeats 4000000 in
theorem tX10_thinks {E : ev_N} {σ : ev_H} (n : Nat) (q0 : Nat) (g0 : shp tb9 σ q0) (I : ev_I) (o : ev_I) (h : pX10_thinks n q0  I = some o) : ev_T E mX10_thinks [.ref q0] (h_w σ I) (Option.none, h_w σ o) := by
  unfold pX10_thinks at h
  refine ev_met rfl rfl (Nat.le_of_ble_eq_true rfl) (ev_L0 (L' := [some (.ref q0), none]) rfl ?_)
  refine ev_iconst (v := (0 : Int32)) dX10_thinks_0 (by decide) ?_
  refine ew_istn (L' := [some (.ref q0), some (.int (0 : Int32))]) dX10_thinks_1 (Nat.le_of_ble_eq_true rfl) rfl ?_
  exact ev_weak (sb_s (sb_s sb_0)) (tlX10_thinks_2 q0 g0 n (0 : Int32) I _ h)
-- ChainVotesModel endsThought()V
def cX10_endsThought_2 (q0 : Nat) (K2 : Int32 → ev_I → Option (ev_I)) (n : Nat) (y1 : Int32) (I : ev_I) : Option (ev_I) :=
  if (6010 : Int32) ≤ y1 then
    some I
  else
    ev_ck (ev_in y1 6010) <|
    ev_ck (ev_in y1 6010) <|
    ev_lt (ev_u2 I (q0 + 1) y1.toNatClampNeg (I (q0 + 2) y1.toNatClampNeg)) fun I4 =>
    ev_lt (y1 + (1 : Int32)) fun v5 =>
    K2 v5 I4
def lX10_endsThought_2 (q0 : Nat) : Nat → Int32 → ev_I → Option (ev_I)
  | 0, _, _ => none
  | n + 1, y1, I => cX10_endsThought_2 q0 (lX10_endsThought_2 q0 n) n y1 I
def pX10_endsThought (n : Nat) (q0 : Nat) (I : ev_I) : Option (ev_I) :=
  lX10_endsThought_2 q0 n (0 : Int32) I
set_option maxRecDepth 100000 in
set_option maxHeartbeats 4000000 in
theorem tX10_endsThought_2 {E : ev_N} {σ : ev_H} (q0 : Nat) (g0 : shp tb9 σ q0) (K2 : Int32 → ev_I → Option (ev_I)) (k2 : ∀ (y1 : Int32) (I : ev_I) (o : ev_I), K2 y1 I = some o → EV E mX10_endsThought 2 [some (.ref q0), some (.int y1)] [] (h_w σ I) (Option.none, h_w σ o)) (n : Nat) (y1 : Int32) (I : ev_I) (o : ev_I) : cX10_endsThought_2 q0 K2 n y1 I = some o → EV E mX10_endsThought 2 [some (.ref q0), some (.int y1)] [] (h_w σ I) (Option.none, h_w σ o) := by
  intro h
  unfold cX10_endsThought_2 at h
  refine ev_iload_n dX10_endsThought_2 rfl ?_
  refine ev_sipush (v := (6010 : Int32)) dX10_endsThought_3 (by decide) ?_
  refine ev_icmp_ge (tgt := 27) dX10_endsThought_6 (by decide) (fun c1 => ?_) (fun c1 => ?_)
  · have h := ev_ifT h c1
    cases h
    exact er_v dX10_endsThought_27 rfl
  · have h := ev_ifF h c1
    refine ev_aload_n dX10_endsThought_9 rfl (fun _ e => by cases e) ?_
    refine ew_getr0 dX10_endsThought_10 fX10_7 g0 rfl rfl rfl rfl ?_
    refine ev_iload_n dX10_endsThought_13 rfl ?_
    refine ev_aload_n dX10_endsThought_14 rfl (fun _ e => by cases e) ?_
    refine ew_getr0 dX10_endsThought_15 fX10_13 g0 rfl rfl rfl rfl ?_
    refine ev_iload_n dX10_endsThought_18 rfl ?_
    obtain ⟨c2, h⟩ := ev_ckE h
    refine ew_iald dX10_endsThought_19 (shp_a g0 2 rfl) c2 ?_
    obtain ⟨c3, h⟩ := ev_ckE h
    obtain ⟨I4, eI4, h⟩ := ev_ltE h
    refine ew_iast dX10_endsThought_20 (shp_a g0 1 rfl) c3 (ew_nh eI4 ?_)
    obtain ⟨v5, ev5, h⟩ := ev_ltE h
    refine ew_iinc (L' := [some (.ref q0), some (.int v5)]) dX10_endsThought_21 (Nat.le_of_ble_eq_true rfl) rfl (by decide) ev5 rfl ?_
    refine ev_goto (tgt := 2) dX10_endsThought_24 (by decide) ?_
    exact ev_weak (sb_s (sb_s sb_0)) (k2 v5 I4 _ h)
theorem tlX10_endsThought_2 {E : ev_N} {σ : ev_H} (q0 : Nat) (g0 : shp tb9 σ q0) : ∀ (n : Nat) (y1 : Int32) (I : ev_I) (o : ev_I), lX10_endsThought_2 q0 n y1 I = some o → EV E mX10_endsThought 2 [some (.ref q0), some (.int y1)] [] (h_w σ I) (Option.none, h_w σ o)
  | 0, _, _, _, h => by cases h
  | n + 1, y1, I, o, h => tX10_endsThought_2 q0 g0 (lX10_endsThought_2 q0 n) (tlX10_endsThought_2 q0 g0 n) n y1 I o h
set_option maxRecDepth 100000 in
set_option maxHeartbeats 4000000 in
theorem tX10_endsThought {E : ev_N} {σ : ev_H} (n : Nat) (q0 : Nat) (g0 : shp tb9 σ q0) (I : ev_I) (o : ev_I) (h : pX10_endsThought n q0  I = some o) : ev_T E mX10_endsThought [.ref q0] (h_w σ I) (Option.none, h_w σ o) := by
  unfold pX10_endsThought at h
  refine ev_met rfl rfl (Nat.le_of_ble_eq_true rfl) (ev_L0 (L' := [some (.ref q0), none]) rfl ?_)
  refine ev_iconst (v := (0 : Int32)) dX10_endsThought_0 (by decide) ?_
  refine ew_istn (L' := [some (.ref q0), some (.int (0 : Int32))]) dX10_endsThought_1 (Nat.le_of_ble_eq_true rfl) rfl ?_
  exact ev_weak (sb_s (sb_s sb_0)) (tlX10_endsThought_2 q0 g0 n (0 : Int32) I _ h)
-- ChainVotesModel nodeMany()I
def pX10_nodeMany (n : Nat) (q0 : Nat) (I : ev_I) : Option (Int32) :=
  some ((I (q0 + 1) (0 : Int32).toNatClampNeg) + (4 : Int32))
set_option maxRecDepth 100000 in
set_option maxHeartbeats 4000000 in
theorem tX10_nodeMany {E : ev_N} {σ : ev_H} (n : Nat) (q0 : Nat) (g0 : shp tb9 σ q0) (I : ev_I) (o : Int32) (h : pX10_nodeMany n q0  I = some o) : ev_T E mX10_nodeMany [.ref q0] (h_w σ I) (Option.some (Value.int o), h_w σ I) := by
  unfold pX10_nodeMany at h
  refine ev_met rfl rfl (Nat.le_of_ble_eq_true rfl) (ev_L0 (L' := [some (.ref q0)]) rfl ?_)
  refine ev_aload_n dX10_nodeMany_0 rfl (fun _ e => by cases e) ?_
  refine ew_getr0 dX10_nodeMany_1 fX10_7 g0 rfl rfl rfl rfl ?_
  refine ev_iconst (v := (0 : Int32)) dX10_nodeMany_4 (by decide) ?_
  refine ew_iald dX10_nodeMany_5 (shp_a g0 1 rfl) (by decide) ?_
  refine ev_iconst (v := (4 : Int32)) dX10_nodeMany_6 (by decide) ?_
  refine ev_iadd dX10_nodeMany_7 ?_
  cases h
  exact er_i dX10_nodeMany_8 rfl rfl
-- ChainVotesModel quorum()I
def pX10_quorum (n : Nat) (q0 : Nat) (I : ev_I) : Option (Int32) :=
  (pX10_nodeMany n q0  I).bind fun z1 =>
  (pX10_nodeMany n q0  I).bind fun z2 =>
  some (z1 - ((z2 - (1 : Int32)) / (3 : Int32)))
set_option maxRecDepth 100000 in
set_option maxHeartbeats 4000000 in
theorem tX10_quorum {E : ev_N} {σ : ev_H} (n : Nat) (q0 : Nat) (g0 : shp tb9 σ q0) (I : ev_I) (o : Int32) (h : pX10_quorum n q0  I = some o) : ev_T E mX10_quorum [.ref q0] (h_w σ I) (Option.some (Value.int o), h_w σ I) := by
  unfold pX10_quorum at h
  refine ev_met rfl rfl (Nat.le_of_ble_eq_true rfl) (ev_L0 (L' := [some (.ref q0)]) rfl ?_)
  refine ev_aload_n dX10_quorum_0 rfl (fun _ e => by cases e) ?_
  obtain ⟨z1, hz1, h⟩ := ev_bnE h
  refine ec_Vi (Y := mX10_nodeMany) (ci := 9) (As := []) (rest := []) dX10_quorum_1 kX10_47 oX10_nodeMany ⟨Nat.le_of_ble_eq_true rfl, Nat.le_of_ble_eq_true rfl⟩ (by decide) rfl (shp_n g0 0 rfl) (shp_t g0 0 rfl) rfl (Nat.le_of_ble_eq_true rfl) (tX10_nodeMany n q0 g0  I z1 hz1) rfl ?_
  refine ev_aload_n dX10_quorum_4 rfl (fun _ e => by cases e) ?_
  obtain ⟨z2, hz2, h⟩ := ev_bnE h
  refine ec_Vi (Y := mX10_nodeMany) (ci := 9) (As := []) (rest := [(.int z1)]) dX10_quorum_5 kX10_47 oX10_nodeMany ⟨Nat.le_of_ble_eq_true rfl, Nat.le_of_ble_eq_true rfl⟩ (by decide) rfl (shp_n g0 0 rfl) (shp_t g0 0 rfl) rfl (Nat.le_of_ble_eq_true rfl) (tX10_nodeMany n q0 g0  I z2 hz2) rfl ?_
  refine ev_iconst (v := (1 : Int32)) dX10_quorum_8 (by decide) ?_
  refine ev_isub dX10_quorum_9 ?_
  refine ev_iconst (v := (3 : Int32)) dX10_quorum_10 (by decide) ?_
  refine ev_idiv dX10_quorum_11 (by decide) ?_
  refine ev_isub dX10_quorum_12 ?_
  cases h
  exact er_i dX10_quorum_13 rfl rfl
-- ChainVotesModel blockMany()I
def pX10_blockMany (n : Nat) (q0 : Nat) (I : ev_I) : Option (Int32) :=
  some ((I (q0 + 1) (3 : Int32).toNatClampNeg) + (1 : Int32))
set_option maxRecDepth 100000 in
set_option maxHeartbeats 4000000 in
theorem tX10_blockMany {E : ev_N} {σ : ev_H} (n : Nat) (q0 : Nat) (g0 : shp tb9 σ q0) (I : ev_I) (o : Int32) (h : pX10_blockMany n q0  I = some o) : ev_T E mX10_blockMany [.ref q0] (h_w σ I) (Option.some (Value.int o), h_w σ I) := by
  unfold pX10_blockMany at h
  refine ev_met rfl rfl (Nat.le_of_ble_eq_true rfl) (ev_L0 (L' := [some (.ref q0)]) rfl ?_)
  refine ev_aload_n dX10_blockMany_0 rfl (fun _ e => by cases e) ?_
  refine ew_getr0 dX10_blockMany_1 fX10_7 g0 rfl rfl rfl rfl ?_
  refine ev_iconst (v := (3 : Int32)) dX10_blockMany_4 (by decide) ?_
  refine ew_iald dX10_blockMany_5 (shp_a g0 1 rfl) (by decide) ?_
  refine ev_iconst (v := (1 : Int32)) dX10_blockMany_6 (by decide) ?_
  refine ev_iadd dX10_blockMany_7 ?_
  cases h
  exact er_i dX10_blockMany_8 rfl rfl
-- ChainVotesModel nodeAt(I)I
def pX10_nodeAt (n : Nat) (q0 : Nat) (x1 : Int32) (I : ev_I) : Option (Int32) :=
  some ((2416 : Int32) + ((513 : Int32) * x1))
set_option maxRecDepth 100000 in
set_option maxHeartbeats 4000000 in
theorem tX10_nodeAt {E : ev_N} {σ : ev_H} (n : Nat) (q0 : Nat) (g0 : shp tb9 σ q0) (x1 : Int32) (I : ev_I) (o : Int32) (h : pX10_nodeAt n q0 x1 I = some o) : ev_T E mX10_nodeAt [.ref q0, .int x1] (h_w σ I) (Option.some (Value.int o), h_w σ I) := by
  unfold pX10_nodeAt at h
  refine ev_met rfl rfl (Nat.le_of_ble_eq_true rfl) (ev_L0 (L' := [some (.ref q0), some (.int x1)]) rfl ?_)
  refine ev_sipush (v := (2416 : Int32)) dX10_nodeAt_0 (by decide) ?_
  refine ev_sipush (v := (513 : Int32)) dX10_nodeAt_3 (by decide) ?_
  refine ev_iload_n dX10_nodeAt_6 rfl ?_
  refine ev_imul dX10_nodeAt_7 ?_
  refine ev_iadd dX10_nodeAt_8 ?_
  cases h
  exact er_i dX10_nodeAt_9 rfl rfl
-- ChainVotesModel isNode(I)Z
def pX10_isNode (n : Nat) (q0 : Nat) (x1 : Int32) (I : ev_I) : Option (Int32) :=
  if x1 < 0 then
    some (0 : Int32)
  else
    (pX10_nodeMany n q0  I).bind fun z2 =>
    if z2 ≤ x1 then
      some (0 : Int32)
    else
      some (1 : Int32)
set_option maxRecDepth 100000 in
set_option maxHeartbeats 4000000 in
theorem tX10_isNode {E : ev_N} {σ : ev_H} (n : Nat) (q0 : Nat) (g0 : shp tb9 σ q0) (x1 : Int32) (I : ev_I) (o : Int32) (h : pX10_isNode n q0 x1 I = some o) : ev_T E mX10_isNode [.ref q0, .int x1] (h_w σ I) (Option.some (Value.int o), h_w σ I) := by
  unfold pX10_isNode at h
  refine ev_met rfl rfl (Nat.le_of_ble_eq_true rfl) (ev_L0 (L' := [some (.ref q0), some (.int x1)]) rfl ?_)
  refine ev_iload_n dX10_isNode_0 rfl ?_
  refine ev_if_lt (tgt := 16) dX10_isNode_1 (by decide) (fun c1 => ?_) (fun c1 => ?_)
  · have h := ev_ifT h c1
    refine ev_iconst (v := (0 : Int32)) dX10_isNode_16 (by decide) ?_
    cases h
    exact er_i dX10_isNode_17 rfl rfl
  · have h := ev_ifF h c1
    refine ev_iload_n dX10_isNode_4 rfl ?_
    refine ev_aload_n dX10_isNode_5 rfl (fun _ e => by cases e) ?_
    obtain ⟨z2, hz2, h⟩ := ev_bnE h
    refine ec_Vi (Y := mX10_nodeMany) (ci := 9) (As := []) (rest := [(.int x1)]) dX10_isNode_6 kX10_47 oX10_nodeMany ⟨Nat.le_of_ble_eq_true rfl, Nat.le_of_ble_eq_true rfl⟩ (by decide) rfl (shp_n g0 0 rfl) (shp_t g0 0 rfl) rfl (Nat.le_of_ble_eq_true rfl) (tX10_nodeMany n q0 g0  I z2 hz2) rfl ?_
    refine ev_icmp_ge (tgt := 16) dX10_isNode_9 (by decide) (fun c3 => ?_) (fun c3 => ?_)
    · have h := ev_ifT h c3
      refine ev_iconst (v := (0 : Int32)) dX10_isNode_16 (by decide) ?_
      cases h
      exact er_i dX10_isNode_17 rfl rfl
    · have h := ev_ifF h c3
      refine ev_iconst (v := (1 : Int32)) dX10_isNode_12 (by decide) ?_
      refine ev_goto (tgt := 17) dX10_isNode_13 (by decide) ?_
      cases h
      exact er_i dX10_isNode_17 rfl rfl
-- ChainVotesModel isBlock(I)Z
def pX10_isBlock (n : Nat) (q0 : Nat) (x1 : Int32) (I : ev_I) : Option (Int32) :=
  if x1 < 0 then
    some (0 : Int32)
  else
    (pX10_blockMany n q0  I).bind fun z2 =>
    if z2 ≤ x1 then
      some (0 : Int32)
    else
      some (1 : Int32)
set_option maxRecDepth 100000 in
set_option maxHeartbeats 4000000 in
theorem tX10_isBlock {E : ev_N} {σ : ev_H} (n : Nat) (q0 : Nat) (g0 : shp tb9 σ q0) (x1 : Int32) (I : ev_I) (o : Int32) (h : pX10_isBlock n q0 x1 I = some o) : ev_T E mX10_isBlock [.ref q0, .int x1] (h_w σ I) (Option.some (Value.int o), h_w σ I) := by
  unfold pX10_isBlock at h
  refine ev_met rfl rfl (Nat.le_of_ble_eq_true rfl) (ev_L0 (L' := [some (.ref q0), some (.int x1)]) rfl ?_)
  refine ev_iload_n dX10_isBlock_0 rfl ?_
  refine ev_if_lt (tgt := 16) dX10_isBlock_1 (by decide) (fun c1 => ?_) (fun c1 => ?_)
  · have h := ev_ifT h c1
    refine ev_iconst (v := (0 : Int32)) dX10_isBlock_16 (by decide) ?_
    cases h
    exact er_i dX10_isBlock_17 rfl rfl
  · have h := ev_ifF h c1
    refine ev_iload_n dX10_isBlock_4 rfl ?_
    refine ev_aload_n dX10_isBlock_5 rfl (fun _ e => by cases e) ?_
    obtain ⟨z2, hz2, h⟩ := ev_bnE h
    refine ec_Vi (Y := mX10_blockMany) (ci := 9) (As := []) (rest := [(.int x1)]) dX10_isBlock_6 kX10_51 oX10_blockMany ⟨Nat.le_of_ble_eq_true rfl, Nat.le_of_ble_eq_true rfl⟩ (by decide) rfl (shp_n g0 0 rfl) (shp_t g0 0 rfl) rfl (Nat.le_of_ble_eq_true rfl) (tX10_blockMany n q0 g0  I z2 hz2) rfl ?_
    refine ev_icmp_ge (tgt := 16) dX10_isBlock_9 (by decide) (fun c3 => ?_) (fun c3 => ?_)
    · have h := ev_ifT h c3
      refine ev_iconst (v := (0 : Int32)) dX10_isBlock_16 (by decide) ?_
      cases h
      exact er_i dX10_isBlock_17 rfl rfl
    · have h := ev_ifF h c3
      refine ev_iconst (v := (1 : Int32)) dX10_isBlock_12 (by decide) ?_
      refine ev_goto (tgt := 17) dX10_isBlock_13 (by decide) ?_
      cases h
      exact er_i dX10_isBlock_17 rfl rfl
-- ChainVotesModel isCertified(I)Z
def pX10_isCertified (n : Nat) (q0 : Nat) (x1 : Int32) (I : ev_I) : Option (Int32) :=
  if x1 = 0 then
    some (1 : Int32)
  else
    ev_ck (ev_in ((716 : Int32) + x1) 6010) <|
    if (I (q0 + 1) ((716 : Int32) + x1).toNatClampNeg) = (1 : Int32) then
      some (1 : Int32)
    else
      some (0 : Int32)
set_option maxRecDepth 100000 in
set_option maxHeartbeats 4000000 in
theorem tX10_isCertified {E : ev_N} {σ : ev_H} (n : Nat) (q0 : Nat) (g0 : shp tb9 σ q0) (x1 : Int32) (I : ev_I) (o : Int32) (h : pX10_isCertified n q0 x1 I = some o) : ev_T E mX10_isCertified [.ref q0, .int x1] (h_w σ I) (Option.some (Value.int o), h_w σ I) := by
  unfold pX10_isCertified at h
  refine ev_met rfl rfl (Nat.le_of_ble_eq_true rfl) (ev_L0 (L' := [some (.ref q0), some (.int x1)]) rfl ?_)
  refine ev_iload_n dX10_isCertified_0 rfl ?_
  refine ev_if_eq (tgt := 18) dX10_isCertified_1 (by decide) (fun c1 => ?_) (fun c1 => ?_)
  · have h := ev_ifT h c1
    refine ev_iconst (v := (1 : Int32)) dX10_isCertified_18 (by decide) ?_
    refine ev_goto (tgt := 23) dX10_isCertified_19 (by decide) ?_
    cases h
    exact er_i dX10_isCertified_23 rfl rfl
  · have h := ev_ifF h c1
    refine ev_aload_n dX10_isCertified_4 rfl (fun _ e => by cases e) ?_
    refine ew_getr0 dX10_isCertified_5 fX10_7 g0 rfl rfl rfl rfl ?_
    refine ev_sipush (v := (716 : Int32)) dX10_isCertified_8 (by decide) ?_
    refine ev_iload_n dX10_isCertified_11 rfl ?_
    refine ev_iadd dX10_isCertified_12 ?_
    obtain ⟨c2, h⟩ := ev_ckE h
    refine ew_iald dX10_isCertified_13 (shp_a g0 1 rfl) c2 ?_
    refine ev_iconst (v := (1 : Int32)) dX10_isCertified_14 (by decide) ?_
    refine ev_icmp_ne (tgt := 22) dX10_isCertified_15 (by decide) (fun c3 => ?_) (fun c3 => ?_)
    · have h := ev_ifF h c3
      refine ev_iconst (v := (0 : Int32)) dX10_isCertified_22 (by decide) ?_
      cases h
      exact er_i dX10_isCertified_23 rfl rfl
    · have h := ev_ifT h c3
      refine ev_iconst (v := (1 : Int32)) dX10_isCertified_18 (by decide) ?_
      refine ev_goto (tgt := 23) dX10_isCertified_19 (by decide) ?_
      cases h
      exact er_i dX10_isCertified_23 rfl rfl
-- ChainVotesModel parentOf(I)I
def pX10_parentOf (n : Nat) (q0 : Nat) (x1 : Int32) (I : ev_I) : Option (Int32) :=
  ev_ck (ev_in ((116 : Int32) + x1) 6010) <|
  some ((I (q0 + 1) ((116 : Int32) + x1).toNatClampNeg) - (1 : Int32))
set_option maxRecDepth 100000 in
set_option maxHeartbeats 4000000 in
theorem tX10_parentOf {E : ev_N} {σ : ev_H} (n : Nat) (q0 : Nat) (g0 : shp tb9 σ q0) (x1 : Int32) (I : ev_I) (o : Int32) (h : pX10_parentOf n q0 x1 I = some o) : ev_T E mX10_parentOf [.ref q0, .int x1] (h_w σ I) (Option.some (Value.int o), h_w σ I) := by
  unfold pX10_parentOf at h
  refine ev_met rfl rfl (Nat.le_of_ble_eq_true rfl) (ev_L0 (L' := [some (.ref q0), some (.int x1)]) rfl ?_)
  refine ev_aload_n dX10_parentOf_0 rfl (fun _ e => by cases e) ?_
  refine ew_getr0 dX10_parentOf_1 fX10_7 g0 rfl rfl rfl rfl ?_
  refine ev_bipush (v := (116 : Int32)) dX10_parentOf_4 (by decide) ?_
  refine ev_iload_n dX10_parentOf_6 rfl ?_
  refine ev_iadd dX10_parentOf_7 ?_
  obtain ⟨c1, h⟩ := ev_ckE h
  refine ew_iald dX10_parentOf_8 (shp_a g0 1 rfl) c1 ?_
  refine ev_iconst (v := (1 : Int32)) dX10_parentOf_9 (by decide) ?_
  refine ev_isub dX10_parentOf_10 ?_
  cases h
  exact er_i dX10_parentOf_11 rfl rfl
-- ChainVotesModel viewOf(I)I
def pX10_viewOf (n : Nat) (q0 : Nat) (x1 : Int32) (I : ev_I) : Option (Int32) :=
  (pX10_nodeAt n q0 x1 I).bind fun z1 =>
  ev_ck (ev_in (z1 + (1 : Int32)) 6010) <|
  some ((I (q0 + 1) (z1 + (1 : Int32)).toNatClampNeg) + (1 : Int32))
set_option maxRecDepth 100000 in
set_option maxHeartbeats 4000000 in
theorem tX10_viewOf {E : ev_N} {σ : ev_H} (n : Nat) (q0 : Nat) (g0 : shp tb9 σ q0) (x1 : Int32) (I : ev_I) (o : Int32) (h : pX10_viewOf n q0 x1 I = some o) : ev_T E mX10_viewOf [.ref q0, .int x1] (h_w σ I) (Option.some (Value.int o), h_w σ I) := by
  unfold pX10_viewOf at h
  refine ev_met rfl rfl (Nat.le_of_ble_eq_true rfl) (ev_L0 (L' := [some (.ref q0), some (.int x1)]) rfl ?_)
  refine ev_aload_n dX10_viewOf_0 rfl (fun _ e => by cases e) ?_
  refine ew_getr0 dX10_viewOf_1 fX10_7 g0 rfl rfl rfl rfl ?_
  refine ev_aload_n dX10_viewOf_4 rfl (fun _ e => by cases e) ?_
  refine ev_iload_n dX10_viewOf_5 rfl ?_
  obtain ⟨z1, hz1, h⟩ := ev_bnE h
  refine ec_Vi (Y := mX10_nodeAt) (ci := 9) (As := [.int x1]) (rest := [(.ref (q0 + 1))]) dX10_viewOf_6 kX10_54 oX10_nodeAt ⟨Nat.le_of_ble_eq_true rfl, Nat.le_of_ble_eq_true rfl⟩ (by decide) rfl (shp_n g0 0 rfl) (shp_t g0 0 rfl) rfl (Nat.le_of_ble_eq_true rfl) (tX10_nodeAt n q0 g0 x1 I z1 hz1) rfl ?_
  refine ev_iconst (v := (1 : Int32)) dX10_viewOf_9 (by decide) ?_
  refine ev_iadd dX10_viewOf_10 ?_
  obtain ⟨c2, h⟩ := ev_ckE h
  refine ew_iald dX10_viewOf_11 (shp_a g0 1 rfl) c2 ?_
  refine ev_iconst (v := (1 : Int32)) dX10_viewOf_12 (by decide) ?_
  refine ev_iadd dX10_viewOf_13 ?_
  cases h
  exact er_i dX10_viewOf_14 rfl rfl
-- ChainVotesModel goesTo(II)V
def pX10_goesTo (n : Nat) (q0 : Nat) (x1 : Int32) (x2 : Int32) (I : ev_I) : Option (ev_I) :=
  (pX10_nodeAt n q0 x1 I).bind fun z1 =>
  ev_ck (ev_in (z1 + (1 : Int32)) 6010) <|
  ev_lt (ev_u2 I (q0 + 1) (z1 + (1 : Int32)).toNatClampNeg (x2 - (1 : Int32))) fun I3 =>
  some I3
set_option maxRecDepth 100000 in
set_option maxHeartbeats 4000000 in
theorem tX10_goesTo {E : ev_N} {σ : ev_H} (n : Nat) (q0 : Nat) (g0 : shp tb9 σ q0) (x1 : Int32) (x2 : Int32) (I : ev_I) (o : ev_I) (h : pX10_goesTo n q0 x1 x2 I = some o) : ev_T E mX10_goesTo [.ref q0, .int x1, .int x2] (h_w σ I) (Option.none, h_w σ o) := by
  unfold pX10_goesTo at h
  refine ev_met rfl rfl (Nat.le_of_ble_eq_true rfl) (ev_L0 (L' := [some (.ref q0), some (.int x1), some (.int x2)]) rfl ?_)
  refine ev_aload_n dX10_goesTo_0 rfl (fun _ e => by cases e) ?_
  refine ew_getr0 dX10_goesTo_1 fX10_7 g0 rfl rfl rfl rfl ?_
  refine ev_aload_n dX10_goesTo_4 rfl (fun _ e => by cases e) ?_
  refine ev_iload_n dX10_goesTo_5 rfl ?_
  obtain ⟨z1, hz1, h⟩ := ev_bnE h
  refine ec_Vi (Y := mX10_nodeAt) (ci := 9) (As := [.int x1]) (rest := [(.ref (q0 + 1))]) dX10_goesTo_6 kX10_54 oX10_nodeAt ⟨Nat.le_of_ble_eq_true rfl, Nat.le_of_ble_eq_true rfl⟩ (by decide) rfl (shp_n g0 0 rfl) (shp_t g0 0 rfl) rfl (Nat.le_of_ble_eq_true rfl) (tX10_nodeAt n q0 g0 x1 I z1 hz1) rfl ?_
  refine ev_iconst (v := (1 : Int32)) dX10_goesTo_9 (by decide) ?_
  refine ev_iadd dX10_goesTo_10 ?_
  refine ev_iload_n dX10_goesTo_11 rfl ?_
  refine ev_iconst (v := (1 : Int32)) dX10_goesTo_12 (by decide) ?_
  refine ev_isub dX10_goesTo_13 ?_
  obtain ⟨c2, h⟩ := ev_ckE h
  obtain ⟨I3, eI3, h⟩ := ev_ltE h
  refine ew_iast dX10_goesTo_14 (shp_a g0 1 rfl) c2 (ew_nh eI3 ?_)
  cases h
  exact er_v dX10_goesTo_15 rfl
-- ChainVotesModel logMany(I)I
def pX10_logMany (n : Nat) (q0 : Nat) (x1 : Int32) (I : ev_I) : Option (Int32) :=
  (pX10_nodeAt n q0 x1 I).bind fun z1 =>
  ev_ck (ev_in (z1 + (8 : Int32)) 6010) <|
  some ((I (q0 + 1) (z1 + (8 : Int32)).toNatClampNeg) + (1 : Int32))
set_option maxRecDepth 100000 in
set_option maxHeartbeats 4000000 in
theorem tX10_logMany {E : ev_N} {σ : ev_H} (n : Nat) (q0 : Nat) (g0 : shp tb9 σ q0) (x1 : Int32) (I : ev_I) (o : Int32) (h : pX10_logMany n q0 x1 I = some o) : ev_T E mX10_logMany [.ref q0, .int x1] (h_w σ I) (Option.some (Value.int o), h_w σ I) := by
  unfold pX10_logMany at h
  refine ev_met rfl rfl (Nat.le_of_ble_eq_true rfl) (ev_L0 (L' := [some (.ref q0), some (.int x1)]) rfl ?_)
  refine ev_aload_n dX10_logMany_0 rfl (fun _ e => by cases e) ?_
  refine ew_getr0 dX10_logMany_1 fX10_7 g0 rfl rfl rfl rfl ?_
  refine ev_aload_n dX10_logMany_4 rfl (fun _ e => by cases e) ?_
  refine ev_iload_n dX10_logMany_5 rfl ?_
  obtain ⟨z1, hz1, h⟩ := ev_bnE h
  refine ec_Vi (Y := mX10_nodeAt) (ci := 9) (As := [.int x1]) (rest := [(.ref (q0 + 1))]) dX10_logMany_6 kX10_54 oX10_nodeAt ⟨Nat.le_of_ble_eq_true rfl, Nat.le_of_ble_eq_true rfl⟩ (by decide) rfl (shp_n g0 0 rfl) (shp_t g0 0 rfl) rfl (Nat.le_of_ble_eq_true rfl) (tX10_nodeAt n q0 g0 x1 I z1 hz1) rfl ?_
  refine ev_bipush (v := (8 : Int32)) dX10_logMany_9 (by decide) ?_
  refine ev_iadd dX10_logMany_11 ?_
  obtain ⟨c2, h⟩ := ev_ckE h
  refine ew_iald dX10_logMany_12 (shp_a g0 1 rfl) c2 ?_
  refine ev_iconst (v := (1 : Int32)) dX10_logMany_13 (by decide) ?_
  refine ev_iadd dX10_logMany_14 ?_
  cases h
  exact er_i dX10_logMany_15 rfl rfl
-- ChainVotesModel logLast(I)I
def pX10_logLast (n : Nat) (q0 : Nat) (x1 : Int32) (I : ev_I) : Option (Int32) :=
  (pX10_nodeAt n q0 x1 I).bind fun z1 =>
  (pX10_nodeAt n q0 x1 I).bind fun z2 =>
  ev_ck (ev_in (z2 + (8 : Int32)) 6010) <|
  ev_ck (ev_in ((z1 + (12 : Int32)) + (I (q0 + 1) (z2 + (8 : Int32)).toNatClampNeg)) 6010) <|
  some (I (q0 + 1) ((z1 + (12 : Int32)) + (I (q0 + 1) (z2 + (8 : Int32)).toNatClampNeg)).toNatClampNeg)
set_option maxRecDepth 100000 in
set_option maxHeartbeats 4000000 in
theorem tX10_logLast {E : ev_N} {σ : ev_H} (n : Nat) (q0 : Nat) (g0 : shp tb9 σ q0) (x1 : Int32) (I : ev_I) (o : Int32) (h : pX10_logLast n q0 x1 I = some o) : ev_T E mX10_logLast [.ref q0, .int x1] (h_w σ I) (Option.some (Value.int o), h_w σ I) := by
  unfold pX10_logLast at h
  refine ev_met rfl rfl (Nat.le_of_ble_eq_true rfl) (ev_L0 (L' := [some (.ref q0), some (.int x1)]) rfl ?_)
  refine ev_aload_n dX10_logLast_0 rfl (fun _ e => by cases e) ?_
  refine ew_getr0 dX10_logLast_1 fX10_7 g0 rfl rfl rfl rfl ?_
  refine ev_aload_n dX10_logLast_4 rfl (fun _ e => by cases e) ?_
  refine ev_iload_n dX10_logLast_5 rfl ?_
  obtain ⟨z1, hz1, h⟩ := ev_bnE h
  refine ec_Vi (Y := mX10_nodeAt) (ci := 9) (As := [.int x1]) (rest := [(.ref (q0 + 1))]) dX10_logLast_6 kX10_54 oX10_nodeAt ⟨Nat.le_of_ble_eq_true rfl, Nat.le_of_ble_eq_true rfl⟩ (by decide) rfl (shp_n g0 0 rfl) (shp_t g0 0 rfl) rfl (Nat.le_of_ble_eq_true rfl) (tX10_nodeAt n q0 g0 x1 I z1 hz1) rfl ?_
  refine ev_bipush (v := (12 : Int32)) dX10_logLast_9 (by decide) ?_
  refine ev_iadd dX10_logLast_11 ?_
  refine ev_aload_n dX10_logLast_12 rfl (fun _ e => by cases e) ?_
  refine ew_getr0 dX10_logLast_13 fX10_7 g0 rfl rfl rfl rfl ?_
  refine ev_aload_n dX10_logLast_16 rfl (fun _ e => by cases e) ?_
  refine ev_iload_n dX10_logLast_17 rfl ?_
  obtain ⟨z2, hz2, h⟩ := ev_bnE h
  refine ec_Vi (Y := mX10_nodeAt) (ci := 9) (As := [.int x1]) (rest := [(.ref (q0 + 1)), (.int (z1 + (12 : Int32))), (.ref (q0 + 1))]) dX10_logLast_18 kX10_54 oX10_nodeAt ⟨Nat.le_of_ble_eq_true rfl, Nat.le_of_ble_eq_true rfl⟩ (by decide) rfl (shp_n g0 0 rfl) (shp_t g0 0 rfl) rfl (Nat.le_of_ble_eq_true rfl) (tX10_nodeAt n q0 g0 x1 I z2 hz2) rfl ?_
  refine ev_bipush (v := (8 : Int32)) dX10_logLast_21 (by decide) ?_
  refine ev_iadd dX10_logLast_23 ?_
  obtain ⟨c3, h⟩ := ev_ckE h
  refine ew_iald dX10_logLast_24 (shp_a g0 1 rfl) c3 ?_
  refine ev_iadd dX10_logLast_25 ?_
  obtain ⟨c4, h⟩ := ev_ckE h
  refine ew_iald dX10_logLast_26 (shp_a g0 1 rfl) c4 ?_
  cases h
  exact er_i dX10_logLast_27 rfl rfl
-- ChainVotesModel isSilent(I)Z
def pX10_isSilent (n : Nat) (q0 : Nat) (x1 : Int32) (I : ev_I) : Option (Int32) :=
  (pX10_nodeAt n q0 x1 I).bind fun z1 =>
  ev_ck (ev_in (z1 + (0 : Int32)) 6010) <|
  if (I (q0 + 1) (z1 + (0 : Int32)).toNatClampNeg) = (1 : Int32) then
    some (1 : Int32)
  else
    some (0 : Int32)
set_option maxRecDepth 100000 in
set_option maxHeartbeats 4000000 in
theorem tX10_isSilent {E : ev_N} {σ : ev_H} (n : Nat) (q0 : Nat) (g0 : shp tb9 σ q0) (x1 : Int32) (I : ev_I) (o : Int32) (h : pX10_isSilent n q0 x1 I = some o) : ev_T E mX10_isSilent [.ref q0, .int x1] (h_w σ I) (Option.some (Value.int o), h_w σ I) := by
  unfold pX10_isSilent at h
  refine ev_met rfl rfl (Nat.le_of_ble_eq_true rfl) (ev_L0 (L' := [some (.ref q0), some (.int x1)]) rfl ?_)
  refine ev_aload_n dX10_isSilent_0 rfl (fun _ e => by cases e) ?_
  refine ew_getr0 dX10_isSilent_1 fX10_7 g0 rfl rfl rfl rfl ?_
  refine ev_aload_n dX10_isSilent_4 rfl (fun _ e => by cases e) ?_
  refine ev_iload_n dX10_isSilent_5 rfl ?_
  obtain ⟨z1, hz1, h⟩ := ev_bnE h
  refine ec_Vi (Y := mX10_nodeAt) (ci := 9) (As := [.int x1]) (rest := [(.ref (q0 + 1))]) dX10_isSilent_6 kX10_54 oX10_nodeAt ⟨Nat.le_of_ble_eq_true rfl, Nat.le_of_ble_eq_true rfl⟩ (by decide) rfl (shp_n g0 0 rfl) (shp_t g0 0 rfl) rfl (Nat.le_of_ble_eq_true rfl) (tX10_nodeAt n q0 g0 x1 I z1 hz1) rfl ?_
  refine ev_iconst (v := (0 : Int32)) dX10_isSilent_9 (by decide) ?_
  refine ev_iadd dX10_isSilent_10 ?_
  obtain ⟨c2, h⟩ := ev_ckE h
  refine ew_iald dX10_isSilent_11 (shp_a g0 1 rfl) c2 ?_
  refine ev_iconst (v := (1 : Int32)) dX10_isSilent_12 (by decide) ?_
  refine ev_icmp_ne (tgt := 20) dX10_isSilent_13 (by decide) (fun c3 => ?_) (fun c3 => ?_)
  · have h := ev_ifF h c3
    refine ev_iconst (v := (0 : Int32)) dX10_isSilent_20 (by decide) ?_
    cases h
    exact er_i dX10_isSilent_21 rfl rfl
  · have h := ev_ifT h c3
    refine ev_iconst (v := (1 : Int32)) dX10_isSilent_16 (by decide) ?_
    refine ev_goto (tgt := 21) dX10_isSilent_17 (by decide) ?_
    cases h
    exact er_i dX10_isSilent_21 rfl rfl
-- ChainVotesModel leaderOf(I)I
def cX10_leaderOf_32 (q0 : Nat) (n : Nat) (s0 : Int32) (I : ev_I) : Option (Int32) :=
  (pX10_nodeMany n q0  I).bind fun z1 =>
  ev_ck (ev_nz z1) <|
  some (s0 - s0 / z1 * z1)
def pX10_leaderOf (n : Nat) (q0 : Nat) (x1 : Int32) (I : ev_I) : Option (Int32) :=
  if (I (q0 + 1) (1 : Int32).toNatClampNeg) = 0 then
    cX10_leaderOf_32 q0 n x1 I
  else
    if (I (q0 + 1) (1 : Int32).toNatClampNeg) = (1 : Int32) then
      cX10_leaderOf_32 q0 n (x1 / (2 : Int32)) I
    else
      cX10_leaderOf_32 q0 n (x1 * x1) I
set_option maxRecDepth 100000 in
set_option maxHeartbeats 4000000 in
theorem tX10_leaderOf_32 {E : ev_N} {σ : ev_H} (q0 : Nat) (g0 : shp tb9 σ q0) (n : Nat) (s0 : Int32) (I : ev_I) (o : Int32) : cX10_leaderOf_32 q0 n s0 I = some o → EV E mX10_leaderOf 32 [some (.ref q0), none, none] [(.int s0)] (h_w σ I) (Option.some (Value.int o), h_w σ I) := by
  intro h
  unfold cX10_leaderOf_32 at h
  refine ew_istn (L' := [some (.ref q0), none, some (.int s0)]) dX10_leaderOf_32 (Nat.le_of_ble_eq_true rfl) rfl ?_
  refine ev_iload_n dX10_leaderOf_33 rfl ?_
  refine ev_aload_n dX10_leaderOf_34 rfl (fun _ e => by cases e) ?_
  obtain ⟨z1, hz1, h⟩ := ev_bnE h
  refine ec_Vi (Y := mX10_nodeMany) (ci := 9) (As := []) (rest := [(.int s0)]) dX10_leaderOf_35 kX10_47 oX10_nodeMany ⟨Nat.le_of_ble_eq_true rfl, Nat.le_of_ble_eq_true rfl⟩ (by decide) rfl (shp_n g0 0 rfl) (shp_t g0 0 rfl) rfl (Nat.le_of_ble_eq_true rfl) (tX10_nodeMany n q0 g0  I z1 hz1) rfl ?_
  obtain ⟨c2, h⟩ := ev_ckE h
  refine ev_irem dX10_leaderOf_38 (ev_nzE c2) ?_
  cases h
  exact er_i dX10_leaderOf_39 rfl rfl
set_option maxRecDepth 100000 in
set_option maxHeartbeats 4000000 in
theorem tX10_leaderOf {E : ev_N} {σ : ev_H} (n : Nat) (q0 : Nat) (g0 : shp tb9 σ q0) (x1 : Int32) (I : ev_I) (o : Int32) (h : pX10_leaderOf n q0 x1 I = some o) : ev_T E mX10_leaderOf [.ref q0, .int x1] (h_w σ I) (Option.some (Value.int o), h_w σ I) := by
  unfold pX10_leaderOf at h
  refine ev_met rfl rfl (Nat.le_of_ble_eq_true rfl) (ev_L0 (L' := [some (.ref q0), some (.int x1), none]) rfl ?_)
  refine ev_aload_n dX10_leaderOf_0 rfl (fun _ e => by cases e) ?_
  refine ew_getr0 dX10_leaderOf_1 fX10_7 g0 rfl rfl rfl rfl ?_
  refine ev_iconst (v := (1 : Int32)) dX10_leaderOf_4 (by decide) ?_
  refine ew_iald dX10_leaderOf_5 (shp_a g0 1 rfl) (by decide) ?_
  refine ev_if_ne (tgt := 13) dX10_leaderOf_6 (by decide) (fun c3 => ?_) (fun c3 => ?_)
  · have h := ev_ifF h c3
    refine ev_aload_n dX10_leaderOf_13 rfl (fun _ e => by cases e) ?_
    refine ew_getr0 dX10_leaderOf_14 fX10_7 g0 rfl rfl rfl rfl ?_
    refine ev_iconst (v := (1 : Int32)) dX10_leaderOf_17 (by decide) ?_
    refine ew_iald dX10_leaderOf_18 (shp_a g0 1 rfl) (by decide) ?_
    refine ev_iconst (v := (1 : Int32)) dX10_leaderOf_19 (by decide) ?_
    refine ev_icmp_ne (tgt := 29) dX10_leaderOf_20 (by decide) (fun c4 => ?_) (fun c4 => ?_)
    · have h := ev_ifF h c4
      refine ev_iload_n dX10_leaderOf_29 rfl ?_
      refine ev_iload_n dX10_leaderOf_30 rfl ?_
      refine ev_imul dX10_leaderOf_31 ?_
      exact ev_weak (sb_s (sb_n (sb_n sb_0))) (tX10_leaderOf_32 q0 g0 n (x1 * x1) I _ h)
    · have h := ev_ifT h c4
      refine ev_iload_n dX10_leaderOf_23 rfl ?_
      refine ev_iconst (v := (2 : Int32)) dX10_leaderOf_24 (by decide) ?_
      refine ev_idiv dX10_leaderOf_25 (by decide) ?_
      refine ev_goto (tgt := 32) dX10_leaderOf_26 (by decide) ?_
      exact ev_weak (sb_s (sb_n (sb_n sb_0))) (tX10_leaderOf_32 q0 g0 n (x1 / (2 : Int32)) I _ h)
  · have h := ev_ifT h c3
    refine ev_iload_n dX10_leaderOf_9 rfl ?_
    refine ev_goto (tgt := 32) dX10_leaderOf_10 (by decide) ?_
    exact ev_weak (sb_s (sb_n (sb_n sb_0))) (tX10_leaderOf_32 q0 g0 n x1 I _ h)
-- ChainVotesModel doesExtend(II)Z
def cX10_doesExtend_2 (q0 : Nat) (K2 : Int32 → Int32 → ev_I → Option (Int32)) (n : Nat) (y2 : Int32) (y3 : Int32) (I : ev_I) : Option (Int32) :=
  ev_ck (ev_in ((516 : Int32) + y3) 6010) <|
  ev_ck (ev_in ((516 : Int32) + y2) 6010) <|
  if (I (q0 + 1) ((516 : Int32) + y3).toNatClampNeg) ≤ (I (q0 + 1) ((516 : Int32) + y2).toNatClampNeg) then
    if y3 = y2 then
      some (1 : Int32)
    else
      some (0 : Int32)
  else
    (pX10_parentOf n q0 y3 I).bind fun z5 =>
    K2 y2 z5 I
def lX10_doesExtend_2 (q0 : Nat) : Nat → Int32 → Int32 → ev_I → Option (Int32)
  | 0, _, _, _ => none
  | n + 1, y2, y3, I => cX10_doesExtend_2 q0 (lX10_doesExtend_2 q0 n) n y2 y3 I
def pX10_doesExtend (n : Nat) (q0 : Nat) (x1 : Int32) (x2 : Int32) (I : ev_I) : Option (Int32) :=
  lX10_doesExtend_2 q0 n x2 x1 I
set_option maxRecDepth 100000 in
set_option maxHeartbeats 4000000 in
theorem tX10_doesExtend_2 {E : ev_N} {σ : ev_H} (q0 : Nat) (g0 : shp tb9 σ q0) (K2 : Int32 → Int32 → ev_I → Option (Int32)) (k2 : ∀ (y2 : Int32) (y3 : Int32) (I : ev_I) (o : Int32), K2 y2 y3 I = some o → EV E mX10_doesExtend 2 [some (.ref q0), none, some (.int y2), some (.int y3)] [] (h_w σ I) (Option.some (Value.int o), h_w σ I)) (n : Nat) (y2 : Int32) (y3 : Int32) (I : ev_I) (o : Int32) : cX10_doesExtend_2 q0 K2 n y2 y3 I = some o → EV E mX10_doesExtend 2 [some (.ref q0), none, some (.int y2), some (.int y3)] [] (h_w σ I) (Option.some (Value.int o), h_w σ I) := by
  intro h
  unfold cX10_doesExtend_2 at h
  refine ev_aload_n dX10_doesExtend_2 rfl (fun _ e => by cases e) ?_
  refine ew_getr0 dX10_doesExtend_3 fX10_7 g0 rfl rfl rfl rfl ?_
  refine ev_sipush (v := (516 : Int32)) dX10_doesExtend_6 (by decide) ?_
  refine ev_iload_n dX10_doesExtend_9 rfl ?_
  refine ev_iadd dX10_doesExtend_10 ?_
  obtain ⟨c1, h⟩ := ev_ckE h
  refine ew_iald dX10_doesExtend_11 (shp_a g0 1 rfl) c1 ?_
  refine ev_aload_n dX10_doesExtend_12 rfl (fun _ e => by cases e) ?_
  refine ew_getr0 dX10_doesExtend_13 fX10_7 g0 rfl rfl rfl rfl ?_
  refine ev_sipush (v := (516 : Int32)) dX10_doesExtend_16 (by decide) ?_
  refine ev_iload_n dX10_doesExtend_19 rfl ?_
  refine ev_iadd dX10_doesExtend_20 ?_
  obtain ⟨c2, h⟩ := ev_ckE h
  refine ew_iald dX10_doesExtend_21 (shp_a g0 1 rfl) c2 ?_
  refine ev_icmp_le (tgt := 34) dX10_doesExtend_22 (by decide) (fun c3 => ?_) (fun c3 => ?_)
  · have h := ev_ifT h c3
    refine ev_iload_n dX10_doesExtend_34 rfl ?_
    refine ev_iload_n dX10_doesExtend_35 rfl ?_
    refine ev_icmp_ne (tgt := 43) dX10_doesExtend_36 (by decide) (fun c4 => ?_) (fun c4 => ?_)
    · have h := ev_ifF h c4
      refine ev_iconst (v := (0 : Int32)) dX10_doesExtend_43 (by decide) ?_
      cases h
      exact er_i dX10_doesExtend_44 rfl rfl
    · have h := ev_ifT h c4
      refine ev_iconst (v := (1 : Int32)) dX10_doesExtend_39 (by decide) ?_
      refine ev_goto (tgt := 44) dX10_doesExtend_40 (by decide) ?_
      cases h
      exact er_i dX10_doesExtend_44 rfl rfl
  · have h := ev_ifF h c3
    refine ev_aload_n dX10_doesExtend_25 rfl (fun _ e => by cases e) ?_
    refine ev_iload_n dX10_doesExtend_26 rfl ?_
    obtain ⟨z5, hz5, h⟩ := ev_bnE h
    refine ec_Vi (Y := mX10_parentOf) (ci := 9) (As := [.int y3]) (rest := []) dX10_doesExtend_27 kX10_58 oX10_parentOf ⟨Nat.le_of_ble_eq_true rfl, Nat.le_of_ble_eq_true rfl⟩ (by decide) rfl (shp_n g0 0 rfl) (shp_t g0 0 rfl) rfl (Nat.le_of_ble_eq_true rfl) (tX10_parentOf n q0 g0 y3 I z5 hz5) rfl ?_
    refine ew_istn (L' := [some (.ref q0), none, some (.int y2), some (.int z5)]) dX10_doesExtend_30 (Nat.le_of_ble_eq_true rfl) rfl ?_
    refine ev_goto (tgt := 2) dX10_doesExtend_31 (by decide) ?_
    exact ev_weak (sb_s (sb_n (sb_s (sb_s sb_0)))) (k2 y2 z5 I _ h)
theorem tlX10_doesExtend_2 {E : ev_N} {σ : ev_H} (q0 : Nat) (g0 : shp tb9 σ q0) : ∀ (n : Nat) (y2 : Int32) (y3 : Int32) (I : ev_I) (o : Int32), lX10_doesExtend_2 q0 n y2 y3 I = some o → EV E mX10_doesExtend 2 [some (.ref q0), none, some (.int y2), some (.int y3)] [] (h_w σ I) (Option.some (Value.int o), h_w σ I)
  | 0, _, _, _, _, h => by cases h
  | n + 1, y2, y3, I, o, h => tX10_doesExtend_2 q0 g0 (lX10_doesExtend_2 q0 n) (tlX10_doesExtend_2 q0 g0 n) n y2 y3 I o h
set_option maxRecDepth 100000 in
set_option maxHeartbeats 4000000 in
theorem tX10_doesExtend {E : ev_N} {σ : ev_H} (n : Nat) (q0 : Nat) (g0 : shp tb9 σ q0) (x1 : Int32) (x2 : Int32) (I : ev_I) (o : Int32) (h : pX10_doesExtend n q0 x1 x2 I = some o) : ev_T E mX10_doesExtend [.ref q0, .int x1, .int x2] (h_w σ I) (Option.some (Value.int o), h_w σ I) := by
  unfold pX10_doesExtend at h
  refine ev_met rfl rfl (Nat.le_of_ble_eq_true rfl) (ev_L0 (L' := [some (.ref q0), some (.int x1), some (.int x2), none]) rfl ?_)
  refine ev_iload_n dX10_doesExtend_0 rfl ?_
  refine ew_istn (L' := [some (.ref q0), some (.int x1), some (.int x2), some (.int x1)]) dX10_doesExtend_1 (Nat.le_of_ble_eq_true rfl) rfl ?_
  exact ev_weak (sb_s (sb_n (sb_s (sb_s sb_0)))) (tlX10_doesExtend_2 q0 g0 n x2 x1 I _ h)
-- ChainVotesModel isFresh()Z
def pX10_isFresh (n : Nat) (q0 : Nat) (I : ev_I) : Option (Int32) :=
  if (I (q0 + 1) (4 : Int32).toNatClampNeg) = 0 then
    if (I (q0 + 1) (3 : Int32).toNatClampNeg) = 0 then
      some (1 : Int32)
    else
      some (0 : Int32)
  else
    some (0 : Int32)
set_option maxRecDepth 100000 in
set_option maxHeartbeats 4000000 in
theorem tX10_isFresh {E : ev_N} {σ : ev_H} (n : Nat) (q0 : Nat) (g0 : shp tb9 σ q0) (I : ev_I) (o : Int32) (h : pX10_isFresh n q0  I = some o) : ev_T E mX10_isFresh [.ref q0] (h_w σ I) (Option.some (Value.int o), h_w σ I) := by
  unfold pX10_isFresh at h
  refine ev_met rfl rfl (Nat.le_of_ble_eq_true rfl) (ev_L0 (L' := [some (.ref q0)]) rfl ?_)
  refine ev_aload_n dX10_isFresh_0 rfl (fun _ e => by cases e) ?_
  refine ew_getr0 dX10_isFresh_1 fX10_7 g0 rfl rfl rfl rfl ?_
  refine ev_iconst (v := (4 : Int32)) dX10_isFresh_4 (by decide) ?_
  refine ew_iald dX10_isFresh_5 (shp_a g0 1 rfl) (by decide) ?_
  refine ev_if_ne (tgt := 22) dX10_isFresh_6 (by decide) (fun c1 => ?_) (fun c1 => ?_)
  · have h := ev_ifF h c1
    refine ev_iconst (v := (0 : Int32)) dX10_isFresh_22 (by decide) ?_
    cases h
    exact er_i dX10_isFresh_23 rfl rfl
  · have h := ev_ifT h c1
    refine ev_aload_n dX10_isFresh_9 rfl (fun _ e => by cases e) ?_
    refine ew_getr0 dX10_isFresh_10 fX10_7 g0 rfl rfl rfl rfl ?_
    refine ev_iconst (v := (3 : Int32)) dX10_isFresh_13 (by decide) ?_
    refine ew_iald dX10_isFresh_14 (shp_a g0 1 rfl) (by decide) ?_
    refine ev_if_ne (tgt := 22) dX10_isFresh_15 (by decide) (fun c2 => ?_) (fun c2 => ?_)
    · have h := ev_ifF h c2
      refine ev_iconst (v := (0 : Int32)) dX10_isFresh_22 (by decide) ?_
      cases h
      exact er_i dX10_isFresh_23 rfl rfl
    · have h := ev_ifT h c2
      refine ev_iconst (v := (1 : Int32)) dX10_isFresh_18 (by decide) ?_
      refine ev_goto (tgt := 23) dX10_isFresh_19 (by decide) ?_
      cases h
      exact er_i dX10_isFresh_23 rfl rfl
-- ChainVotesModel nodes(I)Z
def cX10_nodes_38 (q0 : Nat) (K38 : Int32 → ev_I → Option (Int32 × ev_I)) (n : Nat) (y2 : Int32) (I : ev_I) : Option (Int32 × ev_I) :=
  if (6010 : Int32) ≤ y2 then
    some ((1 : Int32), I)
  else
    ev_ck (ev_in y2 6010) <|
    ev_lt (ev_u2 I (q0 + 1) y2.toNatClampNeg (0 : Int32)) fun I3 =>
    ev_lt (y2 + (1 : Int32)) fun v4 =>
    K38 v4 I3
def lX10_nodes_38 (q0 : Nat) : Nat → Int32 → ev_I → Option (Int32 × ev_I)
  | 0, _, _ => none
  | n + 1, y2, I => cX10_nodes_38 q0 (lX10_nodes_38 q0 n) n y2 I
def pX10_nodes (n : Nat) (q0 : Nat) (x1 : Int32) (I : ev_I) : Option (Int32 × ev_I) :=
  ev_lt (ev_u2 I q0 0 (0 : Int32)) fun I5 =>
  (pX10_isIn n q0 x1 (4 : Int32) (7 : Int32) I5).bind fun z6 =>
  if z6 = 0 then
    some ((0 : Int32), I5)
  else
    (pX10_isFresh n q0  I5).bind fun z8 =>
    if z8 = 0 then
      some ((0 : Int32), I5)
    else
      ev_lt (ev_u2 I5 (q0 + 1) (0 : Int32).toNatClampNeg (x1 - (4 : Int32))) fun I10 =>
      lX10_nodes_38 q0 n (2416 : Int32) I10
set_option maxRecDepth 100000 in
set_option maxHeartbeats 4000000 in
theorem tX10_nodes_38 {E : ev_N} {σ : ev_H} (q0 : Nat) (g0 : shp tb9 σ q0) (K38 : Int32 → ev_I → Option (Int32 × ev_I)) (k38 : ∀ (y2 : Int32) (I : ev_I) (o : Int32 × ev_I), K38 y2 I = some o → EV E mX10_nodes 38 [some (.ref q0), none, some (.int y2)] [] (h_w σ I) (Option.some (Value.int o.1), h_w σ o.2)) (n : Nat) (y2 : Int32) (I : ev_I) (o : Int32 × ev_I) : cX10_nodes_38 q0 K38 n y2 I = some o → EV E mX10_nodes 38 [some (.ref q0), none, some (.int y2)] [] (h_w σ I) (Option.some (Value.int o.1), h_w σ o.2) := by
  intro h
  unfold cX10_nodes_38 at h
  refine ev_iload_n dX10_nodes_38 rfl ?_
  refine ev_sipush (v := (6010 : Int32)) dX10_nodes_39 (by decide) ?_
  refine ev_icmp_ge (tgt := 58) dX10_nodes_42 (by decide) (fun c1 => ?_) (fun c1 => ?_)
  · have h := ev_ifT h c1
    refine ev_iconst (v := (1 : Int32)) dX10_nodes_58 (by decide) ?_
    cases h
    exact er_i dX10_nodes_59 rfl rfl
  · have h := ev_ifF h c1
    refine ev_aload_n dX10_nodes_45 rfl (fun _ e => by cases e) ?_
    refine ew_getr0 dX10_nodes_46 fX10_7 g0 rfl rfl rfl rfl ?_
    refine ev_iload_n dX10_nodes_49 rfl ?_
    refine ev_iconst (v := (0 : Int32)) dX10_nodes_50 (by decide) ?_
    obtain ⟨c2, h⟩ := ev_ckE h
    obtain ⟨I3, eI3, h⟩ := ev_ltE h
    refine ew_iast dX10_nodes_51 (shp_a g0 1 rfl) c2 (ew_nh eI3 ?_)
    obtain ⟨v4, ev4, h⟩ := ev_ltE h
    refine ew_iinc (L' := [some (.ref q0), none, some (.int v4)]) dX10_nodes_52 (Nat.le_of_ble_eq_true rfl) rfl (by decide) ev4 rfl ?_
    refine ev_goto (tgt := 38) dX10_nodes_55 (by decide) ?_
    exact ev_weak (sb_s (sb_n (sb_s sb_0))) (k38 v4 I3 _ h)
theorem tlX10_nodes_38 {E : ev_N} {σ : ev_H} (q0 : Nat) (g0 : shp tb9 σ q0) : ∀ (n : Nat) (y2 : Int32) (I : ev_I) (o : Int32 × ev_I), lX10_nodes_38 q0 n y2 I = some o → EV E mX10_nodes 38 [some (.ref q0), none, some (.int y2)] [] (h_w σ I) (Option.some (Value.int o.1), h_w σ o.2)
  | 0, _, _, _, h => by cases h
  | n + 1, y2, I, o, h => tX10_nodes_38 q0 g0 (lX10_nodes_38 q0 n) (tlX10_nodes_38 q0 g0 n) n y2 I o h
set_option maxRecDepth 100000 in
set_option maxHeartbeats 4000000 in
theorem tX10_nodes {E : ev_N} {σ : ev_H} (n : Nat) (q0 : Nat) (g0 : shp tb9 σ q0) (x1 : Int32) (I : ev_I) (o : Int32 × ev_I) (h : pX10_nodes n q0 x1 I = some o) : ev_T E mX10_nodes [.ref q0, .int x1] (h_w σ I) (Option.some (Value.int o.1), h_w σ o.2) := by
  unfold pX10_nodes at h
  refine ev_met rfl rfl (Nat.le_of_ble_eq_true rfl) (ev_L0 (L' := [some (.ref q0), some (.int x1), none]) rfl ?_)
  refine ev_aload_n dX10_nodes_0 rfl (fun _ e => by cases e) ?_
  refine ev_iconst (v := (0 : Int32)) dX10_nodes_1 (by decide) ?_
  obtain ⟨I5, eI5, h⟩ := ev_ltE h
  refine ew_put0 dX10_nodes_2 fX10_44 g0 rfl rfl rfl rfl rfl rfl (ew_nh eI5 ?_)
  refine ev_aload_n dX10_nodes_5 rfl (fun _ e => by cases e) ?_
  refine ev_iload_n dX10_nodes_6 rfl ?_
  refine ev_iconst (v := (4 : Int32)) dX10_nodes_7 (by decide) ?_
  refine ev_bipush (v := (7 : Int32)) dX10_nodes_8 (by decide) ?_
  obtain ⟨z6, hz6, h⟩ := ev_bnE h
  refine ec_Vi (Y := mX10_isIn) (ci := 9) (As := [.int x1, .int (4 : Int32), .int (7 : Int32)]) (rest := []) dX10_nodes_10 kX10_61 oX10_isIn ⟨Nat.le_of_ble_eq_true rfl, Nat.le_of_ble_eq_true rfl⟩ (by decide) rfl (shp_n g0 0 rfl) (shp_t g0 0 rfl) rfl (Nat.le_of_ble_eq_true rfl) (tX10_isIn n q0 g0 x1 (4 : Int32) (7 : Int32) I5 z6 hz6) rfl ?_
  refine ev_if_eq (tgt := 23) dX10_nodes_13 (by decide) (fun c7 => ?_) (fun c7 => ?_)
  · have h := ev_ifT h c7
    refine ev_iconst (v := (0 : Int32)) dX10_nodes_23 (by decide) ?_
    cases h
    exact er_i dX10_nodes_24 rfl rfl
  · have h := ev_ifF h c7
    refine ev_aload_n dX10_nodes_16 rfl (fun _ e => by cases e) ?_
    obtain ⟨z8, hz8, h⟩ := ev_bnE h
    refine ec_Vi (Y := mX10_isFresh) (ci := 9) (As := []) (rest := []) dX10_nodes_17 kX10_65 oX10_isFresh ⟨Nat.le_of_ble_eq_true rfl, Nat.le_of_ble_eq_true rfl⟩ (by decide) rfl (shp_n g0 0 rfl) (shp_t g0 0 rfl) rfl (Nat.le_of_ble_eq_true rfl) (tX10_isFresh n q0 g0  I5 z8 hz8) rfl ?_
    refine ev_if_ne (tgt := 25) dX10_nodes_20 (by decide) (fun c9 => ?_) (fun c9 => ?_)
    · have h := ev_ifF h c9
      refine ev_aload_n dX10_nodes_25 rfl (fun _ e => by cases e) ?_
      refine ew_getr0 dX10_nodes_26 fX10_7 g0 rfl rfl rfl rfl ?_
      refine ev_iconst (v := (0 : Int32)) dX10_nodes_29 (by decide) ?_
      refine ev_iload_n dX10_nodes_30 rfl ?_
      refine ev_iconst (v := (4 : Int32)) dX10_nodes_31 (by decide) ?_
      refine ev_isub dX10_nodes_32 ?_
      obtain ⟨I10, eI10, h⟩ := ev_ltE h
      refine ew_iast dX10_nodes_33 (shp_a g0 1 rfl) (by decide) (ew_nh eI10 ?_)
      refine ev_sipush (v := (2416 : Int32)) dX10_nodes_34 (by decide) ?_
      refine ew_istn (L' := [some (.ref q0), some (.int x1), some (.int (2416 : Int32))]) dX10_nodes_37 (Nat.le_of_ble_eq_true rfl) rfl ?_
      exact ev_weak (sb_s (sb_n (sb_s sb_0))) (tlX10_nodes_38 q0 g0 n (2416 : Int32) I10 _ h)
    · have h := ev_ifT h c9
      refine ev_iconst (v := (0 : Int32)) dX10_nodes_23 (by decide) ?_
      cases h
      exact er_i dX10_nodes_24 rfl rfl
-- ChainVotesModel leaders(I)I
def pX10_leaders (n : Nat) (q0 : Nat) (x1 : Int32) (I : ev_I) : Option (Int32 × ev_I) :=
  ev_lt (ev_u2 I q0 0 (0 : Int32)) fun I1 =>
  (pX10_isIn n q0 x1 (0 : Int32) (2 : Int32) I1).bind fun z2 =>
  if z2 = 0 then
    some ((-1 : Int32), I1)
  else
    (pX10_isFresh n q0  I1).bind fun z4 =>
    if z4 = 0 then
      some ((-1 : Int32), I1)
    else
      ev_lt (I1 (q0 + 1) (1 : Int32).toNatClampNeg) fun v6 =>
      ev_lt (ev_u2 I1 (q0 + 1) (1 : Int32).toNatClampNeg x1) fun I7 =>
      some (v6, I7)
set_option maxRecDepth 100000 in
set_option maxHeartbeats 4000000 in
theorem tX10_leaders {E : ev_N} {σ : ev_H} (n : Nat) (q0 : Nat) (g0 : shp tb9 σ q0) (x1 : Int32) (I : ev_I) (o : Int32 × ev_I) (h : pX10_leaders n q0 x1 I = some o) : ev_T E mX10_leaders [.ref q0, .int x1] (h_w σ I) (Option.some (Value.int o.1), h_w σ o.2) := by
  unfold pX10_leaders at h
  refine ev_met rfl rfl (Nat.le_of_ble_eq_true rfl) (ev_L0 (L' := [some (.ref q0), some (.int x1), none]) rfl ?_)
  refine ev_aload_n dX10_leaders_0 rfl (fun _ e => by cases e) ?_
  refine ev_iconst (v := (0 : Int32)) dX10_leaders_1 (by decide) ?_
  obtain ⟨I1, eI1, h⟩ := ev_ltE h
  refine ew_put0 dX10_leaders_2 fX10_44 g0 rfl rfl rfl rfl rfl rfl (ew_nh eI1 ?_)
  refine ev_aload_n dX10_leaders_5 rfl (fun _ e => by cases e) ?_
  refine ev_iload_n dX10_leaders_6 rfl ?_
  refine ev_iconst (v := (0 : Int32)) dX10_leaders_7 (by decide) ?_
  refine ev_iconst (v := (2 : Int32)) dX10_leaders_8 (by decide) ?_
  obtain ⟨z2, hz2, h⟩ := ev_bnE h
  refine ec_Vi (Y := mX10_isIn) (ci := 9) (As := [.int x1, .int (0 : Int32), .int (2 : Int32)]) (rest := []) dX10_leaders_9 kX10_61 oX10_isIn ⟨Nat.le_of_ble_eq_true rfl, Nat.le_of_ble_eq_true rfl⟩ (by decide) rfl (shp_n g0 0 rfl) (shp_t g0 0 rfl) rfl (Nat.le_of_ble_eq_true rfl) (tX10_isIn n q0 g0 x1 (0 : Int32) (2 : Int32) I1 z2 hz2) rfl ?_
  refine ev_if_eq (tgt := 22) dX10_leaders_12 (by decide) (fun c3 => ?_) (fun c3 => ?_)
  · have h := ev_ifT h c3
    refine ev_iconst (v := (-1 : Int32)) dX10_leaders_22 (by decide) ?_
    cases h
    exact er_i dX10_leaders_23 rfl rfl
  · have h := ev_ifF h c3
    refine ev_aload_n dX10_leaders_15 rfl (fun _ e => by cases e) ?_
    obtain ⟨z4, hz4, h⟩ := ev_bnE h
    refine ec_Vi (Y := mX10_isFresh) (ci := 9) (As := []) (rest := []) dX10_leaders_16 kX10_65 oX10_isFresh ⟨Nat.le_of_ble_eq_true rfl, Nat.le_of_ble_eq_true rfl⟩ (by decide) rfl (shp_n g0 0 rfl) (shp_t g0 0 rfl) rfl (Nat.le_of_ble_eq_true rfl) (tX10_isFresh n q0 g0  I1 z4 hz4) rfl ?_
    refine ev_if_ne (tgt := 24) dX10_leaders_19 (by decide) (fun c5 => ?_) (fun c5 => ?_)
    · have h := ev_ifF h c5
      refine ev_aload_n dX10_leaders_24 rfl (fun _ e => by cases e) ?_
      refine ew_getr0 dX10_leaders_25 fX10_7 g0 rfl rfl rfl rfl ?_
      refine ev_iconst (v := (1 : Int32)) dX10_leaders_28 (by decide) ?_
      refine ew_iald dX10_leaders_29 (shp_a g0 1 rfl) (by decide) ?_
      obtain ⟨v6, ev6, h⟩ := ev_ltE h
      refine ew_nm ev6 ?_
      refine ew_istn (L' := [some (.ref q0), some (.int x1), some (.int v6)]) dX10_leaders_30 (Nat.le_of_ble_eq_true rfl) rfl ?_
      refine ev_aload_n dX10_leaders_31 rfl (fun _ e => by cases e) ?_
      refine ew_getr0 dX10_leaders_32 fX10_7 g0 rfl rfl rfl rfl ?_
      refine ev_iconst (v := (1 : Int32)) dX10_leaders_35 (by decide) ?_
      refine ev_iload_n dX10_leaders_36 rfl ?_
      obtain ⟨I7, eI7, h⟩ := ev_ltE h
      refine ew_iast dX10_leaders_37 (shp_a g0 1 rfl) (by decide) (ew_nh eI7 ?_)
      refine ev_iload_n dX10_leaders_38 rfl ?_
      cases h
      exact er_i dX10_leaders_39 rfl rfl
    · have h := ev_ifT h c5
      refine ev_iconst (v := (-1 : Int32)) dX10_leaders_22 (by decide) ?_
      cases h
      exact er_i dX10_leaders_23 rfl rfl
-- ChainVotesModel state(I)I
def pX10_state (n : Nat) (q0 : Nat) (x1 : Int32) (I : ev_I) : Option (Int32 × ev_I) :=
  ev_lt (ev_u2 I q0 0 (0 : Int32)) fun I1 =>
  ev_lt (I1 (q0 + 1) (2 : Int32).toNatClampNeg) fun v2 =>
  ev_lt (ev_u2 I1 (q0 + 1) (2 : Int32).toNatClampNeg x1) fun I3 =>
  some (v2, I3)
set_option maxRecDepth 100000 in
set_option maxHeartbeats 4000000 in
theorem tX10_state {E : ev_N} {σ : ev_H} (n : Nat) (q0 : Nat) (g0 : shp tb9 σ q0) (x1 : Int32) (I : ev_I) (o : Int32 × ev_I) (h : pX10_state n q0 x1 I = some o) : ev_T E mX10_state [.ref q0, .int x1] (h_w σ I) (Option.some (Value.int o.1), h_w σ o.2) := by
  unfold pX10_state at h
  refine ev_met rfl rfl (Nat.le_of_ble_eq_true rfl) (ev_L0 (L' := [some (.ref q0), some (.int x1), none]) rfl ?_)
  refine ev_aload_n dX10_state_0 rfl (fun _ e => by cases e) ?_
  refine ev_iconst (v := (0 : Int32)) dX10_state_1 (by decide) ?_
  obtain ⟨I1, eI1, h⟩ := ev_ltE h
  refine ew_put0 dX10_state_2 fX10_44 g0 rfl rfl rfl rfl rfl rfl (ew_nh eI1 ?_)
  refine ev_aload_n dX10_state_5 rfl (fun _ e => by cases e) ?_
  refine ew_getr0 dX10_state_6 fX10_7 g0 rfl rfl rfl rfl ?_
  refine ev_iconst (v := (2 : Int32)) dX10_state_9 (by decide) ?_
  refine ew_iald dX10_state_10 (shp_a g0 1 rfl) (by decide) ?_
  obtain ⟨v2, ev2, h⟩ := ev_ltE h
  refine ew_nm ev2 ?_
  refine ew_istn (L' := [some (.ref q0), some (.int x1), some (.int v2)]) dX10_state_11 (Nat.le_of_ble_eq_true rfl) rfl ?_
  refine ev_aload_n dX10_state_12 rfl (fun _ e => by cases e) ?_
  refine ew_getr0 dX10_state_13 fX10_7 g0 rfl rfl rfl rfl ?_
  refine ev_iconst (v := (2 : Int32)) dX10_state_16 (by decide) ?_
  refine ev_iload_n dX10_state_17 rfl ?_
  obtain ⟨I3, eI3, h⟩ := ev_ltE h
  refine ew_iast dX10_state_18 (shp_a g0 1 rfl) (by decide) (ew_nh eI3 ?_)
  refine ev_iload_n dX10_state_19 rfl ?_
  cases h
  exact er_i dX10_state_20 rfl rfl
-- ChainVotesModel draw(I)I
def pX10_draw (n : Nat) (q0 : Nat) (x1 : Int32) (I : ev_I) : Option (Int32 × ev_I) :=
  ev_lt (ev_u2 I (q0 + 1) (2 : Int32).toNatClampNeg (((1664525 : Int32) * (I (q0 + 1) (2 : Int32).toNatClampNeg)) + (1013904223 : Int32))) fun I1 =>
  ev_ck (ev_nz x1) <|
  some ((((I1 (q0 + 1) (2 : Int32).toNatClampNeg).toUInt32 >>> ((8 : Int32).toUInt32 &&& Int32.toUInt32 31)).toInt32 - ((I1 (q0 + 1) (2 : Int32).toNatClampNeg).toUInt32 >>> ((8 : Int32).toUInt32 &&& Int32.toUInt32 31)).toInt32 / x1 * x1), I1)
set_option maxRecDepth 100000 in
set_option maxHeartbeats 4000000 in
theorem tX10_draw {E : ev_N} {σ : ev_H} (n : Nat) (q0 : Nat) (g0 : shp tb9 σ q0) (x1 : Int32) (I : ev_I) (o : Int32 × ev_I) (h : pX10_draw n q0 x1 I = some o) : ev_T E mX10_draw [.ref q0, .int x1] (h_w σ I) (Option.some (Value.int o.1), h_w σ o.2) := by
  unfold pX10_draw at h
  refine ev_met rfl rfl (Nat.le_of_ble_eq_true rfl) (ev_L0 (L' := [some (.ref q0), some (.int x1)]) rfl ?_)
  refine ev_aload_n dX10_draw_0 rfl (fun _ e => by cases e) ?_
  refine ew_getr0 dX10_draw_1 fX10_7 g0 rfl rfl rfl rfl ?_
  refine ev_iconst (v := (2 : Int32)) dX10_draw_4 (by decide) ?_
  refine ev_ldc (v := (1664525 : Int32)) dX10_draw_5 vX10_69 ?_
  refine ev_aload_n dX10_draw_7 rfl (fun _ e => by cases e) ?_
  refine ew_getr0 dX10_draw_8 fX10_7 g0 rfl rfl rfl rfl ?_
  refine ev_iconst (v := (2 : Int32)) dX10_draw_11 (by decide) ?_
  refine ew_iald dX10_draw_12 (shp_a g0 1 rfl) (by decide) ?_
  refine ev_imul dX10_draw_13 ?_
  refine ev_ldc (v := (1013904223 : Int32)) dX10_draw_14 vX10_70 ?_
  refine ev_iadd dX10_draw_16 ?_
  obtain ⟨I1, eI1, h⟩ := ev_ltE h
  refine ew_iast dX10_draw_17 (shp_a g0 1 rfl) (by decide) (ew_nh eI1 ?_)
  refine ev_aload_n dX10_draw_18 rfl (fun _ e => by cases e) ?_
  refine ew_getr0 dX10_draw_19 fX10_7 g0 rfl rfl rfl rfl ?_
  refine ev_iconst (v := (2 : Int32)) dX10_draw_22 (by decide) ?_
  refine ew_iald dX10_draw_23 (shp_a g0 1 rfl) (by decide) ?_
  refine ev_bipush (v := (8 : Int32)) dX10_draw_24 (by decide) ?_
  refine ev_iushr dX10_draw_26 ?_
  refine ev_iload_n dX10_draw_27 rfl ?_
  obtain ⟨c2, h⟩ := ev_ckE h
  refine ev_irem dX10_draw_28 (ev_nzE c2) ?_
  cases h
  exact er_i dX10_draw_29 rfl rfl
-- ChainVotesModel mode(II)Z
def pX10_mode (n : Nat) (q0 : Nat) (x1 : Int32) (x2 : Int32) (I : ev_I) : Option (Int32 × ev_I) :=
  ev_lt (ev_u2 I q0 0 (0 : Int32)) fun I1 =>
  (pX10_isNode n q0 x1 I1).bind fun z2 =>
  if z2 = 0 then
    some ((0 : Int32), I1)
  else
    (pX10_isIn n q0 x2 (0 : Int32) (2 : Int32) I1).bind fun z4 =>
    if z4 = 0 then
      some ((0 : Int32), I1)
    else
      (pX10_nodeAt n q0 x1 I1).bind fun z6 =>
      ev_ck (ev_in (z6 + (0 : Int32)) 6010) <|
      ev_lt (ev_u2 I1 (q0 + 1) (z6 + (0 : Int32)).toNatClampNeg x2) fun I8 =>
      some ((1 : Int32), I8)
set_option maxRecDepth 100000 in
set_option maxHeartbeats 4000000 in
theorem tX10_mode {E : ev_N} {σ : ev_H} (n : Nat) (q0 : Nat) (g0 : shp tb9 σ q0) (x1 : Int32) (x2 : Int32) (I : ev_I) (o : Int32 × ev_I) (h : pX10_mode n q0 x1 x2 I = some o) : ev_T E mX10_mode [.ref q0, .int x1, .int x2] (h_w σ I) (Option.some (Value.int o.1), h_w σ o.2) := by
  unfold pX10_mode at h
  refine ev_met rfl rfl (Nat.le_of_ble_eq_true rfl) (ev_L0 (L' := [some (.ref q0), some (.int x1), some (.int x2)]) rfl ?_)
  refine ev_aload_n dX10_mode_0 rfl (fun _ e => by cases e) ?_
  refine ev_iconst (v := (0 : Int32)) dX10_mode_1 (by decide) ?_
  obtain ⟨I1, eI1, h⟩ := ev_ltE h
  refine ew_put0 dX10_mode_2 fX10_44 g0 rfl rfl rfl rfl rfl rfl (ew_nh eI1 ?_)
  refine ev_aload_n dX10_mode_5 rfl (fun _ e => by cases e) ?_
  refine ev_iload_n dX10_mode_6 rfl ?_
  obtain ⟨z2, hz2, h⟩ := ev_bnE h
  refine ec_Vi (Y := mX10_isNode) (ci := 9) (As := [.int x1]) (rest := []) dX10_mode_7 kX10_71 oX10_isNode ⟨Nat.le_of_ble_eq_true rfl, Nat.le_of_ble_eq_true rfl⟩ (by decide) rfl (shp_n g0 0 rfl) (shp_t g0 0 rfl) rfl (Nat.le_of_ble_eq_true rfl) (tX10_isNode n q0 g0 x1 I1 z2 hz2) rfl ?_
  refine ev_if_eq (tgt := 23) dX10_mode_10 (by decide) (fun c3 => ?_) (fun c3 => ?_)
  · have h := ev_ifT h c3
    refine ev_iconst (v := (0 : Int32)) dX10_mode_23 (by decide) ?_
    cases h
    exact er_i dX10_mode_24 rfl rfl
  · have h := ev_ifF h c3
    refine ev_aload_n dX10_mode_13 rfl (fun _ e => by cases e) ?_
    refine ev_iload_n dX10_mode_14 rfl ?_
    refine ev_iconst (v := (0 : Int32)) dX10_mode_15 (by decide) ?_
    refine ev_iconst (v := (2 : Int32)) dX10_mode_16 (by decide) ?_
    obtain ⟨z4, hz4, h⟩ := ev_bnE h
    refine ec_Vi (Y := mX10_isIn) (ci := 9) (As := [.int x2, .int (0 : Int32), .int (2 : Int32)]) (rest := []) dX10_mode_17 kX10_61 oX10_isIn ⟨Nat.le_of_ble_eq_true rfl, Nat.le_of_ble_eq_true rfl⟩ (by decide) rfl (shp_n g0 0 rfl) (shp_t g0 0 rfl) rfl (Nat.le_of_ble_eq_true rfl) (tX10_isIn n q0 g0 x2 (0 : Int32) (2 : Int32) I1 z4 hz4) rfl ?_
    refine ev_if_ne (tgt := 25) dX10_mode_20 (by decide) (fun c5 => ?_) (fun c5 => ?_)
    · have h := ev_ifF h c5
      refine ev_aload_n dX10_mode_25 rfl (fun _ e => by cases e) ?_
      refine ew_getr0 dX10_mode_26 fX10_7 g0 rfl rfl rfl rfl ?_
      refine ev_aload_n dX10_mode_29 rfl (fun _ e => by cases e) ?_
      refine ev_iload_n dX10_mode_30 rfl ?_
      obtain ⟨z6, hz6, h⟩ := ev_bnE h
      refine ec_Vi (Y := mX10_nodeAt) (ci := 9) (As := [.int x1]) (rest := [(.ref (q0 + 1))]) dX10_mode_31 kX10_54 oX10_nodeAt ⟨Nat.le_of_ble_eq_true rfl, Nat.le_of_ble_eq_true rfl⟩ (by decide) rfl (shp_n g0 0 rfl) (shp_t g0 0 rfl) rfl (Nat.le_of_ble_eq_true rfl) (tX10_nodeAt n q0 g0 x1 I1 z6 hz6) rfl ?_
      refine ev_iconst (v := (0 : Int32)) dX10_mode_34 (by decide) ?_
      refine ev_iadd dX10_mode_35 ?_
      refine ev_iload_n dX10_mode_36 rfl ?_
      obtain ⟨c7, h⟩ := ev_ckE h
      obtain ⟨I8, eI8, h⟩ := ev_ltE h
      refine ew_iast dX10_mode_37 (shp_a g0 1 rfl) c7 (ew_nh eI8 ?_)
      refine ev_iconst (v := (1 : Int32)) dX10_mode_38 (by decide) ?_
      cases h
      exact er_i dX10_mode_39 rfl rfl
    · have h := ev_ifT h c5
      refine ev_iconst (v := (0 : Int32)) dX10_mode_23 (by decide) ?_
      cases h
      exact er_i dX10_mode_24 rfl rfl
-- ChainVotesModel cuts(IIZ)V
def cX10_cuts_47 (q0 : Nat) (n : Nat) (s1 : Int32) (s2 : Int32) (I : ev_I) : Option (ev_I) :=
  ev_ck (ev_in s1 6010) <|
  ev_lt (ev_u2 I (q0 + 1) s1.toNatClampNeg s2) fun I2 =>
  some I2
def pX10_cuts (n : Nat) (q0 : Nat) (x1 : Int32) (x2 : Int32) (x3 : Int32) (I : ev_I) : Option (ev_I) :=
  (pX10_nodeAt n q0 x1 I).bind fun z3 =>
  ev_lt (z3 + (11 : Int32)) fun v4 =>
  if x3 = 0 then
    ev_ck (ev_in v4 6010) <|
    cX10_cuts_47 q0 n v4 ((I (q0 + 1) v4.toNatClampNeg) &&& (((1 : Int32) <<< (x2 &&& 31)) ^^^ (-1 : Int32))) I
  else
    ev_ck (ev_in v4 6010) <|
    cX10_cuts_47 q0 n v4 ((I (q0 + 1) v4.toNatClampNeg) ||| ((1 : Int32) <<< (x2 &&& 31))) I
set_option maxRecDepth 100000 in
set_option maxHeartbeats 4000000 in
theorem tX10_cuts_47 {E : ev_N} {σ : ev_H} (q0 : Nat) (g0 : shp tb9 σ q0) (n : Nat) (s1 : Int32) (s2 : Int32) (I : ev_I) (o : ev_I) : cX10_cuts_47 q0 n s1 s2 I = some o → EV E mX10_cuts 47 [none, none, none, none, none] [(.int s2), (.int s1), (.ref (q0 + 1))] (h_w σ I) (Option.none, h_w σ o) := by
  intro h
  unfold cX10_cuts_47 at h
  obtain ⟨c1, h⟩ := ev_ckE h
  obtain ⟨I2, eI2, h⟩ := ev_ltE h
  refine ew_iast dX10_cuts_47 (shp_a g0 1 rfl) c1 (ew_nh eI2 ?_)
  cases h
  exact er_v dX10_cuts_48 rfl
set_option maxRecDepth 100000 in
set_option maxHeartbeats 4000000 in
theorem tX10_cuts {E : ev_N} {σ : ev_H} (n : Nat) (q0 : Nat) (g0 : shp tb9 σ q0) (x1 : Int32) (x2 : Int32) (x3 : Int32) (I : ev_I) (o : ev_I) (h : pX10_cuts n q0 x1 x2 x3 I = some o) : ev_T E mX10_cuts [.ref q0, .int x1, .int x2, .int x3] (h_w σ I) (Option.none, h_w σ o) := by
  unfold pX10_cuts at h
  refine ev_met rfl rfl (Nat.le_of_ble_eq_true rfl) (ev_L0 (L' := [some (.ref q0), some (.int x1), some (.int x2), some (.int x3), none]) rfl ?_)
  refine ev_aload_n dX10_cuts_0 rfl (fun _ e => by cases e) ?_
  refine ev_iload_n dX10_cuts_1 rfl ?_
  obtain ⟨z3, hz3, h⟩ := ev_bnE h
  refine ec_Vi (Y := mX10_nodeAt) (ci := 9) (As := [.int x1]) (rest := []) dX10_cuts_2 kX10_54 oX10_nodeAt ⟨Nat.le_of_ble_eq_true rfl, Nat.le_of_ble_eq_true rfl⟩ (by decide) rfl (shp_n g0 0 rfl) (shp_t g0 0 rfl) rfl (Nat.le_of_ble_eq_true rfl) (tX10_nodeAt n q0 g0 x1 I z3 hz3) rfl ?_
  refine ev_bipush (v := (11 : Int32)) dX10_cuts_5 (by decide) ?_
  refine ev_iadd dX10_cuts_7 ?_
  obtain ⟨v4, ev4, h⟩ := ev_ltE h
  refine ew_nm ev4 ?_
  refine ew_ist (L' := [some (.ref q0), some (.int x1), some (.int x2), some (.int x3), some (.int v4)]) dX10_cuts_8 (Nat.le_of_ble_eq_true rfl) rfl ?_
  refine ev_aload_n dX10_cuts_10 rfl (fun _ e => by cases e) ?_
  refine ew_getr0 dX10_cuts_11 fX10_7 g0 rfl rfl rfl rfl ?_
  refine ev_iload dX10_cuts_14 rfl ?_
  refine ev_iload_n dX10_cuts_16 rfl ?_
  refine ev_if_eq (tgt := 34) dX10_cuts_17 (by decide) (fun c5 => ?_) (fun c5 => ?_)
  · have h := ev_ifT h c5
    refine ev_aload_n dX10_cuts_34 rfl (fun _ e => by cases e) ?_
    refine ew_getr0 dX10_cuts_35 fX10_7 g0 rfl rfl rfl rfl ?_
    refine ev_iload dX10_cuts_38 rfl ?_
    obtain ⟨c6, h⟩ := ev_ckE h
    refine ew_iald dX10_cuts_40 (shp_a g0 1 rfl) c6 ?_
    refine ev_iconst (v := (1 : Int32)) dX10_cuts_41 (by decide) ?_
    refine ev_iload_n dX10_cuts_42 rfl ?_
    refine ev_ishl dX10_cuts_43 ?_
    refine ev_iconst (v := (-1 : Int32)) dX10_cuts_44 (by decide) ?_
    refine ev_ixor dX10_cuts_45 ?_
    refine ev_iand dX10_cuts_46 ?_
    exact ev_weak (sb_n (sb_n (sb_n (sb_n (sb_n sb_0))))) (tX10_cuts_47 q0 g0 n v4 ((I (q0 + 1) v4.toNatClampNeg) &&& (((1 : Int32) <<< (x2 &&& 31)) ^^^ (-1 : Int32))) I _ h)
  · have h := ev_ifF h c5
    refine ev_aload_n dX10_cuts_20 rfl (fun _ e => by cases e) ?_
    refine ew_getr0 dX10_cuts_21 fX10_7 g0 rfl rfl rfl rfl ?_
    refine ev_iload dX10_cuts_24 rfl ?_
    obtain ⟨c7, h⟩ := ev_ckE h
    refine ew_iald dX10_cuts_26 (shp_a g0 1 rfl) c7 ?_
    refine ev_iconst (v := (1 : Int32)) dX10_cuts_27 (by decide) ?_
    refine ev_iload_n dX10_cuts_28 rfl ?_
    refine ev_ishl dX10_cuts_29 ?_
    refine ev_ior dX10_cuts_30 ?_
    refine ev_goto (tgt := 47) dX10_cuts_31 (by decide) ?_
    exact ev_weak (sb_n (sb_n (sb_n (sb_n (sb_n sb_0))))) (tX10_cuts_47 q0 g0 n v4 ((I (q0 + 1) v4.toNatClampNeg) ||| ((1 : Int32) <<< (x2 &&& 31))) I _ h)
-- ChainVotesModel cut(IIZ)Z
def pX10_cut (n : Nat) (q0 : Nat) (x1 : Int32) (x2 : Int32) (x3 : Int32) (I : ev_I) : Option (Int32 × ev_I) :=
  ev_lt (ev_u2 I q0 0 (0 : Int32)) fun I1 =>
  (pX10_isNode n q0 x1 I1).bind fun z2 =>
  if z2 = 0 then
    some ((0 : Int32), I1)
  else
    (pX10_isNode n q0 x2 I1).bind fun z4 =>
    if z4 = 0 then
      some ((0 : Int32), I1)
    else
      if x1 = x2 then
        some ((0 : Int32), I1)
      else
        (pX10_cuts n q0 x1 x2 x3 I1).bind fun z7 =>
        (pX10_cuts n q0 x2 x1 x3 z7).bind fun z8 =>
        some ((1 : Int32), z8)
set_option maxRecDepth 100000 in
set_option maxHeartbeats 4000000 in
theorem tX10_cut {E : ev_N} {σ : ev_H} (n : Nat) (q0 : Nat) (g0 : shp tb9 σ q0) (x1 : Int32) (x2 : Int32) (x3 : Int32) (I : ev_I) (o : Int32 × ev_I) (h : pX10_cut n q0 x1 x2 x3 I = some o) : ev_T E mX10_cut [.ref q0, .int x1, .int x2, .int x3] (h_w σ I) (Option.some (Value.int o.1), h_w σ o.2) := by
  unfold pX10_cut at h
  refine ev_met rfl rfl (Nat.le_of_ble_eq_true rfl) (ev_L0 (L' := [some (.ref q0), some (.int x1), some (.int x2), some (.int x3)]) rfl ?_)
  refine ev_aload_n dX10_cut_0 rfl (fun _ e => by cases e) ?_
  refine ev_iconst (v := (0 : Int32)) dX10_cut_1 (by decide) ?_
  obtain ⟨I1, eI1, h⟩ := ev_ltE h
  refine ew_put0 dX10_cut_2 fX10_44 g0 rfl rfl rfl rfl rfl rfl (ew_nh eI1 ?_)
  refine ev_aload_n dX10_cut_5 rfl (fun _ e => by cases e) ?_
  refine ev_iload_n dX10_cut_6 rfl ?_
  obtain ⟨z2, hz2, h⟩ := ev_bnE h
  refine ec_Vi (Y := mX10_isNode) (ci := 9) (As := [.int x1]) (rest := []) dX10_cut_7 kX10_71 oX10_isNode ⟨Nat.le_of_ble_eq_true rfl, Nat.le_of_ble_eq_true rfl⟩ (by decide) rfl (shp_n g0 0 rfl) (shp_t g0 0 rfl) rfl (Nat.le_of_ble_eq_true rfl) (tX10_isNode n q0 g0 x1 I1 z2 hz2) rfl ?_
  refine ev_if_eq (tgt := 26) dX10_cut_10 (by decide) (fun c3 => ?_) (fun c3 => ?_)
  · have h := ev_ifT h c3
    refine ev_iconst (v := (0 : Int32)) dX10_cut_26 (by decide) ?_
    cases h
    exact er_i dX10_cut_27 rfl rfl
  · have h := ev_ifF h c3
    refine ev_aload_n dX10_cut_13 rfl (fun _ e => by cases e) ?_
    refine ev_iload_n dX10_cut_14 rfl ?_
    obtain ⟨z4, hz4, h⟩ := ev_bnE h
    refine ec_Vi (Y := mX10_isNode) (ci := 9) (As := [.int x2]) (rest := []) dX10_cut_15 kX10_71 oX10_isNode ⟨Nat.le_of_ble_eq_true rfl, Nat.le_of_ble_eq_true rfl⟩ (by decide) rfl (shp_n g0 0 rfl) (shp_t g0 0 rfl) rfl (Nat.le_of_ble_eq_true rfl) (tX10_isNode n q0 g0 x2 I1 z4 hz4) rfl ?_
    refine ev_if_eq (tgt := 26) dX10_cut_18 (by decide) (fun c5 => ?_) (fun c5 => ?_)
    · have h := ev_ifT h c5
      refine ev_iconst (v := (0 : Int32)) dX10_cut_26 (by decide) ?_
      cases h
      exact er_i dX10_cut_27 rfl rfl
    · have h := ev_ifF h c5
      refine ev_iload_n dX10_cut_21 rfl ?_
      refine ev_iload_n dX10_cut_22 rfl ?_
      refine ev_icmp_ne (tgt := 28) dX10_cut_23 (by decide) (fun c6 => ?_) (fun c6 => ?_)
      · have h := ev_ifF h c6
        refine ev_aload_n dX10_cut_28 rfl (fun _ e => by cases e) ?_
        refine ev_iload_n dX10_cut_29 rfl ?_
        refine ev_iload_n dX10_cut_30 rfl ?_
        refine ev_iload_n dX10_cut_31 rfl ?_
        obtain ⟨z7, hz7, h⟩ := ev_bnE h
        refine ec_Vv (Y := mX10_cuts) (ci := 9) (As := [.int x1, .int x2, .int x3]) (rest := []) dX10_cut_32 kX10_75 oX10_cuts ⟨Nat.le_of_ble_eq_true rfl, Nat.le_of_ble_eq_true rfl⟩ (by decide) rfl (shp_n g0 0 rfl) (shp_t g0 0 rfl) rfl (Nat.le_of_ble_eq_true rfl) (tX10_cuts n q0 g0 x1 x2 x3 I1 z7 hz7) rfl ?_
        refine ev_aload_n dX10_cut_35 rfl (fun _ e => by cases e) ?_
        refine ev_iload_n dX10_cut_36 rfl ?_
        refine ev_iload_n dX10_cut_37 rfl ?_
        refine ev_iload_n dX10_cut_38 rfl ?_
        obtain ⟨z8, hz8, h⟩ := ev_bnE h
        refine ec_Vv (Y := mX10_cuts) (ci := 9) (As := [.int x2, .int x1, .int x3]) (rest := []) dX10_cut_39 kX10_75 oX10_cuts ⟨Nat.le_of_ble_eq_true rfl, Nat.le_of_ble_eq_true rfl⟩ (by decide) rfl (shp_n g0 0 rfl) (shp_t g0 0 rfl) rfl (Nat.le_of_ble_eq_true rfl) (tX10_cuts n q0 g0 x2 x1 x3 z7 z8 hz8) rfl ?_
        refine ev_iconst (v := (1 : Int32)) dX10_cut_42 (by decide) ?_
        cases h
        exact er_i dX10_cut_43 rfl rfl
      · have h := ev_ifT h c6
        refine ev_iconst (v := (0 : Int32)) dX10_cut_26 (by decide) ?_
        cases h
        exact er_i dX10_cut_27 rfl rfl
-- ChainVotesModel reach(I)I
def pX10_reach (n : Nat) (q0 : Nat) (x1 : Int32) (I : ev_I) : Option (Int32 × ev_I) :=
  ev_lt (ev_u2 I q0 0 (0 : Int32)) fun I1 =>
  (pX10_isNode n q0 x1 I1).bind fun z2 =>
  if z2 = 0 then
    some ((-1 : Int32), I1)
  else
    (pX10_nodeMany n q0  I1).bind fun z4 =>
    (pX10_nodeAt n q0 x1 I1).bind fun z5 =>
    ev_ck (ev_in (z5 + (11 : Int32)) 6010) <|
    some (((((1 : Int32) <<< (z4 &&& 31)) - (1 : Int32)) &&& ((I1 (q0 + 1) (z5 + (11 : Int32)).toNatClampNeg) ^^^ (-1 : Int32))), I1)
set_option maxRecDepth 100000 in
set_option maxHeartbeats 4000000 in
theorem tX10_reach {E : ev_N} {σ : ev_H} (n : Nat) (q0 : Nat) (g0 : shp tb9 σ q0) (x1 : Int32) (I : ev_I) (o : Int32 × ev_I) (h : pX10_reach n q0 x1 I = some o) : ev_T E mX10_reach [.ref q0, .int x1] (h_w σ I) (Option.some (Value.int o.1), h_w σ o.2) := by
  unfold pX10_reach at h
  refine ev_met rfl rfl (Nat.le_of_ble_eq_true rfl) (ev_L0 (L' := [some (.ref q0), some (.int x1)]) rfl ?_)
  refine ev_aload_n dX10_reach_0 rfl (fun _ e => by cases e) ?_
  refine ev_iconst (v := (0 : Int32)) dX10_reach_1 (by decide) ?_
  obtain ⟨I1, eI1, h⟩ := ev_ltE h
  refine ew_put0 dX10_reach_2 fX10_44 g0 rfl rfl rfl rfl rfl rfl (ew_nh eI1 ?_)
  refine ev_aload_n dX10_reach_5 rfl (fun _ e => by cases e) ?_
  refine ev_iload_n dX10_reach_6 rfl ?_
  obtain ⟨z2, hz2, h⟩ := ev_bnE h
  refine ec_Vi (Y := mX10_isNode) (ci := 9) (As := [.int x1]) (rest := []) dX10_reach_7 kX10_71 oX10_isNode ⟨Nat.le_of_ble_eq_true rfl, Nat.le_of_ble_eq_true rfl⟩ (by decide) rfl (shp_n g0 0 rfl) (shp_t g0 0 rfl) rfl (Nat.le_of_ble_eq_true rfl) (tX10_isNode n q0 g0 x1 I1 z2 hz2) rfl ?_
  refine ev_if_eq (tgt := 40) dX10_reach_10 (by decide) (fun c3 => ?_) (fun c3 => ?_)
  · have h := ev_ifT h c3
    refine ev_iconst (v := (-1 : Int32)) dX10_reach_40 (by decide) ?_
    cases h
    exact er_i dX10_reach_41 rfl rfl
  · have h := ev_ifF h c3
    refine ev_iconst (v := (1 : Int32)) dX10_reach_13 (by decide) ?_
    refine ev_aload_n dX10_reach_14 rfl (fun _ e => by cases e) ?_
    obtain ⟨z4, hz4, h⟩ := ev_bnE h
    refine ec_Vi (Y := mX10_nodeMany) (ci := 9) (As := []) (rest := [(.int (1 : Int32))]) dX10_reach_15 kX10_47 oX10_nodeMany ⟨Nat.le_of_ble_eq_true rfl, Nat.le_of_ble_eq_true rfl⟩ (by decide) rfl (shp_n g0 0 rfl) (shp_t g0 0 rfl) rfl (Nat.le_of_ble_eq_true rfl) (tX10_nodeMany n q0 g0  I1 z4 hz4) rfl ?_
    refine ev_ishl dX10_reach_18 ?_
    refine ev_iconst (v := (1 : Int32)) dX10_reach_19 (by decide) ?_
    refine ev_isub dX10_reach_20 ?_
    refine ev_aload_n dX10_reach_21 rfl (fun _ e => by cases e) ?_
    refine ew_getr0 dX10_reach_22 fX10_7 g0 rfl rfl rfl rfl ?_
    refine ev_aload_n dX10_reach_25 rfl (fun _ e => by cases e) ?_
    refine ev_iload_n dX10_reach_26 rfl ?_
    obtain ⟨z5, hz5, h⟩ := ev_bnE h
    refine ec_Vi (Y := mX10_nodeAt) (ci := 9) (As := [.int x1]) (rest := [(.ref (q0 + 1)), (.int (((1 : Int32) <<< (z4 &&& 31)) - (1 : Int32)))]) dX10_reach_27 kX10_54 oX10_nodeAt ⟨Nat.le_of_ble_eq_true rfl, Nat.le_of_ble_eq_true rfl⟩ (by decide) rfl (shp_n g0 0 rfl) (shp_t g0 0 rfl) rfl (Nat.le_of_ble_eq_true rfl) (tX10_nodeAt n q0 g0 x1 I1 z5 hz5) rfl ?_
    refine ev_bipush (v := (11 : Int32)) dX10_reach_30 (by decide) ?_
    refine ev_iadd dX10_reach_32 ?_
    obtain ⟨c6, h⟩ := ev_ckE h
    refine ew_iald dX10_reach_33 (shp_a g0 1 rfl) c6 ?_
    refine ev_iconst (v := (-1 : Int32)) dX10_reach_34 (by decide) ?_
    refine ev_ixor dX10_reach_35 ?_
    refine ev_iand dX10_reach_36 ?_
    refine ev_goto (tgt := 41) dX10_reach_37 (by decide) ?_
    cases h
    exact er_i dX10_reach_41 rfl rfl
-- ChainVotesModel accuses(IIIII)V
def cX10_accuses_91 (q0 : Nat) (K3 : Int32 → Int32 → Int32 → Int32 → Int32 → Int32 → ev_I → Option (ev_I)) (n : Nat) (y1 : Int32) (y2 : Int32) (y3 : Int32) (y4 : Int32) (y5 : Int32) (y6 : Int32) (I : ev_I) : Option (ev_I) :=
  ev_lt (y6 + (1 : Int32)) fun v1 =>
  K3 y1 y2 y3 y4 y5 v1 I
def cX10_accuses_3 (q0 : Nat) (K3 : Int32 → Int32 → Int32 → Int32 → Int32 → Int32 → ev_I → Option (ev_I)) (n : Nat) (y1 : Int32) (y2 : Int32) (y3 : Int32) (y4 : Int32) (y5 : Int32) (y6 : Int32) (I : ev_I) : Option (ev_I) :=
  if (I (q0 + 1) (7 : Int32).toNatClampNeg) ≤ y6 then
    if (I (q0 + 1) (7 : Int32).toNatClampNeg) = (60 : Int32) then
      some I
    else
      ev_lt ((1816 : Int32) + ((5 : Int32) * (I (q0 + 1) (7 : Int32).toNatClampNeg))) fun v4 =>
      ev_ck (ev_in v4 6010) <|
      ev_lt (ev_u2 I (q0 + 1) v4.toNatClampNeg y1) fun I6 =>
      ev_ck (ev_in (v4 + (1 : Int32)) 6010) <|
      ev_lt (ev_u2 I6 (q0 + 1) (v4 + (1 : Int32)).toNatClampNeg y2) fun I8 =>
      ev_ck (ev_in (v4 + (2 : Int32)) 6010) <|
      ev_lt (ev_u2 I8 (q0 + 1) (v4 + (2 : Int32)).toNatClampNeg y3) fun I10 =>
      ev_ck (ev_in (v4 + (3 : Int32)) 6010) <|
      ev_lt (ev_u2 I10 (q0 + 1) (v4 + (3 : Int32)).toNatClampNeg y4) fun I12 =>
      ev_ck (ev_in (v4 + (4 : Int32)) 6010) <|
      ev_lt (ev_u2 I12 (q0 + 1) (v4 + (4 : Int32)).toNatClampNeg y5) fun I14 =>
      ev_lt (ev_u2 I14 (q0 + 1) (7 : Int32).toNatClampNeg ((I14 (q0 + 1) (7 : Int32).toNatClampNeg) + (1 : Int32))) fun I15 =>
      some I15
  else
    ev_lt ((1816 : Int32) + ((5 : Int32) * y6)) fun v16 =>
    ev_ck (ev_in v16 6010) <|
    if (I (q0 + 1) v16.toNatClampNeg) = y1 then
      ev_ck (ev_in (v16 + (1 : Int32)) 6010) <|
      if (I (q0 + 1) (v16 + (1 : Int32)).toNatClampNeg) = y2 then
        ev_ck (ev_in (v16 + (2 : Int32)) 6010) <|
        if (I (q0 + 1) (v16 + (2 : Int32)).toNatClampNeg) = y3 then
          ev_ck (ev_in (v16 + (3 : Int32)) 6010) <|
          if (I (q0 + 1) (v16 + (3 : Int32)).toNatClampNeg) = y4 then
            ev_ck (ev_in (v16 + (4 : Int32)) 6010) <|
            if (I (q0 + 1) (v16 + (4 : Int32)).toNatClampNeg) = y5 then
              some I
            else
              cX10_accuses_91 q0 K3 n y1 y2 y3 y4 y5 y6 I
          else
            cX10_accuses_91 q0 K3 n y1 y2 y3 y4 y5 y6 I
        else
          cX10_accuses_91 q0 K3 n y1 y2 y3 y4 y5 y6 I
      else
        cX10_accuses_91 q0 K3 n y1 y2 y3 y4 y5 y6 I
    else
      cX10_accuses_91 q0 K3 n y1 y2 y3 y4 y5 y6 I
def lX10_accuses_3 (q0 : Nat) : Nat → Int32 → Int32 → Int32 → Int32 → Int32 → Int32 → ev_I → Option (ev_I)
  | 0, _, _, _, _, _, _, _ => none
  | n + 1, y1, y2, y3, y4, y5, y6, I => cX10_accuses_3 q0 (lX10_accuses_3 q0 n) n y1 y2 y3 y4 y5 y6 I
def pX10_accuses (n : Nat) (q0 : Nat) (x1 : Int32) (x2 : Int32) (x3 : Int32) (x4 : Int32) (x5 : Int32) (I : ev_I) : Option (ev_I) :=
  lX10_accuses_3 q0 n x1 x2 x3 x4 x5 (0 : Int32) I
set_option maxRecDepth 100000 in
set_option maxHeartbeats 4000000 in
theorem tX10_accuses_91 {E : ev_N} {σ : ev_H} (q0 : Nat) (g0 : shp tb9 σ q0) (K3 : Int32 → Int32 → Int32 → Int32 → Int32 → Int32 → ev_I → Option (ev_I)) (k3 : ∀ (y1 : Int32) (y2 : Int32) (y3 : Int32) (y4 : Int32) (y5 : Int32) (y6 : Int32) (I : ev_I) (o : ev_I), K3 y1 y2 y3 y4 y5 y6 I = some o → EV E mX10_accuses 3 [some (.ref q0), some (.int y1), some (.int y2), some (.int y3), some (.int y4), some (.int y5), some (.int y6), none] [] (h_w σ I) (Option.none, h_w σ o)) (n : Nat) (y1 : Int32) (y2 : Int32) (y3 : Int32) (y4 : Int32) (y5 : Int32) (y6 : Int32) (I : ev_I) (o : ev_I) : cX10_accuses_91 q0 K3 n y1 y2 y3 y4 y5 y6 I = some o → EV E mX10_accuses 91 [some (.ref q0), some (.int y1), some (.int y2), some (.int y3), some (.int y4), some (.int y5), some (.int y6), none] [] (h_w σ I) (Option.none, h_w σ o) := by
  intro h
  unfold cX10_accuses_91 at h
  obtain ⟨v1, ev1, h⟩ := ev_ltE h
  refine ew_iinc (L' := [some (.ref q0), some (.int y1), some (.int y2), some (.int y3), some (.int y4), some (.int y5), some (.int v1), none]) dX10_accuses_91 (Nat.le_of_ble_eq_true rfl) rfl (by decide) ev1 rfl ?_
  refine ev_goto (tgt := 3) dX10_accuses_94 (by decide) ?_
  exact ev_weak (sb_s (sb_s (sb_s (sb_s (sb_s (sb_s (sb_s (sb_n sb_0)))))))) (k3 y1 y2 y3 y4 y5 v1 I _ h)
set_option maxRecDepth 100000 in
set_option maxHeartbeats 4000000 in
theorem tX10_accuses_3 {E : ev_N} {σ : ev_H} (q0 : Nat) (g0 : shp tb9 σ q0) (K3 : Int32 → Int32 → Int32 → Int32 → Int32 → Int32 → ev_I → Option (ev_I)) (k3 : ∀ (y1 : Int32) (y2 : Int32) (y3 : Int32) (y4 : Int32) (y5 : Int32) (y6 : Int32) (I : ev_I) (o : ev_I), K3 y1 y2 y3 y4 y5 y6 I = some o → EV E mX10_accuses 3 [some (.ref q0), some (.int y1), some (.int y2), some (.int y3), some (.int y4), some (.int y5), some (.int y6), none] [] (h_w σ I) (Option.none, h_w σ o)) (n : Nat) (y1 : Int32) (y2 : Int32) (y3 : Int32) (y4 : Int32) (y5 : Int32) (y6 : Int32) (I : ev_I) (o : ev_I) : cX10_accuses_3 q0 K3 n y1 y2 y3 y4 y5 y6 I = some o → EV E mX10_accuses 3 [some (.ref q0), some (.int y1), some (.int y2), some (.int y3), some (.int y4), some (.int y5), some (.int y6), none] [] (h_w σ I) (Option.none, h_w σ o) := by
  intro h
  unfold cX10_accuses_3 at h
  refine ev_iload dX10_accuses_3 rfl ?_
  refine ev_aload_n dX10_accuses_5 rfl (fun _ e => by cases e) ?_
  refine ew_getr0 dX10_accuses_6 fX10_7 g0 rfl rfl rfl rfl ?_
  refine ev_bipush (v := (7 : Int32)) dX10_accuses_9 (by decide) ?_
  refine ew_iald dX10_accuses_11 (shp_a g0 1 rfl) (by decide) ?_
  refine ev_icmp_ge (tgt := 97) dX10_accuses_12 (by decide) (fun c2 => ?_) (fun c2 => ?_)
  · have h := ev_ifT h c2
    refine ev_aload_n dX10_accuses_97 rfl (fun _ e => by cases e) ?_
    refine ew_getr0 dX10_accuses_98 fX10_7 g0 rfl rfl rfl rfl ?_
    refine ev_bipush (v := (7 : Int32)) dX10_accuses_101 (by decide) ?_
    refine ew_iald dX10_accuses_103 (shp_a g0 1 rfl) (by decide) ?_
    refine ev_bipush (v := (60 : Int32)) dX10_accuses_104 (by decide) ?_
    refine ev_icmp_ne (tgt := 110) dX10_accuses_106 (by decide) (fun c3 => ?_) (fun c3 => ?_)
    · have h := ev_ifF h c3
      refine ev_sipush (v := (1816 : Int32)) dX10_accuses_110 (by decide) ?_
      refine ev_iconst (v := (5 : Int32)) dX10_accuses_113 (by decide) ?_
      refine ev_aload_n dX10_accuses_114 rfl (fun _ e => by cases e) ?_
      refine ew_getr0 dX10_accuses_115 fX10_7 g0 rfl rfl rfl rfl ?_
      refine ev_bipush (v := (7 : Int32)) dX10_accuses_118 (by decide) ?_
      refine ew_iald dX10_accuses_120 (shp_a g0 1 rfl) (by decide) ?_
      refine ev_imul dX10_accuses_121 ?_
      refine ev_iadd dX10_accuses_122 ?_
      obtain ⟨v4, ev4, h⟩ := ev_ltE h
      refine ew_nm ev4 ?_
      refine ew_ist (L' := [some (.ref q0), some (.int y1), some (.int y2), some (.int y3), some (.int y4), some (.int y5), some (.int v4), none]) dX10_accuses_123 (Nat.le_of_ble_eq_true rfl) rfl ?_
      refine ev_aload_n dX10_accuses_125 rfl (fun _ e => by cases e) ?_
      refine ew_getr0 dX10_accuses_126 fX10_7 g0 rfl rfl rfl rfl ?_
      refine ev_iload dX10_accuses_129 rfl ?_
      refine ev_iload_n dX10_accuses_131 rfl ?_
      obtain ⟨c5, h⟩ := ev_ckE h
      obtain ⟨I6, eI6, h⟩ := ev_ltE h
      refine ew_iast dX10_accuses_132 (shp_a g0 1 rfl) c5 (ew_nh eI6 ?_)
      refine ev_aload_n dX10_accuses_133 rfl (fun _ e => by cases e) ?_
      refine ew_getr0 dX10_accuses_134 fX10_7 g0 rfl rfl rfl rfl ?_
      refine ev_iload dX10_accuses_137 rfl ?_
      refine ev_iconst (v := (1 : Int32)) dX10_accuses_139 (by decide) ?_
      refine ev_iadd dX10_accuses_140 ?_
      refine ev_iload_n dX10_accuses_141 rfl ?_
      obtain ⟨c7, h⟩ := ev_ckE h
      obtain ⟨I8, eI8, h⟩ := ev_ltE h
      refine ew_iast dX10_accuses_142 (shp_a g0 1 rfl) c7 (ew_nh eI8 ?_)
      refine ev_aload_n dX10_accuses_143 rfl (fun _ e => by cases e) ?_
      refine ew_getr0 dX10_accuses_144 fX10_7 g0 rfl rfl rfl rfl ?_
      refine ev_iload dX10_accuses_147 rfl ?_
      refine ev_iconst (v := (2 : Int32)) dX10_accuses_149 (by decide) ?_
      refine ev_iadd dX10_accuses_150 ?_
      refine ev_iload_n dX10_accuses_151 rfl ?_
      obtain ⟨c9, h⟩ := ev_ckE h
      obtain ⟨I10, eI10, h⟩ := ev_ltE h
      refine ew_iast dX10_accuses_152 (shp_a g0 1 rfl) c9 (ew_nh eI10 ?_)
      refine ev_aload_n dX10_accuses_153 rfl (fun _ e => by cases e) ?_
      refine ew_getr0 dX10_accuses_154 fX10_7 g0 rfl rfl rfl rfl ?_
      refine ev_iload dX10_accuses_157 rfl ?_
      refine ev_iconst (v := (3 : Int32)) dX10_accuses_159 (by decide) ?_
      refine ev_iadd dX10_accuses_160 ?_
      refine ev_iload dX10_accuses_161 rfl ?_
      obtain ⟨c11, h⟩ := ev_ckE h
      obtain ⟨I12, eI12, h⟩ := ev_ltE h
      refine ew_iast dX10_accuses_163 (shp_a g0 1 rfl) c11 (ew_nh eI12 ?_)
      refine ev_aload_n dX10_accuses_164 rfl (fun _ e => by cases e) ?_
      refine ew_getr0 dX10_accuses_165 fX10_7 g0 rfl rfl rfl rfl ?_
      refine ev_iload dX10_accuses_168 rfl ?_
      refine ev_iconst (v := (4 : Int32)) dX10_accuses_170 (by decide) ?_
      refine ev_iadd dX10_accuses_171 ?_
      refine ev_iload dX10_accuses_172 rfl ?_
      obtain ⟨c13, h⟩ := ev_ckE h
      obtain ⟨I14, eI14, h⟩ := ev_ltE h
      refine ew_iast dX10_accuses_174 (shp_a g0 1 rfl) c13 (ew_nh eI14 ?_)
      refine ev_aload_n dX10_accuses_175 rfl (fun _ e => by cases e) ?_
      refine ew_getr0 dX10_accuses_176 fX10_7 g0 rfl rfl rfl rfl ?_
      refine ev_bipush (v := (7 : Int32)) dX10_accuses_179 (by decide) ?_
      refine ev_aload_n dX10_accuses_181 rfl (fun _ e => by cases e) ?_
      refine ew_getr0 dX10_accuses_182 fX10_7 g0 rfl rfl rfl rfl ?_
      refine ev_bipush (v := (7 : Int32)) dX10_accuses_185 (by decide) ?_
      refine ew_iald dX10_accuses_187 (shp_a g0 1 rfl) (by decide) ?_
      refine ev_iconst (v := (1 : Int32)) dX10_accuses_188 (by decide) ?_
      refine ev_iadd dX10_accuses_189 ?_
      obtain ⟨I15, eI15, h⟩ := ev_ltE h
      refine ew_iast dX10_accuses_190 (shp_a g0 1 rfl) (by decide) (ew_nh eI15 ?_)
      cases h
      exact er_v dX10_accuses_191 rfl
    · have h := ev_ifT h c3
      cases h
      exact er_v dX10_accuses_109 rfl
  · have h := ev_ifF h c2
    refine ev_sipush (v := (1816 : Int32)) dX10_accuses_15 (by decide) ?_
    refine ev_iconst (v := (5 : Int32)) dX10_accuses_18 (by decide) ?_
    refine ev_iload dX10_accuses_19 rfl ?_
    refine ev_imul dX10_accuses_21 ?_
    refine ev_iadd dX10_accuses_22 ?_
    obtain ⟨v16, ev16, h⟩ := ev_ltE h
    refine ew_nm ev16 ?_
    refine ew_ist (L' := [some (.ref q0), some (.int y1), some (.int y2), some (.int y3), some (.int y4), some (.int y5), some (.int y6), some (.int v16)]) dX10_accuses_23 (Nat.le_of_ble_eq_true rfl) rfl ?_
    refine ev_aload_n dX10_accuses_25 rfl (fun _ e => by cases e) ?_
    refine ew_getr0 dX10_accuses_26 fX10_7 g0 rfl rfl rfl rfl ?_
    refine ev_iload dX10_accuses_29 rfl ?_
    obtain ⟨c17, h⟩ := ev_ckE h
    refine ew_iald dX10_accuses_31 (shp_a g0 1 rfl) c17 ?_
    refine ev_iload_n dX10_accuses_32 rfl ?_
    refine ev_icmp_ne (tgt := 91) dX10_accuses_33 (by decide) (fun c18 => ?_) (fun c18 => ?_)
    · have h := ev_ifF h c18
      exact ev_weak (sb_s (sb_s (sb_s (sb_s (sb_s (sb_s (sb_s (sb_n sb_0)))))))) (tX10_accuses_91 q0 g0 K3 k3 n y1 y2 y3 y4 y5 y6 I _ h)
    · have h := ev_ifT h c18
      refine ev_aload_n dX10_accuses_36 rfl (fun _ e => by cases e) ?_
      refine ew_getr0 dX10_accuses_37 fX10_7 g0 rfl rfl rfl rfl ?_
      refine ev_iload dX10_accuses_40 rfl ?_
      refine ev_iconst (v := (1 : Int32)) dX10_accuses_42 (by decide) ?_
      refine ev_iadd dX10_accuses_43 ?_
      obtain ⟨c19, h⟩ := ev_ckE h
      refine ew_iald dX10_accuses_44 (shp_a g0 1 rfl) c19 ?_
      refine ev_iload_n dX10_accuses_45 rfl ?_
      refine ev_icmp_ne (tgt := 91) dX10_accuses_46 (by decide) (fun c20 => ?_) (fun c20 => ?_)
      · have h := ev_ifF h c20
        exact ev_weak (sb_s (sb_s (sb_s (sb_s (sb_s (sb_s (sb_s (sb_n sb_0)))))))) (tX10_accuses_91 q0 g0 K3 k3 n y1 y2 y3 y4 y5 y6 I _ h)
      · have h := ev_ifT h c20
        refine ev_aload_n dX10_accuses_49 rfl (fun _ e => by cases e) ?_
        refine ew_getr0 dX10_accuses_50 fX10_7 g0 rfl rfl rfl rfl ?_
        refine ev_iload dX10_accuses_53 rfl ?_
        refine ev_iconst (v := (2 : Int32)) dX10_accuses_55 (by decide) ?_
        refine ev_iadd dX10_accuses_56 ?_
        obtain ⟨c21, h⟩ := ev_ckE h
        refine ew_iald dX10_accuses_57 (shp_a g0 1 rfl) c21 ?_
        refine ev_iload_n dX10_accuses_58 rfl ?_
        refine ev_icmp_ne (tgt := 91) dX10_accuses_59 (by decide) (fun c22 => ?_) (fun c22 => ?_)
        · have h := ev_ifF h c22
          exact ev_weak (sb_s (sb_s (sb_s (sb_s (sb_s (sb_s (sb_s (sb_n sb_0)))))))) (tX10_accuses_91 q0 g0 K3 k3 n y1 y2 y3 y4 y5 y6 I _ h)
        · have h := ev_ifT h c22
          refine ev_aload_n dX10_accuses_62 rfl (fun _ e => by cases e) ?_
          refine ew_getr0 dX10_accuses_63 fX10_7 g0 rfl rfl rfl rfl ?_
          refine ev_iload dX10_accuses_66 rfl ?_
          refine ev_iconst (v := (3 : Int32)) dX10_accuses_68 (by decide) ?_
          refine ev_iadd dX10_accuses_69 ?_
          obtain ⟨c23, h⟩ := ev_ckE h
          refine ew_iald dX10_accuses_70 (shp_a g0 1 rfl) c23 ?_
          refine ev_iload dX10_accuses_71 rfl ?_
          refine ev_icmp_ne (tgt := 91) dX10_accuses_73 (by decide) (fun c24 => ?_) (fun c24 => ?_)
          · have h := ev_ifF h c24
            exact ev_weak (sb_s (sb_s (sb_s (sb_s (sb_s (sb_s (sb_s (sb_n sb_0)))))))) (tX10_accuses_91 q0 g0 K3 k3 n y1 y2 y3 y4 y5 y6 I _ h)
          · have h := ev_ifT h c24
            refine ev_aload_n dX10_accuses_76 rfl (fun _ e => by cases e) ?_
            refine ew_getr0 dX10_accuses_77 fX10_7 g0 rfl rfl rfl rfl ?_
            refine ev_iload dX10_accuses_80 rfl ?_
            refine ev_iconst (v := (4 : Int32)) dX10_accuses_82 (by decide) ?_
            refine ev_iadd dX10_accuses_83 ?_
            obtain ⟨c25, h⟩ := ev_ckE h
            refine ew_iald dX10_accuses_84 (shp_a g0 1 rfl) c25 ?_
            refine ev_iload dX10_accuses_85 rfl ?_
            refine ev_icmp_ne (tgt := 91) dX10_accuses_87 (by decide) (fun c26 => ?_) (fun c26 => ?_)
            · have h := ev_ifF h c26
              exact ev_weak (sb_s (sb_s (sb_s (sb_s (sb_s (sb_s (sb_s (sb_n sb_0)))))))) (tX10_accuses_91 q0 g0 K3 k3 n y1 y2 y3 y4 y5 y6 I _ h)
            · have h := ev_ifT h c26
              cases h
              exact er_v dX10_accuses_90 rfl
theorem tlX10_accuses_3 {E : ev_N} {σ : ev_H} (q0 : Nat) (g0 : shp tb9 σ q0) : ∀ (n : Nat) (y1 : Int32) (y2 : Int32) (y3 : Int32) (y4 : Int32) (y5 : Int32) (y6 : Int32) (I : ev_I) (o : ev_I), lX10_accuses_3 q0 n y1 y2 y3 y4 y5 y6 I = some o → EV E mX10_accuses 3 [some (.ref q0), some (.int y1), some (.int y2), some (.int y3), some (.int y4), some (.int y5), some (.int y6), none] [] (h_w σ I) (Option.none, h_w σ o)
  | 0, _, _, _, _, _, _, _, _, h => by cases h
  | n + 1, y1, y2, y3, y4, y5, y6, I, o, h => tX10_accuses_3 q0 g0 (lX10_accuses_3 q0 n) (tlX10_accuses_3 q0 g0 n) n y1 y2 y3 y4 y5 y6 I o h
set_option maxRecDepth 100000 in
set_option maxHeartbeats 4000000 in
theorem tX10_accuses {E : ev_N} {σ : ev_H} (n : Nat) (q0 : Nat) (g0 : shp tb9 σ q0) (x1 : Int32) (x2 : Int32) (x3 : Int32) (x4 : Int32) (x5 : Int32) (I : ev_I) (o : ev_I) (h : pX10_accuses n q0 x1 x2 x3 x4 x5 I = some o) : ev_T E mX10_accuses [.ref q0, .int x1, .int x2, .int x3, .int x4, .int x5] (h_w σ I) (Option.none, h_w σ o) := by
  unfold pX10_accuses at h
  refine ev_met rfl rfl (Nat.le_of_ble_eq_true rfl) (ev_L0 (L' := [some (.ref q0), some (.int x1), some (.int x2), some (.int x3), some (.int x4), some (.int x5), none, none]) rfl ?_)
  refine ev_iconst (v := (0 : Int32)) dX10_accuses_0 (by decide) ?_
  refine ew_ist (L' := [some (.ref q0), some (.int x1), some (.int x2), some (.int x3), some (.int x4), some (.int x5), some (.int (0 : Int32)), none]) dX10_accuses_1 (Nat.le_of_ble_eq_true rfl) rfl ?_
  exact ev_weak (sb_s (sb_s (sb_s (sb_s (sb_s (sb_s (sb_s (sb_n sb_0)))))))) (tlX10_accuses_3 q0 g0 n x1 x2 x3 x4 x5 (0 : Int32) I _ h)
-- ChainVotesModel tells(III)V
def pX10_tells (n : Nat) (q0 : Nat) (x1 : Int32) (x2 : Int32) (x3 : Int32) (I : ev_I) : Option (ev_I) :=
  if (I (q0 + 1) (8 : Int32).toNatClampNeg) = (100 : Int32) then
    some I
  else
    ev_lt ((2116 : Int32) + ((3 : Int32) * (I (q0 + 1) (8 : Int32).toNatClampNeg))) fun v2 =>
    ev_ck (ev_in v2 6010) <|
    ev_lt (ev_u2 I (q0 + 1) v2.toNatClampNeg x1) fun I4 =>
    ev_ck (ev_in (v2 + (1 : Int32)) 6010) <|
    ev_lt (ev_u2 I4 (q0 + 1) (v2 + (1 : Int32)).toNatClampNeg x2) fun I6 =>
    ev_ck (ev_in (v2 + (2 : Int32)) 6010) <|
    ev_lt (ev_u2 I6 (q0 + 1) (v2 + (2 : Int32)).toNatClampNeg x3) fun I8 =>
    ev_lt (ev_u2 I8 (q0 + 1) (8 : Int32).toNatClampNeg ((I8 (q0 + 1) (8 : Int32).toNatClampNeg) + (1 : Int32))) fun I9 =>
    some I9
set_option maxRecDepth 100000 in
set_option maxHeartbeats 4000000 in
theorem tX10_tells {E : ev_N} {σ : ev_H} (n : Nat) (q0 : Nat) (g0 : shp tb9 σ q0) (x1 : Int32) (x2 : Int32) (x3 : Int32) (I : ev_I) (o : ev_I) (h : pX10_tells n q0 x1 x2 x3 I = some o) : ev_T E mX10_tells [.ref q0, .int x1, .int x2, .int x3] (h_w σ I) (Option.none, h_w σ o) := by
  unfold pX10_tells at h
  refine ev_met rfl rfl (Nat.le_of_ble_eq_true rfl) (ev_L0 (L' := [some (.ref q0), some (.int x1), some (.int x2), some (.int x3), none]) rfl ?_)
  refine ev_aload_n dX10_tells_0 rfl (fun _ e => by cases e) ?_
  refine ew_getr0 dX10_tells_1 fX10_7 g0 rfl rfl rfl rfl ?_
  refine ev_bipush (v := (8 : Int32)) dX10_tells_4 (by decide) ?_
  refine ew_iald dX10_tells_6 (shp_a g0 1 rfl) (by decide) ?_
  refine ev_bipush (v := (100 : Int32)) dX10_tells_7 (by decide) ?_
  refine ev_icmp_ne (tgt := 13) dX10_tells_9 (by decide) (fun c1 => ?_) (fun c1 => ?_)
  · have h := ev_ifF h c1
    refine ev_sipush (v := (2116 : Int32)) dX10_tells_13 (by decide) ?_
    refine ev_iconst (v := (3 : Int32)) dX10_tells_16 (by decide) ?_
    refine ev_aload_n dX10_tells_17 rfl (fun _ e => by cases e) ?_
    refine ew_getr0 dX10_tells_18 fX10_7 g0 rfl rfl rfl rfl ?_
    refine ev_bipush (v := (8 : Int32)) dX10_tells_21 (by decide) ?_
    refine ew_iald dX10_tells_23 (shp_a g0 1 rfl) (by decide) ?_
    refine ev_imul dX10_tells_24 ?_
    refine ev_iadd dX10_tells_25 ?_
    obtain ⟨v2, ev2, h⟩ := ev_ltE h
    refine ew_nm ev2 ?_
    refine ew_ist (L' := [some (.ref q0), some (.int x1), some (.int x2), some (.int x3), some (.int v2)]) dX10_tells_26 (Nat.le_of_ble_eq_true rfl) rfl ?_
    refine ev_aload_n dX10_tells_28 rfl (fun _ e => by cases e) ?_
    refine ew_getr0 dX10_tells_29 fX10_7 g0 rfl rfl rfl rfl ?_
    refine ev_iload dX10_tells_32 rfl ?_
    refine ev_iload_n dX10_tells_34 rfl ?_
    obtain ⟨c3, h⟩ := ev_ckE h
    obtain ⟨I4, eI4, h⟩ := ev_ltE h
    refine ew_iast dX10_tells_35 (shp_a g0 1 rfl) c3 (ew_nh eI4 ?_)
    refine ev_aload_n dX10_tells_36 rfl (fun _ e => by cases e) ?_
    refine ew_getr0 dX10_tells_37 fX10_7 g0 rfl rfl rfl rfl ?_
    refine ev_iload dX10_tells_40 rfl ?_
    refine ev_iconst (v := (1 : Int32)) dX10_tells_42 (by decide) ?_
    refine ev_iadd dX10_tells_43 ?_
    refine ev_iload_n dX10_tells_44 rfl ?_
    obtain ⟨c5, h⟩ := ev_ckE h
    obtain ⟨I6, eI6, h⟩ := ev_ltE h
    refine ew_iast dX10_tells_45 (shp_a g0 1 rfl) c5 (ew_nh eI6 ?_)
    refine ev_aload_n dX10_tells_46 rfl (fun _ e => by cases e) ?_
    refine ew_getr0 dX10_tells_47 fX10_7 g0 rfl rfl rfl rfl ?_
    refine ev_iload dX10_tells_50 rfl ?_
    refine ev_iconst (v := (2 : Int32)) dX10_tells_52 (by decide) ?_
    refine ev_iadd dX10_tells_53 ?_
    refine ev_iload_n dX10_tells_54 rfl ?_
    obtain ⟨c7, h⟩ := ev_ckE h
    obtain ⟨I8, eI8, h⟩ := ev_ltE h
    refine ew_iast dX10_tells_55 (shp_a g0 1 rfl) c7 (ew_nh eI8 ?_)
    refine ev_aload_n dX10_tells_56 rfl (fun _ e => by cases e) ?_
    refine ew_getr0 dX10_tells_57 fX10_7 g0 rfl rfl rfl rfl ?_
    refine ev_bipush (v := (8 : Int32)) dX10_tells_60 (by decide) ?_
    refine ev_aload_n dX10_tells_62 rfl (fun _ e => by cases e) ?_
    refine ew_getr0 dX10_tells_63 fX10_7 g0 rfl rfl rfl rfl ?_
    refine ev_bipush (v := (8 : Int32)) dX10_tells_66 (by decide) ?_
    refine ew_iald dX10_tells_68 (shp_a g0 1 rfl) (by decide) ?_
    refine ev_iconst (v := (1 : Int32)) dX10_tells_69 (by decide) ?_
    refine ev_iadd dX10_tells_70 ?_
    obtain ⟨I9, eI9, h⟩ := ev_ltE h
    refine ew_iast dX10_tells_71 (shp_a g0 1 rfl) (by decide) (ew_nh eI9 ?_)
    cases h
    exact er_v dX10_tells_72 rfl
  · have h := ev_ifT h c1
    cases h
    exact er_v dX10_tells_12 rfl
-- ChainVotesModel areCut(II)Z
def pX10_areCut (n : Nat) (q0 : Nat) (x1 : Int32) (x2 : Int32) (I : ev_I) : Option (Int32) :=
  (pX10_nodeAt n q0 x1 I).bind fun z1 =>
  ev_ck (ev_in (z1 + (11 : Int32)) 6010) <|
  (pX10_has n q0 (I (q0 + 1) (z1 + (11 : Int32)).toNatClampNeg) x2 I).bind fun z3 =>
  ev_ck (ev_01 z3) <|
  some z3
set_option maxRecDepth 100000 in
set_option maxHeartbeats 4000000 in
theorem tX10_areCut {E : ev_N} {σ : ev_H} (n : Nat) (q0 : Nat) (g0 : shp tb9 σ q0) (x1 : Int32) (x2 : Int32) (I : ev_I) (o : Int32) (h : pX10_areCut n q0 x1 x2 I = some o) : ev_T E mX10_areCut [.ref q0, .int x1, .int x2] (h_w σ I) (Option.some (Value.int o), h_w σ I) := by
  unfold pX10_areCut at h
  refine ev_met rfl rfl (Nat.le_of_ble_eq_true rfl) (ev_L0 (L' := [some (.ref q0), some (.int x1), some (.int x2)]) rfl ?_)
  refine ev_aload_n dX10_areCut_0 rfl (fun _ e => by cases e) ?_
  refine ev_aload_n dX10_areCut_1 rfl (fun _ e => by cases e) ?_
  refine ew_getr0 dX10_areCut_2 fX10_7 g0 rfl rfl rfl rfl ?_
  refine ev_aload_n dX10_areCut_5 rfl (fun _ e => by cases e) ?_
  refine ev_iload_n dX10_areCut_6 rfl ?_
  obtain ⟨z1, hz1, h⟩ := ev_bnE h
  refine ec_Vi (Y := mX10_nodeAt) (ci := 9) (As := [.int x1]) (rest := [(.ref (q0 + 1)), (.ref q0)]) dX10_areCut_7 kX10_54 oX10_nodeAt ⟨Nat.le_of_ble_eq_true rfl, Nat.le_of_ble_eq_true rfl⟩ (by decide) rfl (shp_n g0 0 rfl) (shp_t g0 0 rfl) rfl (Nat.le_of_ble_eq_true rfl) (tX10_nodeAt n q0 g0 x1 I z1 hz1) rfl ?_
  refine ev_bipush (v := (11 : Int32)) dX10_areCut_10 (by decide) ?_
  refine ev_iadd dX10_areCut_12 ?_
  obtain ⟨c2, h⟩ := ev_ckE h
  refine ew_iald dX10_areCut_13 (shp_a g0 1 rfl) c2 ?_
  refine ev_iload_n dX10_areCut_14 rfl ?_
  obtain ⟨z3, hz3, h⟩ := ev_bnE h
  refine ec_Vi (Y := mX10_has) (ci := 9) (As := [.int (I (q0 + 1) (z1 + (11 : Int32)).toNatClampNeg), .int x2]) (rest := []) dX10_areCut_15 kX10_79 oX10_has ⟨Nat.le_of_ble_eq_true rfl, Nat.le_of_ble_eq_true rfl⟩ (by decide) rfl (shp_n g0 0 rfl) (shp_t g0 0 rfl) rfl (Nat.le_of_ble_eq_true rfl) (tX10_has n q0 g0 (I (q0 + 1) (z1 + (11 : Int32)).toNatClampNeg) x2 I z3 hz3) rfl ?_
  obtain ⟨c4, h⟩ := ev_ckE h
  cases h
  exact er_i dX10_areCut_18 rfl (ev_01E c4).1
-- ChainVotesModel sends(IIIII)V
def pX10_sends (n : Nat) (q0 : Nat) (x1 : Int32) (x2 : Int32) (x3 : Int32) (x4 : Int32) (x5 : Int32) (I : ev_I) : Option (ev_I) :=
  (pX10_areCut n q0 x1 x2 I).bind fun z1 =>
  if z1 = 0 then
    if (I (q0 + 1) (4 : Int32).toNatClampNeg) = (200 : Int32) then
      ev_lt (ev_u2 I (q0 + 1) (5 : Int32).toNatClampNeg ((I (q0 + 1) (5 : Int32).toNatClampNeg) + (1 : Int32))) fun I16 =>
      some I16
    else
      ev_lt ((816 : Int32) + ((5 : Int32) * (I (q0 + 1) (4 : Int32).toNatClampNeg))) fun v4 =>
      ev_ck (ev_in (v4 + (0 : Int32)) 6010) <|
      ev_lt (ev_u2 I (q0 + 1) (v4 + (0 : Int32)).toNatClampNeg x1) fun I6 =>
      ev_ck (ev_in (v4 + (1 : Int32)) 6010) <|
      ev_lt (ev_u2 I6 (q0 + 1) (v4 + (1 : Int32)).toNatClampNeg x2) fun I8 =>
      ev_ck (ev_in (v4 + (2 : Int32)) 6010) <|
      ev_lt (ev_u2 I8 (q0 + 1) (v4 + (2 : Int32)).toNatClampNeg x3) fun I10 =>
      ev_ck (ev_in (v4 + (3 : Int32)) 6010) <|
      ev_lt (ev_u2 I10 (q0 + 1) (v4 + (3 : Int32)).toNatClampNeg x4) fun I12 =>
      ev_ck (ev_in (v4 + (4 : Int32)) 6010) <|
      ev_lt (ev_u2 I12 (q0 + 1) (v4 + (4 : Int32)).toNatClampNeg (x5 + (1 : Int32))) fun I14 =>
      ev_lt (ev_u2 I14 (q0 + 1) (4 : Int32).toNatClampNeg ((I14 (q0 + 1) (4 : Int32).toNatClampNeg) + (1 : Int32))) fun I15 =>
      some I15
  else
    ev_lt (ev_u2 I (q0 + 1) (10 : Int32).toNatClampNeg ((I (q0 + 1) (10 : Int32).toNatClampNeg) + (1 : Int32))) fun I17 =>
    some I17
set_option maxRecDepth 100000 in
set_option maxHeartbeats 4000000 in
theorem tX10_sends {E : ev_N} {σ : ev_H} (n : Nat) (q0 : Nat) (g0 : shp tb9 σ q0) (x1 : Int32) (x2 : Int32) (x3 : Int32) (x4 : Int32) (x5 : Int32) (I : ev_I) (o : ev_I) (h : pX10_sends n q0 x1 x2 x3 x4 x5 I = some o) : ev_T E mX10_sends [.ref q0, .int x1, .int x2, .int x3, .int x4, .int x5] (h_w σ I) (Option.none, h_w σ o) := by
  unfold pX10_sends at h
  refine ev_met rfl rfl (Nat.le_of_ble_eq_true rfl) (ev_L0 (L' := [some (.ref q0), some (.int x1), some (.int x2), some (.int x3), some (.int x4), some (.int x5), none]) rfl ?_)
  refine ev_aload_n dX10_sends_0 rfl (fun _ e => by cases e) ?_
  refine ev_iload_n dX10_sends_1 rfl ?_
  refine ev_iload_n dX10_sends_2 rfl ?_
  obtain ⟨z1, hz1, h⟩ := ev_bnE h
  refine ec_Vi (Y := mX10_areCut) (ci := 9) (As := [.int x1, .int x2]) (rest := []) dX10_sends_3 kX10_83 oX10_areCut ⟨Nat.le_of_ble_eq_true rfl, Nat.le_of_ble_eq_true rfl⟩ (by decide) rfl (shp_n g0 0 rfl) (shp_t g0 0 rfl) rfl (Nat.le_of_ble_eq_true rfl) (tX10_areCut n q0 g0 x1 x2 I z1 hz1) rfl ?_
  refine ev_if_eq (tgt := 26) dX10_sends_6 (by decide) (fun c2 => ?_) (fun c2 => ?_)
  · have h := ev_ifT h c2
    refine ev_aload_n dX10_sends_26 rfl (fun _ e => by cases e) ?_
    refine ew_getr0 dX10_sends_27 fX10_7 g0 rfl rfl rfl rfl ?_
    refine ev_iconst (v := (4 : Int32)) dX10_sends_30 (by decide) ?_
    refine ew_iald dX10_sends_31 (shp_a g0 1 rfl) (by decide) ?_
    refine ev_sipush (v := (200 : Int32)) dX10_sends_32 (by decide) ?_
    refine ev_icmp_ne (tgt := 53) dX10_sends_35 (by decide) (fun c3 => ?_) (fun c3 => ?_)
    · have h := ev_ifF h c3
      refine ev_sipush (v := (816 : Int32)) dX10_sends_53 (by decide) ?_
      refine ev_iconst (v := (5 : Int32)) dX10_sends_56 (by decide) ?_
      refine ev_aload_n dX10_sends_57 rfl (fun _ e => by cases e) ?_
      refine ew_getr0 dX10_sends_58 fX10_7 g0 rfl rfl rfl rfl ?_
      refine ev_iconst (v := (4 : Int32)) dX10_sends_61 (by decide) ?_
      refine ew_iald dX10_sends_62 (shp_a g0 1 rfl) (by decide) ?_
      refine ev_imul dX10_sends_63 ?_
      refine ev_iadd dX10_sends_64 ?_
      obtain ⟨v4, ev4, h⟩ := ev_ltE h
      refine ew_nm ev4 ?_
      refine ew_ist (L' := [some (.ref q0), some (.int x1), some (.int x2), some (.int x3), some (.int x4), some (.int x5), some (.int v4)]) dX10_sends_65 (Nat.le_of_ble_eq_true rfl) rfl ?_
      refine ev_aload_n dX10_sends_67 rfl (fun _ e => by cases e) ?_
      refine ew_getr0 dX10_sends_68 fX10_7 g0 rfl rfl rfl rfl ?_
      refine ev_iload dX10_sends_71 rfl ?_
      refine ev_iconst (v := (0 : Int32)) dX10_sends_73 (by decide) ?_
      refine ev_iadd dX10_sends_74 ?_
      refine ev_iload_n dX10_sends_75 rfl ?_
      obtain ⟨c5, h⟩ := ev_ckE h
      obtain ⟨I6, eI6, h⟩ := ev_ltE h
      refine ew_iast dX10_sends_76 (shp_a g0 1 rfl) c5 (ew_nh eI6 ?_)
      refine ev_aload_n dX10_sends_77 rfl (fun _ e => by cases e) ?_
      refine ew_getr0 dX10_sends_78 fX10_7 g0 rfl rfl rfl rfl ?_
      refine ev_iload dX10_sends_81 rfl ?_
      refine ev_iconst (v := (1 : Int32)) dX10_sends_83 (by decide) ?_
      refine ev_iadd dX10_sends_84 ?_
      refine ev_iload_n dX10_sends_85 rfl ?_
      obtain ⟨c7, h⟩ := ev_ckE h
      obtain ⟨I8, eI8, h⟩ := ev_ltE h
      refine ew_iast dX10_sends_86 (shp_a g0 1 rfl) c7 (ew_nh eI8 ?_)
      refine ev_aload_n dX10_sends_87 rfl (fun _ e => by cases e) ?_
      refine ew_getr0 dX10_sends_88 fX10_7 g0 rfl rfl rfl rfl ?_
      refine ev_iload dX10_sends_91 rfl ?_
      refine ev_iconst (v := (2 : Int32)) dX10_sends_93 (by decide) ?_
      refine ev_iadd dX10_sends_94 ?_
      refine ev_iload_n dX10_sends_95 rfl ?_
      obtain ⟨c9, h⟩ := ev_ckE h
      obtain ⟨I10, eI10, h⟩ := ev_ltE h
      refine ew_iast dX10_sends_96 (shp_a g0 1 rfl) c9 (ew_nh eI10 ?_)
      refine ev_aload_n dX10_sends_97 rfl (fun _ e => by cases e) ?_
      refine ew_getr0 dX10_sends_98 fX10_7 g0 rfl rfl rfl rfl ?_
      refine ev_iload dX10_sends_101 rfl ?_
      refine ev_iconst (v := (3 : Int32)) dX10_sends_103 (by decide) ?_
      refine ev_iadd dX10_sends_104 ?_
      refine ev_iload dX10_sends_105 rfl ?_
      obtain ⟨c11, h⟩ := ev_ckE h
      obtain ⟨I12, eI12, h⟩ := ev_ltE h
      refine ew_iast dX10_sends_107 (shp_a g0 1 rfl) c11 (ew_nh eI12 ?_)
      refine ev_aload_n dX10_sends_108 rfl (fun _ e => by cases e) ?_
      refine ew_getr0 dX10_sends_109 fX10_7 g0 rfl rfl rfl rfl ?_
      refine ev_iload dX10_sends_112 rfl ?_
      refine ev_iconst (v := (4 : Int32)) dX10_sends_114 (by decide) ?_
      refine ev_iadd dX10_sends_115 ?_
      refine ev_iload dX10_sends_116 rfl ?_
      refine ev_iconst (v := (1 : Int32)) dX10_sends_118 (by decide) ?_
      refine ev_iadd dX10_sends_119 ?_
      obtain ⟨c13, h⟩ := ev_ckE h
      obtain ⟨I14, eI14, h⟩ := ev_ltE h
      refine ew_iast dX10_sends_120 (shp_a g0 1 rfl) c13 (ew_nh eI14 ?_)
      refine ev_aload_n dX10_sends_121 rfl (fun _ e => by cases e) ?_
      refine ew_getr0 dX10_sends_122 fX10_7 g0 rfl rfl rfl rfl ?_
      refine ev_iconst (v := (4 : Int32)) dX10_sends_125 (by decide) ?_
      refine ev_aload_n dX10_sends_126 rfl (fun _ e => by cases e) ?_
      refine ew_getr0 dX10_sends_127 fX10_7 g0 rfl rfl rfl rfl ?_
      refine ev_iconst (v := (4 : Int32)) dX10_sends_130 (by decide) ?_
      refine ew_iald dX10_sends_131 (shp_a g0 1 rfl) (by decide) ?_
      refine ev_iconst (v := (1 : Int32)) dX10_sends_132 (by decide) ?_
      refine ev_iadd dX10_sends_133 ?_
      obtain ⟨I15, eI15, h⟩ := ev_ltE h
      refine ew_iast dX10_sends_134 (shp_a g0 1 rfl) (by decide) (ew_nh eI15 ?_)
      cases h
      exact er_v dX10_sends_135 rfl
    · have h := ev_ifT h c3
      refine ev_aload_n dX10_sends_38 rfl (fun _ e => by cases e) ?_
      refine ew_getr0 dX10_sends_39 fX10_7 g0 rfl rfl rfl rfl ?_
      refine ev_iconst (v := (5 : Int32)) dX10_sends_42 (by decide) ?_
      refine ev_aload_n dX10_sends_43 rfl (fun _ e => by cases e) ?_
      refine ew_getr0 dX10_sends_44 fX10_7 g0 rfl rfl rfl rfl ?_
      refine ev_iconst (v := (5 : Int32)) dX10_sends_47 (by decide) ?_
      refine ew_iald dX10_sends_48 (shp_a g0 1 rfl) (by decide) ?_
      refine ev_iconst (v := (1 : Int32)) dX10_sends_49 (by decide) ?_
      refine ev_iadd dX10_sends_50 ?_
      obtain ⟨I16, eI16, h⟩ := ev_ltE h
      refine ew_iast dX10_sends_51 (shp_a g0 1 rfl) (by decide) (ew_nh eI16 ?_)
      cases h
      exact er_v dX10_sends_52 rfl
  · have h := ev_ifF h c2
    refine ev_aload_n dX10_sends_9 rfl (fun _ e => by cases e) ?_
    refine ew_getr0 dX10_sends_10 fX10_7 g0 rfl rfl rfl rfl ?_
    refine ev_bipush (v := (10 : Int32)) dX10_sends_13 (by decide) ?_
    refine ev_aload_n dX10_sends_15 rfl (fun _ e => by cases e) ?_
    refine ew_getr0 dX10_sends_16 fX10_7 g0 rfl rfl rfl rfl ?_
    refine ev_bipush (v := (10 : Int32)) dX10_sends_19 (by decide) ?_
    refine ew_iald dX10_sends_21 (shp_a g0 1 rfl) (by decide) ?_
    refine ev_iconst (v := (1 : Int32)) dX10_sends_22 (by decide) ?_
    refine ev_iadd dX10_sends_23 ?_
    obtain ⟨I17, eI17, h⟩ := ev_ltE h
    refine ew_iast dX10_sends_24 (shp_a g0 1 rfl) (by decide) (ew_nh eI17 ?_)
    cases h
    exact er_v dX10_sends_25 rfl
-- ChainVotesModel sendsAll(IIII)V
def cX10_sendsAll_3 (q0 : Nat) (K3 : Int32 → Int32 → Int32 → Int32 → Int32 → ev_I → Option (ev_I)) (n : Nat) (y1 : Int32) (y2 : Int32) (y3 : Int32) (y4 : Int32) (y5 : Int32) (I : ev_I) : Option (ev_I) :=
  (pX10_nodeMany n q0  I).bind fun z1 =>
  if z1 ≤ y5 then
    some I
  else
    (pX10_sends n q0 y1 y5 y2 y3 y4 I).bind fun z3 =>
    ev_lt (y5 + (1 : Int32)) fun v4 =>
    K3 y1 y2 y3 y4 v4 z3
def lX10_sendsAll_3 (q0 : Nat) : Nat → Int32 → Int32 → Int32 → Int32 → Int32 → ev_I → Option (ev_I)
  | 0, _, _, _, _, _, _ => none
  | n + 1, y1, y2, y3, y4, y5, I => cX10_sendsAll_3 q0 (lX10_sendsAll_3 q0 n) n y1 y2 y3 y4 y5 I
def pX10_sendsAll (n : Nat) (q0 : Nat) (x1 : Int32) (x2 : Int32) (x3 : Int32) (x4 : Int32) (I : ev_I) : Option (ev_I) :=
  lX10_sendsAll_3 q0 n x1 x2 x3 x4 (0 : Int32) I
set_option maxRecDepth 100000 in
set_option maxHeartbeats 4000000 in
theorem tX10_sendsAll_3 {E : ev_N} {σ : ev_H} (q0 : Nat) (g0 : shp tb9 σ q0) (K3 : Int32 → Int32 → Int32 → Int32 → Int32 → ev_I → Option (ev_I)) (k3 : ∀ (y1 : Int32) (y2 : Int32) (y3 : Int32) (y4 : Int32) (y5 : Int32) (I : ev_I) (o : ev_I), K3 y1 y2 y3 y4 y5 I = some o → EV E mX10_sendsAll 3 [some (.ref q0), some (.int y1), some (.int y2), some (.int y3), some (.int y4), some (.int y5)] [] (h_w σ I) (Option.none, h_w σ o)) (n : Nat) (y1 : Int32) (y2 : Int32) (y3 : Int32) (y4 : Int32) (y5 : Int32) (I : ev_I) (o : ev_I) : cX10_sendsAll_3 q0 K3 n y1 y2 y3 y4 y5 I = some o → EV E mX10_sendsAll 3 [some (.ref q0), some (.int y1), some (.int y2), some (.int y3), some (.int y4), some (.int y5)] [] (h_w σ I) (Option.none, h_w σ o) := by
  intro h
  unfold cX10_sendsAll_3 at h
  refine ev_iload dX10_sendsAll_3 rfl ?_
  refine ev_aload_n dX10_sendsAll_5 rfl (fun _ e => by cases e) ?_
  obtain ⟨z1, hz1, h⟩ := ev_bnE h
  refine ec_Vi (Y := mX10_nodeMany) (ci := 9) (As := []) (rest := [(.int y5)]) dX10_sendsAll_6 kX10_47 oX10_nodeMany ⟨Nat.le_of_ble_eq_true rfl, Nat.le_of_ble_eq_true rfl⟩ (by decide) rfl (shp_n g0 0 rfl) (shp_t g0 0 rfl) rfl (Nat.le_of_ble_eq_true rfl) (tX10_nodeMany n q0 g0  I z1 hz1) rfl ?_
  refine ev_icmp_ge (tgt := 29) dX10_sendsAll_9 (by decide) (fun c2 => ?_) (fun c2 => ?_)
  · have h := ev_ifT h c2
    cases h
    exact er_v dX10_sendsAll_29 rfl
  · have h := ev_ifF h c2
    refine ev_aload_n dX10_sendsAll_12 rfl (fun _ e => by cases e) ?_
    refine ev_iload_n dX10_sendsAll_13 rfl ?_
    refine ev_iload dX10_sendsAll_14 rfl ?_
    refine ev_iload_n dX10_sendsAll_16 rfl ?_
    refine ev_iload_n dX10_sendsAll_17 rfl ?_
    refine ev_iload dX10_sendsAll_18 rfl ?_
    obtain ⟨z3, hz3, h⟩ := ev_bnE h
    refine ec_Vv (Y := mX10_sends) (ci := 9) (As := [.int y1, .int y5, .int y2, .int y3, .int y4]) (rest := []) dX10_sendsAll_20 kX10_86 oX10_sends ⟨Nat.le_of_ble_eq_true rfl, Nat.le_of_ble_eq_true rfl⟩ (by decide) rfl (shp_n g0 0 rfl) (shp_t g0 0 rfl) rfl (Nat.le_of_ble_eq_true rfl) (tX10_sends n q0 g0 y1 y5 y2 y3 y4 I z3 hz3) rfl ?_
    obtain ⟨v4, ev4, h⟩ := ev_ltE h
    refine ew_iinc (L' := [some (.ref q0), some (.int y1), some (.int y2), some (.int y3), some (.int y4), some (.int v4)]) dX10_sendsAll_23 (Nat.le_of_ble_eq_true rfl) rfl (by decide) ev4 rfl ?_
    refine ev_goto (tgt := 3) dX10_sendsAll_26 (by decide) ?_
    exact ev_weak (sb_s (sb_s (sb_s (sb_s (sb_s (sb_s sb_0)))))) (k3 y1 y2 y3 y4 v4 z3 _ h)
theorem tlX10_sendsAll_3 {E : ev_N} {σ : ev_H} (q0 : Nat) (g0 : shp tb9 σ q0) : ∀ (n : Nat) (y1 : Int32) (y2 : Int32) (y3 : Int32) (y4 : Int32) (y5 : Int32) (I : ev_I) (o : ev_I), lX10_sendsAll_3 q0 n y1 y2 y3 y4 y5 I = some o → EV E mX10_sendsAll 3 [some (.ref q0), some (.int y1), some (.int y2), some (.int y3), some (.int y4), some (.int y5)] [] (h_w σ I) (Option.none, h_w σ o)
  | 0, _, _, _, _, _, _, _, h => by cases h
  | n + 1, y1, y2, y3, y4, y5, I, o, h => tX10_sendsAll_3 q0 g0 (lX10_sendsAll_3 q0 n) (tlX10_sendsAll_3 q0 g0 n) n y1 y2 y3 y4 y5 I o h
set_option maxRecDepth 100000 in
set_option maxHeartbeats 4000000 in
theorem tX10_sendsAll {E : ev_N} {σ : ev_H} (n : Nat) (q0 : Nat) (g0 : shp tb9 σ q0) (x1 : Int32) (x2 : Int32) (x3 : Int32) (x4 : Int32) (I : ev_I) (o : ev_I) (h : pX10_sendsAll n q0 x1 x2 x3 x4 I = some o) : ev_T E mX10_sendsAll [.ref q0, .int x1, .int x2, .int x3, .int x4] (h_w σ I) (Option.none, h_w σ o) := by
  unfold pX10_sendsAll at h
  refine ev_met rfl rfl (Nat.le_of_ble_eq_true rfl) (ev_L0 (L' := [some (.ref q0), some (.int x1), some (.int x2), some (.int x3), some (.int x4), none]) rfl ?_)
  refine ev_iconst (v := (0 : Int32)) dX10_sendsAll_0 (by decide) ?_
  refine ew_ist (L' := [some (.ref q0), some (.int x1), some (.int x2), some (.int x3), some (.int x4), some (.int (0 : Int32))]) dX10_sendsAll_1 (Nat.le_of_ble_eq_true rfl) rfl ?_
  exact ev_weak (sb_s (sb_s (sb_s (sb_s (sb_s (sb_s sb_0)))))) (tlX10_sendsAll_3 q0 g0 n x1 x2 x3 x4 (0 : Int32) I _ h)
-- ChainVotesModel isMessage(I)Z
def pX10_isMessage (n : Nat) (q0 : Nat) (x1 : Int32) (I : ev_I) : Option (Int32) :=
  if x1 < 0 then
    some (0 : Int32)
  else
    if (I (q0 + 1) (4 : Int32).toNatClampNeg) ≤ x1 then
      some (0 : Int32)
    else
      some (1 : Int32)
set_option maxRecDepth 100000 in
set_option maxHeartbeats 4000000 in
theorem tX10_isMessage {E : ev_N} {σ : ev_H} (n : Nat) (q0 : Nat) (g0 : shp tb9 σ q0) (x1 : Int32) (I : ev_I) (o : Int32) (h : pX10_isMessage n q0 x1 I = some o) : ev_T E mX10_isMessage [.ref q0, .int x1] (h_w σ I) (Option.some (Value.int o), h_w σ I) := by
  unfold pX10_isMessage at h
  refine ev_met rfl rfl (Nat.le_of_ble_eq_true rfl) (ev_L0 (L' := [some (.ref q0), some (.int x1)]) rfl ?_)
  refine ev_iload_n dX10_isMessage_0 rfl ?_
  refine ev_if_lt (tgt := 18) dX10_isMessage_1 (by decide) (fun c1 => ?_) (fun c1 => ?_)
  · have h := ev_ifT h c1
    refine ev_iconst (v := (0 : Int32)) dX10_isMessage_18 (by decide) ?_
    cases h
    exact er_i dX10_isMessage_19 rfl rfl
  · have h := ev_ifF h c1
    refine ev_iload_n dX10_isMessage_4 rfl ?_
    refine ev_aload_n dX10_isMessage_5 rfl (fun _ e => by cases e) ?_
    refine ew_getr0 dX10_isMessage_6 fX10_7 g0 rfl rfl rfl rfl ?_
    refine ev_iconst (v := (4 : Int32)) dX10_isMessage_9 (by decide) ?_
    refine ew_iald dX10_isMessage_10 (shp_a g0 1 rfl) (by decide) ?_
    refine ev_icmp_ge (tgt := 18) dX10_isMessage_11 (by decide) (fun c2 => ?_) (fun c2 => ?_)
    · have h := ev_ifT h c2
      refine ev_iconst (v := (0 : Int32)) dX10_isMessage_18 (by decide) ?_
      cases h
      exact er_i dX10_isMessage_19 rfl rfl
    · have h := ev_ifF h c2
      refine ev_iconst (v := (1 : Int32)) dX10_isMessage_14 (by decide) ?_
      refine ev_goto (tgt := 19) dX10_isMessage_15 (by decide) ?_
      cases h
      exact er_i dX10_isMessage_19 rfl rfl
-- ChainVotesModel takesOut(I)V
def cX10_takesOut_51 (q0 : Nat) (K51 : Int32 → ev_I → Option (ev_I)) (n : Nat) (y2 : Int32) (I : ev_I) : Option (ev_I) :=
  if ((5 : Int32) * (I (q0 + 1) (4 : Int32).toNatClampNeg)) ≤ y2 then
    some I
  else
    ev_ck (ev_in (((816 : Int32) + y2) + (5 : Int32)) 6010) <|
    ev_ck (ev_in ((816 : Int32) + y2) 6010) <|
    ev_lt (ev_u2 I (q0 + 1) ((816 : Int32) + y2).toNatClampNeg (I (q0 + 1) (((816 : Int32) + y2) + (5 : Int32)).toNatClampNeg)) fun I4 =>
    ev_lt (y2 + (1 : Int32)) fun v5 =>
    K51 v5 I4
def lX10_takesOut_51 (q0 : Nat) : Nat → Int32 → ev_I → Option (ev_I)
  | 0, _, _ => none
  | n + 1, y2, I => cX10_takesOut_51 q0 (lX10_takesOut_51 q0 n) n y2 I
def cX10_takesOut_2 (q0 : Nat) (K2 : Int32 → Int32 → ev_I → Option (ev_I)) (n : Nat) (y1 : Int32) (y2 : Int32) (I : ev_I) : Option (ev_I) :=
  if (5 : Int32) ≤ y2 then
    ev_lt (ev_u2 I (q0 + 1) (4 : Int32).toNatClampNeg ((I (q0 + 1) (4 : Int32).toNatClampNeg) - (1 : Int32))) fun I7 =>
    ev_lt ((5 : Int32) * y1) fun v8 =>
    lX10_takesOut_51 q0 n v8 I7
  else
    ev_ck (ev_in (((816 : Int32) + ((5 : Int32) * y1)) + y2) 6010) <|
    ev_ck (ev_in y2 5) <|
    ev_lt (ev_u2 I (q0 + 3) y2.toNatClampNeg (I (q0 + 1) (((816 : Int32) + ((5 : Int32) * y1)) + y2).toNatClampNeg)) fun I11 =>
    ev_lt (y2 + (1 : Int32)) fun v12 =>
    K2 y1 v12 I11
def lX10_takesOut_2 (q0 : Nat) : Nat → Int32 → Int32 → ev_I → Option (ev_I)
  | 0, _, _, _ => none
  | n + 1, y1, y2, I => cX10_takesOut_2 q0 (lX10_takesOut_2 q0 n) n y1 y2 I
def pX10_takesOut (n : Nat) (q0 : Nat) (x1 : Int32) (I : ev_I) : Option (ev_I) :=
  lX10_takesOut_2 q0 n x1 (0 : Int32) I
set_option maxRecDepth 100000 in
set_option maxHeartbeats 4000000 in
theorem tX10_takesOut_51 {E : ev_N} {σ : ev_H} (q0 : Nat) (g0 : shp tb9 σ q0) (K51 : Int32 → ev_I → Option (ev_I)) (k51 : ∀ (y2 : Int32) (I : ev_I) (o : ev_I), K51 y2 I = some o → EV E mX10_takesOut 51 [some (.ref q0), none, some (.int y2)] [] (h_w σ I) (Option.none, h_w σ o)) (n : Nat) (y2 : Int32) (I : ev_I) (o : ev_I) : cX10_takesOut_51 q0 K51 n y2 I = some o → EV E mX10_takesOut 51 [some (.ref q0), none, some (.int y2)] [] (h_w σ I) (Option.none, h_w σ o) := by
  intro h
  unfold cX10_takesOut_51 at h
  refine ev_iload_n dX10_takesOut_51 rfl ?_
  refine ev_iconst (v := (5 : Int32)) dX10_takesOut_52 (by decide) ?_
  refine ev_aload_n dX10_takesOut_53 rfl (fun _ e => by cases e) ?_
  refine ew_getr0 dX10_takesOut_54 fX10_7 g0 rfl rfl rfl rfl ?_
  refine ev_iconst (v := (4 : Int32)) dX10_takesOut_57 (by decide) ?_
  refine ew_iald dX10_takesOut_58 (shp_a g0 1 rfl) (by decide) ?_
  refine ev_imul dX10_takesOut_59 ?_
  refine ev_icmp_ge (tgt := 91) dX10_takesOut_60 (by decide) (fun c1 => ?_) (fun c1 => ?_)
  · have h := ev_ifT h c1
    cases h
    exact er_v dX10_takesOut_91 rfl
  · have h := ev_ifF h c1
    refine ev_aload_n dX10_takesOut_63 rfl (fun _ e => by cases e) ?_
    refine ew_getr0 dX10_takesOut_64 fX10_7 g0 rfl rfl rfl rfl ?_
    refine ev_sipush (v := (816 : Int32)) dX10_takesOut_67 (by decide) ?_
    refine ev_iload_n dX10_takesOut_70 rfl ?_
    refine ev_iadd dX10_takesOut_71 ?_
    refine ev_aload_n dX10_takesOut_72 rfl (fun _ e => by cases e) ?_
    refine ew_getr0 dX10_takesOut_73 fX10_7 g0 rfl rfl rfl rfl ?_
    refine ev_sipush (v := (816 : Int32)) dX10_takesOut_76 (by decide) ?_
    refine ev_iload_n dX10_takesOut_79 rfl ?_
    refine ev_iadd dX10_takesOut_80 ?_
    refine ev_iconst (v := (5 : Int32)) dX10_takesOut_81 (by decide) ?_
    refine ev_iadd dX10_takesOut_82 ?_
    obtain ⟨c2, h⟩ := ev_ckE h
    refine ew_iald dX10_takesOut_83 (shp_a g0 1 rfl) c2 ?_
    obtain ⟨c3, h⟩ := ev_ckE h
    obtain ⟨I4, eI4, h⟩ := ev_ltE h
    refine ew_iast dX10_takesOut_84 (shp_a g0 1 rfl) c3 (ew_nh eI4 ?_)
    obtain ⟨v5, ev5, h⟩ := ev_ltE h
    refine ew_iinc (L' := [some (.ref q0), none, some (.int v5)]) dX10_takesOut_85 (Nat.le_of_ble_eq_true rfl) rfl (by decide) ev5 rfl ?_
    refine ev_goto (tgt := 51) dX10_takesOut_88 (by decide) ?_
    exact ev_weak (sb_s (sb_n (sb_s sb_0))) (k51 v5 I4 _ h)
theorem tlX10_takesOut_51 {E : ev_N} {σ : ev_H} (q0 : Nat) (g0 : shp tb9 σ q0) : ∀ (n : Nat) (y2 : Int32) (I : ev_I) (o : ev_I), lX10_takesOut_51 q0 n y2 I = some o → EV E mX10_takesOut 51 [some (.ref q0), none, some (.int y2)] [] (h_w σ I) (Option.none, h_w σ o)
  | 0, _, _, _, h => by cases h
  | n + 1, y2, I, o, h => tX10_takesOut_51 q0 g0 (lX10_takesOut_51 q0 n) (tlX10_takesOut_51 q0 g0 n) n y2 I o h
set_option maxRecDepth 100000 in
set_option maxHeartbeats 4000000 in
theorem tX10_takesOut_2 {E : ev_N} {σ : ev_H} (q0 : Nat) (g0 : shp tb9 σ q0) (K2 : Int32 → Int32 → ev_I → Option (ev_I)) (k2 : ∀ (y1 : Int32) (y2 : Int32) (I : ev_I) (o : ev_I), K2 y1 y2 I = some o → EV E mX10_takesOut 2 [some (.ref q0), some (.int y1), some (.int y2)] [] (h_w σ I) (Option.none, h_w σ o)) (n : Nat) (y1 : Int32) (y2 : Int32) (I : ev_I) (o : ev_I) : cX10_takesOut_2 q0 K2 n y1 y2 I = some o → EV E mX10_takesOut 2 [some (.ref q0), some (.int y1), some (.int y2)] [] (h_w σ I) (Option.none, h_w σ o) := by
  intro h
  unfold cX10_takesOut_2 at h
  refine ev_iload_n dX10_takesOut_2 rfl ?_
  refine ev_iconst (v := (5 : Int32)) dX10_takesOut_3 (by decide) ?_
  refine ev_icmp_ge (tgt := 33) dX10_takesOut_4 (by decide) (fun c6 => ?_) (fun c6 => ?_)
  · have h := ev_ifT h c6
    refine ev_aload_n dX10_takesOut_33 rfl (fun _ e => by cases e) ?_
    refine ew_getr0 dX10_takesOut_34 fX10_7 g0 rfl rfl rfl rfl ?_
    refine ev_iconst (v := (4 : Int32)) dX10_takesOut_37 (by decide) ?_
    refine ev_aload_n dX10_takesOut_38 rfl (fun _ e => by cases e) ?_
    refine ew_getr0 dX10_takesOut_39 fX10_7 g0 rfl rfl rfl rfl ?_
    refine ev_iconst (v := (4 : Int32)) dX10_takesOut_42 (by decide) ?_
    refine ew_iald dX10_takesOut_43 (shp_a g0 1 rfl) (by decide) ?_
    refine ev_iconst (v := (1 : Int32)) dX10_takesOut_44 (by decide) ?_
    refine ev_isub dX10_takesOut_45 ?_
    obtain ⟨I7, eI7, h⟩ := ev_ltE h
    refine ew_iast dX10_takesOut_46 (shp_a g0 1 rfl) (by decide) (ew_nh eI7 ?_)
    refine ev_iconst (v := (5 : Int32)) dX10_takesOut_47 (by decide) ?_
    refine ev_iload_n dX10_takesOut_48 rfl ?_
    refine ev_imul dX10_takesOut_49 ?_
    obtain ⟨v8, ev8, h⟩ := ev_ltE h
    refine ew_nm ev8 ?_
    refine ew_istn (L' := [some (.ref q0), some (.int y1), some (.int v8)]) dX10_takesOut_50 (Nat.le_of_ble_eq_true rfl) rfl ?_
    exact ev_weak (sb_s (sb_n (sb_s sb_0))) (tlX10_takesOut_51 q0 g0 n v8 I7 _ h)
  · have h := ev_ifF h c6
    refine ev_aload_n dX10_takesOut_7 rfl (fun _ e => by cases e) ?_
    refine ew_getr0 dX10_takesOut_8 fX10_16 g0 rfl rfl rfl rfl ?_
    refine ev_iload_n dX10_takesOut_11 rfl ?_
    refine ev_aload_n dX10_takesOut_12 rfl (fun _ e => by cases e) ?_
    refine ew_getr0 dX10_takesOut_13 fX10_7 g0 rfl rfl rfl rfl ?_
    refine ev_sipush (v := (816 : Int32)) dX10_takesOut_16 (by decide) ?_
    refine ev_iconst (v := (5 : Int32)) dX10_takesOut_19 (by decide) ?_
    refine ev_iload_n dX10_takesOut_20 rfl ?_
    refine ev_imul dX10_takesOut_21 ?_
    refine ev_iadd dX10_takesOut_22 ?_
    refine ev_iload_n dX10_takesOut_23 rfl ?_
    refine ev_iadd dX10_takesOut_24 ?_
    obtain ⟨c9, h⟩ := ev_ckE h
    refine ew_iald dX10_takesOut_25 (shp_a g0 1 rfl) c9 ?_
    obtain ⟨c10, h⟩ := ev_ckE h
    obtain ⟨I11, eI11, h⟩ := ev_ltE h
    refine ew_iast dX10_takesOut_26 (shp_a g0 3 rfl) c10 (ew_nh eI11 ?_)
    obtain ⟨v12, ev12, h⟩ := ev_ltE h
    refine ew_iinc (L' := [some (.ref q0), some (.int y1), some (.int v12)]) dX10_takesOut_27 (Nat.le_of_ble_eq_true rfl) rfl (by decide) ev12 rfl ?_
    refine ev_goto (tgt := 2) dX10_takesOut_30 (by decide) ?_
    exact ev_weak (sb_s (sb_s (sb_s sb_0))) (k2 y1 v12 I11 _ h)
theorem tlX10_takesOut_2 {E : ev_N} {σ : ev_H} (q0 : Nat) (g0 : shp tb9 σ q0) : ∀ (n : Nat) (y1 : Int32) (y2 : Int32) (I : ev_I) (o : ev_I), lX10_takesOut_2 q0 n y1 y2 I = some o → EV E mX10_takesOut 2 [some (.ref q0), some (.int y1), some (.int y2)] [] (h_w σ I) (Option.none, h_w σ o)
  | 0, _, _, _, _, h => by cases h
  | n + 1, y1, y2, I, o, h => tX10_takesOut_2 q0 g0 (lX10_takesOut_2 q0 n) (tlX10_takesOut_2 q0 g0 n) n y1 y2 I o h
set_option maxRecDepth 100000 in
set_option maxHeartbeats 4000000 in
theorem tX10_takesOut {E : ev_N} {σ : ev_H} (n : Nat) (q0 : Nat) (g0 : shp tb9 σ q0) (x1 : Int32) (I : ev_I) (o : ev_I) (h : pX10_takesOut n q0 x1 I = some o) : ev_T E mX10_takesOut [.ref q0, .int x1] (h_w σ I) (Option.none, h_w σ o) := by
  unfold pX10_takesOut at h
  refine ev_met rfl rfl (Nat.le_of_ble_eq_true rfl) (ev_L0 (L' := [some (.ref q0), some (.int x1), none]) rfl ?_)
  refine ev_iconst (v := (0 : Int32)) dX10_takesOut_0 (by decide) ?_
  refine ew_istn (L' := [some (.ref q0), some (.int x1), some (.int (0 : Int32))]) dX10_takesOut_1 (Nat.le_of_ble_eq_true rfl) rfl ?_
  exact ev_weak (sb_s (sb_s (sb_s sb_0))) (tlX10_takesOut_2 q0 g0 n x1 (0 : Int32) I _ h)
-- ChainVotesModel commits(II)V
def cX10_commits_139 (q0 : Nat) (K139 : Int32 → Int32 → Int32 → Int32 → ev_I → Option (ev_I)) (n : Nat) (y1 : Int32) (y3 : Int32) (y5 : Int32) (y7 : Int32) (I : ev_I) : Option (ev_I) :=
  if y5 < y7 then
    ev_ck (ev_in (y3 + (8 : Int32)) 6010) <|
    ev_ck (ev_in (y3 + (8 : Int32)) 6010) <|
    ev_lt (ev_u2 I (q0 + 1) (y3 + (8 : Int32)).toNatClampNeg ((I (q0 + 1) (y3 + (8 : Int32)).toNatClampNeg) + y5)) fun I4 =>
    some I4
  else
    ev_ck (ev_in (y3 + (8 : Int32)) 6010) <|
    ev_ck (ev_in (((y3 + (12 : Int32)) + (I (q0 + 1) (y3 + (8 : Int32)).toNatClampNeg)) + y7) 6010) <|
    (pX10_tells n q0 (3 : Int32) y1 (I (q0 + 1) (((y3 + (12 : Int32)) + (I (q0 + 1) (y3 + (8 : Int32)).toNatClampNeg)) + y7).toNatClampNeg) I).bind fun z7 =>
    ev_lt (y7 + (1 : Int32)) fun v8 =>
    K139 y1 y3 y5 v8 z7
def lX10_commits_139 (q0 : Nat) : Nat → Int32 → Int32 → Int32 → Int32 → ev_I → Option (ev_I)
  | 0, _, _, _, _, _ => none
  | n + 1, y1, y3, y5, y7, I => cX10_commits_139 q0 (lX10_commits_139 q0 n) n y1 y3 y5 y7 I
def cX10_commits_93 (q0 : Nat) (K93 : Int32 → Int32 → Int32 → Int32 → Int32 → ev_I → Option (ev_I)) (n : Nat) (y1 : Int32) (y3 : Int32) (y5 : Int32) (y6 : Int32) (y7 : Int32) (I : ev_I) : Option (ev_I) :=
  if y7 ≤ 0 then
    lX10_commits_139 q0 n y1 y3 y5 (1 : Int32) I
  else
    ev_ck (ev_in (y3 + (8 : Int32)) 6010) <|
    ev_ck (ev_in (((y3 + (12 : Int32)) + (I (q0 + 1) (y3 + (8 : Int32)).toNatClampNeg)) + y7) 6010) <|
    ev_lt (ev_u2 I (q0 + 1) (((y3 + (12 : Int32)) + (I (q0 + 1) (y3 + (8 : Int32)).toNatClampNeg)) + y7).toNatClampNeg y6) fun I12 =>
    (pX10_parentOf n q0 y6 I12).bind fun z13 =>
    ev_lt (y7 + (-1 : Int32)) fun v14 =>
    K93 y1 y3 y5 z13 v14 I12
def lX10_commits_93 (q0 : Nat) : Nat → Int32 → Int32 → Int32 → Int32 → Int32 → ev_I → Option (ev_I)
  | 0, _, _, _, _, _, _ => none
  | n + 1, y1, y3, y5, y6, y7, I => cX10_commits_93 q0 (lX10_commits_93 q0 n) n y1 y3 y5 y6 y7 I
def pX10_commits (n : Nat) (q0 : Nat) (x1 : Int32) (x2 : Int32) (I : ev_I) : Option (ev_I) :=
  (pX10_nodeAt n q0 x1 I).bind fun z15 =>
  (pX10_logLast n q0 x1 I).bind fun z16 =>
  (pX10_doesExtend n q0 x2 z16 I).bind fun z17 =>
  if z17 = 0 then
    (pX10_doesExtend n q0 z16 x2 I).bind fun z22 =>
    if z22 = 0 then
      ev_ck (ev_in (z15 + (9 : Int32)) 6010) <|
      ev_ck (ev_in (z15 + (9 : Int32)) 6010) <|
      ev_lt (ev_u2 I (q0 + 1) (z15 + (9 : Int32)).toNatClampNeg ((I (q0 + 1) (z15 + (9 : Int32)).toNatClampNeg) + (1 : Int32))) fun I26 =>
      (pX10_tells n q0 (4 : Int32) x1 x2 I26).bind fun z27 =>
      some z27
    else
      some I
  else
    ev_ck (ev_in ((516 : Int32) + x2) 6010) <|
    ev_ck (ev_in ((516 : Int32) + z16) 6010) <|
    ev_lt ((I (q0 + 1) ((516 : Int32) + x2).toNatClampNeg) - (I (q0 + 1) ((516 : Int32) + z16).toNatClampNeg)) fun v21 =>
    lX10_commits_93 q0 n x1 z15 v21 x2 v21 I
set_option maxRecDepth 100000 in
set_option maxHeartbeats 4000000 in
theorem tX10_commits_139 {E : ev_N} {σ : ev_H} (q0 : Nat) (g0 : shp tb9 σ q0) (K139 : Int32 → Int32 → Int32 → Int32 → ev_I → Option (ev_I)) (k139 : ∀ (y1 : Int32) (y3 : Int32) (y5 : Int32) (y7 : Int32) (I : ev_I) (o : ev_I), K139 y1 y3 y5 y7 I = some o → EV E mX10_commits 139 [some (.ref q0), some (.int y1), none, some (.int y3), none, some (.int y5), none, some (.int y7)] [] (h_w σ I) (Option.none, h_w σ o)) (n : Nat) (y1 : Int32) (y3 : Int32) (y5 : Int32) (y7 : Int32) (I : ev_I) (o : ev_I) : cX10_commits_139 q0 K139 n y1 y3 y5 y7 I = some o → EV E mX10_commits 139 [some (.ref q0), some (.int y1), none, some (.int y3), none, some (.int y5), none, some (.int y7)] [] (h_w σ I) (Option.none, h_w σ o) := by
  intro h
  unfold cX10_commits_139 at h
  refine ev_iload dX10_commits_139 rfl ?_
  refine ev_iload dX10_commits_141 rfl ?_
  refine ev_icmp_gt (tgt := 180) dX10_commits_143 (by decide) (fun c1 => ?_) (fun c1 => ?_)
  · have h := ev_ifT h c1
    refine ev_aload_n dX10_commits_180 rfl (fun _ e => by cases e) ?_
    refine ew_getr0 dX10_commits_181 fX10_7 g0 rfl rfl rfl rfl ?_
    refine ev_iload_n dX10_commits_184 rfl ?_
    refine ev_bipush (v := (8 : Int32)) dX10_commits_185 (by decide) ?_
    refine ev_iadd dX10_commits_187 ?_
    refine ev_aload_n dX10_commits_188 rfl (fun _ e => by cases e) ?_
    refine ew_getr0 dX10_commits_189 fX10_7 g0 rfl rfl rfl rfl ?_
    refine ev_iload_n dX10_commits_192 rfl ?_
    refine ev_bipush (v := (8 : Int32)) dX10_commits_193 (by decide) ?_
    refine ev_iadd dX10_commits_195 ?_
    obtain ⟨c2, h⟩ := ev_ckE h
    refine ew_iald dX10_commits_196 (shp_a g0 1 rfl) c2 ?_
    refine ev_iload dX10_commits_197 rfl ?_
    refine ev_iadd dX10_commits_199 ?_
    obtain ⟨c3, h⟩ := ev_ckE h
    obtain ⟨I4, eI4, h⟩ := ev_ltE h
    refine ew_iast dX10_commits_200 (shp_a g0 1 rfl) c3 (ew_nh eI4 ?_)
    cases h
    exact er_v dX10_commits_201 rfl
  · have h := ev_ifF h c1
    refine ev_aload_n dX10_commits_146 rfl (fun _ e => by cases e) ?_
    refine ev_iconst (v := (3 : Int32)) dX10_commits_147 (by decide) ?_
    refine ev_iload_n dX10_commits_148 rfl ?_
    refine ev_aload_n dX10_commits_149 rfl (fun _ e => by cases e) ?_
    refine ew_getr0 dX10_commits_150 fX10_7 g0 rfl rfl rfl rfl ?_
    refine ev_iload_n dX10_commits_153 rfl ?_
    refine ev_bipush (v := (12 : Int32)) dX10_commits_154 (by decide) ?_
    refine ev_iadd dX10_commits_156 ?_
    refine ev_aload_n dX10_commits_157 rfl (fun _ e => by cases e) ?_
    refine ew_getr0 dX10_commits_158 fX10_7 g0 rfl rfl rfl rfl ?_
    refine ev_iload_n dX10_commits_161 rfl ?_
    refine ev_bipush (v := (8 : Int32)) dX10_commits_162 (by decide) ?_
    refine ev_iadd dX10_commits_164 ?_
    obtain ⟨c5, h⟩ := ev_ckE h
    refine ew_iald dX10_commits_165 (shp_a g0 1 rfl) c5 ?_
    refine ev_iadd dX10_commits_166 ?_
    refine ev_iload dX10_commits_167 rfl ?_
    refine ev_iadd dX10_commits_169 ?_
    obtain ⟨c6, h⟩ := ev_ckE h
    refine ew_iald dX10_commits_170 (shp_a g0 1 rfl) c6 ?_
    obtain ⟨z7, hz7, h⟩ := ev_bnE h
    refine ec_Vv (Y := mX10_tells) (ci := 9) (As := [.int (3 : Int32), .int y1, .int (I (q0 + 1) (((y3 + (12 : Int32)) + (I (q0 + 1) (y3 + (8 : Int32)).toNatClampNeg)) + y7).toNatClampNeg)]) (rest := []) dX10_commits_171 kX10_96 oX10_tells ⟨Nat.le_of_ble_eq_true rfl, Nat.le_of_ble_eq_true rfl⟩ (by decide) rfl (shp_n g0 0 rfl) (shp_t g0 0 rfl) rfl (Nat.le_of_ble_eq_true rfl) (tX10_tells n q0 g0 (3 : Int32) y1 (I (q0 + 1) (((y3 + (12 : Int32)) + (I (q0 + 1) (y3 + (8 : Int32)).toNatClampNeg)) + y7).toNatClampNeg) I z7 hz7) rfl ?_
    obtain ⟨v8, ev8, h⟩ := ev_ltE h
    refine ew_iinc (L' := [some (.ref q0), some (.int y1), none, some (.int y3), none, some (.int y5), none, some (.int v8)]) dX10_commits_174 (Nat.le_of_ble_eq_true rfl) rfl (by decide) ev8 rfl ?_
    refine ev_goto (tgt := 139) dX10_commits_177 (by decide) ?_
    exact ev_weak (sb_s (sb_s (sb_n (sb_s (sb_n (sb_s (sb_n (sb_s sb_0)))))))) (k139 y1 y3 y5 v8 z7 _ h)
theorem tlX10_commits_139 {E : ev_N} {σ : ev_H} (q0 : Nat) (g0 : shp tb9 σ q0) : ∀ (n : Nat) (y1 : Int32) (y3 : Int32) (y5 : Int32) (y7 : Int32) (I : ev_I) (o : ev_I), lX10_commits_139 q0 n y1 y3 y5 y7 I = some o → EV E mX10_commits 139 [some (.ref q0), some (.int y1), none, some (.int y3), none, some (.int y5), none, some (.int y7)] [] (h_w σ I) (Option.none, h_w σ o)
  | 0, _, _, _, _, _, _, h => by cases h
  | n + 1, y1, y3, y5, y7, I, o, h => tX10_commits_139 q0 g0 (lX10_commits_139 q0 n) (tlX10_commits_139 q0 g0 n) n y1 y3 y5 y7 I o h
set_option maxRecDepth 100000 in
set_option maxHeartbeats 4000000 in
theorem tX10_commits_93 {E : ev_N} {σ : ev_H} (q0 : Nat) (g0 : shp tb9 σ q0) (K93 : Int32 → Int32 → Int32 → Int32 → Int32 → ev_I → Option (ev_I)) (k93 : ∀ (y1 : Int32) (y3 : Int32) (y5 : Int32) (y6 : Int32) (y7 : Int32) (I : ev_I) (o : ev_I), K93 y1 y3 y5 y6 y7 I = some o → EV E mX10_commits 93 [some (.ref q0), some (.int y1), none, some (.int y3), none, some (.int y5), some (.int y6), some (.int y7)] [] (h_w σ I) (Option.none, h_w σ o)) (n : Nat) (y1 : Int32) (y3 : Int32) (y5 : Int32) (y6 : Int32) (y7 : Int32) (I : ev_I) (o : ev_I) : cX10_commits_93 q0 K93 n y1 y3 y5 y6 y7 I = some o → EV E mX10_commits 93 [some (.ref q0), some (.int y1), none, some (.int y3), none, some (.int y5), some (.int y6), some (.int y7)] [] (h_w σ I) (Option.none, h_w σ o) := by
  intro h
  unfold cX10_commits_93 at h
  refine ev_iload dX10_commits_93 rfl ?_
  refine ev_if_le (tgt := 136) dX10_commits_95 (by decide) (fun c9 => ?_) (fun c9 => ?_)
  · have h := ev_ifT h c9
    refine ev_iconst (v := (1 : Int32)) dX10_commits_136 (by decide) ?_
    refine ew_ist (L' := [some (.ref q0), some (.int y1), none, some (.int y3), none, some (.int y5), some (.int y6), some (.int (1 : Int32))]) dX10_commits_137 (Nat.le_of_ble_eq_true rfl) rfl ?_
    exact ev_weak (sb_s (sb_s (sb_n (sb_s (sb_n (sb_s (sb_n (sb_s sb_0)))))))) (tlX10_commits_139 q0 g0 n y1 y3 y5 (1 : Int32) I _ h)
  · have h := ev_ifF h c9
    refine ev_aload_n dX10_commits_98 rfl (fun _ e => by cases e) ?_
    refine ew_getr0 dX10_commits_99 fX10_7 g0 rfl rfl rfl rfl ?_
    refine ev_iload_n dX10_commits_102 rfl ?_
    refine ev_bipush (v := (12 : Int32)) dX10_commits_103 (by decide) ?_
    refine ev_iadd dX10_commits_105 ?_
    refine ev_aload_n dX10_commits_106 rfl (fun _ e => by cases e) ?_
    refine ew_getr0 dX10_commits_107 fX10_7 g0 rfl rfl rfl rfl ?_
    refine ev_iload_n dX10_commits_110 rfl ?_
    refine ev_bipush (v := (8 : Int32)) dX10_commits_111 (by decide) ?_
    refine ev_iadd dX10_commits_113 ?_
    obtain ⟨c10, h⟩ := ev_ckE h
    refine ew_iald dX10_commits_114 (shp_a g0 1 rfl) c10 ?_
    refine ev_iadd dX10_commits_115 ?_
    refine ev_iload dX10_commits_116 rfl ?_
    refine ev_iadd dX10_commits_118 ?_
    refine ev_iload dX10_commits_119 rfl ?_
    obtain ⟨c11, h⟩ := ev_ckE h
    obtain ⟨I12, eI12, h⟩ := ev_ltE h
    refine ew_iast dX10_commits_121 (shp_a g0 1 rfl) c11 (ew_nh eI12 ?_)
    refine ev_aload_n dX10_commits_122 rfl (fun _ e => by cases e) ?_
    refine ev_iload dX10_commits_123 rfl ?_
    obtain ⟨z13, hz13, h⟩ := ev_bnE h
    refine ec_Vi (Y := mX10_parentOf) (ci := 9) (As := [.int y6]) (rest := []) dX10_commits_125 kX10_58 oX10_parentOf ⟨Nat.le_of_ble_eq_true rfl, Nat.le_of_ble_eq_true rfl⟩ (by decide) rfl (shp_n g0 0 rfl) (shp_t g0 0 rfl) rfl (Nat.le_of_ble_eq_true rfl) (tX10_parentOf n q0 g0 y6 I12 z13 hz13) rfl ?_
    refine ew_ist (L' := [some (.ref q0), some (.int y1), none, some (.int y3), none, some (.int y5), some (.int z13), some (.int y7)]) dX10_commits_128 (Nat.le_of_ble_eq_true rfl) rfl ?_
    obtain ⟨v14, ev14, h⟩ := ev_ltE h
    refine ew_iinc (L' := [some (.ref q0), some (.int y1), none, some (.int y3), none, some (.int y5), some (.int z13), some (.int v14)]) dX10_commits_130 (Nat.le_of_ble_eq_true rfl) rfl (by decide) ev14 rfl ?_
    refine ev_goto (tgt := 93) dX10_commits_133 (by decide) ?_
    exact ev_weak (sb_s (sb_s (sb_n (sb_s (sb_n (sb_s (sb_s (sb_s sb_0)))))))) (k93 y1 y3 y5 z13 v14 I12 _ h)
theorem tlX10_commits_93 {E : ev_N} {σ : ev_H} (q0 : Nat) (g0 : shp tb9 σ q0) : ∀ (n : Nat) (y1 : Int32) (y3 : Int32) (y5 : Int32) (y6 : Int32) (y7 : Int32) (I : ev_I) (o : ev_I), lX10_commits_93 q0 n y1 y3 y5 y6 y7 I = some o → EV E mX10_commits 93 [some (.ref q0), some (.int y1), none, some (.int y3), none, some (.int y5), some (.int y6), some (.int y7)] [] (h_w σ I) (Option.none, h_w σ o)
  | 0, _, _, _, _, _, _, _, h => by cases h
  | n + 1, y1, y3, y5, y6, y7, I, o, h => tX10_commits_93 q0 g0 (lX10_commits_93 q0 n) (tlX10_commits_93 q0 g0 n) n y1 y3 y5 y6 y7 I o h
set_option maxRecDepth 100000 in
set_option maxHeartbeats 4000000 in
theorem tX10_commits {E : ev_N} {σ : ev_H} (n : Nat) (q0 : Nat) (g0 : shp tb9 σ q0) (x1 : Int32) (x2 : Int32) (I : ev_I) (o : ev_I) (h : pX10_commits n q0 x1 x2 I = some o) : ev_T E mX10_commits [.ref q0, .int x1, .int x2] (h_w σ I) (Option.none, h_w σ o) := by
  unfold pX10_commits at h
  refine ev_met rfl rfl (Nat.le_of_ble_eq_true rfl) (ev_L0 (L' := [some (.ref q0), some (.int x1), some (.int x2), none, none, none, none, none]) rfl ?_)
  refine ev_aload_n dX10_commits_0 rfl (fun _ e => by cases e) ?_
  refine ev_iload_n dX10_commits_1 rfl ?_
  obtain ⟨z15, hz15, h⟩ := ev_bnE h
  refine ec_Vi (Y := mX10_nodeAt) (ci := 9) (As := [.int x1]) (rest := []) dX10_commits_2 kX10_54 oX10_nodeAt ⟨Nat.le_of_ble_eq_true rfl, Nat.le_of_ble_eq_true rfl⟩ (by decide) rfl (shp_n g0 0 rfl) (shp_t g0 0 rfl) rfl (Nat.le_of_ble_eq_true rfl) (tX10_nodeAt n q0 g0 x1 I z15 hz15) rfl ?_
  refine ew_istn (L' := [some (.ref q0), some (.int x1), some (.int x2), some (.int z15), none, none, none, none]) dX10_commits_5 (Nat.le_of_ble_eq_true rfl) rfl ?_
  refine ev_aload_n dX10_commits_6 rfl (fun _ e => by cases e) ?_
  refine ev_iload_n dX10_commits_7 rfl ?_
  obtain ⟨z16, hz16, h⟩ := ev_bnE h
  refine ec_Vi (Y := mX10_logLast) (ci := 9) (As := [.int x1]) (rest := []) dX10_commits_8 kX10_90 oX10_logLast ⟨Nat.le_of_ble_eq_true rfl, Nat.le_of_ble_eq_true rfl⟩ (by decide) rfl (shp_n g0 0 rfl) (shp_t g0 0 rfl) rfl (Nat.le_of_ble_eq_true rfl) (tX10_logLast n q0 g0 x1 I z16 hz16) rfl ?_
  refine ew_ist (L' := [some (.ref q0), some (.int x1), some (.int x2), some (.int z15), some (.int z16), none, none, none]) dX10_commits_11 (Nat.le_of_ble_eq_true rfl) rfl ?_
  refine ev_aload_n dX10_commits_13 rfl (fun _ e => by cases e) ?_
  refine ev_iload_n dX10_commits_14 rfl ?_
  refine ev_iload dX10_commits_15 rfl ?_
  obtain ⟨z17, hz17, h⟩ := ev_bnE h
  refine ec_Vi (Y := mX10_doesExtend) (ci := 9) (As := [.int x2, .int z16]) (rest := []) dX10_commits_17 kX10_93 oX10_doesExtend ⟨Nat.le_of_ble_eq_true rfl, Nat.le_of_ble_eq_true rfl⟩ (by decide) rfl (shp_n g0 0 rfl) (shp_t g0 0 rfl) rfl (Nat.le_of_ble_eq_true rfl) (tX10_doesExtend n q0 g0 x2 z16 I z17 hz17) rfl ?_
  refine ev_if_ne (tgt := 62) dX10_commits_20 (by decide) (fun c18 => ?_) (fun c18 => ?_)
  · have h := ev_ifF h c18
    refine ev_aload_n dX10_commits_62 rfl (fun _ e => by cases e) ?_
    refine ew_getr0 dX10_commits_63 fX10_7 g0 rfl rfl rfl rfl ?_
    refine ev_sipush (v := (516 : Int32)) dX10_commits_66 (by decide) ?_
    refine ev_iload_n dX10_commits_69 rfl ?_
    refine ev_iadd dX10_commits_70 ?_
    obtain ⟨c19, h⟩ := ev_ckE h
    refine ew_iald dX10_commits_71 (shp_a g0 1 rfl) c19 ?_
    refine ev_aload_n dX10_commits_72 rfl (fun _ e => by cases e) ?_
    refine ew_getr0 dX10_commits_73 fX10_7 g0 rfl rfl rfl rfl ?_
    refine ev_sipush (v := (516 : Int32)) dX10_commits_76 (by decide) ?_
    refine ev_iload dX10_commits_79 rfl ?_
    refine ev_iadd dX10_commits_81 ?_
    obtain ⟨c20, h⟩ := ev_ckE h
    refine ew_iald dX10_commits_82 (shp_a g0 1 rfl) c20 ?_
    refine ev_isub dX10_commits_83 ?_
    obtain ⟨v21, ev21, h⟩ := ev_ltE h
    refine ew_nm ev21 ?_
    refine ew_ist (L' := [some (.ref q0), some (.int x1), some (.int x2), some (.int z15), some (.int z16), some (.int v21), none, none]) dX10_commits_84 (Nat.le_of_ble_eq_true rfl) rfl ?_
    refine ev_iload_n dX10_commits_86 rfl ?_
    refine ew_ist (L' := [some (.ref q0), some (.int x1), some (.int x2), some (.int z15), some (.int z16), some (.int v21), some (.int x2), none]) dX10_commits_87 (Nat.le_of_ble_eq_true rfl) rfl ?_
    refine ev_iload dX10_commits_89 rfl ?_
    refine ew_ist (L' := [some (.ref q0), some (.int x1), some (.int x2), some (.int z15), some (.int z16), some (.int v21), some (.int x2), some (.int v21)]) dX10_commits_91 (Nat.le_of_ble_eq_true rfl) rfl ?_
    exact ev_weak (sb_s (sb_s (sb_n (sb_s (sb_n (sb_s (sb_s (sb_s sb_0)))))))) (tlX10_commits_93 q0 g0 n x1 z15 v21 x2 v21 I _ h)
  · have h := ev_ifT h c18
    refine ev_aload_n dX10_commits_23 rfl (fun _ e => by cases e) ?_
    refine ev_iload dX10_commits_24 rfl ?_
    refine ev_iload_n dX10_commits_26 rfl ?_
    obtain ⟨z22, hz22, h⟩ := ev_bnE h
    refine ec_Vi (Y := mX10_doesExtend) (ci := 9) (As := [.int z16, .int x2]) (rest := []) dX10_commits_27 kX10_93 oX10_doesExtend ⟨Nat.le_of_ble_eq_true rfl, Nat.le_of_ble_eq_true rfl⟩ (by decide) rfl (shp_n g0 0 rfl) (shp_t g0 0 rfl) rfl (Nat.le_of_ble_eq_true rfl) (tX10_doesExtend n q0 g0 z16 x2 I z22 hz22) rfl ?_
    refine ev_if_eq (tgt := 34) dX10_commits_30 (by decide) (fun c23 => ?_) (fun c23 => ?_)
    · have h := ev_ifT h c23
      refine ev_aload_n dX10_commits_34 rfl (fun _ e => by cases e) ?_
      refine ew_getr0 dX10_commits_35 fX10_7 g0 rfl rfl rfl rfl ?_
      refine ev_iload_n dX10_commits_38 rfl ?_
      refine ev_bipush (v := (9 : Int32)) dX10_commits_39 (by decide) ?_
      refine ev_iadd dX10_commits_41 ?_
      refine ev_aload_n dX10_commits_42 rfl (fun _ e => by cases e) ?_
      refine ew_getr0 dX10_commits_43 fX10_7 g0 rfl rfl rfl rfl ?_
      refine ev_iload_n dX10_commits_46 rfl ?_
      refine ev_bipush (v := (9 : Int32)) dX10_commits_47 (by decide) ?_
      refine ev_iadd dX10_commits_49 ?_
      obtain ⟨c24, h⟩ := ev_ckE h
      refine ew_iald dX10_commits_50 (shp_a g0 1 rfl) c24 ?_
      refine ev_iconst (v := (1 : Int32)) dX10_commits_51 (by decide) ?_
      refine ev_iadd dX10_commits_52 ?_
      obtain ⟨c25, h⟩ := ev_ckE h
      obtain ⟨I26, eI26, h⟩ := ev_ltE h
      refine ew_iast dX10_commits_53 (shp_a g0 1 rfl) c25 (ew_nh eI26 ?_)
      refine ev_aload_n dX10_commits_54 rfl (fun _ e => by cases e) ?_
      refine ev_iconst (v := (4 : Int32)) dX10_commits_55 (by decide) ?_
      refine ev_iload_n dX10_commits_56 rfl ?_
      refine ev_iload_n dX10_commits_57 rfl ?_
      obtain ⟨z27, hz27, h⟩ := ev_bnE h
      refine ec_Vv (Y := mX10_tells) (ci := 9) (As := [.int (4 : Int32), .int x1, .int x2]) (rest := []) dX10_commits_58 kX10_96 oX10_tells ⟨Nat.le_of_ble_eq_true rfl, Nat.le_of_ble_eq_true rfl⟩ (by decide) rfl (shp_n g0 0 rfl) (shp_t g0 0 rfl) rfl (Nat.le_of_ble_eq_true rfl) (tX10_tells n q0 g0 (4 : Int32) x1 x2 I26 z27 hz27) rfl ?_
      cases h
      exact er_v dX10_commits_61 rfl
    · have h := ev_ifF h c23
      cases h
      exact er_v dX10_commits_33 rfl
-- ChainVotesModel learns(II)V
def cX10_learns_189 (q0 : Nat) (n : Nat) (y1 : Int32) (y5 : Int32) (s0 : Int32) (I : ev_I) : Option (ev_I) :=
  if s0 = 0 then
    some I
  else
    (pX10_commits n q0 y1 y5 I).bind fun z2 =>
    some z2
def cX10_learns_188 (q0 : Nat) (n : Nat) (y1 : Int32) (y5 : Int32) (I : ev_I) : Option (ev_I) :=
  cX10_learns_189 q0 n y1 y5 (0 : Int32) I
def cX10_learns_96 (q0 : Nat) (n : Nat) (y1 : Int32) (y2 : Int32) (y4 : Int32) (I : ev_I) : Option (ev_I) :=
  ev_ck (ev_in ((216 : Int32) + y4) 6010) <|
  ev_lt (I (q0 + 1) ((216 : Int32) + y4).toNatClampNeg) fun v4 =>
  if v4 = 0 then
    cX10_learns_188 q0 n y1 v4 I
  else
    (pX10_parentOf n q0 y2 I).bind fun z6 =>
    if z6 = y4 then
      (pX10_parentOf n q0 y4 I).bind fun z8 =>
      if z8 = v4 then
        ev_ck (ev_in ((16 : Int32) + y2) 6010) <|
        ev_ck (ev_in ((16 : Int32) + y4) 6010) <|
        if (I (q0 + 1) ((16 : Int32) + y2).toNatClampNeg) = ((I (q0 + 1) ((16 : Int32) + y4).toNatClampNeg) + (1 : Int32)) then
          ev_ck (ev_in ((16 : Int32) + y4) 6010) <|
          ev_ck (ev_in ((16 : Int32) + v4) 6010) <|
          if (I (q0 + 1) ((16 : Int32) + y4).toNatClampNeg) = ((I (q0 + 1) ((16 : Int32) + v4).toNatClampNeg) + (1 : Int32)) then
            cX10_learns_189 q0 n y1 v4 (1 : Int32) I
          else
            cX10_learns_188 q0 n y1 v4 I
        else
          cX10_learns_188 q0 n y1 v4 I
      else
        cX10_learns_188 q0 n y1 v4 I
    else
      cX10_learns_188 q0 n y1 v4 I
def cX10_learns_43 (q0 : Nat) (n : Nat) (y1 : Int32) (y2 : Int32) (y3 : Int32) (I : ev_I) : Option (ev_I) :=
  ev_ck (ev_in ((216 : Int32) + y2) 6010) <|
  ev_lt (I (q0 + 1) ((216 : Int32) + y2).toNatClampNeg) fun v17 =>
  ev_ck (ev_in ((16 : Int32) + v17) 6010) <|
  ev_ck (ev_in (y3 + (6 : Int32)) 6010) <|
  ev_ck (ev_in ((16 : Int32) + (I (q0 + 1) (y3 + (6 : Int32)).toNatClampNeg)) 6010) <|
  if (I (q0 + 1) ((16 : Int32) + v17).toNatClampNeg) ≤ (I (q0 + 1) ((16 : Int32) + (I (q0 + 1) (y3 + (6 : Int32)).toNatClampNeg)).toNatClampNeg) then
    cX10_learns_96 q0 n y1 y2 v17 I
  else
    ev_ck (ev_in (y3 + (6 : Int32)) 6010) <|
    ev_lt (ev_u2 I (q0 + 1) (y3 + (6 : Int32)).toNatClampNeg v17) fun I23 =>
    cX10_learns_96 q0 n y1 y2 v17 I23
def pX10_learns (n : Nat) (q0 : Nat) (x1 : Int32) (x2 : Int32) (I : ev_I) : Option (ev_I) :=
  (pX10_nodeAt n q0 x1 I).bind fun z24 =>
  ev_ck (ev_in ((16 : Int32) + x2) 6010) <|
  ev_ck (ev_in (z24 + (5 : Int32)) 6010) <|
  ev_ck (ev_in ((16 : Int32) + (I (q0 + 1) (z24 + (5 : Int32)).toNatClampNeg)) 6010) <|
  if (I (q0 + 1) ((16 : Int32) + x2).toNatClampNeg) ≤ (I (q0 + 1) ((16 : Int32) + (I (q0 + 1) (z24 + (5 : Int32)).toNatClampNeg)).toNatClampNeg) then
    cX10_learns_43 q0 n x1 x2 z24 I
  else
    ev_ck (ev_in (z24 + (5 : Int32)) 6010) <|
    ev_lt (ev_u2 I (q0 + 1) (z24 + (5 : Int32)).toNatClampNeg x2) fun I30 =>
    cX10_learns_43 q0 n x1 x2 z24 I30
set_option maxRecDepth 100000 in
set_option maxHeartbeats 4000000 in
theorem tX10_learns_189 {E : ev_N} {σ : ev_H} (q0 : Nat) (g0 : shp tb9 σ q0) (n : Nat) (y1 : Int32) (y5 : Int32) (s0 : Int32) (I : ev_I) (o : ev_I) : cX10_learns_189 q0 n y1 y5 s0 I = some o → EV E mX10_learns 189 [some (.ref q0), some (.int y1), none, none, none, some (.int y5), none] [(.int s0)] (h_w σ I) (Option.none, h_w σ o) := by
  intro h
  unfold cX10_learns_189 at h
  refine ew_ist (L' := [some (.ref q0), some (.int y1), none, none, none, some (.int y5), some (.int s0)]) dX10_learns_189 (Nat.le_of_ble_eq_true rfl) rfl ?_
  refine ev_iload dX10_learns_191 rfl ?_
  refine ev_if_eq (tgt := 203) dX10_learns_193 (by decide) (fun c1 => ?_) (fun c1 => ?_)
  · have h := ev_ifT h c1
    cases h
    exact er_v dX10_learns_203 rfl
  · have h := ev_ifF h c1
    refine ev_aload_n dX10_learns_196 rfl (fun _ e => by cases e) ?_
    refine ev_iload_n dX10_learns_197 rfl ?_
    refine ev_iload dX10_learns_198 rfl ?_
    obtain ⟨z2, hz2, h⟩ := ev_bnE h
    refine ec_Vv (Y := mX10_commits) (ci := 9) (As := [.int y1, .int y5]) (rest := []) dX10_learns_200 kX10_100 oX10_commits ⟨Nat.le_of_ble_eq_true rfl, Nat.le_of_ble_eq_true rfl⟩ (by decide) rfl (shp_n g0 0 rfl) (shp_t g0 0 rfl) rfl (Nat.le_of_ble_eq_true rfl) (tX10_commits n q0 g0 y1 y5 I z2 hz2) rfl ?_
    cases h
    exact er_v dX10_learns_203 rfl
set_option maxRecDepth 100000 in
set_option maxHeartbeats 4000000 in
theorem tX10_learns_188 {E : ev_N} {σ : ev_H} (q0 : Nat) (g0 : shp tb9 σ q0) (n : Nat) (y1 : Int32) (y5 : Int32) (I : ev_I) (o : ev_I) : cX10_learns_188 q0 n y1 y5 I = some o → EV E mX10_learns 188 [some (.ref q0), some (.int y1), none, none, none, some (.int y5), none] [] (h_w σ I) (Option.none, h_w σ o) := by
  intro h
  unfold cX10_learns_188 at h
  refine ev_iconst (v := (0 : Int32)) dX10_learns_188 (by decide) ?_
  exact ev_weak (sb_s (sb_s (sb_n (sb_n (sb_n (sb_s (sb_n sb_0))))))) (tX10_learns_189 q0 g0 n y1 y5 (0 : Int32) I _ h)
set_option maxRecDepth 100000 in
set_option maxHeartbeats 4000000 in
theorem tX10_learns_96 {E : ev_N} {σ : ev_H} (q0 : Nat) (g0 : shp tb9 σ q0) (n : Nat) (y1 : Int32) (y2 : Int32) (y4 : Int32) (I : ev_I) (o : ev_I) : cX10_learns_96 q0 n y1 y2 y4 I = some o → EV E mX10_learns 96 [some (.ref q0), some (.int y1), some (.int y2), none, some (.int y4), none, none] [] (h_w σ I) (Option.none, h_w σ o) := by
  intro h
  unfold cX10_learns_96 at h
  refine ev_aload_n dX10_learns_96 rfl (fun _ e => by cases e) ?_
  refine ew_getr0 dX10_learns_97 fX10_7 g0 rfl rfl rfl rfl ?_
  refine ev_sipush (v := (216 : Int32)) dX10_learns_100 (by decide) ?_
  refine ev_iload dX10_learns_103 rfl ?_
  refine ev_iadd dX10_learns_105 ?_
  obtain ⟨c3, h⟩ := ev_ckE h
  refine ew_iald dX10_learns_106 (shp_a g0 1 rfl) c3 ?_
  obtain ⟨v4, ev4, h⟩ := ev_ltE h
  refine ew_nm ev4 ?_
  refine ew_ist (L' := [some (.ref q0), some (.int y1), some (.int y2), none, some (.int y4), some (.int v4), none]) dX10_learns_107 (Nat.le_of_ble_eq_true rfl) rfl ?_
  refine ev_iload dX10_learns_109 rfl ?_
  refine ev_if_eq (tgt := 188) dX10_learns_111 (by decide) (fun c5 => ?_) (fun c5 => ?_)
  · have h := ev_ifT h c5
    exact ev_weak (sb_s (sb_s (sb_n (sb_n (sb_n (sb_s (sb_n sb_0))))))) (tX10_learns_188 q0 g0 n y1 v4 I _ h)
  · have h := ev_ifF h c5
    refine ev_aload_n dX10_learns_114 rfl (fun _ e => by cases e) ?_
    refine ev_iload_n dX10_learns_115 rfl ?_
    obtain ⟨z6, hz6, h⟩ := ev_bnE h
    refine ec_Vi (Y := mX10_parentOf) (ci := 9) (As := [.int y2]) (rest := []) dX10_learns_116 kX10_58 oX10_parentOf ⟨Nat.le_of_ble_eq_true rfl, Nat.le_of_ble_eq_true rfl⟩ (by decide) rfl (shp_n g0 0 rfl) (shp_t g0 0 rfl) rfl (Nat.le_of_ble_eq_true rfl) (tX10_parentOf n q0 g0 y2 I z6 hz6) rfl ?_
    refine ev_iload dX10_learns_119 rfl ?_
    refine ev_icmp_ne (tgt := 188) dX10_learns_121 (by decide) (fun c7 => ?_) (fun c7 => ?_)
    · have h := ev_ifF h c7
      exact ev_weak (sb_s (sb_s (sb_n (sb_n (sb_n (sb_s (sb_n sb_0))))))) (tX10_learns_188 q0 g0 n y1 v4 I _ h)
    · have h := ev_ifT h c7
      refine ev_aload_n dX10_learns_124 rfl (fun _ e => by cases e) ?_
      refine ev_iload dX10_learns_125 rfl ?_
      obtain ⟨z8, hz8, h⟩ := ev_bnE h
      refine ec_Vi (Y := mX10_parentOf) (ci := 9) (As := [.int y4]) (rest := []) dX10_learns_127 kX10_58 oX10_parentOf ⟨Nat.le_of_ble_eq_true rfl, Nat.le_of_ble_eq_true rfl⟩ (by decide) rfl (shp_n g0 0 rfl) (shp_t g0 0 rfl) rfl (Nat.le_of_ble_eq_true rfl) (tX10_parentOf n q0 g0 y4 I z8 hz8) rfl ?_
      refine ev_iload dX10_learns_130 rfl ?_
      refine ev_icmp_ne (tgt := 188) dX10_learns_132 (by decide) (fun c9 => ?_) (fun c9 => ?_)
      · have h := ev_ifF h c9
        exact ev_weak (sb_s (sb_s (sb_n (sb_n (sb_n (sb_s (sb_n sb_0))))))) (tX10_learns_188 q0 g0 n y1 v4 I _ h)
      · have h := ev_ifT h c9
        refine ev_aload_n dX10_learns_135 rfl (fun _ e => by cases e) ?_
        refine ew_getr0 dX10_learns_136 fX10_7 g0 rfl rfl rfl rfl ?_
        refine ev_bipush (v := (16 : Int32)) dX10_learns_139 (by decide) ?_
        refine ev_iload_n dX10_learns_141 rfl ?_
        refine ev_iadd dX10_learns_142 ?_
        obtain ⟨c10, h⟩ := ev_ckE h
        refine ew_iald dX10_learns_143 (shp_a g0 1 rfl) c10 ?_
        refine ev_aload_n dX10_learns_144 rfl (fun _ e => by cases e) ?_
        refine ew_getr0 dX10_learns_145 fX10_7 g0 rfl rfl rfl rfl ?_
        refine ev_bipush (v := (16 : Int32)) dX10_learns_148 (by decide) ?_
        refine ev_iload dX10_learns_150 rfl ?_
        refine ev_iadd dX10_learns_152 ?_
        obtain ⟨c11, h⟩ := ev_ckE h
        refine ew_iald dX10_learns_153 (shp_a g0 1 rfl) c11 ?_
        refine ev_iconst (v := (1 : Int32)) dX10_learns_154 (by decide) ?_
        refine ev_iadd dX10_learns_155 ?_
        refine ev_icmp_ne (tgt := 188) dX10_learns_156 (by decide) (fun c12 => ?_) (fun c12 => ?_)
        · have h := ev_ifF h c12
          exact ev_weak (sb_s (sb_s (sb_n (sb_n (sb_n (sb_s (sb_n sb_0))))))) (tX10_learns_188 q0 g0 n y1 v4 I _ h)
        · have h := ev_ifT h c12
          refine ev_aload_n dX10_learns_159 rfl (fun _ e => by cases e) ?_
          refine ew_getr0 dX10_learns_160 fX10_7 g0 rfl rfl rfl rfl ?_
          refine ev_bipush (v := (16 : Int32)) dX10_learns_163 (by decide) ?_
          refine ev_iload dX10_learns_165 rfl ?_
          refine ev_iadd dX10_learns_167 ?_
          obtain ⟨c13, h⟩ := ev_ckE h
          refine ew_iald dX10_learns_168 (shp_a g0 1 rfl) c13 ?_
          refine ev_aload_n dX10_learns_169 rfl (fun _ e => by cases e) ?_
          refine ew_getr0 dX10_learns_170 fX10_7 g0 rfl rfl rfl rfl ?_
          refine ev_bipush (v := (16 : Int32)) dX10_learns_173 (by decide) ?_
          refine ev_iload dX10_learns_175 rfl ?_
          refine ev_iadd dX10_learns_177 ?_
          obtain ⟨c14, h⟩ := ev_ckE h
          refine ew_iald dX10_learns_178 (shp_a g0 1 rfl) c14 ?_
          refine ev_iconst (v := (1 : Int32)) dX10_learns_179 (by decide) ?_
          refine ev_iadd dX10_learns_180 ?_
          refine ev_icmp_ne (tgt := 188) dX10_learns_181 (by decide) (fun c15 => ?_) (fun c15 => ?_)
          · have h := ev_ifF h c15
            exact ev_weak (sb_s (sb_s (sb_n (sb_n (sb_n (sb_s (sb_n sb_0))))))) (tX10_learns_188 q0 g0 n y1 v4 I _ h)
          · have h := ev_ifT h c15
            refine ev_iconst (v := (1 : Int32)) dX10_learns_184 (by decide) ?_
            refine ev_goto (tgt := 189) dX10_learns_185 (by decide) ?_
            exact ev_weak (sb_s (sb_s (sb_n (sb_n (sb_n (sb_s (sb_n sb_0))))))) (tX10_learns_189 q0 g0 n y1 v4 (1 : Int32) I _ h)
set_option maxRecDepth 100000 in
set_option maxHeartbeats 4000000 in
theorem tX10_learns_43 {E : ev_N} {σ : ev_H} (q0 : Nat) (g0 : shp tb9 σ q0) (n : Nat) (y1 : Int32) (y2 : Int32) (y3 : Int32) (I : ev_I) (o : ev_I) : cX10_learns_43 q0 n y1 y2 y3 I = some o → EV E mX10_learns 43 [some (.ref q0), some (.int y1), some (.int y2), some (.int y3), none, none, none] [] (h_w σ I) (Option.none, h_w σ o) := by
  intro h
  unfold cX10_learns_43 at h
  refine ev_aload_n dX10_learns_43 rfl (fun _ e => by cases e) ?_
  refine ew_getr0 dX10_learns_44 fX10_7 g0 rfl rfl rfl rfl ?_
  refine ev_sipush (v := (216 : Int32)) dX10_learns_47 (by decide) ?_
  refine ev_iload_n dX10_learns_50 rfl ?_
  refine ev_iadd dX10_learns_51 ?_
  obtain ⟨c16, h⟩ := ev_ckE h
  refine ew_iald dX10_learns_52 (shp_a g0 1 rfl) c16 ?_
  obtain ⟨v17, ev17, h⟩ := ev_ltE h
  refine ew_nm ev17 ?_
  refine ew_ist (L' := [some (.ref q0), some (.int y1), some (.int y2), some (.int y3), some (.int v17), none, none]) dX10_learns_53 (Nat.le_of_ble_eq_true rfl) rfl ?_
  refine ev_aload_n dX10_learns_55 rfl (fun _ e => by cases e) ?_
  refine ew_getr0 dX10_learns_56 fX10_7 g0 rfl rfl rfl rfl ?_
  refine ev_bipush (v := (16 : Int32)) dX10_learns_59 (by decide) ?_
  refine ev_iload dX10_learns_61 rfl ?_
  refine ev_iadd dX10_learns_63 ?_
  obtain ⟨c18, h⟩ := ev_ckE h
  refine ew_iald dX10_learns_64 (shp_a g0 1 rfl) c18 ?_
  refine ev_aload_n dX10_learns_65 rfl (fun _ e => by cases e) ?_
  refine ew_getr0 dX10_learns_66 fX10_7 g0 rfl rfl rfl rfl ?_
  refine ev_bipush (v := (16 : Int32)) dX10_learns_69 (by decide) ?_
  refine ev_aload_n dX10_learns_71 rfl (fun _ e => by cases e) ?_
  refine ew_getr0 dX10_learns_72 fX10_7 g0 rfl rfl rfl rfl ?_
  refine ev_iload_n dX10_learns_75 rfl ?_
  refine ev_bipush (v := (6 : Int32)) dX10_learns_76 (by decide) ?_
  refine ev_iadd dX10_learns_78 ?_
  obtain ⟨c19, h⟩ := ev_ckE h
  refine ew_iald dX10_learns_79 (shp_a g0 1 rfl) c19 ?_
  refine ev_iadd dX10_learns_80 ?_
  obtain ⟨c20, h⟩ := ev_ckE h
  refine ew_iald dX10_learns_81 (shp_a g0 1 rfl) c20 ?_
  refine ev_icmp_le (tgt := 96) dX10_learns_82 (by decide) (fun c21 => ?_) (fun c21 => ?_)
  · have h := ev_ifT h c21
    exact ev_weak (sb_s (sb_s (sb_s (sb_n (sb_s (sb_n (sb_n sb_0))))))) (tX10_learns_96 q0 g0 n y1 y2 v17 I _ h)
  · have h := ev_ifF h c21
    refine ev_aload_n dX10_learns_85 rfl (fun _ e => by cases e) ?_
    refine ew_getr0 dX10_learns_86 fX10_7 g0 rfl rfl rfl rfl ?_
    refine ev_iload_n dX10_learns_89 rfl ?_
    refine ev_bipush (v := (6 : Int32)) dX10_learns_90 (by decide) ?_
    refine ev_iadd dX10_learns_92 ?_
    refine ev_iload dX10_learns_93 rfl ?_
    obtain ⟨c22, h⟩ := ev_ckE h
    obtain ⟨I23, eI23, h⟩ := ev_ltE h
    refine ew_iast dX10_learns_95 (shp_a g0 1 rfl) c22 (ew_nh eI23 ?_)
    exact ev_weak (sb_s (sb_s (sb_s (sb_n (sb_s (sb_n (sb_n sb_0))))))) (tX10_learns_96 q0 g0 n y1 y2 v17 I23 _ h)
set_option maxRecDepth 100000 in
set_option maxHeartbeats 4000000 in
theorem tX10_learns {E : ev_N} {σ : ev_H} (n : Nat) (q0 : Nat) (g0 : shp tb9 σ q0) (x1 : Int32) (x2 : Int32) (I : ev_I) (o : ev_I) (h : pX10_learns n q0 x1 x2 I = some o) : ev_T E mX10_learns [.ref q0, .int x1, .int x2] (h_w σ I) (Option.none, h_w σ o) := by
  unfold pX10_learns at h
  refine ev_met rfl rfl (Nat.le_of_ble_eq_true rfl) (ev_L0 (L' := [some (.ref q0), some (.int x1), some (.int x2), none, none, none, none]) rfl ?_)
  refine ev_aload_n dX10_learns_0 rfl (fun _ e => by cases e) ?_
  refine ev_iload_n dX10_learns_1 rfl ?_
  obtain ⟨z24, hz24, h⟩ := ev_bnE h
  refine ec_Vi (Y := mX10_nodeAt) (ci := 9) (As := [.int x1]) (rest := []) dX10_learns_2 kX10_54 oX10_nodeAt ⟨Nat.le_of_ble_eq_true rfl, Nat.le_of_ble_eq_true rfl⟩ (by decide) rfl (shp_n g0 0 rfl) (shp_t g0 0 rfl) rfl (Nat.le_of_ble_eq_true rfl) (tX10_nodeAt n q0 g0 x1 I z24 hz24) rfl ?_
  refine ew_istn (L' := [some (.ref q0), some (.int x1), some (.int x2), some (.int z24), none, none, none]) dX10_learns_5 (Nat.le_of_ble_eq_true rfl) rfl ?_
  refine ev_aload_n dX10_learns_6 rfl (fun _ e => by cases e) ?_
  refine ew_getr0 dX10_learns_7 fX10_7 g0 rfl rfl rfl rfl ?_
  refine ev_bipush (v := (16 : Int32)) dX10_learns_10 (by decide) ?_
  refine ev_iload_n dX10_learns_12 rfl ?_
  refine ev_iadd dX10_learns_13 ?_
  obtain ⟨c25, h⟩ := ev_ckE h
  refine ew_iald dX10_learns_14 (shp_a g0 1 rfl) c25 ?_
  refine ev_aload_n dX10_learns_15 rfl (fun _ e => by cases e) ?_
  refine ew_getr0 dX10_learns_16 fX10_7 g0 rfl rfl rfl rfl ?_
  refine ev_bipush (v := (16 : Int32)) dX10_learns_19 (by decide) ?_
  refine ev_aload_n dX10_learns_21 rfl (fun _ e => by cases e) ?_
  refine ew_getr0 dX10_learns_22 fX10_7 g0 rfl rfl rfl rfl ?_
  refine ev_iload_n dX10_learns_25 rfl ?_
  refine ev_iconst (v := (5 : Int32)) dX10_learns_26 (by decide) ?_
  refine ev_iadd dX10_learns_27 ?_
  obtain ⟨c26, h⟩ := ev_ckE h
  refine ew_iald dX10_learns_28 (shp_a g0 1 rfl) c26 ?_
  refine ev_iadd dX10_learns_29 ?_
  obtain ⟨c27, h⟩ := ev_ckE h
  refine ew_iald dX10_learns_30 (shp_a g0 1 rfl) c27 ?_
  refine ev_icmp_le (tgt := 43) dX10_learns_31 (by decide) (fun c28 => ?_) (fun c28 => ?_)
  · have h := ev_ifT h c28
    exact ev_weak (sb_s (sb_s (sb_s (sb_s (sb_n (sb_n (sb_n sb_0))))))) (tX10_learns_43 q0 g0 n x1 x2 z24 I _ h)
  · have h := ev_ifF h c28
    refine ev_aload_n dX10_learns_34 rfl (fun _ e => by cases e) ?_
    refine ew_getr0 dX10_learns_35 fX10_7 g0 rfl rfl rfl rfl ?_
    refine ev_iload_n dX10_learns_38 rfl ?_
    refine ev_iconst (v := (5 : Int32)) dX10_learns_39 (by decide) ?_
    refine ev_iadd dX10_learns_40 ?_
    refine ev_iload_n dX10_learns_41 rfl ?_
    obtain ⟨c29, h⟩ := ev_ckE h
    obtain ⟨I30, eI30, h⟩ := ev_ltE h
    refine ew_iast dX10_learns_42 (shp_a g0 1 rfl) c29 (ew_nh eI30 ?_)
    exact ev_weak (sb_s (sb_s (sb_s (sb_s (sb_n (sb_n (sb_n sb_0))))))) (tX10_learns_43 q0 g0 n x1 x2 z24 I30 _ h)
-- ChainVotesModel proves(II)V
def cX10_proves_36 (q0 : Nat) (n : Nat) (y1 : Int32) (y2 : Int32) (I : ev_I) : Option (ev_I) :=
  (pX10_viewOf n q0 y1 I).bind fun z1 =>
  if y2 < z1 then
    some I
  else
    (pX10_goesTo n q0 y1 (y2 + (1 : Int32)) I).bind fun z3 =>
    some z3
def pX10_proves (n : Nat) (q0 : Nat) (x1 : Int32) (x2 : Int32) (I : ev_I) : Option (ev_I) :=
  (pX10_nodeAt n q0 x1 I).bind fun z4 =>
  ev_ck (ev_in (z4 + (7 : Int32)) 6010) <|
  if x2 ≤ (I (q0 + 1) (z4 + (7 : Int32)).toNatClampNeg) then
    cX10_proves_36 q0 n x1 x2 I
  else
    ev_ck (ev_in (z4 + (7 : Int32)) 6010) <|
    ev_lt (ev_u2 I (q0 + 1) (z4 + (7 : Int32)).toNatClampNeg x2) fun I8 =>
    (pX10_tells n q0 (5 : Int32) x1 x2 I8).bind fun z9 =>
    cX10_proves_36 q0 n x1 x2 z9
set_option maxRecDepth 100000 in
set_option maxHeartbeats 4000000 in
theorem tX10_proves_36 {E : ev_N} {σ : ev_H} (q0 : Nat) (g0 : shp tb9 σ q0) (n : Nat) (y1 : Int32) (y2 : Int32) (I : ev_I) (o : ev_I) : cX10_proves_36 q0 n y1 y2 I = some o → EV E mX10_proves 36 [some (.ref q0), some (.int y1), some (.int y2), none] [] (h_w σ I) (Option.none, h_w σ o) := by
  intro h
  unfold cX10_proves_36 at h
  refine ev_aload_n dX10_proves_36 rfl (fun _ e => by cases e) ?_
  refine ev_iload_n dX10_proves_37 rfl ?_
  obtain ⟨z1, hz1, h⟩ := ev_bnE h
  refine ec_Vi (Y := mX10_viewOf) (ci := 9) (As := [.int y1]) (rest := []) dX10_proves_38 kX10_104 oX10_viewOf ⟨Nat.le_of_ble_eq_true rfl, Nat.le_of_ble_eq_true rfl⟩ (by decide) rfl (shp_n g0 0 rfl) (shp_t g0 0 rfl) rfl (Nat.le_of_ble_eq_true rfl) (tX10_viewOf n q0 g0 y1 I z1 hz1) rfl ?_
  refine ev_iload_n dX10_proves_41 rfl ?_
  refine ev_icmp_gt (tgt := 53) dX10_proves_42 (by decide) (fun c2 => ?_) (fun c2 => ?_)
  · have h := ev_ifT h c2
    cases h
    exact er_v dX10_proves_53 rfl
  · have h := ev_ifF h c2
    refine ev_aload_n dX10_proves_45 rfl (fun _ e => by cases e) ?_
    refine ev_iload_n dX10_proves_46 rfl ?_
    refine ev_iload_n dX10_proves_47 rfl ?_
    refine ev_iconst (v := (1 : Int32)) dX10_proves_48 (by decide) ?_
    refine ev_iadd dX10_proves_49 ?_
    obtain ⟨z3, hz3, h⟩ := ev_bnE h
    refine ec_Vv (Y := mX10_goesTo) (ci := 9) (As := [.int y1, .int (y2 + (1 : Int32))]) (rest := []) dX10_proves_50 kX10_107 oX10_goesTo ⟨Nat.le_of_ble_eq_true rfl, Nat.le_of_ble_eq_true rfl⟩ (by decide) rfl (shp_n g0 0 rfl) (shp_t g0 0 rfl) rfl (Nat.le_of_ble_eq_true rfl) (tX10_goesTo n q0 g0 y1 (y2 + (1 : Int32)) I z3 hz3) rfl ?_
    cases h
    exact er_v dX10_proves_53 rfl
set_option maxRecDepth 100000 in
set_option maxHeartbeats 4000000 in
theorem tX10_proves {E : ev_N} {σ : ev_H} (n : Nat) (q0 : Nat) (g0 : shp tb9 σ q0) (x1 : Int32) (x2 : Int32) (I : ev_I) (o : ev_I) (h : pX10_proves n q0 x1 x2 I = some o) : ev_T E mX10_proves [.ref q0, .int x1, .int x2] (h_w σ I) (Option.none, h_w σ o) := by
  unfold pX10_proves at h
  refine ev_met rfl rfl (Nat.le_of_ble_eq_true rfl) (ev_L0 (L' := [some (.ref q0), some (.int x1), some (.int x2), none]) rfl ?_)
  refine ev_aload_n dX10_proves_0 rfl (fun _ e => by cases e) ?_
  refine ev_iload_n dX10_proves_1 rfl ?_
  obtain ⟨z4, hz4, h⟩ := ev_bnE h
  refine ec_Vi (Y := mX10_nodeAt) (ci := 9) (As := [.int x1]) (rest := []) dX10_proves_2 kX10_54 oX10_nodeAt ⟨Nat.le_of_ble_eq_true rfl, Nat.le_of_ble_eq_true rfl⟩ (by decide) rfl (shp_n g0 0 rfl) (shp_t g0 0 rfl) rfl (Nat.le_of_ble_eq_true rfl) (tX10_nodeAt n q0 g0 x1 I z4 hz4) rfl ?_
  refine ew_istn (L' := [some (.ref q0), some (.int x1), some (.int x2), some (.int z4)]) dX10_proves_5 (Nat.le_of_ble_eq_true rfl) rfl ?_
  refine ev_iload_n dX10_proves_6 rfl ?_
  refine ev_aload_n dX10_proves_7 rfl (fun _ e => by cases e) ?_
  refine ew_getr0 dX10_proves_8 fX10_7 g0 rfl rfl rfl rfl ?_
  refine ev_iload_n dX10_proves_11 rfl ?_
  refine ev_bipush (v := (7 : Int32)) dX10_proves_12 (by decide) ?_
  refine ev_iadd dX10_proves_14 ?_
  obtain ⟨c5, h⟩ := ev_ckE h
  refine ew_iald dX10_proves_15 (shp_a g0 1 rfl) c5 ?_
  refine ev_icmp_le (tgt := 36) dX10_proves_16 (by decide) (fun c6 => ?_) (fun c6 => ?_)
  · have h := ev_ifT h c6
    exact ev_weak (sb_s (sb_s (sb_s (sb_n sb_0)))) (tX10_proves_36 q0 g0 n x1 x2 I _ h)
  · have h := ev_ifF h c6
    refine ev_aload_n dX10_proves_19 rfl (fun _ e => by cases e) ?_
    refine ew_getr0 dX10_proves_20 fX10_7 g0 rfl rfl rfl rfl ?_
    refine ev_iload_n dX10_proves_23 rfl ?_
    refine ev_bipush (v := (7 : Int32)) dX10_proves_24 (by decide) ?_
    refine ev_iadd dX10_proves_26 ?_
    refine ev_iload_n dX10_proves_27 rfl ?_
    obtain ⟨c7, h⟩ := ev_ckE h
    obtain ⟨I8, eI8, h⟩ := ev_ltE h
    refine ew_iast dX10_proves_28 (shp_a g0 1 rfl) c7 (ew_nh eI8 ?_)
    refine ev_aload_n dX10_proves_29 rfl (fun _ e => by cases e) ?_
    refine ev_iconst (v := (5 : Int32)) dX10_proves_30 (by decide) ?_
    refine ev_iload_n dX10_proves_31 rfl ?_
    refine ev_iload_n dX10_proves_32 rfl ?_
    obtain ⟨z9, hz9, h⟩ := ev_bnE h
    refine ec_Vv (Y := mX10_tells) (ci := 9) (As := [.int (5 : Int32), .int x1, .int x2]) (rest := []) dX10_proves_33 kX10_96 oX10_tells ⟨Nat.le_of_ble_eq_true rfl, Nat.le_of_ble_eq_true rfl⟩ (by decide) rfl (shp_n g0 0 rfl) (shp_t g0 0 rfl) rfl (Nat.le_of_ble_eq_true rfl) (tX10_tells n q0 g0 (5 : Int32) x1 x2 I8 z9 hz9) rfl ?_
    exact ev_weak (sb_s (sb_s (sb_s (sb_n sb_0)))) (tX10_proves_36 q0 g0 n x1 x2 z9 _ h)
-- ChainVotesModel isSafe(II)Z
def pX10_isSafe (n : Nat) (q0 : Nat) (x1 : Int32) (x2 : Int32) (I : ev_I) : Option (Int32) :=
  (pX10_nodeAt n q0 x1 I).bind fun z1 =>
  ev_ck (ev_in (z1 + (6 : Int32)) 6010) <|
  ev_lt (I (q0 + 1) (z1 + (6 : Int32)).toNatClampNeg) fun v3 =>
  (pX10_doesExtend n q0 x2 v3 I).bind fun z4 =>
  if z4 = 0 then
    ev_ck (ev_in ((216 : Int32) + x2) 6010) <|
    ev_ck (ev_in ((16 : Int32) + (I (q0 + 1) ((216 : Int32) + x2).toNatClampNeg)) 6010) <|
    ev_ck (ev_in ((16 : Int32) + v3) 6010) <|
    if (I (q0 + 1) ((16 : Int32) + (I (q0 + 1) ((216 : Int32) + x2).toNatClampNeg)).toNatClampNeg) ≤ (I (q0 + 1) ((16 : Int32) + v3).toNatClampNeg) then
      some (0 : Int32)
    else
      some (1 : Int32)
  else
    some (1 : Int32)
set_option maxRecDepth 100000 in
set_option maxHeartbeats 4000000 in
theorem tX10_isSafe {E : ev_N} {σ : ev_H} (n : Nat) (q0 : Nat) (g0 : shp tb9 σ q0) (x1 : Int32) (x2 : Int32) (I : ev_I) (o : Int32) (h : pX10_isSafe n q0 x1 x2 I = some o) : ev_T E mX10_isSafe [.ref q0, .int x1, .int x2] (h_w σ I) (Option.some (Value.int o), h_w σ I) := by
  unfold pX10_isSafe at h
  refine ev_met rfl rfl (Nat.le_of_ble_eq_true rfl) (ev_L0 (L' := [some (.ref q0), some (.int x1), some (.int x2), none]) rfl ?_)
  refine ev_aload_n dX10_isSafe_0 rfl (fun _ e => by cases e) ?_
  refine ew_getr0 dX10_isSafe_1 fX10_7 g0 rfl rfl rfl rfl ?_
  refine ev_aload_n dX10_isSafe_4 rfl (fun _ e => by cases e) ?_
  refine ev_iload_n dX10_isSafe_5 rfl ?_
  obtain ⟨z1, hz1, h⟩ := ev_bnE h
  refine ec_Vi (Y := mX10_nodeAt) (ci := 9) (As := [.int x1]) (rest := [(.ref (q0 + 1))]) dX10_isSafe_6 kX10_54 oX10_nodeAt ⟨Nat.le_of_ble_eq_true rfl, Nat.le_of_ble_eq_true rfl⟩ (by decide) rfl (shp_n g0 0 rfl) (shp_t g0 0 rfl) rfl (Nat.le_of_ble_eq_true rfl) (tX10_nodeAt n q0 g0 x1 I z1 hz1) rfl ?_
  refine ev_bipush (v := (6 : Int32)) dX10_isSafe_9 (by decide) ?_
  refine ev_iadd dX10_isSafe_11 ?_
  obtain ⟨c2, h⟩ := ev_ckE h
  refine ew_iald dX10_isSafe_12 (shp_a g0 1 rfl) c2 ?_
  obtain ⟨v3, ev3, h⟩ := ev_ltE h
  refine ew_nm ev3 ?_
  refine ew_istn (L' := [some (.ref q0), some (.int x1), some (.int x2), some (.int v3)]) dX10_isSafe_13 (Nat.le_of_ble_eq_true rfl) rfl ?_
  refine ev_aload_n dX10_isSafe_14 rfl (fun _ e => by cases e) ?_
  refine ev_iload_n dX10_isSafe_15 rfl ?_
  refine ev_iload_n dX10_isSafe_16 rfl ?_
  obtain ⟨z4, hz4, h⟩ := ev_bnE h
  refine ec_Vi (Y := mX10_doesExtend) (ci := 9) (As := [.int x2, .int v3]) (rest := []) dX10_isSafe_17 kX10_93 oX10_doesExtend ⟨Nat.le_of_ble_eq_true rfl, Nat.le_of_ble_eq_true rfl⟩ (by decide) rfl (shp_n g0 0 rfl) (shp_t g0 0 rfl) rfl (Nat.le_of_ble_eq_true rfl) (tX10_doesExtend n q0 g0 x2 v3 I z4 hz4) rfl ?_
  refine ev_if_ne (tgt := 53) dX10_isSafe_20 (by decide) (fun c5 => ?_) (fun c5 => ?_)
  · have h := ev_ifF h c5
    refine ev_iconst (v := (1 : Int32)) dX10_isSafe_53 (by decide) ?_
    refine ev_goto (tgt := 58) dX10_isSafe_54 (by decide) ?_
    cases h
    exact er_i dX10_isSafe_58 rfl rfl
  · have h := ev_ifT h c5
    refine ev_aload_n dX10_isSafe_23 rfl (fun _ e => by cases e) ?_
    refine ew_getr0 dX10_isSafe_24 fX10_7 g0 rfl rfl rfl rfl ?_
    refine ev_bipush (v := (16 : Int32)) dX10_isSafe_27 (by decide) ?_
    refine ev_aload_n dX10_isSafe_29 rfl (fun _ e => by cases e) ?_
    refine ew_getr0 dX10_isSafe_30 fX10_7 g0 rfl rfl rfl rfl ?_
    refine ev_sipush (v := (216 : Int32)) dX10_isSafe_33 (by decide) ?_
    refine ev_iload_n dX10_isSafe_36 rfl ?_
    refine ev_iadd dX10_isSafe_37 ?_
    obtain ⟨c6, h⟩ := ev_ckE h
    refine ew_iald dX10_isSafe_38 (shp_a g0 1 rfl) c6 ?_
    refine ev_iadd dX10_isSafe_39 ?_
    obtain ⟨c7, h⟩ := ev_ckE h
    refine ew_iald dX10_isSafe_40 (shp_a g0 1 rfl) c7 ?_
    refine ev_aload_n dX10_isSafe_41 rfl (fun _ e => by cases e) ?_
    refine ew_getr0 dX10_isSafe_42 fX10_7 g0 rfl rfl rfl rfl ?_
    refine ev_bipush (v := (16 : Int32)) dX10_isSafe_45 (by decide) ?_
    refine ev_iload_n dX10_isSafe_47 rfl ?_
    refine ev_iadd dX10_isSafe_48 ?_
    obtain ⟨c8, h⟩ := ev_ckE h
    refine ew_iald dX10_isSafe_49 (shp_a g0 1 rfl) c8 ?_
    refine ev_icmp_le (tgt := 57) dX10_isSafe_50 (by decide) (fun c9 => ?_) (fun c9 => ?_)
    · have h := ev_ifT h c9
      refine ev_iconst (v := (0 : Int32)) dX10_isSafe_57 (by decide) ?_
      cases h
      exact er_i dX10_isSafe_58 rfl rfl
    · have h := ev_ifF h c9
      refine ev_iconst (v := (1 : Int32)) dX10_isSafe_53 (by decide) ?_
      refine ev_goto (tgt := 58) dX10_isSafe_54 (by decide) ?_
      cases h
      exact er_i dX10_isSafe_58 rfl rfl
-- ChainVotesModel couldVote(II)Z
def pX10_couldVote (n : Nat) (q0 : Nat) (x1 : Int32) (x2 : Int32) (I : ev_I) : Option (Int32) :=
  ev_ck (ev_in ((16 : Int32) + x2) 6010) <|
  (pX10_viewOf n q0 x1 I).bind fun z2 =>
  if (I (q0 + 1) ((16 : Int32) + x2).toNatClampNeg) = z2 then
    ev_ck (ev_in ((16 : Int32) + x2) 6010) <|
    (pX10_nodeAt n q0 x1 I).bind fun z5 =>
    ev_ck (ev_in (z5 + (2 : Int32)) 6010) <|
    if (I (q0 + 1) ((16 : Int32) + x2).toNatClampNeg) ≤ (I (q0 + 1) (z5 + (2 : Int32)).toNatClampNeg) then
      some (0 : Int32)
    else
      (pX10_parentOf n q0 x2 I).bind fun z8 =>
      ev_ck (ev_in ((216 : Int32) + x2) 6010) <|
      if z8 = (I (q0 + 1) ((216 : Int32) + x2).toNatClampNeg) then
        some (1 : Int32)
      else
        some (0 : Int32)
  else
    some (0 : Int32)
set_option maxRecDepth 100000 in
set_option maxHeartbeats 4000000 in
theorem tX10_couldVote {E : ev_N} {σ : ev_H} (n : Nat) (q0 : Nat) (g0 : shp tb9 σ q0) (x1 : Int32) (x2 : Int32) (I : ev_I) (o : Int32) (h : pX10_couldVote n q0 x1 x2 I = some o) : ev_T E mX10_couldVote [.ref q0, .int x1, .int x2] (h_w σ I) (Option.some (Value.int o), h_w σ I) := by
  unfold pX10_couldVote at h
  refine ev_met rfl rfl (Nat.le_of_ble_eq_true rfl) (ev_L0 (L' := [some (.ref q0), some (.int x1), some (.int x2)]) rfl ?_)
  refine ev_aload_n dX10_couldVote_0 rfl (fun _ e => by cases e) ?_
  refine ew_getr0 dX10_couldVote_1 fX10_7 g0 rfl rfl rfl rfl ?_
  refine ev_bipush (v := (16 : Int32)) dX10_couldVote_4 (by decide) ?_
  refine ev_iload_n dX10_couldVote_6 rfl ?_
  refine ev_iadd dX10_couldVote_7 ?_
  obtain ⟨c1, h⟩ := ev_ckE h
  refine ew_iald dX10_couldVote_8 (shp_a g0 1 rfl) c1 ?_
  refine ev_aload_n dX10_couldVote_9 rfl (fun _ e => by cases e) ?_
  refine ev_iload_n dX10_couldVote_10 rfl ?_
  obtain ⟨z2, hz2, h⟩ := ev_bnE h
  refine ec_Vi (Y := mX10_viewOf) (ci := 9) (As := [.int x1]) (rest := [(.int (I (q0 + 1) ((16 : Int32) + x2).toNatClampNeg))]) dX10_couldVote_11 kX10_104 oX10_viewOf ⟨Nat.le_of_ble_eq_true rfl, Nat.le_of_ble_eq_true rfl⟩ (by decide) rfl (shp_n g0 0 rfl) (shp_t g0 0 rfl) rfl (Nat.le_of_ble_eq_true rfl) (tX10_viewOf n q0 g0 x1 I z2 hz2) rfl ?_
  refine ev_icmp_ne (tgt := 63) dX10_couldVote_14 (by decide) (fun c3 => ?_) (fun c3 => ?_)
  · have h := ev_ifF h c3
    refine ev_iconst (v := (0 : Int32)) dX10_couldVote_63 (by decide) ?_
    cases h
    exact er_i dX10_couldVote_64 rfl rfl
  · have h := ev_ifT h c3
    refine ev_aload_n dX10_couldVote_17 rfl (fun _ e => by cases e) ?_
    refine ew_getr0 dX10_couldVote_18 fX10_7 g0 rfl rfl rfl rfl ?_
    refine ev_bipush (v := (16 : Int32)) dX10_couldVote_21 (by decide) ?_
    refine ev_iload_n dX10_couldVote_23 rfl ?_
    refine ev_iadd dX10_couldVote_24 ?_
    obtain ⟨c4, h⟩ := ev_ckE h
    refine ew_iald dX10_couldVote_25 (shp_a g0 1 rfl) c4 ?_
    refine ev_aload_n dX10_couldVote_26 rfl (fun _ e => by cases e) ?_
    refine ew_getr0 dX10_couldVote_27 fX10_7 g0 rfl rfl rfl rfl ?_
    refine ev_aload_n dX10_couldVote_30 rfl (fun _ e => by cases e) ?_
    refine ev_iload_n dX10_couldVote_31 rfl ?_
    obtain ⟨z5, hz5, h⟩ := ev_bnE h
    refine ec_Vi (Y := mX10_nodeAt) (ci := 9) (As := [.int x1]) (rest := [(.ref (q0 + 1)), (.int (I (q0 + 1) ((16 : Int32) + x2).toNatClampNeg))]) dX10_couldVote_32 kX10_54 oX10_nodeAt ⟨Nat.le_of_ble_eq_true rfl, Nat.le_of_ble_eq_true rfl⟩ (by decide) rfl (shp_n g0 0 rfl) (shp_t g0 0 rfl) rfl (Nat.le_of_ble_eq_true rfl) (tX10_nodeAt n q0 g0 x1 I z5 hz5) rfl ?_
    refine ev_iconst (v := (2 : Int32)) dX10_couldVote_35 (by decide) ?_
    refine ev_iadd dX10_couldVote_36 ?_
    obtain ⟨c6, h⟩ := ev_ckE h
    refine ew_iald dX10_couldVote_37 (shp_a g0 1 rfl) c6 ?_
    refine ev_icmp_le (tgt := 63) dX10_couldVote_38 (by decide) (fun c7 => ?_) (fun c7 => ?_)
    · have h := ev_ifT h c7
      refine ev_iconst (v := (0 : Int32)) dX10_couldVote_63 (by decide) ?_
      cases h
      exact er_i dX10_couldVote_64 rfl rfl
    · have h := ev_ifF h c7
      refine ev_aload_n dX10_couldVote_41 rfl (fun _ e => by cases e) ?_
      refine ev_iload_n dX10_couldVote_42 rfl ?_
      obtain ⟨z8, hz8, h⟩ := ev_bnE h
      refine ec_Vi (Y := mX10_parentOf) (ci := 9) (As := [.int x2]) (rest := []) dX10_couldVote_43 kX10_58 oX10_parentOf ⟨Nat.le_of_ble_eq_true rfl, Nat.le_of_ble_eq_true rfl⟩ (by decide) rfl (shp_n g0 0 rfl) (shp_t g0 0 rfl) rfl (Nat.le_of_ble_eq_true rfl) (tX10_parentOf n q0 g0 x2 I z8 hz8) rfl ?_
      refine ev_aload_n dX10_couldVote_46 rfl (fun _ e => by cases e) ?_
      refine ew_getr0 dX10_couldVote_47 fX10_7 g0 rfl rfl rfl rfl ?_
      refine ev_sipush (v := (216 : Int32)) dX10_couldVote_50 (by decide) ?_
      refine ev_iload_n dX10_couldVote_53 rfl ?_
      refine ev_iadd dX10_couldVote_54 ?_
      obtain ⟨c9, h⟩ := ev_ckE h
      refine ew_iald dX10_couldVote_55 (shp_a g0 1 rfl) c9 ?_
      refine ev_icmp_ne (tgt := 63) dX10_couldVote_56 (by decide) (fun c10 => ?_) (fun c10 => ?_)
      · have h := ev_ifF h c10
        refine ev_iconst (v := (0 : Int32)) dX10_couldVote_63 (by decide) ?_
        cases h
        exact er_i dX10_couldVote_64 rfl rfl
      · have h := ev_ifT h c10
        refine ev_iconst (v := (1 : Int32)) dX10_couldVote_59 (by decide) ?_
        refine ev_goto (tgt := 64) dX10_couldVote_60 (by decide) ?_
        cases h
        exact er_i dX10_couldVote_64 rfl rfl
-- ChainVotesModel givesBlock(II)V
def cX10_givesBlock_112 (q0 : Nat) (K15 : Int32 → Int32 → Int32 → Int32 → Int32 → Int32 → ev_I → Option (ev_I)) (n : Nat) (y1 : Int32) (y2 : Int32) (y3 : Int32) (y4 : Int32) (y5 : Int32) (y6 : Int32) (I : ev_I) : Option (ev_I) :=
  ev_lt (y6 + (1 : Int32)) fun v1 =>
  K15 y1 y2 y3 y4 y5 v1 I
def cX10_givesBlock_52 (q0 : Nat) (K15 : Int32 → Int32 → Int32 → Int32 → Int32 → Int32 → ev_I → Option (ev_I)) (n : Nat) (y1 : Int32) (y2 : Int32) (y3 : Int32) (y4 : Int32) (y5 : Int32) (y6 : Int32) (y7 : Int32) (I : ev_I) : Option (ev_I) :=
  if y7 = y2 then
    cX10_givesBlock_112 q0 K15 n y1 y2 y3 y4 y5 y6 I
  else
    if y5 = 0 then
      ev_ck (ev_in ((16 : Int32) + y7) 6010) <|
      ev_ck (ev_in ((16 : Int32) + y2) 6010) <|
      if (I (q0 + 1) ((16 : Int32) + y7).toNatClampNeg) = (I (q0 + 1) ((16 : Int32) + y2).toNatClampNeg) then
        ev_ck (ev_in ((416 : Int32) + y2) 6010) <|
        (pX10_accuses n q0 (1 : Int32) ((I (q0 + 1) ((416 : Int32) + y2).toNatClampNeg) - (1 : Int32)) y1 y7 y2 I).bind fun z8 =>
        cX10_givesBlock_112 q0 K15 n y1 y2 y3 y4 (1 : Int32) y6 z8
      else
        cX10_givesBlock_112 q0 K15 n y1 y2 y3 y4 y5 y6 I
    else
      cX10_givesBlock_112 q0 K15 n y1 y2 y3 y4 y5 y6 I
def cX10_givesBlock_15 (q0 : Nat) (K15 : Int32 → Int32 → Int32 → Int32 → Int32 → Int32 → ev_I → Option (ev_I)) (n : Nat) (y1 : Int32) (y2 : Int32) (y3 : Int32) (y4 : Int32) (y5 : Int32) (y6 : Int32) (I : ev_I) : Option (ev_I) :=
  ev_ck (ev_in (y3 + (10 : Int32)) 6010) <|
  if (I (q0 + 1) (y3 + (10 : Int32)).toNatClampNeg) ≤ y6 then
    if y4 = 0 then
      ev_ck (ev_in (y3 + (10 : Int32)) 6010) <|
      ev_ck (ev_in ((y3 + (112 : Int32)) + (I (q0 + 1) (y3 + (10 : Int32)).toNatClampNeg)) 6010) <|
      ev_lt (ev_u2 I (q0 + 1) ((y3 + (112 : Int32)) + (I (q0 + 1) (y3 + (10 : Int32)).toNatClampNeg)).toNatClampNeg y2) fun I14 =>
      ev_ck (ev_in (y3 + (10 : Int32)) 6010) <|
      ev_ck (ev_in (y3 + (10 : Int32)) 6010) <|
      ev_lt (ev_u2 I14 (q0 + 1) (y3 + (10 : Int32)).toNatClampNeg ((I14 (q0 + 1) (y3 + (10 : Int32)).toNatClampNeg) + (1 : Int32))) fun I17 =>
      some I17
    else
      some I
  else
    ev_ck (ev_in ((y3 + (112 : Int32)) + y6) 6010) <|
    ev_lt (I (q0 + 1) ((y3 + (112 : Int32)) + y6).toNatClampNeg) fun v19 =>
    if v19 = y2 then
      cX10_givesBlock_52 q0 K15 n y1 y2 y3 (1 : Int32) y5 y6 v19 I
    else
      cX10_givesBlock_52 q0 K15 n y1 y2 y3 y4 y5 y6 v19 I
def lX10_givesBlock_15 (q0 : Nat) : Nat → Int32 → Int32 → Int32 → Int32 → Int32 → Int32 → ev_I → Option (ev_I)
  | 0, _, _, _, _, _, _, _ => none
  | n + 1, y1, y2, y3, y4, y5, y6, I => cX10_givesBlock_15 q0 (lX10_givesBlock_15 q0 n) n y1 y2 y3 y4 y5 y6 I
def pX10_givesBlock (n : Nat) (q0 : Nat) (x1 : Int32) (x2 : Int32) (I : ev_I) : Option (ev_I) :=
  (pX10_nodeAt n q0 x1 I).bind fun z21 =>
  lX10_givesBlock_15 q0 n x1 x2 z21 (0 : Int32) (0 : Int32) (0 : Int32) I
set_option maxRecDepth 100000 in
set_option maxHeartbeats 4000000 in
theorem tX10_givesBlock_112 {E : ev_N} {σ : ev_H} (q0 : Nat) (g0 : shp tb9 σ q0) (K15 : Int32 → Int32 → Int32 → Int32 → Int32 → Int32 → ev_I → Option (ev_I)) (k15 : ∀ (y1 : Int32) (y2 : Int32) (y3 : Int32) (y4 : Int32) (y5 : Int32) (y6 : Int32) (I : ev_I) (o : ev_I), K15 y1 y2 y3 y4 y5 y6 I = some o → EV E mX10_givesBlock 15 [some (.ref q0), some (.int y1), some (.int y2), some (.int y3), some (.int y4), some (.int y5), some (.int y6), none] [] (h_w σ I) (Option.none, h_w σ o)) (n : Nat) (y1 : Int32) (y2 : Int32) (y3 : Int32) (y4 : Int32) (y5 : Int32) (y6 : Int32) (I : ev_I) (o : ev_I) : cX10_givesBlock_112 q0 K15 n y1 y2 y3 y4 y5 y6 I = some o → EV E mX10_givesBlock 112 [some (.ref q0), some (.int y1), some (.int y2), some (.int y3), some (.int y4), some (.int y5), some (.int y6), none] [] (h_w σ I) (Option.none, h_w σ o) := by
  intro h
  unfold cX10_givesBlock_112 at h
  obtain ⟨v1, ev1, h⟩ := ev_ltE h
  refine ew_iinc (L' := [some (.ref q0), some (.int y1), some (.int y2), some (.int y3), some (.int y4), some (.int y5), some (.int v1), none]) dX10_givesBlock_112 (Nat.le_of_ble_eq_true rfl) rfl (by decide) ev1 rfl ?_
  refine ev_goto (tgt := 15) dX10_givesBlock_115 (by decide) ?_
  exact ev_weak (sb_s (sb_s (sb_s (sb_s (sb_s (sb_s (sb_s (sb_n sb_0)))))))) (k15 y1 y2 y3 y4 y5 v1 I _ h)
set_option maxRecDepth 100000 in
set_option maxHeartbeats 4000000 in
theorem tX10_givesBlock_52 {E : ev_N} {σ : ev_H} (q0 : Nat) (g0 : shp tb9 σ q0) (K15 : Int32 → Int32 → Int32 → Int32 → Int32 → Int32 → ev_I → Option (ev_I)) (k15 : ∀ (y1 : Int32) (y2 : Int32) (y3 : Int32) (y4 : Int32) (y5 : Int32) (y6 : Int32) (I : ev_I) (o : ev_I), K15 y1 y2 y3 y4 y5 y6 I = some o → EV E mX10_givesBlock 15 [some (.ref q0), some (.int y1), some (.int y2), some (.int y3), some (.int y4), some (.int y5), some (.int y6), none] [] (h_w σ I) (Option.none, h_w σ o)) (n : Nat) (y1 : Int32) (y2 : Int32) (y3 : Int32) (y4 : Int32) (y5 : Int32) (y6 : Int32) (y7 : Int32) (I : ev_I) (o : ev_I) : cX10_givesBlock_52 q0 K15 n y1 y2 y3 y4 y5 y6 y7 I = some o → EV E mX10_givesBlock 52 [some (.ref q0), some (.int y1), some (.int y2), some (.int y3), some (.int y4), some (.int y5), some (.int y6), some (.int y7)] [] (h_w σ I) (Option.none, h_w σ o) := by
  intro h
  unfold cX10_givesBlock_52 at h
  refine ev_iload dX10_givesBlock_52 rfl ?_
  refine ev_iload_n dX10_givesBlock_54 rfl ?_
  refine ev_icmp_eq (tgt := 112) dX10_givesBlock_55 (by decide) (fun c2 => ?_) (fun c2 => ?_)
  · have h := ev_ifT h c2
    exact ev_weak (sb_s (sb_s (sb_s (sb_s (sb_s (sb_s (sb_s (sb_n sb_0)))))))) (tX10_givesBlock_112 q0 g0 K15 k15 n y1 y2 y3 y4 y5 y6 I _ h)
  · have h := ev_ifF h c2
    refine ev_iload dX10_givesBlock_58 rfl ?_
    refine ev_if_ne (tgt := 112) dX10_givesBlock_60 (by decide) (fun c3 => ?_) (fun c3 => ?_)
    · have h := ev_ifF h c3
      exact ev_weak (sb_s (sb_s (sb_s (sb_s (sb_s (sb_s (sb_s (sb_n sb_0)))))))) (tX10_givesBlock_112 q0 g0 K15 k15 n y1 y2 y3 y4 y5 y6 I _ h)
    · have h := ev_ifT h c3
      refine ev_aload_n dX10_givesBlock_63 rfl (fun _ e => by cases e) ?_
      refine ew_getr0 dX10_givesBlock_64 fX10_7 g0 rfl rfl rfl rfl ?_
      refine ev_bipush (v := (16 : Int32)) dX10_givesBlock_67 (by decide) ?_
      refine ev_iload dX10_givesBlock_69 rfl ?_
      refine ev_iadd dX10_givesBlock_71 ?_
      obtain ⟨c4, h⟩ := ev_ckE h
      refine ew_iald dX10_givesBlock_72 (shp_a g0 1 rfl) c4 ?_
      refine ev_aload_n dX10_givesBlock_73 rfl (fun _ e => by cases e) ?_
      refine ew_getr0 dX10_givesBlock_74 fX10_7 g0 rfl rfl rfl rfl ?_
      refine ev_bipush (v := (16 : Int32)) dX10_givesBlock_77 (by decide) ?_
      refine ev_iload_n dX10_givesBlock_79 rfl ?_
      refine ev_iadd dX10_givesBlock_80 ?_
      obtain ⟨c5, h⟩ := ev_ckE h
      refine ew_iald dX10_givesBlock_81 (shp_a g0 1 rfl) c5 ?_
      refine ev_icmp_eq (tgt := 88) dX10_givesBlock_82 (by decide) (fun c6 => ?_) (fun c6 => ?_)
      · have h := ev_ifT h c6
        refine ev_aload_n dX10_givesBlock_88 rfl (fun _ e => by cases e) ?_
        refine ev_iconst (v := (1 : Int32)) dX10_givesBlock_89 (by decide) ?_
        refine ev_aload_n dX10_givesBlock_90 rfl (fun _ e => by cases e) ?_
        refine ew_getr0 dX10_givesBlock_91 fX10_7 g0 rfl rfl rfl rfl ?_
        refine ev_sipush (v := (416 : Int32)) dX10_givesBlock_94 (by decide) ?_
        refine ev_iload_n dX10_givesBlock_97 rfl ?_
        refine ev_iadd dX10_givesBlock_98 ?_
        obtain ⟨c7, h⟩ := ev_ckE h
        refine ew_iald dX10_givesBlock_99 (shp_a g0 1 rfl) c7 ?_
        refine ev_iconst (v := (1 : Int32)) dX10_givesBlock_100 (by decide) ?_
        refine ev_isub dX10_givesBlock_101 ?_
        refine ev_iload_n dX10_givesBlock_102 rfl ?_
        refine ev_iload dX10_givesBlock_103 rfl ?_
        refine ev_iload_n dX10_givesBlock_105 rfl ?_
        obtain ⟨z8, hz8, h⟩ := ev_bnE h
        refine ec_Vv (Y := mX10_accuses) (ci := 9) (As := [.int (1 : Int32), .int ((I (q0 + 1) ((416 : Int32) + y2).toNatClampNeg) - (1 : Int32)), .int y1, .int y7, .int y2]) (rest := []) dX10_givesBlock_106 kX10_110 oX10_accuses ⟨Nat.le_of_ble_eq_true rfl, Nat.le_of_ble_eq_true rfl⟩ (by decide) rfl (shp_n g0 0 rfl) (shp_t g0 0 rfl) rfl (Nat.le_of_ble_eq_true rfl) (tX10_accuses n q0 g0 (1 : Int32) ((I (q0 + 1) ((416 : Int32) + y2).toNatClampNeg) - (1 : Int32)) y1 y7 y2 I z8 hz8) rfl ?_
        refine ev_iconst (v := (1 : Int32)) dX10_givesBlock_109 (by decide) ?_
        refine ew_ist (L' := [some (.ref q0), some (.int y1), some (.int y2), some (.int y3), some (.int y4), some (.int (1 : Int32)), some (.int y6), some (.int y7)]) dX10_givesBlock_110 (Nat.le_of_ble_eq_true rfl) rfl ?_
        exact ev_weak (sb_s (sb_s (sb_s (sb_s (sb_s (sb_s (sb_s (sb_n sb_0)))))))) (tX10_givesBlock_112 q0 g0 K15 k15 n y1 y2 y3 y4 (1 : Int32) y6 z8 _ h)
      · have h := ev_ifF h c6
        refine ev_goto (tgt := 112) dX10_givesBlock_85 (by decide) ?_
        exact ev_weak (sb_s (sb_s (sb_s (sb_s (sb_s (sb_s (sb_s (sb_n sb_0)))))))) (tX10_givesBlock_112 q0 g0 K15 k15 n y1 y2 y3 y4 y5 y6 I _ h)
set_option maxRecDepth 100000 in
set_option maxHeartbeats 4000000 in
theorem tX10_givesBlock_15 {E : ev_N} {σ : ev_H} (q0 : Nat) (g0 : shp tb9 σ q0) (K15 : Int32 → Int32 → Int32 → Int32 → Int32 → Int32 → ev_I → Option (ev_I)) (k15 : ∀ (y1 : Int32) (y2 : Int32) (y3 : Int32) (y4 : Int32) (y5 : Int32) (y6 : Int32) (I : ev_I) (o : ev_I), K15 y1 y2 y3 y4 y5 y6 I = some o → EV E mX10_givesBlock 15 [some (.ref q0), some (.int y1), some (.int y2), some (.int y3), some (.int y4), some (.int y5), some (.int y6), none] [] (h_w σ I) (Option.none, h_w σ o)) (n : Nat) (y1 : Int32) (y2 : Int32) (y3 : Int32) (y4 : Int32) (y5 : Int32) (y6 : Int32) (I : ev_I) (o : ev_I) : cX10_givesBlock_15 q0 K15 n y1 y2 y3 y4 y5 y6 I = some o → EV E mX10_givesBlock 15 [some (.ref q0), some (.int y1), some (.int y2), some (.int y3), some (.int y4), some (.int y5), some (.int y6), none] [] (h_w σ I) (Option.none, h_w σ o) := by
  intro h
  unfold cX10_givesBlock_15 at h
  refine ev_iload dX10_givesBlock_15 rfl ?_
  refine ev_aload_n dX10_givesBlock_17 rfl (fun _ e => by cases e) ?_
  refine ew_getr0 dX10_givesBlock_18 fX10_7 g0 rfl rfl rfl rfl ?_
  refine ev_iload_n dX10_givesBlock_21 rfl ?_
  refine ev_bipush (v := (10 : Int32)) dX10_givesBlock_22 (by decide) ?_
  refine ev_iadd dX10_givesBlock_24 ?_
  obtain ⟨c9, h⟩ := ev_ckE h
  refine ew_iald dX10_givesBlock_25 (shp_a g0 1 rfl) c9 ?_
  refine ev_icmp_ge (tgt := 118) dX10_givesBlock_26 (by decide) (fun c10 => ?_) (fun c10 => ?_)
  · have h := ev_ifT h c10
    refine ev_iload dX10_givesBlock_118 rfl ?_
    refine ev_if_eq (tgt := 124) dX10_givesBlock_120 (by decide) (fun c11 => ?_) (fun c11 => ?_)
    · have h := ev_ifT h c11
      refine ev_aload_n dX10_givesBlock_124 rfl (fun _ e => by cases e) ?_
      refine ew_getr0 dX10_givesBlock_125 fX10_7 g0 rfl rfl rfl rfl ?_
      refine ev_iload_n dX10_givesBlock_128 rfl ?_
      refine ev_bipush (v := (112 : Int32)) dX10_givesBlock_129 (by decide) ?_
      refine ev_iadd dX10_givesBlock_131 ?_
      refine ev_aload_n dX10_givesBlock_132 rfl (fun _ e => by cases e) ?_
      refine ew_getr0 dX10_givesBlock_133 fX10_7 g0 rfl rfl rfl rfl ?_
      refine ev_iload_n dX10_givesBlock_136 rfl ?_
      refine ev_bipush (v := (10 : Int32)) dX10_givesBlock_137 (by decide) ?_
      refine ev_iadd dX10_givesBlock_139 ?_
      obtain ⟨c12, h⟩ := ev_ckE h
      refine ew_iald dX10_givesBlock_140 (shp_a g0 1 rfl) c12 ?_
      refine ev_iadd dX10_givesBlock_141 ?_
      refine ev_iload_n dX10_givesBlock_142 rfl ?_
      obtain ⟨c13, h⟩ := ev_ckE h
      obtain ⟨I14, eI14, h⟩ := ev_ltE h
      refine ew_iast dX10_givesBlock_143 (shp_a g0 1 rfl) c13 (ew_nh eI14 ?_)
      refine ev_aload_n dX10_givesBlock_144 rfl (fun _ e => by cases e) ?_
      refine ew_getr0 dX10_givesBlock_145 fX10_7 g0 rfl rfl rfl rfl ?_
      refine ev_iload_n dX10_givesBlock_148 rfl ?_
      refine ev_bipush (v := (10 : Int32)) dX10_givesBlock_149 (by decide) ?_
      refine ev_iadd dX10_givesBlock_151 ?_
      refine ev_aload_n dX10_givesBlock_152 rfl (fun _ e => by cases e) ?_
      refine ew_getr0 dX10_givesBlock_153 fX10_7 g0 rfl rfl rfl rfl ?_
      refine ev_iload_n dX10_givesBlock_156 rfl ?_
      refine ev_bipush (v := (10 : Int32)) dX10_givesBlock_157 (by decide) ?_
      refine ev_iadd dX10_givesBlock_159 ?_
      obtain ⟨c15, h⟩ := ev_ckE h
      refine ew_iald dX10_givesBlock_160 (shp_a g0 1 rfl) c15 ?_
      refine ev_iconst (v := (1 : Int32)) dX10_givesBlock_161 (by decide) ?_
      refine ev_iadd dX10_givesBlock_162 ?_
      obtain ⟨c16, h⟩ := ev_ckE h
      obtain ⟨I17, eI17, h⟩ := ev_ltE h
      refine ew_iast dX10_givesBlock_163 (shp_a g0 1 rfl) c16 (ew_nh eI17 ?_)
      cases h
      exact er_v dX10_givesBlock_164 rfl
    · have h := ev_ifF h c11
      cases h
      exact er_v dX10_givesBlock_123 rfl
  · have h := ev_ifF h c10
    refine ev_aload_n dX10_givesBlock_29 rfl (fun _ e => by cases e) ?_
    refine ew_getr0 dX10_givesBlock_30 fX10_7 g0 rfl rfl rfl rfl ?_
    refine ev_iload_n dX10_givesBlock_33 rfl ?_
    refine ev_bipush (v := (112 : Int32)) dX10_givesBlock_34 (by decide) ?_
    refine ev_iadd dX10_givesBlock_36 ?_
    refine ev_iload dX10_givesBlock_37 rfl ?_
    refine ev_iadd dX10_givesBlock_39 ?_
    obtain ⟨c18, h⟩ := ev_ckE h
    refine ew_iald dX10_givesBlock_40 (shp_a g0 1 rfl) c18 ?_
    obtain ⟨v19, ev19, h⟩ := ev_ltE h
    refine ew_nm ev19 ?_
    refine ew_ist (L' := [some (.ref q0), some (.int y1), some (.int y2), some (.int y3), some (.int y4), some (.int y5), some (.int y6), some (.int v19)]) dX10_givesBlock_41 (Nat.le_of_ble_eq_true rfl) rfl ?_
    refine ev_iload dX10_givesBlock_43 rfl ?_
    refine ev_iload_n dX10_givesBlock_45 rfl ?_
    refine ev_icmp_ne (tgt := 52) dX10_givesBlock_46 (by decide) (fun c20 => ?_) (fun c20 => ?_)
    · have h := ev_ifF h c20
      exact ev_weak (sb_s (sb_s (sb_s (sb_s (sb_s (sb_s (sb_s (sb_s sb_0)))))))) (tX10_givesBlock_52 q0 g0 K15 k15 n y1 y2 y3 y4 y5 y6 v19 I _ h)
    · have h := ev_ifT h c20
      refine ev_iconst (v := (1 : Int32)) dX10_givesBlock_49 (by decide) ?_
      refine ew_ist (L' := [some (.ref q0), some (.int y1), some (.int y2), some (.int y3), some (.int (1 : Int32)), some (.int y5), some (.int y6), some (.int v19)]) dX10_givesBlock_50 (Nat.le_of_ble_eq_true rfl) rfl ?_
      exact ev_weak (sb_s (sb_s (sb_s (sb_s (sb_s (sb_s (sb_s (sb_s sb_0)))))))) (tX10_givesBlock_52 q0 g0 K15 k15 n y1 y2 y3 (1 : Int32) y5 y6 v19 I _ h)
theorem tlX10_givesBlock_15 {E : ev_N} {σ : ev_H} (q0 : Nat) (g0 : shp tb9 σ q0) : ∀ (n : Nat) (y1 : Int32) (y2 : Int32) (y3 : Int32) (y4 : Int32) (y5 : Int32) (y6 : Int32) (I : ev_I) (o : ev_I), lX10_givesBlock_15 q0 n y1 y2 y3 y4 y5 y6 I = some o → EV E mX10_givesBlock 15 [some (.ref q0), some (.int y1), some (.int y2), some (.int y3), some (.int y4), some (.int y5), some (.int y6), none] [] (h_w σ I) (Option.none, h_w σ o)
  | 0, _, _, _, _, _, _, _, _, h => by cases h
  | n + 1, y1, y2, y3, y4, y5, y6, I, o, h => tX10_givesBlock_15 q0 g0 (lX10_givesBlock_15 q0 n) (tlX10_givesBlock_15 q0 g0 n) n y1 y2 y3 y4 y5 y6 I o h
set_option maxRecDepth 100000 in
set_option maxHeartbeats 4000000 in
theorem tX10_givesBlock {E : ev_N} {σ : ev_H} (n : Nat) (q0 : Nat) (g0 : shp tb9 σ q0) (x1 : Int32) (x2 : Int32) (I : ev_I) (o : ev_I) (h : pX10_givesBlock n q0 x1 x2 I = some o) : ev_T E mX10_givesBlock [.ref q0, .int x1, .int x2] (h_w σ I) (Option.none, h_w σ o) := by
  unfold pX10_givesBlock at h
  refine ev_met rfl rfl (Nat.le_of_ble_eq_true rfl) (ev_L0 (L' := [some (.ref q0), some (.int x1), some (.int x2), none, none, none, none, none]) rfl ?_)
  refine ev_aload_n dX10_givesBlock_0 rfl (fun _ e => by cases e) ?_
  refine ev_iload_n dX10_givesBlock_1 rfl ?_
  obtain ⟨z21, hz21, h⟩ := ev_bnE h
  refine ec_Vi (Y := mX10_nodeAt) (ci := 9) (As := [.int x1]) (rest := []) dX10_givesBlock_2 kX10_54 oX10_nodeAt ⟨Nat.le_of_ble_eq_true rfl, Nat.le_of_ble_eq_true rfl⟩ (by decide) rfl (shp_n g0 0 rfl) (shp_t g0 0 rfl) rfl (Nat.le_of_ble_eq_true rfl) (tX10_nodeAt n q0 g0 x1 I z21 hz21) rfl ?_
  refine ew_istn (L' := [some (.ref q0), some (.int x1), some (.int x2), some (.int z21), none, none, none, none]) dX10_givesBlock_5 (Nat.le_of_ble_eq_true rfl) rfl ?_
  refine ev_iconst (v := (0 : Int32)) dX10_givesBlock_6 (by decide) ?_
  refine ew_ist (L' := [some (.ref q0), some (.int x1), some (.int x2), some (.int z21), some (.int (0 : Int32)), none, none, none]) dX10_givesBlock_7 (Nat.le_of_ble_eq_true rfl) rfl ?_
  refine ev_iconst (v := (0 : Int32)) dX10_givesBlock_9 (by decide) ?_
  refine ew_ist (L' := [some (.ref q0), some (.int x1), some (.int x2), some (.int z21), some (.int (0 : Int32)), some (.int (0 : Int32)), none, none]) dX10_givesBlock_10 (Nat.le_of_ble_eq_true rfl) rfl ?_
  refine ev_iconst (v := (0 : Int32)) dX10_givesBlock_12 (by decide) ?_
  refine ew_ist (L' := [some (.ref q0), some (.int x1), some (.int x2), some (.int z21), some (.int (0 : Int32)), some (.int (0 : Int32)), some (.int (0 : Int32)), none]) dX10_givesBlock_13 (Nat.le_of_ble_eq_true rfl) rfl ?_
  exact ev_weak (sb_s (sb_s (sb_s (sb_s (sb_s (sb_s (sb_s (sb_n sb_0)))))))) (tlX10_givesBlock_15 q0 g0 n x1 x2 z21 (0 : Int32) (0 : Int32) (0 : Int32) I _ h)
-- ChainVotesModel comesToView(II)V
def cX10_comesToView_83 (q0 : Nat) (n : Nat) (y1 : Int32) (y2 : Int32) (I : ev_I) : Option (ev_I) :=
  ev_ck (ev_in ((16 : Int32) + y2) 6010) <|
  (pX10_goesTo n q0 y1 (I (q0 + 1) ((16 : Int32) + y2).toNatClampNeg) I).bind fun z2 =>
  some z2
def pX10_comesToView (n : Nat) (q0 : Nat) (x1 : Int32) (x2 : Int32) (I : ev_I) : Option (ev_I) :=
  ev_ck (ev_in ((16 : Int32) + x2) 6010) <|
  ev_lt ((I (q0 + 1) ((16 : Int32) + x2).toNatClampNeg) - (1 : Int32)) fun v4 =>
  ev_ck (ev_in ((16 : Int32) + x2) 6010) <|
  (pX10_viewOf n q0 x1 I).bind fun z6 =>
  if z6 < (I (q0 + 1) ((16 : Int32) + x2).toNatClampNeg) then
    ev_ck (ev_in ((216 : Int32) + x2) 6010) <|
    ev_ck (ev_in ((16 : Int32) + (I (q0 + 1) ((216 : Int32) + x2).toNatClampNeg)) 6010) <|
    if (I (q0 + 1) ((16 : Int32) + (I (q0 + 1) ((216 : Int32) + x2).toNatClampNeg)).toNatClampNeg) = v4 then
      cX10_comesToView_83 q0 n x1 x2 I
    else
      ev_ck (ev_in ((616 : Int32) + x2) 6010) <|
      if (I (q0 + 1) ((616 : Int32) + x2).toNatClampNeg) = (1 : Int32) then
        cX10_comesToView_83 q0 n x1 x2 I
      else
        (pX10_nodeAt n q0 x1 I).bind fun z13 =>
        ev_ck (ev_in (z13 + (7 : Int32)) 6010) <|
        if (I (q0 + 1) (z13 + (7 : Int32)).toNatClampNeg) < v4 then
          some I
        else
          cX10_comesToView_83 q0 n x1 x2 I
  else
    some I
set_option maxRecDepth 100000 in
set_option maxHeartbeats 4000000 in
theorem tX10_comesToView_83 {E : ev_N} {σ : ev_H} (q0 : Nat) (g0 : shp tb9 σ q0) (n : Nat) (y1 : Int32) (y2 : Int32) (I : ev_I) (o : ev_I) : cX10_comesToView_83 q0 n y1 y2 I = some o → EV E mX10_comesToView 83 [some (.ref q0), some (.int y1), some (.int y2), none] [] (h_w σ I) (Option.none, h_w σ o) := by
  intro h
  unfold cX10_comesToView_83 at h
  refine ev_aload_n dX10_comesToView_83 rfl (fun _ e => by cases e) ?_
  refine ev_iload_n dX10_comesToView_84 rfl ?_
  refine ev_aload_n dX10_comesToView_85 rfl (fun _ e => by cases e) ?_
  refine ew_getr0 dX10_comesToView_86 fX10_7 g0 rfl rfl rfl rfl ?_
  refine ev_bipush (v := (16 : Int32)) dX10_comesToView_89 (by decide) ?_
  refine ev_iload_n dX10_comesToView_91 rfl ?_
  refine ev_iadd dX10_comesToView_92 ?_
  obtain ⟨c1, h⟩ := ev_ckE h
  refine ew_iald dX10_comesToView_93 (shp_a g0 1 rfl) c1 ?_
  obtain ⟨z2, hz2, h⟩ := ev_bnE h
  refine ec_Vv (Y := mX10_goesTo) (ci := 9) (As := [.int y1, .int (I (q0 + 1) ((16 : Int32) + y2).toNatClampNeg)]) (rest := []) dX10_comesToView_94 kX10_107 oX10_goesTo ⟨Nat.le_of_ble_eq_true rfl, Nat.le_of_ble_eq_true rfl⟩ (by decide) rfl (shp_n g0 0 rfl) (shp_t g0 0 rfl) rfl (Nat.le_of_ble_eq_true rfl) (tX10_goesTo n q0 g0 y1 (I (q0 + 1) ((16 : Int32) + y2).toNatClampNeg) I z2 hz2) rfl ?_
  cases h
  exact er_v dX10_comesToView_97 rfl
set_option maxRecDepth 100000 in
set_option maxHeartbeats 4000000 in
theorem tX10_comesToView {E : ev_N} {σ : ev_H} (n : Nat) (q0 : Nat) (g0 : shp tb9 σ q0) (x1 : Int32) (x2 : Int32) (I : ev_I) (o : ev_I) (h : pX10_comesToView n q0 x1 x2 I = some o) : ev_T E mX10_comesToView [.ref q0, .int x1, .int x2] (h_w σ I) (Option.none, h_w σ o) := by
  unfold pX10_comesToView at h
  refine ev_met rfl rfl (Nat.le_of_ble_eq_true rfl) (ev_L0 (L' := [some (.ref q0), some (.int x1), some (.int x2), none]) rfl ?_)
  refine ev_aload_n dX10_comesToView_0 rfl (fun _ e => by cases e) ?_
  refine ew_getr0 dX10_comesToView_1 fX10_7 g0 rfl rfl rfl rfl ?_
  refine ev_bipush (v := (16 : Int32)) dX10_comesToView_4 (by decide) ?_
  refine ev_iload_n dX10_comesToView_6 rfl ?_
  refine ev_iadd dX10_comesToView_7 ?_
  obtain ⟨c3, h⟩ := ev_ckE h
  refine ew_iald dX10_comesToView_8 (shp_a g0 1 rfl) c3 ?_
  refine ev_iconst (v := (1 : Int32)) dX10_comesToView_9 (by decide) ?_
  refine ev_isub dX10_comesToView_10 ?_
  obtain ⟨v4, ev4, h⟩ := ev_ltE h
  refine ew_nm ev4 ?_
  refine ew_istn (L' := [some (.ref q0), some (.int x1), some (.int x2), some (.int v4)]) dX10_comesToView_11 (Nat.le_of_ble_eq_true rfl) rfl ?_
  refine ev_aload_n dX10_comesToView_12 rfl (fun _ e => by cases e) ?_
  refine ew_getr0 dX10_comesToView_13 fX10_7 g0 rfl rfl rfl rfl ?_
  refine ev_bipush (v := (16 : Int32)) dX10_comesToView_16 (by decide) ?_
  refine ev_iload_n dX10_comesToView_18 rfl ?_
  refine ev_iadd dX10_comesToView_19 ?_
  obtain ⟨c5, h⟩ := ev_ckE h
  refine ew_iald dX10_comesToView_20 (shp_a g0 1 rfl) c5 ?_
  refine ev_aload_n dX10_comesToView_21 rfl (fun _ e => by cases e) ?_
  refine ev_iload_n dX10_comesToView_22 rfl ?_
  obtain ⟨z6, hz6, h⟩ := ev_bnE h
  refine ec_Vi (Y := mX10_viewOf) (ci := 9) (As := [.int x1]) (rest := [(.int (I (q0 + 1) ((16 : Int32) + x2).toNatClampNeg))]) dX10_comesToView_23 kX10_104 oX10_viewOf ⟨Nat.le_of_ble_eq_true rfl, Nat.le_of_ble_eq_true rfl⟩ (by decide) rfl (shp_n g0 0 rfl) (shp_t g0 0 rfl) rfl (Nat.le_of_ble_eq_true rfl) (tX10_viewOf n q0 g0 x1 I z6 hz6) rfl ?_
  refine ev_icmp_gt (tgt := 30) dX10_comesToView_26 (by decide) (fun c7 => ?_) (fun c7 => ?_)
  · have h := ev_ifT h c7
    refine ev_aload_n dX10_comesToView_30 rfl (fun _ e => by cases e) ?_
    refine ew_getr0 dX10_comesToView_31 fX10_7 g0 rfl rfl rfl rfl ?_
    refine ev_bipush (v := (16 : Int32)) dX10_comesToView_34 (by decide) ?_
    refine ev_aload_n dX10_comesToView_36 rfl (fun _ e => by cases e) ?_
    refine ew_getr0 dX10_comesToView_37 fX10_7 g0 rfl rfl rfl rfl ?_
    refine ev_sipush (v := (216 : Int32)) dX10_comesToView_40 (by decide) ?_
    refine ev_iload_n dX10_comesToView_43 rfl ?_
    refine ev_iadd dX10_comesToView_44 ?_
    obtain ⟨c8, h⟩ := ev_ckE h
    refine ew_iald dX10_comesToView_45 (shp_a g0 1 rfl) c8 ?_
    refine ev_iadd dX10_comesToView_46 ?_
    obtain ⟨c9, h⟩ := ev_ckE h
    refine ew_iald dX10_comesToView_47 (shp_a g0 1 rfl) c9 ?_
    refine ev_iload_n dX10_comesToView_48 rfl ?_
    refine ev_icmp_eq (tgt := 83) dX10_comesToView_49 (by decide) (fun c10 => ?_) (fun c10 => ?_)
    · have h := ev_ifT h c10
      exact ev_weak (sb_s (sb_s (sb_s (sb_n sb_0)))) (tX10_comesToView_83 q0 g0 n x1 x2 I _ h)
    · have h := ev_ifF h c10
      refine ev_aload_n dX10_comesToView_52 rfl (fun _ e => by cases e) ?_
      refine ew_getr0 dX10_comesToView_53 fX10_7 g0 rfl rfl rfl rfl ?_
      refine ev_sipush (v := (616 : Int32)) dX10_comesToView_56 (by decide) ?_
      refine ev_iload_n dX10_comesToView_59 rfl ?_
      refine ev_iadd dX10_comesToView_60 ?_
      obtain ⟨c11, h⟩ := ev_ckE h
      refine ew_iald dX10_comesToView_61 (shp_a g0 1 rfl) c11 ?_
      refine ev_iconst (v := (1 : Int32)) dX10_comesToView_62 (by decide) ?_
      refine ev_icmp_eq (tgt := 83) dX10_comesToView_63 (by decide) (fun c12 => ?_) (fun c12 => ?_)
      · have h := ev_ifT h c12
        exact ev_weak (sb_s (sb_s (sb_s (sb_n sb_0)))) (tX10_comesToView_83 q0 g0 n x1 x2 I _ h)
      · have h := ev_ifF h c12
        refine ev_aload_n dX10_comesToView_66 rfl (fun _ e => by cases e) ?_
        refine ew_getr0 dX10_comesToView_67 fX10_7 g0 rfl rfl rfl rfl ?_
        refine ev_aload_n dX10_comesToView_70 rfl (fun _ e => by cases e) ?_
        refine ev_iload_n dX10_comesToView_71 rfl ?_
        obtain ⟨z13, hz13, h⟩ := ev_bnE h
        refine ec_Vi (Y := mX10_nodeAt) (ci := 9) (As := [.int x1]) (rest := [(.ref (q0 + 1))]) dX10_comesToView_72 kX10_54 oX10_nodeAt ⟨Nat.le_of_ble_eq_true rfl, Nat.le_of_ble_eq_true rfl⟩ (by decide) rfl (shp_n g0 0 rfl) (shp_t g0 0 rfl) rfl (Nat.le_of_ble_eq_true rfl) (tX10_nodeAt n q0 g0 x1 I z13 hz13) rfl ?_
        refine ev_bipush (v := (7 : Int32)) dX10_comesToView_75 (by decide) ?_
        refine ev_iadd dX10_comesToView_77 ?_
        obtain ⟨c14, h⟩ := ev_ckE h
        refine ew_iald dX10_comesToView_78 (shp_a g0 1 rfl) c14 ?_
        refine ev_iload_n dX10_comesToView_79 rfl ?_
        refine ev_icmp_lt (tgt := 97) dX10_comesToView_80 (by decide) (fun c15 => ?_) (fun c15 => ?_)
        · have h := ev_ifT h c15
          cases h
          exact er_v dX10_comesToView_97 rfl
        · have h := ev_ifF h c15
          exact ev_weak (sb_s (sb_s (sb_s (sb_n sb_0)))) (tX10_comesToView_83 q0 g0 n x1 x2 I _ h)
  · have h := ev_ifF h c7
    cases h
    exact er_v dX10_comesToView_29 rfl
-- ChainVotesModel hearsBlock(II)V
def pX10_hearsBlock (n : Nat) (q0 : Nat) (x1 : Int32) (x2 : Int32) (I : ev_I) : Option (ev_I) :=
  (pX10_givesBlock n q0 x1 x2 I).bind fun z1 =>
  ev_ck (ev_in ((216 : Int32) + x2) 6010) <|
  (pX10_learns n q0 x1 (z1 (q0 + 1) ((216 : Int32) + x2).toNatClampNeg) z1).bind fun z3 =>
  (pX10_comesToView n q0 x1 x2 z3).bind fun z4 =>
  (pX10_couldVote n q0 x1 x2 z4).bind fun z5 =>
  if z5 = 0 then
    some z4
  else
    (pX10_isSafe n q0 x1 x2 z4).bind fun z7 =>
    if z7 = 0 then
      (pX10_tells n q0 (1 : Int32) x1 x2 z4).bind fun z17 =>
      some z17
    else
      (pX10_nodeAt n q0 x1 z4).bind fun z9 =>
      ev_ck (ev_in ((16 : Int32) + x2) 6010) <|
      ev_ck (ev_in (z9 + (2 : Int32)) 6010) <|
      ev_lt (ev_u2 z4 (q0 + 1) (z9 + (2 : Int32)).toNatClampNeg (z4 (q0 + 1) ((16 : Int32) + x2).toNatClampNeg)) fun I12 =>
      (pX10_tells n q0 (0 : Int32) x1 x2 I12).bind fun z13 =>
      ev_ck (ev_in ((16 : Int32) + x2) 6010) <|
      (pX10_leaderOf n q0 ((z13 (q0 + 1) ((16 : Int32) + x2).toNatClampNeg) + (1 : Int32)) z13).bind fun z15 =>
      (pX10_sends n q0 x1 z15 (2 : Int32) x2 (-1 : Int32) z13).bind fun z16 =>
      some z16
set_option maxRecDepth 100000 in
set_option maxHeartbeats 4000000 in
theorem tX10_hearsBlock {E : ev_N} {σ : ev_H} (n : Nat) (q0 : Nat) (g0 : shp tb9 σ q0) (x1 : Int32) (x2 : Int32) (I : ev_I) (o : ev_I) (h : pX10_hearsBlock n q0 x1 x2 I = some o) : ev_T E mX10_hearsBlock [.ref q0, .int x1, .int x2] (h_w σ I) (Option.none, h_w σ o) := by
  unfold pX10_hearsBlock at h
  refine ev_met rfl rfl (Nat.le_of_ble_eq_true rfl) (ev_L0 (L' := [some (.ref q0), some (.int x1), some (.int x2)]) rfl ?_)
  refine ev_aload_n dX10_hearsBlock_0 rfl (fun _ e => by cases e) ?_
  refine ev_iload_n dX10_hearsBlock_1 rfl ?_
  refine ev_iload_n dX10_hearsBlock_2 rfl ?_
  obtain ⟨z1, hz1, h⟩ := ev_bnE h
  refine ec_Vv (Y := mX10_givesBlock) (ci := 9) (As := [.int x1, .int x2]) (rest := []) dX10_hearsBlock_3 kX10_113 oX10_givesBlock ⟨Nat.le_of_ble_eq_true rfl, Nat.le_of_ble_eq_true rfl⟩ (by decide) rfl (shp_n g0 0 rfl) (shp_t g0 0 rfl) rfl (Nat.le_of_ble_eq_true rfl) (tX10_givesBlock n q0 g0 x1 x2 I z1 hz1) rfl ?_
  refine ev_aload_n dX10_hearsBlock_6 rfl (fun _ e => by cases e) ?_
  refine ev_iload_n dX10_hearsBlock_7 rfl ?_
  refine ev_aload_n dX10_hearsBlock_8 rfl (fun _ e => by cases e) ?_
  refine ew_getr0 dX10_hearsBlock_9 fX10_7 g0 rfl rfl rfl rfl ?_
  refine ev_sipush (v := (216 : Int32)) dX10_hearsBlock_12 (by decide) ?_
  refine ev_iload_n dX10_hearsBlock_15 rfl ?_
  refine ev_iadd dX10_hearsBlock_16 ?_
  obtain ⟨c2, h⟩ := ev_ckE h
  refine ew_iald dX10_hearsBlock_17 (shp_a g0 1 rfl) c2 ?_
  obtain ⟨z3, hz3, h⟩ := ev_bnE h
  refine ec_Vv (Y := mX10_learns) (ci := 9) (As := [.int x1, .int (z1 (q0 + 1) ((216 : Int32) + x2).toNatClampNeg)]) (rest := []) dX10_hearsBlock_18 kX10_116 oX10_learns ⟨Nat.le_of_ble_eq_true rfl, Nat.le_of_ble_eq_true rfl⟩ (by decide) rfl (shp_n g0 0 rfl) (shp_t g0 0 rfl) rfl (Nat.le_of_ble_eq_true rfl) (tX10_learns n q0 g0 x1 (z1 (q0 + 1) ((216 : Int32) + x2).toNatClampNeg) z1 z3 hz3) rfl ?_
  refine ev_aload_n dX10_hearsBlock_21 rfl (fun _ e => by cases e) ?_
  refine ev_iload_n dX10_hearsBlock_22 rfl ?_
  refine ev_iload_n dX10_hearsBlock_23 rfl ?_
  obtain ⟨z4, hz4, h⟩ := ev_bnE h
  refine ec_Vv (Y := mX10_comesToView) (ci := 9) (As := [.int x1, .int x2]) (rest := []) dX10_hearsBlock_24 kX10_119 oX10_comesToView ⟨Nat.le_of_ble_eq_true rfl, Nat.le_of_ble_eq_true rfl⟩ (by decide) rfl (shp_n g0 0 rfl) (shp_t g0 0 rfl) rfl (Nat.le_of_ble_eq_true rfl) (tX10_comesToView n q0 g0 x1 x2 z3 z4 hz4) rfl ?_
  refine ev_aload_n dX10_hearsBlock_27 rfl (fun _ e => by cases e) ?_
  refine ev_iload_n dX10_hearsBlock_28 rfl ?_
  refine ev_iload_n dX10_hearsBlock_29 rfl ?_
  obtain ⟨z5, hz5, h⟩ := ev_bnE h
  refine ec_Vi (Y := mX10_couldVote) (ci := 9) (As := [.int x1, .int x2]) (rest := []) dX10_hearsBlock_30 kX10_122 oX10_couldVote ⟨Nat.le_of_ble_eq_true rfl, Nat.le_of_ble_eq_true rfl⟩ (by decide) rfl (shp_n g0 0 rfl) (shp_t g0 0 rfl) rfl (Nat.le_of_ble_eq_true rfl) (tX10_couldVote n q0 g0 x1 x2 z4 z5 hz5) rfl ?_
  refine ev_if_ne (tgt := 37) dX10_hearsBlock_33 (by decide) (fun c6 => ?_) (fun c6 => ?_)
  · have h := ev_ifF h c6
    refine ev_aload_n dX10_hearsBlock_37 rfl (fun _ e => by cases e) ?_
    refine ev_iload_n dX10_hearsBlock_38 rfl ?_
    refine ev_iload_n dX10_hearsBlock_39 rfl ?_
    obtain ⟨z7, hz7, h⟩ := ev_bnE h
    refine ec_Vi (Y := mX10_isSafe) (ci := 9) (As := [.int x1, .int x2]) (rest := []) dX10_hearsBlock_40 kX10_125 oX10_isSafe ⟨Nat.le_of_ble_eq_true rfl, Nat.le_of_ble_eq_true rfl⟩ (by decide) rfl (shp_n g0 0 rfl) (shp_t g0 0 rfl) rfl (Nat.le_of_ble_eq_true rfl) (tX10_isSafe n q0 g0 x1 x2 z4 z7 hz7) rfl ?_
    refine ev_if_ne (tgt := 54) dX10_hearsBlock_43 (by decide) (fun c8 => ?_) (fun c8 => ?_)
    · have h := ev_ifF h c8
      refine ev_aload_n dX10_hearsBlock_54 rfl (fun _ e => by cases e) ?_
      refine ew_getr0 dX10_hearsBlock_55 fX10_7 g0 rfl rfl rfl rfl ?_
      refine ev_aload_n dX10_hearsBlock_58 rfl (fun _ e => by cases e) ?_
      refine ev_iload_n dX10_hearsBlock_59 rfl ?_
      obtain ⟨z9, hz9, h⟩ := ev_bnE h
      refine ec_Vi (Y := mX10_nodeAt) (ci := 9) (As := [.int x1]) (rest := [(.ref (q0 + 1))]) dX10_hearsBlock_60 kX10_54 oX10_nodeAt ⟨Nat.le_of_ble_eq_true rfl, Nat.le_of_ble_eq_true rfl⟩ (by decide) rfl (shp_n g0 0 rfl) (shp_t g0 0 rfl) rfl (Nat.le_of_ble_eq_true rfl) (tX10_nodeAt n q0 g0 x1 z4 z9 hz9) rfl ?_
      refine ev_iconst (v := (2 : Int32)) dX10_hearsBlock_63 (by decide) ?_
      refine ev_iadd dX10_hearsBlock_64 ?_
      refine ev_aload_n dX10_hearsBlock_65 rfl (fun _ e => by cases e) ?_
      refine ew_getr0 dX10_hearsBlock_66 fX10_7 g0 rfl rfl rfl rfl ?_
      refine ev_bipush (v := (16 : Int32)) dX10_hearsBlock_69 (by decide) ?_
      refine ev_iload_n dX10_hearsBlock_71 rfl ?_
      refine ev_iadd dX10_hearsBlock_72 ?_
      obtain ⟨c10, h⟩ := ev_ckE h
      refine ew_iald dX10_hearsBlock_73 (shp_a g0 1 rfl) c10 ?_
      obtain ⟨c11, h⟩ := ev_ckE h
      obtain ⟨I12, eI12, h⟩ := ev_ltE h
      refine ew_iast dX10_hearsBlock_74 (shp_a g0 1 rfl) c11 (ew_nh eI12 ?_)
      refine ev_aload_n dX10_hearsBlock_75 rfl (fun _ e => by cases e) ?_
      refine ev_iconst (v := (0 : Int32)) dX10_hearsBlock_76 (by decide) ?_
      refine ev_iload_n dX10_hearsBlock_77 rfl ?_
      refine ev_iload_n dX10_hearsBlock_78 rfl ?_
      obtain ⟨z13, hz13, h⟩ := ev_bnE h
      refine ec_Vv (Y := mX10_tells) (ci := 9) (As := [.int (0 : Int32), .int x1, .int x2]) (rest := []) dX10_hearsBlock_79 kX10_96 oX10_tells ⟨Nat.le_of_ble_eq_true rfl, Nat.le_of_ble_eq_true rfl⟩ (by decide) rfl (shp_n g0 0 rfl) (shp_t g0 0 rfl) rfl (Nat.le_of_ble_eq_true rfl) (tX10_tells n q0 g0 (0 : Int32) x1 x2 I12 z13 hz13) rfl ?_
      refine ev_aload_n dX10_hearsBlock_82 rfl (fun _ e => by cases e) ?_
      refine ev_iload_n dX10_hearsBlock_83 rfl ?_
      refine ev_aload_n dX10_hearsBlock_84 rfl (fun _ e => by cases e) ?_
      refine ev_aload_n dX10_hearsBlock_85 rfl (fun _ e => by cases e) ?_
      refine ew_getr0 dX10_hearsBlock_86 fX10_7 g0 rfl rfl rfl rfl ?_
      refine ev_bipush (v := (16 : Int32)) dX10_hearsBlock_89 (by decide) ?_
      refine ev_iload_n dX10_hearsBlock_91 rfl ?_
      refine ev_iadd dX10_hearsBlock_92 ?_
      obtain ⟨c14, h⟩ := ev_ckE h
      refine ew_iald dX10_hearsBlock_93 (shp_a g0 1 rfl) c14 ?_
      refine ev_iconst (v := (1 : Int32)) dX10_hearsBlock_94 (by decide) ?_
      refine ev_iadd dX10_hearsBlock_95 ?_
      obtain ⟨z15, hz15, h⟩ := ev_bnE h
      refine ec_Vi (Y := mX10_leaderOf) (ci := 9) (As := [.int ((z13 (q0 + 1) ((16 : Int32) + x2).toNatClampNeg) + (1 : Int32))]) (rest := [(.int x1), (.ref q0)]) dX10_hearsBlock_96 kX10_128 oX10_leaderOf ⟨Nat.le_of_ble_eq_true rfl, Nat.le_of_ble_eq_true rfl⟩ (by decide) rfl (shp_n g0 0 rfl) (shp_t g0 0 rfl) rfl (Nat.le_of_ble_eq_true rfl) (tX10_leaderOf n q0 g0 ((z13 (q0 + 1) ((16 : Int32) + x2).toNatClampNeg) + (1 : Int32)) z13 z15 hz15) rfl ?_
      refine ev_iconst (v := (2 : Int32)) dX10_hearsBlock_99 (by decide) ?_
      refine ev_iload_n dX10_hearsBlock_100 rfl ?_
      refine ev_iconst (v := (-1 : Int32)) dX10_hearsBlock_101 (by decide) ?_
      obtain ⟨z16, hz16, h⟩ := ev_bnE h
      refine ec_Vv (Y := mX10_sends) (ci := 9) (As := [.int x1, .int z15, .int (2 : Int32), .int x2, .int (-1 : Int32)]) (rest := []) dX10_hearsBlock_102 kX10_86 oX10_sends ⟨Nat.le_of_ble_eq_true rfl, Nat.le_of_ble_eq_true rfl⟩ (by decide) rfl (shp_n g0 0 rfl) (shp_t g0 0 rfl) rfl (Nat.le_of_ble_eq_true rfl) (tX10_sends n q0 g0 x1 z15 (2 : Int32) x2 (-1 : Int32) z13 z16 hz16) rfl ?_
      cases h
      exact er_v dX10_hearsBlock_105 rfl
    · have h := ev_ifT h c8
      refine ev_aload_n dX10_hearsBlock_46 rfl (fun _ e => by cases e) ?_
      refine ev_iconst (v := (1 : Int32)) dX10_hearsBlock_47 (by decide) ?_
      refine ev_iload_n dX10_hearsBlock_48 rfl ?_
      refine ev_iload_n dX10_hearsBlock_49 rfl ?_
      obtain ⟨z17, hz17, h⟩ := ev_bnE h
      refine ec_Vv (Y := mX10_tells) (ci := 9) (As := [.int (1 : Int32), .int x1, .int x2]) (rest := []) dX10_hearsBlock_50 kX10_96 oX10_tells ⟨Nat.le_of_ble_eq_true rfl, Nat.le_of_ble_eq_true rfl⟩ (by decide) rfl (shp_n g0 0 rfl) (shp_t g0 0 rfl) rfl (Nat.le_of_ble_eq_true rfl) (tX10_tells n q0 g0 (1 : Int32) x1 x2 z4 z17 hz17) rfl ?_
      cases h
      exact er_v dX10_hearsBlock_53 rfl
  · have h := ev_ifT h c6
    cases h
    exact er_v dX10_hearsBlock_36 rfl
-- ChainVotesModel hearsMark(III)V
def cX10_hearsMark_110 (q0 : Nat) (K51 : Int32 → Int32 → Int32 → Int32 → Int32 → ev_I → Option (ev_I)) (n : Nat) (y1 : Int32) (y2 : Int32) (y3 : Int32) (y4 : Int32) (y5 : Int32) (I : ev_I) : Option (ev_I) :=
  ev_lt (y5 + (1 : Int32)) fun v1 =>
  K51 y1 y2 y3 y4 v1 I
def cX10_hearsMark_138 (q0 : Nat) (n : Nat) (y1 : Int32) (y2 : Int32) (y3 : Int32) (y4 : Int32) (I : ev_I) : Option (ev_I) :=
  ev_ck (ev_in ((y4 + (212 : Int32)) + y3) 6010) <|
  ev_ck (ev_in ((y4 + (212 : Int32)) + y3) 6010) <|
  ev_lt (ev_u2 I (q0 + 1) ((y4 + (212 : Int32)) + y3).toNatClampNeg ((I (q0 + 1) ((y4 + (212 : Int32)) + y3).toNatClampNeg) ||| ((1 : Int32) <<< (y2 &&& 31)))) fun I4 =>
  ev_ck (ev_in ((y4 + (212 : Int32)) + y3) 6010) <|
  (pX10_onesOf n q0 (I4 (q0 + 1) ((y4 + (212 : Int32)) + y3).toNatClampNeg) I4).bind fun z6 =>
  (pX10_quorum n q0  I4).bind fun z7 =>
  if z6 = z7 then
    ev_ck (ev_in ((716 : Int32) + y3) 6010) <|
    ev_lt (ev_u2 I4 (q0 + 1) ((716 : Int32) + y3).toNatClampNeg (1 : Int32)) fun I10 =>
    (pX10_tells n q0 (2 : Int32) y1 y3 I10).bind fun z11 =>
    (pX10_learns n q0 y1 y3 z11).bind fun z12 =>
    (pX10_viewOf n q0 y1 z12).bind fun z13 =>
    ev_ck (ev_in ((16 : Int32) + y3) 6010) <|
    if (z12 (q0 + 1) ((16 : Int32) + y3).toNatClampNeg) < z13 then
      some z12
    else
      ev_ck (ev_in ((16 : Int32) + y3) 6010) <|
      (pX10_goesTo n q0 y1 ((z12 (q0 + 1) ((16 : Int32) + y3).toNatClampNeg) + (1 : Int32)) z12).bind fun z17 =>
      some z17
  else
    some I4
def cX10_hearsMark_119 (q0 : Nat) (n : Nat) (y1 : Int32) (y2 : Int32) (y3 : Int32) (y4 : Int32) (y5 : Int32) (I : ev_I) : Option (ev_I) :=
  (pX10_blockMany n q0  I).bind fun z18 =>
  if z18 ≤ y5 then
    cX10_hearsMark_138 q0 n y1 y2 y3 y4 I
  else
    (pX10_accuses n q0 (2 : Int32) y2 y1 y5 y3 I).bind fun z20 =>
    cX10_hearsMark_138 q0 n y1 y2 y3 y4 z20
def cX10_hearsMark_51 (q0 : Nat) (K51 : Int32 → Int32 → Int32 → Int32 → Int32 → ev_I → Option (ev_I)) (n : Nat) (y1 : Int32) (y2 : Int32) (y3 : Int32) (y4 : Int32) (y5 : Int32) (I : ev_I) : Option (ev_I) :=
  (pX10_blockMany n q0  I).bind fun z21 =>
  if z21 ≤ y5 then
    cX10_hearsMark_119 q0 n y1 y2 y3 y4 y5 I
  else
    if y5 = y3 then
      cX10_hearsMark_110 q0 K51 n y1 y2 y3 y4 y5 I
    else
      ev_ck (ev_in ((16 : Int32) + y5) 6010) <|
      ev_ck (ev_in ((16 : Int32) + y3) 6010) <|
      if (I (q0 + 1) ((16 : Int32) + y5).toNatClampNeg) = (I (q0 + 1) ((16 : Int32) + y3).toNatClampNeg) then
        ev_ck (ev_in ((y4 + (212 : Int32)) + y5) 6010) <|
        (pX10_has n q0 (I (q0 + 1) ((y4 + (212 : Int32)) + y5).toNatClampNeg) y2 I).bind fun z28 =>
        if z28 = 0 then
          cX10_hearsMark_110 q0 K51 n y1 y2 y3 y4 y5 I
        else
          cX10_hearsMark_119 q0 n y1 y2 y3 y4 y5 I
      else
        cX10_hearsMark_110 q0 K51 n y1 y2 y3 y4 y5 I
def lX10_hearsMark_51 (q0 : Nat) : Nat → Int32 → Int32 → Int32 → Int32 → Int32 → ev_I → Option (ev_I)
  | 0, _, _, _, _, _, _ => none
  | n + 1, y1, y2, y3, y4, y5, I => cX10_hearsMark_51 q0 (lX10_hearsMark_51 q0 n) n y1 y2 y3 y4 y5 I
def pX10_hearsMark (n : Nat) (q0 : Nat) (x1 : Int32) (x2 : Int32) (x3 : Int32) (I : ev_I) : Option (ev_I) :=
  (pX10_nodeAt n q0 x1 I).bind fun z30 =>
  ev_ck (ev_in ((16 : Int32) + x3) 6010) <|
  (pX10_leaderOf n q0 ((I (q0 + 1) ((16 : Int32) + x3).toNatClampNeg) + (1 : Int32)) I).bind fun z32 =>
  if z32 = x1 then
    ev_ck (ev_in ((z30 + (212 : Int32)) + x3) 6010) <|
    (pX10_has n q0 (I (q0 + 1) ((z30 + (212 : Int32)) + x3).toNatClampNeg) x2 I).bind fun z35 =>
    if z35 = 0 then
      lX10_hearsMark_51 q0 n x1 x2 x3 z30 (0 : Int32) I
    else
      some I
  else
    some I
set_option maxRecDepth 100000 in
set_option maxHeartbeats 4000000 in
theorem tX10_hearsMark_110 {E : ev_N} {σ : ev_H} (q0 : Nat) (g0 : shp tb9 σ q0) (K51 : Int32 → Int32 → Int32 → Int32 → Int32 → ev_I → Option (ev_I)) (k51 : ∀ (y1 : Int32) (y2 : Int32) (y3 : Int32) (y4 : Int32) (y5 : Int32) (I : ev_I) (o : ev_I), K51 y1 y2 y3 y4 y5 I = some o → EV E mX10_hearsMark 51 [some (.ref q0), some (.int y1), some (.int y2), some (.int y3), some (.int y4), some (.int y5)] [] (h_w σ I) (Option.none, h_w σ o)) (n : Nat) (y1 : Int32) (y2 : Int32) (y3 : Int32) (y4 : Int32) (y5 : Int32) (I : ev_I) (o : ev_I) : cX10_hearsMark_110 q0 K51 n y1 y2 y3 y4 y5 I = some o → EV E mX10_hearsMark 110 [some (.ref q0), some (.int y1), some (.int y2), some (.int y3), some (.int y4), some (.int y5)] [] (h_w σ I) (Option.none, h_w σ o) := by
  intro h
  unfold cX10_hearsMark_110 at h
  refine ev_iload dX10_hearsMark_110 rfl ?_
  refine ev_iconst (v := (1 : Int32)) dX10_hearsMark_112 (by decide) ?_
  refine ev_iadd dX10_hearsMark_113 ?_
  obtain ⟨v1, ev1, h⟩ := ev_ltE h
  refine ew_nm ev1 ?_
  refine ew_ist (L' := [some (.ref q0), some (.int y1), some (.int y2), some (.int y3), some (.int y4), some (.int v1)]) dX10_hearsMark_114 (Nat.le_of_ble_eq_true rfl) rfl ?_
  refine ev_goto (tgt := 51) dX10_hearsMark_116 (by decide) ?_
  exact ev_weak (sb_s (sb_s (sb_s (sb_s (sb_s (sb_s sb_0)))))) (k51 y1 y2 y3 y4 v1 I _ h)
set_option maxRecDepth 100000 in
set_option maxHeartbeats 4000000 in
theorem tX10_hearsMark_138 {E : ev_N} {σ : ev_H} (q0 : Nat) (g0 : shp tb9 σ q0) (n : Nat) (y1 : Int32) (y2 : Int32) (y3 : Int32) (y4 : Int32) (I : ev_I) (o : ev_I) : cX10_hearsMark_138 q0 n y1 y2 y3 y4 I = some o → EV E mX10_hearsMark 138 [some (.ref q0), some (.int y1), some (.int y2), some (.int y3), some (.int y4), none] [] (h_w σ I) (Option.none, h_w σ o) := by
  intro h
  unfold cX10_hearsMark_138 at h
  refine ev_aload_n dX10_hearsMark_138 rfl (fun _ e => by cases e) ?_
  refine ew_getr0 dX10_hearsMark_139 fX10_7 g0 rfl rfl rfl rfl ?_
  refine ev_iload dX10_hearsMark_142 rfl ?_
  refine ev_sipush (v := (212 : Int32)) dX10_hearsMark_144 (by decide) ?_
  refine ev_iadd dX10_hearsMark_147 ?_
  refine ev_iload_n dX10_hearsMark_148 rfl ?_
  refine ev_iadd dX10_hearsMark_149 ?_
  refine ev_aload_n dX10_hearsMark_150 rfl (fun _ e => by cases e) ?_
  refine ew_getr0 dX10_hearsMark_151 fX10_7 g0 rfl rfl rfl rfl ?_
  refine ev_iload dX10_hearsMark_154 rfl ?_
  refine ev_sipush (v := (212 : Int32)) dX10_hearsMark_156 (by decide) ?_
  refine ev_iadd dX10_hearsMark_159 ?_
  refine ev_iload_n dX10_hearsMark_160 rfl ?_
  refine ev_iadd dX10_hearsMark_161 ?_
  obtain ⟨c2, h⟩ := ev_ckE h
  refine ew_iald dX10_hearsMark_162 (shp_a g0 1 rfl) c2 ?_
  refine ev_iconst (v := (1 : Int32)) dX10_hearsMark_163 (by decide) ?_
  refine ev_iload_n dX10_hearsMark_164 rfl ?_
  refine ev_ishl dX10_hearsMark_165 ?_
  refine ev_ior dX10_hearsMark_166 ?_
  obtain ⟨c3, h⟩ := ev_ckE h
  obtain ⟨I4, eI4, h⟩ := ev_ltE h
  refine ew_iast dX10_hearsMark_167 (shp_a g0 1 rfl) c3 (ew_nh eI4 ?_)
  refine ev_aload_n dX10_hearsMark_168 rfl (fun _ e => by cases e) ?_
  refine ev_aload_n dX10_hearsMark_169 rfl (fun _ e => by cases e) ?_
  refine ew_getr0 dX10_hearsMark_170 fX10_7 g0 rfl rfl rfl rfl ?_
  refine ev_iload dX10_hearsMark_173 rfl ?_
  refine ev_sipush (v := (212 : Int32)) dX10_hearsMark_175 (by decide) ?_
  refine ev_iadd dX10_hearsMark_178 ?_
  refine ev_iload_n dX10_hearsMark_179 rfl ?_
  refine ev_iadd dX10_hearsMark_180 ?_
  obtain ⟨c5, h⟩ := ev_ckE h
  refine ew_iald dX10_hearsMark_181 (shp_a g0 1 rfl) c5 ?_
  obtain ⟨z6, hz6, h⟩ := ev_bnE h
  refine ec_Vi (Y := mX10_onesOf) (ci := 9) (As := [.int (I4 (q0 + 1) ((y4 + (212 : Int32)) + y3).toNatClampNeg)]) (rest := []) dX10_hearsMark_182 kX10_131 oX10_onesOf ⟨Nat.le_of_ble_eq_true rfl, Nat.le_of_ble_eq_true rfl⟩ (by decide) rfl (shp_n g0 0 rfl) (shp_t g0 0 rfl) rfl (Nat.le_of_ble_eq_true rfl) (tX10_onesOf n q0 g0 (I4 (q0 + 1) ((y4 + (212 : Int32)) + y3).toNatClampNeg) I4 z6 hz6) rfl ?_
  refine ev_aload_n dX10_hearsMark_185 rfl (fun _ e => by cases e) ?_
  obtain ⟨z7, hz7, h⟩ := ev_bnE h
  refine ec_Vi (Y := mX10_quorum) (ci := 9) (As := []) (rest := [(.int z6)]) dX10_hearsMark_186 kX10_134 oX10_quorum ⟨Nat.le_of_ble_eq_true rfl, Nat.le_of_ble_eq_true rfl⟩ (by decide) rfl (shp_n g0 0 rfl) (shp_t g0 0 rfl) rfl (Nat.le_of_ble_eq_true rfl) (tX10_quorum n q0 g0  I4 z7 hz7) rfl ?_
  refine ev_icmp_eq (tgt := 193) dX10_hearsMark_189 (by decide) (fun c8 => ?_) (fun c8 => ?_)
  · have h := ev_ifT h c8
    refine ev_aload_n dX10_hearsMark_193 rfl (fun _ e => by cases e) ?_
    refine ew_getr0 dX10_hearsMark_194 fX10_7 g0 rfl rfl rfl rfl ?_
    refine ev_sipush (v := (716 : Int32)) dX10_hearsMark_197 (by decide) ?_
    refine ev_iload_n dX10_hearsMark_200 rfl ?_
    refine ev_iadd dX10_hearsMark_201 ?_
    refine ev_iconst (v := (1 : Int32)) dX10_hearsMark_202 (by decide) ?_
    obtain ⟨c9, h⟩ := ev_ckE h
    obtain ⟨I10, eI10, h⟩ := ev_ltE h
    refine ew_iast dX10_hearsMark_203 (shp_a g0 1 rfl) c9 (ew_nh eI10 ?_)
    refine ev_aload_n dX10_hearsMark_204 rfl (fun _ e => by cases e) ?_
    refine ev_iconst (v := (2 : Int32)) dX10_hearsMark_205 (by decide) ?_
    refine ev_iload_n dX10_hearsMark_206 rfl ?_
    refine ev_iload_n dX10_hearsMark_207 rfl ?_
    obtain ⟨z11, hz11, h⟩ := ev_bnE h
    refine ec_Vv (Y := mX10_tells) (ci := 9) (As := [.int (2 : Int32), .int y1, .int y3]) (rest := []) dX10_hearsMark_208 kX10_96 oX10_tells ⟨Nat.le_of_ble_eq_true rfl, Nat.le_of_ble_eq_true rfl⟩ (by decide) rfl (shp_n g0 0 rfl) (shp_t g0 0 rfl) rfl (Nat.le_of_ble_eq_true rfl) (tX10_tells n q0 g0 (2 : Int32) y1 y3 I10 z11 hz11) rfl ?_
    refine ev_aload_n dX10_hearsMark_211 rfl (fun _ e => by cases e) ?_
    refine ev_iload_n dX10_hearsMark_212 rfl ?_
    refine ev_iload_n dX10_hearsMark_213 rfl ?_
    obtain ⟨z12, hz12, h⟩ := ev_bnE h
    refine ec_Vv (Y := mX10_learns) (ci := 9) (As := [.int y1, .int y3]) (rest := []) dX10_hearsMark_214 kX10_116 oX10_learns ⟨Nat.le_of_ble_eq_true rfl, Nat.le_of_ble_eq_true rfl⟩ (by decide) rfl (shp_n g0 0 rfl) (shp_t g0 0 rfl) rfl (Nat.le_of_ble_eq_true rfl) (tX10_learns n q0 g0 y1 y3 z11 z12 hz12) rfl ?_
    refine ev_aload_n dX10_hearsMark_217 rfl (fun _ e => by cases e) ?_
    refine ev_iload_n dX10_hearsMark_218 rfl ?_
    obtain ⟨z13, hz13, h⟩ := ev_bnE h
    refine ec_Vi (Y := mX10_viewOf) (ci := 9) (As := [.int y1]) (rest := []) dX10_hearsMark_219 kX10_104 oX10_viewOf ⟨Nat.le_of_ble_eq_true rfl, Nat.le_of_ble_eq_true rfl⟩ (by decide) rfl (shp_n g0 0 rfl) (shp_t g0 0 rfl) rfl (Nat.le_of_ble_eq_true rfl) (tX10_viewOf n q0 g0 y1 z12 z13 hz13) rfl ?_
    refine ev_aload_n dX10_hearsMark_222 rfl (fun _ e => by cases e) ?_
    refine ew_getr0 dX10_hearsMark_223 fX10_7 g0 rfl rfl rfl rfl ?_
    refine ev_bipush (v := (16 : Int32)) dX10_hearsMark_226 (by decide) ?_
    refine ev_iload_n dX10_hearsMark_228 rfl ?_
    refine ev_iadd dX10_hearsMark_229 ?_
    obtain ⟨c14, h⟩ := ev_ckE h
    refine ew_iald dX10_hearsMark_230 (shp_a g0 1 rfl) c14 ?_
    refine ev_icmp_gt (tgt := 250) dX10_hearsMark_231 (by decide) (fun c15 => ?_) (fun c15 => ?_)
    · have h := ev_ifT h c15
      cases h
      exact er_v dX10_hearsMark_250 rfl
    · have h := ev_ifF h c15
      refine ev_aload_n dX10_hearsMark_234 rfl (fun _ e => by cases e) ?_
      refine ev_iload_n dX10_hearsMark_235 rfl ?_
      refine ev_aload_n dX10_hearsMark_236 rfl (fun _ e => by cases e) ?_
      refine ew_getr0 dX10_hearsMark_237 fX10_7 g0 rfl rfl rfl rfl ?_
      refine ev_bipush (v := (16 : Int32)) dX10_hearsMark_240 (by decide) ?_
      refine ev_iload_n dX10_hearsMark_242 rfl ?_
      refine ev_iadd dX10_hearsMark_243 ?_
      obtain ⟨c16, h⟩ := ev_ckE h
      refine ew_iald dX10_hearsMark_244 (shp_a g0 1 rfl) c16 ?_
      refine ev_iconst (v := (1 : Int32)) dX10_hearsMark_245 (by decide) ?_
      refine ev_iadd dX10_hearsMark_246 ?_
      obtain ⟨z17, hz17, h⟩ := ev_bnE h
      refine ec_Vv (Y := mX10_goesTo) (ci := 9) (As := [.int y1, .int ((z12 (q0 + 1) ((16 : Int32) + y3).toNatClampNeg) + (1 : Int32))]) (rest := []) dX10_hearsMark_247 kX10_107 oX10_goesTo ⟨Nat.le_of_ble_eq_true rfl, Nat.le_of_ble_eq_true rfl⟩ (by decide) rfl (shp_n g0 0 rfl) (shp_t g0 0 rfl) rfl (Nat.le_of_ble_eq_true rfl) (tX10_goesTo n q0 g0 y1 ((z12 (q0 + 1) ((16 : Int32) + y3).toNatClampNeg) + (1 : Int32)) z12 z17 hz17) rfl ?_
      cases h
      exact er_v dX10_hearsMark_250 rfl
  · have h := ev_ifF h c8
    cases h
    exact er_v dX10_hearsMark_192 rfl
set_option maxRecDepth 100000 in
set_option maxHeartbeats 4000000 in
theorem tX10_hearsMark_119 {E : ev_N} {σ : ev_H} (q0 : Nat) (g0 : shp tb9 σ q0) (n : Nat) (y1 : Int32) (y2 : Int32) (y3 : Int32) (y4 : Int32) (y5 : Int32) (I : ev_I) (o : ev_I) : cX10_hearsMark_119 q0 n y1 y2 y3 y4 y5 I = some o → EV E mX10_hearsMark 119 [some (.ref q0), some (.int y1), some (.int y2), some (.int y3), some (.int y4), some (.int y5)] [] (h_w σ I) (Option.none, h_w σ o) := by
  intro h
  unfold cX10_hearsMark_119 at h
  refine ev_iload dX10_hearsMark_119 rfl ?_
  refine ev_aload_n dX10_hearsMark_121 rfl (fun _ e => by cases e) ?_
  obtain ⟨z18, hz18, h⟩ := ev_bnE h
  refine ec_Vi (Y := mX10_blockMany) (ci := 9) (As := []) (rest := [(.int y5)]) dX10_hearsMark_122 kX10_51 oX10_blockMany ⟨Nat.le_of_ble_eq_true rfl, Nat.le_of_ble_eq_true rfl⟩ (by decide) rfl (shp_n g0 0 rfl) (shp_t g0 0 rfl) rfl (Nat.le_of_ble_eq_true rfl) (tX10_blockMany n q0 g0  I z18 hz18) rfl ?_
  refine ev_icmp_ge (tgt := 138) dX10_hearsMark_125 (by decide) (fun c19 => ?_) (fun c19 => ?_)
  · have h := ev_ifT h c19
    exact ev_weak (sb_s (sb_s (sb_s (sb_s (sb_s (sb_n sb_0)))))) (tX10_hearsMark_138 q0 g0 n y1 y2 y3 y4 I _ h)
  · have h := ev_ifF h c19
    refine ev_aload_n dX10_hearsMark_128 rfl (fun _ e => by cases e) ?_
    refine ev_iconst (v := (2 : Int32)) dX10_hearsMark_129 (by decide) ?_
    refine ev_iload_n dX10_hearsMark_130 rfl ?_
    refine ev_iload_n dX10_hearsMark_131 rfl ?_
    refine ev_iload dX10_hearsMark_132 rfl ?_
    refine ev_iload_n dX10_hearsMark_134 rfl ?_
    obtain ⟨z20, hz20, h⟩ := ev_bnE h
    refine ec_Vv (Y := mX10_accuses) (ci := 9) (As := [.int (2 : Int32), .int y2, .int y1, .int y5, .int y3]) (rest := []) dX10_hearsMark_135 kX10_110 oX10_accuses ⟨Nat.le_of_ble_eq_true rfl, Nat.le_of_ble_eq_true rfl⟩ (by decide) rfl (shp_n g0 0 rfl) (shp_t g0 0 rfl) rfl (Nat.le_of_ble_eq_true rfl) (tX10_accuses n q0 g0 (2 : Int32) y2 y1 y5 y3 I z20 hz20) rfl ?_
    exact ev_weak (sb_s (sb_s (sb_s (sb_s (sb_s (sb_n sb_0)))))) (tX10_hearsMark_138 q0 g0 n y1 y2 y3 y4 z20 _ h)
set_option maxRecDepth 100000 in
set_option maxHeartbeats 4000000 in
theorem tX10_hearsMark_51 {E : ev_N} {σ : ev_H} (q0 : Nat) (g0 : shp tb9 σ q0) (K51 : Int32 → Int32 → Int32 → Int32 → Int32 → ev_I → Option (ev_I)) (k51 : ∀ (y1 : Int32) (y2 : Int32) (y3 : Int32) (y4 : Int32) (y5 : Int32) (I : ev_I) (o : ev_I), K51 y1 y2 y3 y4 y5 I = some o → EV E mX10_hearsMark 51 [some (.ref q0), some (.int y1), some (.int y2), some (.int y3), some (.int y4), some (.int y5)] [] (h_w σ I) (Option.none, h_w σ o)) (n : Nat) (y1 : Int32) (y2 : Int32) (y3 : Int32) (y4 : Int32) (y5 : Int32) (I : ev_I) (o : ev_I) : cX10_hearsMark_51 q0 K51 n y1 y2 y3 y4 y5 I = some o → EV E mX10_hearsMark 51 [some (.ref q0), some (.int y1), some (.int y2), some (.int y3), some (.int y4), some (.int y5)] [] (h_w σ I) (Option.none, h_w σ o) := by
  intro h
  unfold cX10_hearsMark_51 at h
  refine ev_iload dX10_hearsMark_51 rfl ?_
  refine ev_aload_n dX10_hearsMark_53 rfl (fun _ e => by cases e) ?_
  obtain ⟨z21, hz21, h⟩ := ev_bnE h
  refine ec_Vi (Y := mX10_blockMany) (ci := 9) (As := []) (rest := [(.int y5)]) dX10_hearsMark_54 kX10_51 oX10_blockMany ⟨Nat.le_of_ble_eq_true rfl, Nat.le_of_ble_eq_true rfl⟩ (by decide) rfl (shp_n g0 0 rfl) (shp_t g0 0 rfl) rfl (Nat.le_of_ble_eq_true rfl) (tX10_blockMany n q0 g0  I z21 hz21) rfl ?_
  refine ev_icmp_ge (tgt := 119) dX10_hearsMark_57 (by decide) (fun c22 => ?_) (fun c22 => ?_)
  · have h := ev_ifT h c22
    exact ev_weak (sb_s (sb_s (sb_s (sb_s (sb_s (sb_s sb_0)))))) (tX10_hearsMark_119 q0 g0 n y1 y2 y3 y4 y5 I _ h)
  · have h := ev_ifF h c22
    refine ev_iload dX10_hearsMark_60 rfl ?_
    refine ev_iload_n dX10_hearsMark_62 rfl ?_
    refine ev_icmp_eq (tgt := 110) dX10_hearsMark_63 (by decide) (fun c23 => ?_) (fun c23 => ?_)
    · have h := ev_ifT h c23
      exact ev_weak (sb_s (sb_s (sb_s (sb_s (sb_s (sb_s sb_0)))))) (tX10_hearsMark_110 q0 g0 K51 k51 n y1 y2 y3 y4 y5 I _ h)
    · have h := ev_ifF h c23
      refine ev_aload_n dX10_hearsMark_66 rfl (fun _ e => by cases e) ?_
      refine ew_getr0 dX10_hearsMark_67 fX10_7 g0 rfl rfl rfl rfl ?_
      refine ev_bipush (v := (16 : Int32)) dX10_hearsMark_70 (by decide) ?_
      refine ev_iload dX10_hearsMark_72 rfl ?_
      refine ev_iadd dX10_hearsMark_74 ?_
      obtain ⟨c24, h⟩ := ev_ckE h
      refine ew_iald dX10_hearsMark_75 (shp_a g0 1 rfl) c24 ?_
      refine ev_aload_n dX10_hearsMark_76 rfl (fun _ e => by cases e) ?_
      refine ew_getr0 dX10_hearsMark_77 fX10_7 g0 rfl rfl rfl rfl ?_
      refine ev_bipush (v := (16 : Int32)) dX10_hearsMark_80 (by decide) ?_
      refine ev_iload_n dX10_hearsMark_82 rfl ?_
      refine ev_iadd dX10_hearsMark_83 ?_
      obtain ⟨c25, h⟩ := ev_ckE h
      refine ew_iald dX10_hearsMark_84 (shp_a g0 1 rfl) c25 ?_
      refine ev_icmp_ne (tgt := 110) dX10_hearsMark_85 (by decide) (fun c26 => ?_) (fun c26 => ?_)
      · have h := ev_ifF h c26
        exact ev_weak (sb_s (sb_s (sb_s (sb_s (sb_s (sb_s sb_0)))))) (tX10_hearsMark_110 q0 g0 K51 k51 n y1 y2 y3 y4 y5 I _ h)
      · have h := ev_ifT h c26
        refine ev_aload_n dX10_hearsMark_88 rfl (fun _ e => by cases e) ?_
        refine ev_aload_n dX10_hearsMark_89 rfl (fun _ e => by cases e) ?_
        refine ew_getr0 dX10_hearsMark_90 fX10_7 g0 rfl rfl rfl rfl ?_
        refine ev_iload dX10_hearsMark_93 rfl ?_
        refine ev_sipush (v := (212 : Int32)) dX10_hearsMark_95 (by decide) ?_
        refine ev_iadd dX10_hearsMark_98 ?_
        refine ev_iload dX10_hearsMark_99 rfl ?_
        refine ev_iadd dX10_hearsMark_101 ?_
        obtain ⟨c27, h⟩ := ev_ckE h
        refine ew_iald dX10_hearsMark_102 (shp_a g0 1 rfl) c27 ?_
        refine ev_iload_n dX10_hearsMark_103 rfl ?_
        obtain ⟨z28, hz28, h⟩ := ev_bnE h
        refine ec_Vi (Y := mX10_has) (ci := 9) (As := [.int (I (q0 + 1) ((y4 + (212 : Int32)) + y5).toNatClampNeg), .int y2]) (rest := []) dX10_hearsMark_104 kX10_79 oX10_has ⟨Nat.le_of_ble_eq_true rfl, Nat.le_of_ble_eq_true rfl⟩ (by decide) rfl (shp_n g0 0 rfl) (shp_t g0 0 rfl) rfl (Nat.le_of_ble_eq_true rfl) (tX10_has n q0 g0 (I (q0 + 1) ((y4 + (212 : Int32)) + y5).toNatClampNeg) y2 I z28 hz28) rfl ?_
        refine ev_if_ne (tgt := 119) dX10_hearsMark_107 (by decide) (fun c29 => ?_) (fun c29 => ?_)
        · have h := ev_ifF h c29
          exact ev_weak (sb_s (sb_s (sb_s (sb_s (sb_s (sb_s sb_0)))))) (tX10_hearsMark_119 q0 g0 n y1 y2 y3 y4 y5 I _ h)
        · have h := ev_ifT h c29
          exact ev_weak (sb_s (sb_s (sb_s (sb_s (sb_s (sb_s sb_0)))))) (tX10_hearsMark_110 q0 g0 K51 k51 n y1 y2 y3 y4 y5 I _ h)
theorem tlX10_hearsMark_51 {E : ev_N} {σ : ev_H} (q0 : Nat) (g0 : shp tb9 σ q0) : ∀ (n : Nat) (y1 : Int32) (y2 : Int32) (y3 : Int32) (y4 : Int32) (y5 : Int32) (I : ev_I) (o : ev_I), lX10_hearsMark_51 q0 n y1 y2 y3 y4 y5 I = some o → EV E mX10_hearsMark 51 [some (.ref q0), some (.int y1), some (.int y2), some (.int y3), some (.int y4), some (.int y5)] [] (h_w σ I) (Option.none, h_w σ o)
  | 0, _, _, _, _, _, _, _, h => by cases h
  | n + 1, y1, y2, y3, y4, y5, I, o, h => tX10_hearsMark_51 q0 g0 (lX10_hearsMark_51 q0 n) (tlX10_hearsMark_51 q0 g0 n) n y1 y2 y3 y4 y5 I o h
set_option maxRecDepth 100000 in
set_option maxHeartbeats 4000000 in
theorem tX10_hearsMark {E : ev_N} {σ : ev_H} (n : Nat) (q0 : Nat) (g0 : shp tb9 σ q0) (x1 : Int32) (x2 : Int32) (x3 : Int32) (I : ev_I) (o : ev_I) (h : pX10_hearsMark n q0 x1 x2 x3 I = some o) : ev_T E mX10_hearsMark [.ref q0, .int x1, .int x2, .int x3] (h_w σ I) (Option.none, h_w σ o) := by
  unfold pX10_hearsMark at h
  refine ev_met rfl rfl (Nat.le_of_ble_eq_true rfl) (ev_L0 (L' := [some (.ref q0), some (.int x1), some (.int x2), some (.int x3), none, none]) rfl ?_)
  refine ev_aload_n dX10_hearsMark_0 rfl (fun _ e => by cases e) ?_
  refine ev_iload_n dX10_hearsMark_1 rfl ?_
  obtain ⟨z30, hz30, h⟩ := ev_bnE h
  refine ec_Vi (Y := mX10_nodeAt) (ci := 9) (As := [.int x1]) (rest := []) dX10_hearsMark_2 kX10_54 oX10_nodeAt ⟨Nat.le_of_ble_eq_true rfl, Nat.le_of_ble_eq_true rfl⟩ (by decide) rfl (shp_n g0 0 rfl) (shp_t g0 0 rfl) rfl (Nat.le_of_ble_eq_true rfl) (tX10_nodeAt n q0 g0 x1 I z30 hz30) rfl ?_
  refine ew_ist (L' := [some (.ref q0), some (.int x1), some (.int x2), some (.int x3), some (.int z30), none]) dX10_hearsMark_5 (Nat.le_of_ble_eq_true rfl) rfl ?_
  refine ev_aload_n dX10_hearsMark_7 rfl (fun _ e => by cases e) ?_
  refine ev_aload_n dX10_hearsMark_8 rfl (fun _ e => by cases e) ?_
  refine ew_getr0 dX10_hearsMark_9 fX10_7 g0 rfl rfl rfl rfl ?_
  refine ev_bipush (v := (16 : Int32)) dX10_hearsMark_12 (by decide) ?_
  refine ev_iload_n dX10_hearsMark_14 rfl ?_
  refine ev_iadd dX10_hearsMark_15 ?_
  obtain ⟨c31, h⟩ := ev_ckE h
  refine ew_iald dX10_hearsMark_16 (shp_a g0 1 rfl) c31 ?_
  refine ev_iconst (v := (1 : Int32)) dX10_hearsMark_17 (by decide) ?_
  refine ev_iadd dX10_hearsMark_18 ?_
  obtain ⟨z32, hz32, h⟩ := ev_bnE h
  refine ec_Vi (Y := mX10_leaderOf) (ci := 9) (As := [.int ((I (q0 + 1) ((16 : Int32) + x3).toNatClampNeg) + (1 : Int32))]) (rest := []) dX10_hearsMark_19 kX10_128 oX10_leaderOf ⟨Nat.le_of_ble_eq_true rfl, Nat.le_of_ble_eq_true rfl⟩ (by decide) rfl (shp_n g0 0 rfl) (shp_t g0 0 rfl) rfl (Nat.le_of_ble_eq_true rfl) (tX10_leaderOf n q0 g0 ((I (q0 + 1) ((16 : Int32) + x3).toNatClampNeg) + (1 : Int32)) I z32 hz32) rfl ?_
  refine ev_iload_n dX10_hearsMark_22 rfl ?_
  refine ev_icmp_ne (tgt := 47) dX10_hearsMark_23 (by decide) (fun c33 => ?_) (fun c33 => ?_)
  · have h := ev_ifF h c33
    cases h
    exact er_v dX10_hearsMark_47 rfl
  · have h := ev_ifT h c33
    refine ev_aload_n dX10_hearsMark_26 rfl (fun _ e => by cases e) ?_
    refine ev_aload_n dX10_hearsMark_27 rfl (fun _ e => by cases e) ?_
    refine ew_getr0 dX10_hearsMark_28 fX10_7 g0 rfl rfl rfl rfl ?_
    refine ev_iload dX10_hearsMark_31 rfl ?_
    refine ev_sipush (v := (212 : Int32)) dX10_hearsMark_33 (by decide) ?_
    refine ev_iadd dX10_hearsMark_36 ?_
    refine ev_iload_n dX10_hearsMark_37 rfl ?_
    refine ev_iadd dX10_hearsMark_38 ?_
    obtain ⟨c34, h⟩ := ev_ckE h
    refine ew_iald dX10_hearsMark_39 (shp_a g0 1 rfl) c34 ?_
    refine ev_iload_n dX10_hearsMark_40 rfl ?_
    obtain ⟨z35, hz35, h⟩ := ev_bnE h
    refine ec_Vi (Y := mX10_has) (ci := 9) (As := [.int (I (q0 + 1) ((z30 + (212 : Int32)) + x3).toNatClampNeg), .int x2]) (rest := []) dX10_hearsMark_41 kX10_79 oX10_has ⟨Nat.le_of_ble_eq_true rfl, Nat.le_of_ble_eq_true rfl⟩ (by decide) rfl (shp_n g0 0 rfl) (shp_t g0 0 rfl) rfl (Nat.le_of_ble_eq_true rfl) (tX10_has n q0 g0 (I (q0 + 1) ((z30 + (212 : Int32)) + x3).toNatClampNeg) x2 I z35 hz35) rfl ?_
    refine ev_if_eq (tgt := 48) dX10_hearsMark_44 (by decide) (fun c36 => ?_) (fun c36 => ?_)
    · have h := ev_ifT h c36
      refine ev_iconst (v := (0 : Int32)) dX10_hearsMark_48 (by decide) ?_
      refine ew_ist (L' := [some (.ref q0), some (.int x1), some (.int x2), some (.int x3), some (.int z30), some (.int (0 : Int32))]) dX10_hearsMark_49 (Nat.le_of_ble_eq_true rfl) rfl ?_
      exact ev_weak (sb_s (sb_s (sb_s (sb_s (sb_s (sb_s sb_0)))))) (tlX10_hearsMark_51 q0 g0 n x1 x2 x3 z30 (0 : Int32) I _ h)
    · have h := ev_ifF h c36
      cases h
      exact er_v dX10_hearsMark_47 rfl
-- ChainVotesModel hearsTimeout(IIII)V
def pX10_hearsTimeout (n : Nat) (q0 : Nat) (x1 : Int32) (x2 : Int32) (x3 : Int32) (x4 : Int32) (I : ev_I) : Option (ev_I) :=
  (pX10_nodeAt n q0 x1 I).bind fun z1 =>
  (pX10_learns n q0 x1 x4 I).bind fun z2 =>
  ev_ck (ev_in ((z1 + (312 : Int32)) + x3) 6010) <|
  (pX10_has n q0 (z2 (q0 + 1) ((z1 + (312 : Int32)) + x3).toNatClampNeg) x2 z2).bind fun z4 =>
  if z4 = 0 then
    ev_ck (ev_in ((z1 + (312 : Int32)) + x3) 6010) <|
    ev_ck (ev_in ((z1 + (312 : Int32)) + x3) 6010) <|
    ev_lt (ev_u2 z2 (q0 + 1) ((z1 + (312 : Int32)) + x3).toNatClampNeg ((z2 (q0 + 1) ((z1 + (312 : Int32)) + x3).toNatClampNeg) ||| ((1 : Int32) <<< (x2 &&& 31)))) fun I8 =>
    ev_ck (ev_in ((z1 + (312 : Int32)) + x3) 6010) <|
    (pX10_onesOf n q0 (I8 (q0 + 1) ((z1 + (312 : Int32)) + x3).toNatClampNeg) I8).bind fun z10 =>
    (pX10_quorum n q0  I8).bind fun z11 =>
    if z10 = z11 then
      (pX10_proves n q0 x1 x3 I8).bind fun z13 =>
      some z13
    else
      some I8
  else
    some z2
set_option maxRecDepth 100000 in
set_option maxHeartbeats 4000000 in
theorem tX10_hearsTimeout {E : ev_N} {σ : ev_H} (n : Nat) (q0 : Nat) (g0 : shp tb9 σ q0) (x1 : Int32) (x2 : Int32) (x3 : Int32) (x4 : Int32) (I : ev_I) (o : ev_I) (h : pX10_hearsTimeout n q0 x1 x2 x3 x4 I = some o) : ev_T E mX10_hearsTimeout [.ref q0, .int x1, .int x2, .int x3, .int x4] (h_w σ I) (Option.none, h_w σ o) := by
  unfold pX10_hearsTimeout at h
  refine ev_met rfl rfl (Nat.le_of_ble_eq_true rfl) (ev_L0 (L' := [some (.ref q0), some (.int x1), some (.int x2), some (.int x3), some (.int x4), none]) rfl ?_)
  refine ev_aload_n dX10_hearsTimeout_0 rfl (fun _ e => by cases e) ?_
  refine ev_iload_n dX10_hearsTimeout_1 rfl ?_
  obtain ⟨z1, hz1, h⟩ := ev_bnE h
  refine ec_Vi (Y := mX10_nodeAt) (ci := 9) (As := [.int x1]) (rest := []) dX10_hearsTimeout_2 kX10_54 oX10_nodeAt ⟨Nat.le_of_ble_eq_true rfl, Nat.le_of_ble_eq_true rfl⟩ (by decide) rfl (shp_n g0 0 rfl) (shp_t g0 0 rfl) rfl (Nat.le_of_ble_eq_true rfl) (tX10_nodeAt n q0 g0 x1 I z1 hz1) rfl ?_
  refine ew_ist (L' := [some (.ref q0), some (.int x1), some (.int x2), some (.int x3), some (.int x4), some (.int z1)]) dX10_hearsTimeout_5 (Nat.le_of_ble_eq_true rfl) rfl ?_
  refine ev_aload_n dX10_hearsTimeout_7 rfl (fun _ e => by cases e) ?_
  refine ev_iload_n dX10_hearsTimeout_8 rfl ?_
  refine ev_iload dX10_hearsTimeout_9 rfl ?_
  obtain ⟨z2, hz2, h⟩ := ev_bnE h
  refine ec_Vv (Y := mX10_learns) (ci := 9) (As := [.int x1, .int x4]) (rest := []) dX10_hearsTimeout_11 kX10_116 oX10_learns ⟨Nat.le_of_ble_eq_true rfl, Nat.le_of_ble_eq_true rfl⟩ (by decide) rfl (shp_n g0 0 rfl) (shp_t g0 0 rfl) rfl (Nat.le_of_ble_eq_true rfl) (tX10_learns n q0 g0 x1 x4 I z2 hz2) rfl ?_
  refine ev_aload_n dX10_hearsTimeout_14 rfl (fun _ e => by cases e) ?_
  refine ev_aload_n dX10_hearsTimeout_15 rfl (fun _ e => by cases e) ?_
  refine ew_getr0 dX10_hearsTimeout_16 fX10_7 g0 rfl rfl rfl rfl ?_
  refine ev_iload dX10_hearsTimeout_19 rfl ?_
  refine ev_sipush (v := (312 : Int32)) dX10_hearsTimeout_21 (by decide) ?_
  refine ev_iadd dX10_hearsTimeout_24 ?_
  refine ev_iload_n dX10_hearsTimeout_25 rfl ?_
  refine ev_iadd dX10_hearsTimeout_26 ?_
  obtain ⟨c3, h⟩ := ev_ckE h
  refine ew_iald dX10_hearsTimeout_27 (shp_a g0 1 rfl) c3 ?_
  refine ev_iload_n dX10_hearsTimeout_28 rfl ?_
  obtain ⟨z4, hz4, h⟩ := ev_bnE h
  refine ec_Vi (Y := mX10_has) (ci := 9) (As := [.int (z2 (q0 + 1) ((z1 + (312 : Int32)) + x3).toNatClampNeg), .int x2]) (rest := []) dX10_hearsTimeout_29 kX10_79 oX10_has ⟨Nat.le_of_ble_eq_true rfl, Nat.le_of_ble_eq_true rfl⟩ (by decide) rfl (shp_n g0 0 rfl) (shp_t g0 0 rfl) rfl (Nat.le_of_ble_eq_true rfl) (tX10_has n q0 g0 (z2 (q0 + 1) ((z1 + (312 : Int32)) + x3).toNatClampNeg) x2 z2 z4 hz4) rfl ?_
  refine ev_if_eq (tgt := 36) dX10_hearsTimeout_32 (by decide) (fun c5 => ?_) (fun c5 => ?_)
  · have h := ev_ifT h c5
    refine ev_aload_n dX10_hearsTimeout_36 rfl (fun _ e => by cases e) ?_
    refine ew_getr0 dX10_hearsTimeout_37 fX10_7 g0 rfl rfl rfl rfl ?_
    refine ev_iload dX10_hearsTimeout_40 rfl ?_
    refine ev_sipush (v := (312 : Int32)) dX10_hearsTimeout_42 (by decide) ?_
    refine ev_iadd dX10_hearsTimeout_45 ?_
    refine ev_iload_n dX10_hearsTimeout_46 rfl ?_
    refine ev_iadd dX10_hearsTimeout_47 ?_
    refine ev_aload_n dX10_hearsTimeout_48 rfl (fun _ e => by cases e) ?_
    refine ew_getr0 dX10_hearsTimeout_49 fX10_7 g0 rfl rfl rfl rfl ?_
    refine ev_iload dX10_hearsTimeout_52 rfl ?_
    refine ev_sipush (v := (312 : Int32)) dX10_hearsTimeout_54 (by decide) ?_
    refine ev_iadd dX10_hearsTimeout_57 ?_
    refine ev_iload_n dX10_hearsTimeout_58 rfl ?_
    refine ev_iadd dX10_hearsTimeout_59 ?_
    obtain ⟨c6, h⟩ := ev_ckE h
    refine ew_iald dX10_hearsTimeout_60 (shp_a g0 1 rfl) c6 ?_
    refine ev_iconst (v := (1 : Int32)) dX10_hearsTimeout_61 (by decide) ?_
    refine ev_iload_n dX10_hearsTimeout_62 rfl ?_
    refine ev_ishl dX10_hearsTimeout_63 ?_
    refine ev_ior dX10_hearsTimeout_64 ?_
    obtain ⟨c7, h⟩ := ev_ckE h
    obtain ⟨I8, eI8, h⟩ := ev_ltE h
    refine ew_iast dX10_hearsTimeout_65 (shp_a g0 1 rfl) c7 (ew_nh eI8 ?_)
    refine ev_aload_n dX10_hearsTimeout_66 rfl (fun _ e => by cases e) ?_
    refine ev_aload_n dX10_hearsTimeout_67 rfl (fun _ e => by cases e) ?_
    refine ew_getr0 dX10_hearsTimeout_68 fX10_7 g0 rfl rfl rfl rfl ?_
    refine ev_iload dX10_hearsTimeout_71 rfl ?_
    refine ev_sipush (v := (312 : Int32)) dX10_hearsTimeout_73 (by decide) ?_
    refine ev_iadd dX10_hearsTimeout_76 ?_
    refine ev_iload_n dX10_hearsTimeout_77 rfl ?_
    refine ev_iadd dX10_hearsTimeout_78 ?_
    obtain ⟨c9, h⟩ := ev_ckE h
    refine ew_iald dX10_hearsTimeout_79 (shp_a g0 1 rfl) c9 ?_
    obtain ⟨z10, hz10, h⟩ := ev_bnE h
    refine ec_Vi (Y := mX10_onesOf) (ci := 9) (As := [.int (I8 (q0 + 1) ((z1 + (312 : Int32)) + x3).toNatClampNeg)]) (rest := []) dX10_hearsTimeout_80 kX10_131 oX10_onesOf ⟨Nat.le_of_ble_eq_true rfl, Nat.le_of_ble_eq_true rfl⟩ (by decide) rfl (shp_n g0 0 rfl) (shp_t g0 0 rfl) rfl (Nat.le_of_ble_eq_true rfl) (tX10_onesOf n q0 g0 (I8 (q0 + 1) ((z1 + (312 : Int32)) + x3).toNatClampNeg) I8 z10 hz10) rfl ?_
    refine ev_aload_n dX10_hearsTimeout_83 rfl (fun _ e => by cases e) ?_
    obtain ⟨z11, hz11, h⟩ := ev_bnE h
    refine ec_Vi (Y := mX10_quorum) (ci := 9) (As := []) (rest := [(.int z10)]) dX10_hearsTimeout_84 kX10_134 oX10_quorum ⟨Nat.le_of_ble_eq_true rfl, Nat.le_of_ble_eq_true rfl⟩ (by decide) rfl (shp_n g0 0 rfl) (shp_t g0 0 rfl) rfl (Nat.le_of_ble_eq_true rfl) (tX10_quorum n q0 g0  I8 z11 hz11) rfl ?_
    refine ev_icmp_ne (tgt := 96) dX10_hearsTimeout_87 (by decide) (fun c12 => ?_) (fun c12 => ?_)
    · have h := ev_ifF h c12
      cases h
      exact er_v dX10_hearsTimeout_96 rfl
    · have h := ev_ifT h c12
      refine ev_aload_n dX10_hearsTimeout_90 rfl (fun _ e => by cases e) ?_
      refine ev_iload_n dX10_hearsTimeout_91 rfl ?_
      refine ev_iload_n dX10_hearsTimeout_92 rfl ?_
      obtain ⟨z13, hz13, h⟩ := ev_bnE h
      refine ec_Vv (Y := mX10_proves) (ci := 9) (As := [.int x1, .int x3]) (rest := []) dX10_hearsTimeout_93 kX10_137 oX10_proves ⟨Nat.le_of_ble_eq_true rfl, Nat.le_of_ble_eq_true rfl⟩ (by decide) rfl (shp_n g0 0 rfl) (shp_t g0 0 rfl) rfl (Nat.le_of_ble_eq_true rfl) (tX10_proves n q0 g0 x1 x3 I8 z13 hz13) rfl ?_
      cases h
      exact er_v dX10_hearsTimeout_96 rfl
  · have h := ev_ifF h c5
    cases h
    exact er_v dX10_hearsTimeout_35 rfl
-- ChainVotesModel isDelivered()V
def cX10_isDelivered_80 (q0 : Nat) (n : Nat) (y1 : Int32) (I : ev_I) : Option (ev_I) :=
  if (I (q0 + 3) (2 : Int32).toNatClampNeg) = (3 : Int32) then
    (pX10_hearsTimeout n q0 y1 (I (q0 + 3) (0 : Int32).toNatClampNeg) (I (q0 + 3) (3 : Int32).toNatClampNeg) ((I (q0 + 3) (4 : Int32).toNatClampNeg) - (1 : Int32)) I).bind fun z2 =>
    some z2
  else
    some I
def cX10_isDelivered_53 (q0 : Nat) (n : Nat) (y1 : Int32) (I : ev_I) : Option (ev_I) :=
  if (I (q0 + 3) (2 : Int32).toNatClampNeg) = (2 : Int32) then
    (pX10_hearsMark n q0 y1 (I (q0 + 3) (0 : Int32).toNatClampNeg) (I (q0 + 3) (3 : Int32).toNatClampNeg) I).bind fun z4 =>
    cX10_isDelivered_80 q0 n y1 z4
  else
    cX10_isDelivered_80 q0 n y1 I
def pX10_isDelivered (n : Nat) (q0 : Nat) (I : ev_I) : Option (ev_I) :=
  ev_lt (ev_u2 I (q0 + 1) (6 : Int32).toNatClampNeg ((I (q0 + 1) (6 : Int32).toNatClampNeg) + (1 : Int32))) fun I5 =>
  ev_lt (I5 (q0 + 3) (1 : Int32).toNatClampNeg) fun v6 =>
  (pX10_isSilent n q0 v6 I5).bind fun z7 =>
  if z7 = 0 then
    if (I5 (q0 + 3) (2 : Int32).toNatClampNeg) = (1 : Int32) then
      (pX10_hearsBlock n q0 v6 (I5 (q0 + 3) (3 : Int32).toNatClampNeg) I5).bind fun z10 =>
      cX10_isDelivered_53 q0 n v6 z10
    else
      cX10_isDelivered_53 q0 n v6 I5
  else
    some I5
set_option maxRecDepth 100000 in
set_option maxHeartbeats 4000000 in
theorem tX10_isDelivered_80 {E : ev_N} {σ : ev_H} (q0 : Nat) (g0 : shp tb9 σ q0) (n : Nat) (y1 : Int32) (I : ev_I) (o : ev_I) : cX10_isDelivered_80 q0 n y1 I = some o → EV E mX10_isDelivered 80 [some (.ref q0), some (.int y1)] [] (h_w σ I) (Option.none, h_w σ o) := by
  intro h
  unfold cX10_isDelivered_80 at h
  refine ev_aload_n dX10_isDelivered_80 rfl (fun _ e => by cases e) ?_
  refine ew_getr0 dX10_isDelivered_81 fX10_16 g0 rfl rfl rfl rfl ?_
  refine ev_iconst (v := (2 : Int32)) dX10_isDelivered_84 (by decide) ?_
  refine ew_iald dX10_isDelivered_85 (shp_a g0 3 rfl) (by decide) ?_
  refine ev_iconst (v := (3 : Int32)) dX10_isDelivered_86 (by decide) ?_
  refine ev_icmp_ne (tgt := 115) dX10_isDelivered_87 (by decide) (fun c1 => ?_) (fun c1 => ?_)
  · have h := ev_ifF h c1
    cases h
    exact er_v dX10_isDelivered_115 rfl
  · have h := ev_ifT h c1
    refine ev_aload_n dX10_isDelivered_90 rfl (fun _ e => by cases e) ?_
    refine ev_iload_n dX10_isDelivered_91 rfl ?_
    refine ev_aload_n dX10_isDelivered_92 rfl (fun _ e => by cases e) ?_
    refine ew_getr0 dX10_isDelivered_93 fX10_16 g0 rfl rfl rfl rfl ?_
    refine ev_iconst (v := (0 : Int32)) dX10_isDelivered_96 (by decide) ?_
    refine ew_iald dX10_isDelivered_97 (shp_a g0 3 rfl) (by decide) ?_
    refine ev_aload_n dX10_isDelivered_98 rfl (fun _ e => by cases e) ?_
    refine ew_getr0 dX10_isDelivered_99 fX10_16 g0 rfl rfl rfl rfl ?_
    refine ev_iconst (v := (3 : Int32)) dX10_isDelivered_102 (by decide) ?_
    refine ew_iald dX10_isDelivered_103 (shp_a g0 3 rfl) (by decide) ?_
    refine ev_aload_n dX10_isDelivered_104 rfl (fun _ e => by cases e) ?_
    refine ew_getr0 dX10_isDelivered_105 fX10_16 g0 rfl rfl rfl rfl ?_
    refine ev_iconst (v := (4 : Int32)) dX10_isDelivered_108 (by decide) ?_
    refine ew_iald dX10_isDelivered_109 (shp_a g0 3 rfl) (by decide) ?_
    refine ev_iconst (v := (1 : Int32)) dX10_isDelivered_110 (by decide) ?_
    refine ev_isub dX10_isDelivered_111 ?_
    obtain ⟨z2, hz2, h⟩ := ev_bnE h
    refine ec_Vv (Y := mX10_hearsTimeout) (ci := 9) (As := [.int y1, .int (I (q0 + 3) (0 : Int32).toNatClampNeg), .int (I (q0 + 3) (3 : Int32).toNatClampNeg), .int ((I (q0 + 3) (4 : Int32).toNatClampNeg) - (1 : Int32))]) (rest := []) dX10_isDelivered_112 kX10_149 oX10_hearsTimeout ⟨Nat.le_of_ble_eq_true rfl, Nat.le_of_ble_eq_true rfl⟩ (by decide) rfl (shp_n g0 0 rfl) (shp_t g0 0 rfl) rfl (Nat.le_of_ble_eq_true rfl) (tX10_hearsTimeout n q0 g0 y1 (I (q0 + 3) (0 : Int32).toNatClampNeg) (I (q0 + 3) (3 : Int32).toNatClampNeg) ((I (q0 + 3) (4 : Int32).toNatClampNeg) - (1 : Int32)) I z2 hz2) rfl ?_
    cases h
    exact er_v dX10_isDelivered_115 rfl
set_option maxRecDepth 100000 in
set_option maxHeartbeats 4000000 in
theorem tX10_isDelivered_53 {E : ev_N} {σ : ev_H} (q0 : Nat) (g0 : shp tb9 σ q0) (n : Nat) (y1 : Int32) (I : ev_I) (o : ev_I) : cX10_isDelivered_53 q0 n y1 I = some o → EV E mX10_isDelivered 53 [some (.ref q0), some (.int y1)] [] (h_w σ I) (Option.none, h_w σ o) := by
  intro h
  unfold cX10_isDelivered_53 at h
  refine ev_aload_n dX10_isDelivered_53 rfl (fun _ e => by cases e) ?_
  refine ew_getr0 dX10_isDelivered_54 fX10_16 g0 rfl rfl rfl rfl ?_
  refine ev_iconst (v := (2 : Int32)) dX10_isDelivered_57 (by decide) ?_
  refine ew_iald dX10_isDelivered_58 (shp_a g0 3 rfl) (by decide) ?_
  refine ev_iconst (v := (2 : Int32)) dX10_isDelivered_59 (by decide) ?_
  refine ev_icmp_ne (tgt := 80) dX10_isDelivered_60 (by decide) (fun c3 => ?_) (fun c3 => ?_)
  · have h := ev_ifF h c3
    exact ev_weak (sb_s (sb_s sb_0)) (tX10_isDelivered_80 q0 g0 n y1 I _ h)
  · have h := ev_ifT h c3
    refine ev_aload_n dX10_isDelivered_63 rfl (fun _ e => by cases e) ?_
    refine ev_iload_n dX10_isDelivered_64 rfl ?_
    refine ev_aload_n dX10_isDelivered_65 rfl (fun _ e => by cases e) ?_
    refine ew_getr0 dX10_isDelivered_66 fX10_16 g0 rfl rfl rfl rfl ?_
    refine ev_iconst (v := (0 : Int32)) dX10_isDelivered_69 (by decide) ?_
    refine ew_iald dX10_isDelivered_70 (shp_a g0 3 rfl) (by decide) ?_
    refine ev_aload_n dX10_isDelivered_71 rfl (fun _ e => by cases e) ?_
    refine ew_getr0 dX10_isDelivered_72 fX10_16 g0 rfl rfl rfl rfl ?_
    refine ev_iconst (v := (3 : Int32)) dX10_isDelivered_75 (by decide) ?_
    refine ew_iald dX10_isDelivered_76 (shp_a g0 3 rfl) (by decide) ?_
    obtain ⟨z4, hz4, h⟩ := ev_bnE h
    refine ec_Vv (Y := mX10_hearsMark) (ci := 9) (As := [.int y1, .int (I (q0 + 3) (0 : Int32).toNatClampNeg), .int (I (q0 + 3) (3 : Int32).toNatClampNeg)]) (rest := []) dX10_isDelivered_77 kX10_146 oX10_hearsMark ⟨Nat.le_of_ble_eq_true rfl, Nat.le_of_ble_eq_true rfl⟩ (by decide) rfl (shp_n g0 0 rfl) (shp_t g0 0 rfl) rfl (Nat.le_of_ble_eq_true rfl) (tX10_hearsMark n q0 g0 y1 (I (q0 + 3) (0 : Int32).toNatClampNeg) (I (q0 + 3) (3 : Int32).toNatClampNeg) I z4 hz4) rfl ?_
    exact ev_weak (sb_s (sb_s sb_0)) (tX10_isDelivered_80 q0 g0 n y1 z4 _ h)
set_option maxRecDepth 100000 in
set_option maxHeartbeats 4000000 in
theorem tX10_isDelivered {E : ev_N} {σ : ev_H} (n : Nat) (q0 : Nat) (g0 : shp tb9 σ q0) (I : ev_I) (o : ev_I) (h : pX10_isDelivered n q0  I = some o) : ev_T E mX10_isDelivered [.ref q0] (h_w σ I) (Option.none, h_w σ o) := by
  unfold pX10_isDelivered at h
  refine ev_met rfl rfl (Nat.le_of_ble_eq_true rfl) (ev_L0 (L' := [some (.ref q0), none]) rfl ?_)
  refine ev_aload_n dX10_isDelivered_0 rfl (fun _ e => by cases e) ?_
  refine ew_getr0 dX10_isDelivered_1 fX10_7 g0 rfl rfl rfl rfl ?_
  refine ev_bipush (v := (6 : Int32)) dX10_isDelivered_4 (by decide) ?_
  refine ev_aload_n dX10_isDelivered_6 rfl (fun _ e => by cases e) ?_
  refine ew_getr0 dX10_isDelivered_7 fX10_7 g0 rfl rfl rfl rfl ?_
  refine ev_bipush (v := (6 : Int32)) dX10_isDelivered_10 (by decide) ?_
  refine ew_iald dX10_isDelivered_12 (shp_a g0 1 rfl) (by decide) ?_
  refine ev_iconst (v := (1 : Int32)) dX10_isDelivered_13 (by decide) ?_
  refine ev_iadd dX10_isDelivered_14 ?_
  obtain ⟨I5, eI5, h⟩ := ev_ltE h
  refine ew_iast dX10_isDelivered_15 (shp_a g0 1 rfl) (by decide) (ew_nh eI5 ?_)
  refine ev_aload_n dX10_isDelivered_16 rfl (fun _ e => by cases e) ?_
  refine ew_getr0 dX10_isDelivered_17 fX10_16 g0 rfl rfl rfl rfl ?_
  refine ev_iconst (v := (1 : Int32)) dX10_isDelivered_20 (by decide) ?_
  refine ew_iald dX10_isDelivered_21 (shp_a g0 3 rfl) (by decide) ?_
  obtain ⟨v6, ev6, h⟩ := ev_ltE h
  refine ew_nm ev6 ?_
  refine ew_istn (L' := [some (.ref q0), some (.int v6)]) dX10_isDelivered_22 (Nat.le_of_ble_eq_true rfl) rfl ?_
  refine ev_aload_n dX10_isDelivered_23 rfl (fun _ e => by cases e) ?_
  refine ev_iload_n dX10_isDelivered_24 rfl ?_
  obtain ⟨z7, hz7, h⟩ := ev_bnE h
  refine ec_Vi (Y := mX10_isSilent) (ci := 9) (As := [.int v6]) (rest := []) dX10_isDelivered_25 kX10_140 oX10_isSilent ⟨Nat.le_of_ble_eq_true rfl, Nat.le_of_ble_eq_true rfl⟩ (by decide) rfl (shp_n g0 0 rfl) (shp_t g0 0 rfl) rfl (Nat.le_of_ble_eq_true rfl) (tX10_isSilent n q0 g0 v6 I5 z7 hz7) rfl ?_
  refine ev_if_eq (tgt := 32) dX10_isDelivered_28 (by decide) (fun c8 => ?_) (fun c8 => ?_)
  · have h := ev_ifT h c8
    refine ev_aload_n dX10_isDelivered_32 rfl (fun _ e => by cases e) ?_
    refine ew_getr0 dX10_isDelivered_33 fX10_16 g0 rfl rfl rfl rfl ?_
    refine ev_iconst (v := (2 : Int32)) dX10_isDelivered_36 (by decide) ?_
    refine ew_iald dX10_isDelivered_37 (shp_a g0 3 rfl) (by decide) ?_
    refine ev_iconst (v := (1 : Int32)) dX10_isDelivered_38 (by decide) ?_
    refine ev_icmp_ne (tgt := 53) dX10_isDelivered_39 (by decide) (fun c9 => ?_) (fun c9 => ?_)
    · have h := ev_ifF h c9
      exact ev_weak (sb_s (sb_s sb_0)) (tX10_isDelivered_53 q0 g0 n v6 I5 _ h)
    · have h := ev_ifT h c9
      refine ev_aload_n dX10_isDelivered_42 rfl (fun _ e => by cases e) ?_
      refine ev_iload_n dX10_isDelivered_43 rfl ?_
      refine ev_aload_n dX10_isDelivered_44 rfl (fun _ e => by cases e) ?_
      refine ew_getr0 dX10_isDelivered_45 fX10_16 g0 rfl rfl rfl rfl ?_
      refine ev_iconst (v := (3 : Int32)) dX10_isDelivered_48 (by decide) ?_
      refine ew_iald dX10_isDelivered_49 (shp_a g0 3 rfl) (by decide) ?_
      obtain ⟨z10, hz10, h⟩ := ev_bnE h
      refine ec_Vv (Y := mX10_hearsBlock) (ci := 9) (As := [.int v6, .int (I5 (q0 + 3) (3 : Int32).toNatClampNeg)]) (rest := []) dX10_isDelivered_50 kX10_143 oX10_hearsBlock ⟨Nat.le_of_ble_eq_true rfl, Nat.le_of_ble_eq_true rfl⟩ (by decide) rfl (shp_n g0 0 rfl) (shp_t g0 0 rfl) rfl (Nat.le_of_ble_eq_true rfl) (tX10_hearsBlock n q0 g0 v6 (I5 (q0 + 3) (3 : Int32).toNatClampNeg) I5 z10 hz10) rfl ?_
      exact ev_weak (sb_s (sb_s sb_0)) (tX10_isDelivered_53 q0 g0 n v6 z10 _ h)
  · have h := ev_ifF h c8
    cases h
    exact er_v dX10_isDelivered_31 rfl
-- ChainVotesModel deliver(I)I
def pX10_deliver (n : Nat) (q0 : Nat) (x1 : Int32) (I : ev_I) : Option (Int32 × ev_I) :=
  ev_lt (ev_u2 I q0 0 (0 : Int32)) fun I1 =>
  (pX10_isMessage n q0 x1 I1).bind fun z2 =>
  if z2 = 0 then
    some ((-1 : Int32), I1)
  else
    ev_ck (ev_in (((816 : Int32) + ((5 : Int32) * x1)) + (2 : Int32)) 6010) <|
    ev_lt (I1 (q0 + 1) (((816 : Int32) + ((5 : Int32) * x1)) + (2 : Int32)).toNatClampNeg) fun v5 =>
    (pX10_takesOut n q0 x1 I1).bind fun z6 =>
    (pX10_isDelivered n q0  z6).bind fun z7 =>
    some (v5, z7)
set_option maxRecDepth 100000 in
set_option maxHeartbeats 4000000 in
theorem tX10_deliver {E : ev_N} {σ : ev_H} (n : Nat) (q0 : Nat) (g0 : shp tb9 σ q0) (x1 : Int32) (I : ev_I) (o : Int32 × ev_I) (h : pX10_deliver n q0 x1 I = some o) : ev_T E mX10_deliver [.ref q0, .int x1] (h_w σ I) (Option.some (Value.int o.1), h_w σ o.2) := by
  unfold pX10_deliver at h
  refine ev_met rfl rfl (Nat.le_of_ble_eq_true rfl) (ev_L0 (L' := [some (.ref q0), some (.int x1), none]) rfl ?_)
  refine ev_aload_n dX10_deliver_0 rfl (fun _ e => by cases e) ?_
  refine ev_iconst (v := (0 : Int32)) dX10_deliver_1 (by decide) ?_
  obtain ⟨I1, eI1, h⟩ := ev_ltE h
  refine ew_put0 dX10_deliver_2 fX10_44 g0 rfl rfl rfl rfl rfl rfl (ew_nh eI1 ?_)
  refine ev_aload_n dX10_deliver_5 rfl (fun _ e => by cases e) ?_
  refine ev_iload_n dX10_deliver_6 rfl ?_
  obtain ⟨z2, hz2, h⟩ := ev_bnE h
  refine ec_Vi (Y := mX10_isMessage) (ci := 9) (As := [.int x1]) (rest := []) dX10_deliver_7 kX10_153 oX10_isMessage ⟨Nat.le_of_ble_eq_true rfl, Nat.le_of_ble_eq_true rfl⟩ (by decide) rfl (shp_n g0 0 rfl) (shp_t g0 0 rfl) rfl (Nat.le_of_ble_eq_true rfl) (tX10_isMessage n q0 g0 x1 I1 z2 hz2) rfl ?_
  refine ev_if_ne (tgt := 15) dX10_deliver_10 (by decide) (fun c3 => ?_) (fun c3 => ?_)
  · have h := ev_ifF h c3
    refine ev_aload_n dX10_deliver_15 rfl (fun _ e => by cases e) ?_
    refine ew_getr0 dX10_deliver_16 fX10_7 g0 rfl rfl rfl rfl ?_
    refine ev_sipush (v := (816 : Int32)) dX10_deliver_19 (by decide) ?_
    refine ev_iconst (v := (5 : Int32)) dX10_deliver_22 (by decide) ?_
    refine ev_iload_n dX10_deliver_23 rfl ?_
    refine ev_imul dX10_deliver_24 ?_
    refine ev_iadd dX10_deliver_25 ?_
    refine ev_iconst (v := (2 : Int32)) dX10_deliver_26 (by decide) ?_
    refine ev_iadd dX10_deliver_27 ?_
    obtain ⟨c4, h⟩ := ev_ckE h
    refine ew_iald dX10_deliver_28 (shp_a g0 1 rfl) c4 ?_
    obtain ⟨v5, ev5, h⟩ := ev_ltE h
    refine ew_nm ev5 ?_
    refine ew_istn (L' := [some (.ref q0), some (.int x1), some (.int v5)]) dX10_deliver_29 (Nat.le_of_ble_eq_true rfl) rfl ?_
    refine ev_aload_n dX10_deliver_30 rfl (fun _ e => by cases e) ?_
    refine ev_iload_n dX10_deliver_31 rfl ?_
    obtain ⟨z6, hz6, h⟩ := ev_bnE h
    refine ec_Vv (Y := mX10_takesOut) (ci := 9) (As := [.int x1]) (rest := []) dX10_deliver_32 kX10_156 oX10_takesOut ⟨Nat.le_of_ble_eq_true rfl, Nat.le_of_ble_eq_true rfl⟩ (by decide) rfl (shp_n g0 0 rfl) (shp_t g0 0 rfl) rfl (Nat.le_of_ble_eq_true rfl) (tX10_takesOut n q0 g0 x1 I1 z6 hz6) rfl ?_
    refine ev_aload_n dX10_deliver_35 rfl (fun _ e => by cases e) ?_
    obtain ⟨z7, hz7, h⟩ := ev_bnE h
    refine ec_Vv (Y := mX10_isDelivered) (ci := 9) (As := []) (rest := []) dX10_deliver_36 kX10_160 oX10_isDelivered ⟨Nat.le_of_ble_eq_true rfl, Nat.le_of_ble_eq_true rfl⟩ (by decide) rfl (shp_n g0 0 rfl) (shp_t g0 0 rfl) rfl (Nat.le_of_ble_eq_true rfl) (tX10_isDelivered n q0 g0  z6 z7 hz7) rfl ?_
    refine ev_iload_n dX10_deliver_39 rfl ?_
    cases h
    exact er_i dX10_deliver_40 rfl rfl
  · have h := ev_ifT h c3
    refine ev_iconst (v := (-1 : Int32)) dX10_deliver_13 (by decide) ?_
    cases h
    exact er_i dX10_deliver_14 rfl rfl
-- ChainVotesModel drop(I)I
def pX10_drop (n : Nat) (q0 : Nat) (x1 : Int32) (I : ev_I) : Option (Int32 × ev_I) :=
  ev_lt (ev_u2 I q0 0 (0 : Int32)) fun I1 =>
  (pX10_isMessage n q0 x1 I1).bind fun z2 =>
  if z2 = 0 then
    some ((-1 : Int32), I1)
  else
    (pX10_takesOut n q0 x1 I1).bind fun z4 =>
    some ((z4 (q0 + 3) (2 : Int32).toNatClampNeg), z4)
set_option maxRecDepth 100000 in
set_option maxHeartbeats 4000000 in
theorem tX10_drop {E : ev_N} {σ : ev_H} (n : Nat) (q0 : Nat) (g0 : shp tb9 σ q0) (x1 : Int32) (I : ev_I) (o : Int32 × ev_I) (h : pX10_drop n q0 x1 I = some o) : ev_T E mX10_drop [.ref q0, .int x1] (h_w σ I) (Option.some (Value.int o.1), h_w σ o.2) := by
  unfold pX10_drop at h
  refine ev_met rfl rfl (Nat.le_of_ble_eq_true rfl) (ev_L0 (L' := [some (.ref q0), some (.int x1)]) rfl ?_)
  refine ev_aload_n dX10_drop_0 rfl (fun _ e => by cases e) ?_
  refine ev_iconst (v := (0 : Int32)) dX10_drop_1 (by decide) ?_
  obtain ⟨I1, eI1, h⟩ := ev_ltE h
  refine ew_put0 dX10_drop_2 fX10_44 g0 rfl rfl rfl rfl rfl rfl (ew_nh eI1 ?_)
  refine ev_aload_n dX10_drop_5 rfl (fun _ e => by cases e) ?_
  refine ev_iload_n dX10_drop_6 rfl ?_
  obtain ⟨z2, hz2, h⟩ := ev_bnE h
  refine ec_Vi (Y := mX10_isMessage) (ci := 9) (As := [.int x1]) (rest := []) dX10_drop_7 kX10_153 oX10_isMessage ⟨Nat.le_of_ble_eq_true rfl, Nat.le_of_ble_eq_true rfl⟩ (by decide) rfl (shp_n g0 0 rfl) (shp_t g0 0 rfl) rfl (Nat.le_of_ble_eq_true rfl) (tX10_isMessage n q0 g0 x1 I1 z2 hz2) rfl ?_
  refine ev_if_ne (tgt := 15) dX10_drop_10 (by decide) (fun c3 => ?_) (fun c3 => ?_)
  · have h := ev_ifF h c3
    refine ev_aload_n dX10_drop_15 rfl (fun _ e => by cases e) ?_
    refine ev_iload_n dX10_drop_16 rfl ?_
    obtain ⟨z4, hz4, h⟩ := ev_bnE h
    refine ec_Vv (Y := mX10_takesOut) (ci := 9) (As := [.int x1]) (rest := []) dX10_drop_17 kX10_156 oX10_takesOut ⟨Nat.le_of_ble_eq_true rfl, Nat.le_of_ble_eq_true rfl⟩ (by decide) rfl (shp_n g0 0 rfl) (shp_t g0 0 rfl) rfl (Nat.le_of_ble_eq_true rfl) (tX10_takesOut n q0 g0 x1 I1 z4 hz4) rfl ?_
    refine ev_aload_n dX10_drop_20 rfl (fun _ e => by cases e) ?_
    refine ew_getr0 dX10_drop_21 fX10_16 g0 rfl rfl rfl rfl ?_
    refine ev_iconst (v := (2 : Int32)) dX10_drop_24 (by decide) ?_
    refine ew_iald dX10_drop_25 (shp_a g0 3 rfl) (by decide) ?_
    cases h
    exact er_i dX10_drop_26 rfl rfl
  · have h := ev_ifT h c3
    refine ev_iconst (v := (-1 : Int32)) dX10_drop_13 (by decide) ?_
    cases h
    exact er_i dX10_drop_14 rfl rfl
-- ChainVotesModel lose(I)I
def cX10_lose_60 (q0 : Nat) (K26 : Int32 → Int32 → Int32 → ev_I → Option (Int32 × ev_I)) (n : Nat) (y1 : Int32) (y2 : Int32) (y3 : Int32) (I : ev_I) : Option (Int32 × ev_I) :=
  ev_lt (y3 + (-1 : Int32)) fun v1 =>
  K26 y1 y2 v1 I
def cX10_lose_26 (q0 : Nat) (K26 : Int32 → Int32 → Int32 → ev_I → Option (Int32 × ev_I)) (n : Nat) (y1 : Int32) (y2 : Int32) (y3 : Int32) (I : ev_I) : Option (Int32 × ev_I) :=
  if y3 < 0 then
    some (y2, I)
  else
    ev_ck (ev_in (((816 : Int32) + ((5 : Int32) * y3)) + (1 : Int32)) 6010) <|
    if (I (q0 + 1) (((816 : Int32) + ((5 : Int32) * y3)) + (1 : Int32)).toNatClampNeg) = y1 then
      (pX10_takesOut n q0 y3 I).bind fun z5 =>
      ev_lt (y2 + (1 : Int32)) fun v6 =>
      cX10_lose_60 q0 K26 n y1 v6 y3 z5
    else
      cX10_lose_60 q0 K26 n y1 y2 y3 I
def lX10_lose_26 (q0 : Nat) : Nat → Int32 → Int32 → Int32 → ev_I → Option (Int32 × ev_I)
  | 0, _, _, _, _ => none
  | n + 1, y1, y2, y3, I => cX10_lose_26 q0 (lX10_lose_26 q0 n) n y1 y2 y3 I
def pX10_lose (n : Nat) (q0 : Nat) (x1 : Int32) (I : ev_I) : Option (Int32 × ev_I) :=
  ev_lt (ev_u2 I q0 0 (0 : Int32)) fun I7 =>
  (pX10_isNode n q0 x1 I7).bind fun z8 =>
  if z8 = 0 then
    some ((-1 : Int32), I7)
  else
    ev_lt ((I7 (q0 + 1) (4 : Int32).toNatClampNeg) - (1 : Int32)) fun v10 =>
    lX10_lose_26 q0 n x1 (0 : Int32) v10 I7
set_option maxRecDepth 100000 in
set_option maxHeartbeats 4000000 in
theorem tX10_lose_60 {E : ev_N} {σ : ev_H} (q0 : Nat) (g0 : shp tb9 σ q0) (K26 : Int32 → Int32 → Int32 → ev_I → Option (Int32 × ev_I)) (k26 : ∀ (y1 : Int32) (y2 : Int32) (y3 : Int32) (I : ev_I) (o : Int32 × ev_I), K26 y1 y2 y3 I = some o → EV E mX10_lose 26 [some (.ref q0), some (.int y1), some (.int y2), some (.int y3)] [] (h_w σ I) (Option.some (Value.int o.1), h_w σ o.2)) (n : Nat) (y1 : Int32) (y2 : Int32) (y3 : Int32) (I : ev_I) (o : Int32 × ev_I) : cX10_lose_60 q0 K26 n y1 y2 y3 I = some o → EV E mX10_lose 60 [some (.ref q0), some (.int y1), some (.int y2), some (.int y3)] [] (h_w σ I) (Option.some (Value.int o.1), h_w σ o.2) := by
  intro h
  unfold cX10_lose_60 at h
  obtain ⟨v1, ev1, h⟩ := ev_ltE h
  refine ew_iinc (L' := [some (.ref q0), some (.int y1), some (.int y2), some (.int v1)]) dX10_lose_60 (Nat.le_of_ble_eq_true rfl) rfl (by decide) ev1 rfl ?_
  refine ev_goto (tgt := 26) dX10_lose_63 (by decide) ?_
  exact ev_weak (sb_s (sb_s (sb_s (sb_s sb_0)))) (k26 y1 y2 v1 I _ h)
set_option maxRecDepth 100000 in
set_option maxHeartbeats 4000000 in
theorem tX10_lose_26 {E : ev_N} {σ : ev_H} (q0 : Nat) (g0 : shp tb9 σ q0) (K26 : Int32 → Int32 → Int32 → ev_I → Option (Int32 × ev_I)) (k26 : ∀ (y1 : Int32) (y2 : Int32) (y3 : Int32) (I : ev_I) (o : Int32 × ev_I), K26 y1 y2 y3 I = some o → EV E mX10_lose 26 [some (.ref q0), some (.int y1), some (.int y2), some (.int y3)] [] (h_w σ I) (Option.some (Value.int o.1), h_w σ o.2)) (n : Nat) (y1 : Int32) (y2 : Int32) (y3 : Int32) (I : ev_I) (o : Int32 × ev_I) : cX10_lose_26 q0 K26 n y1 y2 y3 I = some o → EV E mX10_lose 26 [some (.ref q0), some (.int y1), some (.int y2), some (.int y3)] [] (h_w σ I) (Option.some (Value.int o.1), h_w σ o.2) := by
  intro h
  unfold cX10_lose_26 at h
  refine ev_iload_n dX10_lose_26 rfl ?_
  refine ev_if_lt (tgt := 66) dX10_lose_27 (by decide) (fun c2 => ?_) (fun c2 => ?_)
  · have h := ev_ifT h c2
    refine ev_iload_n dX10_lose_66 rfl ?_
    cases h
    exact er_i dX10_lose_67 rfl rfl
  · have h := ev_ifF h c2
    refine ev_aload_n dX10_lose_30 rfl (fun _ e => by cases e) ?_
    refine ew_getr0 dX10_lose_31 fX10_7 g0 rfl rfl rfl rfl ?_
    refine ev_sipush (v := (816 : Int32)) dX10_lose_34 (by decide) ?_
    refine ev_iconst (v := (5 : Int32)) dX10_lose_37 (by decide) ?_
    refine ev_iload_n dX10_lose_38 rfl ?_
    refine ev_imul dX10_lose_39 ?_
    refine ev_iadd dX10_lose_40 ?_
    refine ev_iconst (v := (1 : Int32)) dX10_lose_41 (by decide) ?_
    refine ev_iadd dX10_lose_42 ?_
    obtain ⟨c3, h⟩ := ev_ckE h
    refine ew_iald dX10_lose_43 (shp_a g0 1 rfl) c3 ?_
    refine ev_iload_n dX10_lose_44 rfl ?_
    refine ev_icmp_eq (tgt := 51) dX10_lose_45 (by decide) (fun c4 => ?_) (fun c4 => ?_)
    · have h := ev_ifT h c4
      refine ev_aload_n dX10_lose_51 rfl (fun _ e => by cases e) ?_
      refine ev_iload_n dX10_lose_52 rfl ?_
      obtain ⟨z5, hz5, h⟩ := ev_bnE h
      refine ec_Vv (Y := mX10_takesOut) (ci := 9) (As := [.int y3]) (rest := []) dX10_lose_53 kX10_156 oX10_takesOut ⟨Nat.le_of_ble_eq_true rfl, Nat.le_of_ble_eq_true rfl⟩ (by decide) rfl (shp_n g0 0 rfl) (shp_t g0 0 rfl) rfl (Nat.le_of_ble_eq_true rfl) (tX10_takesOut n q0 g0 y3 I z5 hz5) rfl ?_
      refine ev_iload_n dX10_lose_56 rfl ?_
      refine ev_iconst (v := (1 : Int32)) dX10_lose_57 (by decide) ?_
      refine ev_iadd dX10_lose_58 ?_
      obtain ⟨v6, ev6, h⟩ := ev_ltE h
      refine ew_nm ev6 ?_
      refine ew_istn (L' := [some (.ref q0), some (.int y1), some (.int v6), some (.int y3)]) dX10_lose_59 (Nat.le_of_ble_eq_true rfl) rfl ?_
      exact ev_weak (sb_s (sb_s (sb_s (sb_s sb_0)))) (tX10_lose_60 q0 g0 K26 k26 n y1 v6 y3 z5 _ h)
    · have h := ev_ifF h c4
      refine ev_goto (tgt := 60) dX10_lose_48 (by decide) ?_
      exact ev_weak (sb_s (sb_s (sb_s (sb_s sb_0)))) (tX10_lose_60 q0 g0 K26 k26 n y1 y2 y3 I _ h)
theorem tlX10_lose_26 {E : ev_N} {σ : ev_H} (q0 : Nat) (g0 : shp tb9 σ q0) : ∀ (n : Nat) (y1 : Int32) (y2 : Int32) (y3 : Int32) (I : ev_I) (o : Int32 × ev_I), lX10_lose_26 q0 n y1 y2 y3 I = some o → EV E mX10_lose 26 [some (.ref q0), some (.int y1), some (.int y2), some (.int y3)] [] (h_w σ I) (Option.some (Value.int o.1), h_w σ o.2)
  | 0, _, _, _, _, _, h => by cases h
  | n + 1, y1, y2, y3, I, o, h => tX10_lose_26 q0 g0 (lX10_lose_26 q0 n) (tlX10_lose_26 q0 g0 n) n y1 y2 y3 I o h
set_option maxRecDepth 100000 in
set_option maxHeartbeats 4000000 in
theorem tX10_lose {E : ev_N} {σ : ev_H} (n : Nat) (q0 : Nat) (g0 : shp tb9 σ q0) (x1 : Int32) (I : ev_I) (o : Int32 × ev_I) (h : pX10_lose n q0 x1 I = some o) : ev_T E mX10_lose [.ref q0, .int x1] (h_w σ I) (Option.some (Value.int o.1), h_w σ o.2) := by
  unfold pX10_lose at h
  refine ev_met rfl rfl (Nat.le_of_ble_eq_true rfl) (ev_L0 (L' := [some (.ref q0), some (.int x1), none, none]) rfl ?_)
  refine ev_aload_n dX10_lose_0 rfl (fun _ e => by cases e) ?_
  refine ev_iconst (v := (0 : Int32)) dX10_lose_1 (by decide) ?_
  obtain ⟨I7, eI7, h⟩ := ev_ltE h
  refine ew_put0 dX10_lose_2 fX10_44 g0 rfl rfl rfl rfl rfl rfl (ew_nh eI7 ?_)
  refine ev_aload_n dX10_lose_5 rfl (fun _ e => by cases e) ?_
  refine ev_iload_n dX10_lose_6 rfl ?_
  obtain ⟨z8, hz8, h⟩ := ev_bnE h
  refine ec_Vi (Y := mX10_isNode) (ci := 9) (As := [.int x1]) (rest := []) dX10_lose_7 kX10_71 oX10_isNode ⟨Nat.le_of_ble_eq_true rfl, Nat.le_of_ble_eq_true rfl⟩ (by decide) rfl (shp_n g0 0 rfl) (shp_t g0 0 rfl) rfl (Nat.le_of_ble_eq_true rfl) (tX10_isNode n q0 g0 x1 I7 z8 hz8) rfl ?_
  refine ev_if_ne (tgt := 15) dX10_lose_10 (by decide) (fun c9 => ?_) (fun c9 => ?_)
  · have h := ev_ifF h c9
    refine ev_iconst (v := (0 : Int32)) dX10_lose_15 (by decide) ?_
    refine ew_istn (L' := [some (.ref q0), some (.int x1), some (.int (0 : Int32)), none]) dX10_lose_16 (Nat.le_of_ble_eq_true rfl) rfl ?_
    refine ev_aload_n dX10_lose_17 rfl (fun _ e => by cases e) ?_
    refine ew_getr0 dX10_lose_18 fX10_7 g0 rfl rfl rfl rfl ?_
    refine ev_iconst (v := (4 : Int32)) dX10_lose_21 (by decide) ?_
    refine ew_iald dX10_lose_22 (shp_a g0 1 rfl) (by decide) ?_
    refine ev_iconst (v := (1 : Int32)) dX10_lose_23 (by decide) ?_
    refine ev_isub dX10_lose_24 ?_
    obtain ⟨v10, ev10, h⟩ := ev_ltE h
    refine ew_nm ev10 ?_
    refine ew_istn (L' := [some (.ref q0), some (.int x1), some (.int (0 : Int32)), some (.int v10)]) dX10_lose_25 (Nat.le_of_ble_eq_true rfl) rfl ?_
    exact ev_weak (sb_s (sb_s (sb_s (sb_s sb_0)))) (tlX10_lose_26 q0 g0 n x1 (0 : Int32) v10 I7 _ h)
  · have h := ev_ifT h c9
    refine ev_iconst (v := (-1 : Int32)) dX10_lose_13 (by decide) ?_
    cases h
    exact er_i dX10_lose_14 rfl rfl
-- ChainVotesModel turn(I)Z
def cX10_turn_69 (q0 : Nat) (K33 : Int32 → Int32 → Int32 → ev_I → Option (Int32 × ev_I)) (K69 : Int32 → Int32 → Int32 → Int32 → Int32 → ev_I → Option (Int32 × ev_I)) (n : Nat) (y1 : Int32) (y2 : Int32) (y3 : Int32) (y4 : Int32) (y5 : Int32) (I : ev_I) : Option (Int32 × ev_I) :=
  if (5 : Int32) ≤ y5 then
    ev_lt (y3 + (1 : Int32)) fun v2 =>
    K33 y1 y2 v2 I
  else
    ev_ck (ev_in (((816 : Int32) + ((5 : Int32) * y3)) + y5) 6010) <|
    ev_ck (ev_in (((5 : Int32) * y4) + y5) 1000) <|
    ev_lt (ev_u2 I (q0 + 4) (((5 : Int32) * y4) + y5).toNatClampNeg (I (q0 + 1) (((816 : Int32) + ((5 : Int32) * y3)) + y5).toNatClampNeg)) fun I5 =>
    ev_lt (y5 + (1 : Int32)) fun v6 =>
    K69 y1 y2 y3 y4 v6 I5
def lX10_turn_69 (q0 : Nat) (K33 : Int32 → Int32 → Int32 → ev_I → Option (Int32 × ev_I)) : Nat → Int32 → Int32 → Int32 → Int32 → Int32 → ev_I → Option (Int32 × ev_I)
  | 0, _, _, _, _, _, _ => none
  | n + 1, y1, y2, y3, y4, y5, I => cX10_turn_69 q0 K33 (lX10_turn_69 q0 K33 n) n y1 y2 y3 y4 y5 I
def cX10_turn_64 (q0 : Nat) (K33 : Int32 → Int32 → Int32 → ev_I → Option (Int32 × ev_I)) (n : Nat) (y1 : Int32) (y2 : Int32) (y3 : Int32) (s0 : Int32) (I : ev_I) : Option (Int32 × ev_I) :=
  lX10_turn_69 q0 K33 n y1 y2 y3 s0 (0 : Int32) I
def cX10_turn_116 (q0 : Nat) (K116 : Int32 → Int32 → Int32 → ev_I → Option (Int32 × ev_I)) (n : Nat) (y1 : Int32) (y2 : Int32) (y3 : Int32) (I : ev_I) : Option (Int32 × ev_I) :=
  if ((5 : Int32) * (y2 + y1)) ≤ y3 then
    some ((1 : Int32), I)
  else
    ev_ck (ev_in y3 1000) <|
    ev_ck (ev_in ((816 : Int32) + y3) 6010) <|
    ev_lt (ev_u2 I (q0 + 1) ((816 : Int32) + y3).toNatClampNeg (I (q0 + 4) y3.toNatClampNeg)) fun I10 =>
    ev_lt (y3 + (1 : Int32)) fun v11 =>
    K116 y1 y2 v11 I10
def lX10_turn_116 (q0 : Nat) : Nat → Int32 → Int32 → Int32 → ev_I → Option (Int32 × ev_I)
  | 0, _, _, _, _ => none
  | n + 1, y1, y2, y3, I => cX10_turn_116 q0 (lX10_turn_116 q0 n) n y1 y2 y3 I
def cX10_turn_33 (q0 : Nat) (K33 : Int32 → Int32 → Int32 → ev_I → Option (Int32 × ev_I)) (n : Nat) (y1 : Int32) (y2 : Int32) (y3 : Int32) (I : ev_I) : Option (Int32 × ev_I) :=
  if (I (q0 + 1) (4 : Int32).toNatClampNeg) ≤ y3 then
    lX10_turn_116 q0 n y1 y2 (0 : Int32) I
  else
    if y1 ≤ y3 then
      cX10_turn_64 q0 K33 n y1 y2 y3 (y3 - y1) I
    else
      cX10_turn_64 q0 K33 n y1 y2 y3 (((I (q0 + 1) (4 : Int32).toNatClampNeg) - (1 : Int32)) - y3) I
def lX10_turn_33 (q0 : Nat) : Nat → Int32 → Int32 → Int32 → ev_I → Option (Int32 × ev_I)
  | 0, _, _, _, _ => none
  | n + 1, y1, y2, y3, I => cX10_turn_33 q0 (lX10_turn_33 q0 n) n y1 y2 y3 I
def pX10_turn (n : Nat) (q0 : Nat) (x1 : Int32) (I : ev_I) : Option (Int32 × ev_I) :=
  ev_lt (ev_u2 I q0 0 (0 : Int32)) fun I14 =>
  (pX10_isIn n q0 x1 (0 : Int32) (I14 (q0 + 1) (4 : Int32).toNatClampNeg) I14).bind fun z15 =>
  if z15 = 0 then
    some ((0 : Int32), I14)
  else
    ev_lt ((I14 (q0 + 1) (4 : Int32).toNatClampNeg) - x1) fun v17 =>
    lX10_turn_33 q0 n x1 v17 (0 : Int32) I14
set_option maxRecDepth 100000 in
set_option maxHeartbeats 4000000 in
theorem tX10_turn_69 {E : ev_N} {σ : ev_H} (q0 : Nat) (g0 : shp tb9 σ q0) (K33 : Int32 → Int32 → Int32 → ev_I → Option (Int32 × ev_I)) (K69 : Int32 → Int32 → Int32 → Int32 → Int32 → ev_I → Option (Int32 × ev_I)) (k33 : ∀ (y1 : Int32) (y2 : Int32) (y3 : Int32) (I : ev_I) (o : Int32 × ev_I), K33 y1 y2 y3 I = some o → EV E mX10_turn 33 [some (.ref q0), some (.int y1), some (.int y2), some (.int y3), none, none] [] (h_w σ I) (Option.some (Value.int o.1), h_w σ o.2)) (k69 : ∀ (y1 : Int32) (y2 : Int32) (y3 : Int32) (y4 : Int32) (y5 : Int32) (I : ev_I) (o : Int32 × ev_I), K69 y1 y2 y3 y4 y5 I = some o → EV E mX10_turn 69 [some (.ref q0), some (.int y1), some (.int y2), some (.int y3), some (.int y4), some (.int y5)] [] (h_w σ I) (Option.some (Value.int o.1), h_w σ o.2)) (n : Nat) (y1 : Int32) (y2 : Int32) (y3 : Int32) (y4 : Int32) (y5 : Int32) (I : ev_I) (o : Int32 × ev_I) : cX10_turn_69 q0 K33 K69 n y1 y2 y3 y4 y5 I = some o → EV E mX10_turn 69 [some (.ref q0), some (.int y1), some (.int y2), some (.int y3), some (.int y4), some (.int y5)] [] (h_w σ I) (Option.some (Value.int o.1), h_w σ o.2) := by
  intro h
  unfold cX10_turn_69 at h
  refine ev_iload dX10_turn_69 rfl ?_
  refine ev_iconst (v := (5 : Int32)) dX10_turn_71 (by decide) ?_
  refine ev_icmp_ge (tgt := 108) dX10_turn_72 (by decide) (fun c1 => ?_) (fun c1 => ?_)
  · have h := ev_ifT h c1
    obtain ⟨v2, ev2, h⟩ := ev_ltE h
    refine ew_iinc (L' := [some (.ref q0), some (.int y1), some (.int y2), some (.int v2), some (.int y4), some (.int y5)]) dX10_turn_108 (Nat.le_of_ble_eq_true rfl) rfl (by decide) ev2 rfl ?_
    refine ev_goto (tgt := 33) dX10_turn_111 (by decide) ?_
    exact ev_weak (sb_s (sb_s (sb_s (sb_s (sb_n (sb_n sb_0)))))) (k33 y1 y2 v2 I _ h)
  · have h := ev_ifF h c1
    refine ev_aload_n dX10_turn_75 rfl (fun _ e => by cases e) ?_
    refine ew_getr0 dX10_turn_76 fX10_19 g0 rfl rfl rfl rfl ?_
    refine ev_iconst (v := (5 : Int32)) dX10_turn_79 (by decide) ?_
    refine ev_iload dX10_turn_80 rfl ?_
    refine ev_imul dX10_turn_82 ?_
    refine ev_iload dX10_turn_83 rfl ?_
    refine ev_iadd dX10_turn_85 ?_
    refine ev_aload_n dX10_turn_86 rfl (fun _ e => by cases e) ?_
    refine ew_getr0 dX10_turn_87 fX10_7 g0 rfl rfl rfl rfl ?_
    refine ev_sipush (v := (816 : Int32)) dX10_turn_90 (by decide) ?_
    refine ev_iconst (v := (5 : Int32)) dX10_turn_93 (by decide) ?_
    refine ev_iload_n dX10_turn_94 rfl ?_
    refine ev_imul dX10_turn_95 ?_
    refine ev_iadd dX10_turn_96 ?_
    refine ev_iload dX10_turn_97 rfl ?_
    refine ev_iadd dX10_turn_99 ?_
    obtain ⟨c3, h⟩ := ev_ckE h
    refine ew_iald dX10_turn_100 (shp_a g0 1 rfl) c3 ?_
    obtain ⟨c4, h⟩ := ev_ckE h
    obtain ⟨I5, eI5, h⟩ := ev_ltE h
    refine ew_iast dX10_turn_101 (shp_a g0 4 rfl) c4 (ew_nh eI5 ?_)
    obtain ⟨v6, ev6, h⟩ := ev_ltE h
    refine ew_iinc (L' := [some (.ref q0), some (.int y1), some (.int y2), some (.int y3), some (.int y4), some (.int v6)]) dX10_turn_102 (Nat.le_of_ble_eq_true rfl) rfl (by decide) ev6 rfl ?_
    refine ev_goto (tgt := 69) dX10_turn_105 (by decide) ?_
    exact ev_weak (sb_s (sb_s (sb_s (sb_s (sb_s (sb_s sb_0)))))) (k69 y1 y2 y3 y4 v6 I5 _ h)
theorem tlX10_turn_69 {E : ev_N} {σ : ev_H} (q0 : Nat) (g0 : shp tb9 σ q0) (K33 : Int32 → Int32 → Int32 → ev_I → Option (Int32 × ev_I)) (k33 : ∀ (y1 : Int32) (y2 : Int32) (y3 : Int32) (I : ev_I) (o : Int32 × ev_I), K33 y1 y2 y3 I = some o → EV E mX10_turn 33 [some (.ref q0), some (.int y1), some (.int y2), some (.int y3), none, none] [] (h_w σ I) (Option.some (Value.int o.1), h_w σ o.2)) : ∀ (n : Nat) (y1 : Int32) (y2 : Int32) (y3 : Int32) (y4 : Int32) (y5 : Int32) (I : ev_I) (o : Int32 × ev_I), lX10_turn_69 q0 K33 n y1 y2 y3 y4 y5 I = some o → EV E mX10_turn 69 [some (.ref q0), some (.int y1), some (.int y2), some (.int y3), some (.int y4), some (.int y5)] [] (h_w σ I) (Option.some (Value.int o.1), h_w σ o.2)
  | 0, _, _, _, _, _, _, _, h => by cases h
  | n + 1, y1, y2, y3, y4, y5, I, o, h => tX10_turn_69 q0 g0 K33 (lX10_turn_69 q0 K33 n) k33 (tlX10_turn_69 q0 g0 K33 k33 n) n y1 y2 y3 y4 y5 I o h
set_option maxRecDepth 100000 in
set_option maxHeartbeats 4000000 in
theorem tX10_turn_64 {E : ev_N} {σ : ev_H} (q0 : Nat) (g0 : shp tb9 σ q0) (K33 : Int32 → Int32 → Int32 → ev_I → Option (Int32 × ev_I)) (k33 : ∀ (y1 : Int32) (y2 : Int32) (y3 : Int32) (I : ev_I) (o : Int32 × ev_I), K33 y1 y2 y3 I = some o → EV E mX10_turn 33 [some (.ref q0), some (.int y1), some (.int y2), some (.int y3), none, none] [] (h_w σ I) (Option.some (Value.int o.1), h_w σ o.2)) (n : Nat) (y1 : Int32) (y2 : Int32) (y3 : Int32) (s0 : Int32) (I : ev_I) (o : Int32 × ev_I) : cX10_turn_64 q0 K33 n y1 y2 y3 s0 I = some o → EV E mX10_turn 64 [some (.ref q0), some (.int y1), some (.int y2), some (.int y3), none, none] [(.int s0)] (h_w σ I) (Option.some (Value.int o.1), h_w σ o.2) := by
  intro h
  unfold cX10_turn_64 at h
  refine ew_ist (L' := [some (.ref q0), some (.int y1), some (.int y2), some (.int y3), some (.int s0), none]) dX10_turn_64 (Nat.le_of_ble_eq_true rfl) rfl ?_
  refine ev_iconst (v := (0 : Int32)) dX10_turn_66 (by decide) ?_
  refine ew_ist (L' := [some (.ref q0), some (.int y1), some (.int y2), some (.int y3), some (.int s0), some (.int (0 : Int32))]) dX10_turn_67 (Nat.le_of_ble_eq_true rfl) rfl ?_
  exact ev_weak (sb_s (sb_s (sb_s (sb_s (sb_s (sb_s sb_0)))))) (tlX10_turn_69 q0 g0 K33 k33 n y1 y2 y3 s0 (0 : Int32) I _ h)
set_option maxRecDepth 100000 in
set_option maxHeartbeats 4000000 in
theorem tX10_turn_116 {E : ev_N} {σ : ev_H} (q0 : Nat) (g0 : shp tb9 σ q0) (K116 : Int32 → Int32 → Int32 → ev_I → Option (Int32 × ev_I)) (k116 : ∀ (y1 : Int32) (y2 : Int32) (y3 : Int32) (I : ev_I) (o : Int32 × ev_I), K116 y1 y2 y3 I = some o → EV E mX10_turn 116 [some (.ref q0), some (.int y1), some (.int y2), some (.int y3), none, none] [] (h_w σ I) (Option.some (Value.int o.1), h_w σ o.2)) (n : Nat) (y1 : Int32) (y2 : Int32) (y3 : Int32) (I : ev_I) (o : Int32 × ev_I) : cX10_turn_116 q0 K116 n y1 y2 y3 I = some o → EV E mX10_turn 116 [some (.ref q0), some (.int y1), some (.int y2), some (.int y3), none, none] [] (h_w σ I) (Option.some (Value.int o.1), h_w σ o.2) := by
  intro h
  unfold cX10_turn_116 at h
  refine ev_iload_n dX10_turn_116 rfl ?_
  refine ev_iconst (v := (5 : Int32)) dX10_turn_117 (by decide) ?_
  refine ev_iload_n dX10_turn_118 rfl ?_
  refine ev_iload_n dX10_turn_119 rfl ?_
  refine ev_iadd dX10_turn_120 ?_
  refine ev_imul dX10_turn_121 ?_
  refine ev_icmp_ge (tgt := 147) dX10_turn_122 (by decide) (fun c7 => ?_) (fun c7 => ?_)
  · have h := ev_ifT h c7
    refine ev_iconst (v := (1 : Int32)) dX10_turn_147 (by decide) ?_
    cases h
    exact er_i dX10_turn_148 rfl rfl
  · have h := ev_ifF h c7
    refine ev_aload_n dX10_turn_125 rfl (fun _ e => by cases e) ?_
    refine ew_getr0 dX10_turn_126 fX10_7 g0 rfl rfl rfl rfl ?_
    refine ev_sipush (v := (816 : Int32)) dX10_turn_129 (by decide) ?_
    refine ev_iload_n dX10_turn_132 rfl ?_
    refine ev_iadd dX10_turn_133 ?_
    refine ev_aload_n dX10_turn_134 rfl (fun _ e => by cases e) ?_
    refine ew_getr0 dX10_turn_135 fX10_19 g0 rfl rfl rfl rfl ?_
    refine ev_iload_n dX10_turn_138 rfl ?_
    obtain ⟨c8, h⟩ := ev_ckE h
    refine ew_iald dX10_turn_139 (shp_a g0 4 rfl) c8 ?_
    obtain ⟨c9, h⟩ := ev_ckE h
    obtain ⟨I10, eI10, h⟩ := ev_ltE h
    refine ew_iast dX10_turn_140 (shp_a g0 1 rfl) c9 (ew_nh eI10 ?_)
    obtain ⟨v11, ev11, h⟩ := ev_ltE h
    refine ew_iinc (L' := [some (.ref q0), some (.int y1), some (.int y2), some (.int v11), none, none]) dX10_turn_141 (Nat.le_of_ble_eq_true rfl) rfl (by decide) ev11 rfl ?_
    refine ev_goto (tgt := 116) dX10_turn_144 (by decide) ?_
    exact ev_weak (sb_s (sb_s (sb_s (sb_s (sb_n (sb_n sb_0)))))) (k116 y1 y2 v11 I10 _ h)
theorem tlX10_turn_116 {E : ev_N} {σ : ev_H} (q0 : Nat) (g0 : shp tb9 σ q0) : ∀ (n : Nat) (y1 : Int32) (y2 : Int32) (y3 : Int32) (I : ev_I) (o : Int32 × ev_I), lX10_turn_116 q0 n y1 y2 y3 I = some o → EV E mX10_turn 116 [some (.ref q0), some (.int y1), some (.int y2), some (.int y3), none, none] [] (h_w σ I) (Option.some (Value.int o.1), h_w σ o.2)
  | 0, _, _, _, _, _, h => by cases h
  | n + 1, y1, y2, y3, I, o, h => tX10_turn_116 q0 g0 (lX10_turn_116 q0 n) (tlX10_turn_116 q0 g0 n) n y1 y2 y3 I o h
set_option maxRecDepth 100000 in
set_option maxHeartbeats 4000000 in
theorem tX10_turn_33 {E : ev_N} {σ : ev_H} (q0 : Nat) (g0 : shp tb9 σ q0) (K33 : Int32 → Int32 → Int32 → ev_I → Option (Int32 × ev_I)) (k33 : ∀ (y1 : Int32) (y2 : Int32) (y3 : Int32) (I : ev_I) (o : Int32 × ev_I), K33 y1 y2 y3 I = some o → EV E mX10_turn 33 [some (.ref q0), some (.int y1), some (.int y2), some (.int y3), none, none] [] (h_w σ I) (Option.some (Value.int o.1), h_w σ o.2)) (n : Nat) (y1 : Int32) (y2 : Int32) (y3 : Int32) (I : ev_I) (o : Int32 × ev_I) : cX10_turn_33 q0 K33 n y1 y2 y3 I = some o → EV E mX10_turn 33 [some (.ref q0), some (.int y1), some (.int y2), some (.int y3), none, none] [] (h_w σ I) (Option.some (Value.int o.1), h_w σ o.2) := by
  intro h
  unfold cX10_turn_33 at h
  refine ev_iload_n dX10_turn_33 rfl ?_
  refine ev_aload_n dX10_turn_34 rfl (fun _ e => by cases e) ?_
  refine ew_getr0 dX10_turn_35 fX10_7 g0 rfl rfl rfl rfl ?_
  refine ev_iconst (v := (4 : Int32)) dX10_turn_38 (by decide) ?_
  refine ew_iald dX10_turn_39 (shp_a g0 1 rfl) (by decide) ?_
  refine ev_icmp_ge (tgt := 114) dX10_turn_40 (by decide) (fun c12 => ?_) (fun c12 => ?_)
  · have h := ev_ifT h c12
    refine ev_iconst (v := (0 : Int32)) dX10_turn_114 (by decide) ?_
    refine ew_istn (L' := [some (.ref q0), some (.int y1), some (.int y2), some (.int (0 : Int32)), none, none]) dX10_turn_115 (Nat.le_of_ble_eq_true rfl) rfl ?_
    exact ev_weak (sb_s (sb_s (sb_s (sb_s (sb_n (sb_n sb_0)))))) (tlX10_turn_116 q0 g0 n y1 y2 (0 : Int32) I _ h)
  · have h := ev_ifF h c12
    refine ev_iload_n dX10_turn_43 rfl ?_
    refine ev_iload_n dX10_turn_44 rfl ?_
    refine ev_icmp_ge (tgt := 61) dX10_turn_45 (by decide) (fun c13 => ?_) (fun c13 => ?_)
    · have h := ev_ifT h c13
      refine ev_iload_n dX10_turn_61 rfl ?_
      refine ev_iload_n dX10_turn_62 rfl ?_
      refine ev_isub dX10_turn_63 ?_
      exact ev_weak (sb_s (sb_s (sb_s (sb_s (sb_n (sb_n sb_0)))))) (tX10_turn_64 q0 g0 K33 k33 n y1 y2 y3 (y3 - y1) I _ h)
    · have h := ev_ifF h c13
      refine ev_aload_n dX10_turn_48 rfl (fun _ e => by cases e) ?_
      refine ew_getr0 dX10_turn_49 fX10_7 g0 rfl rfl rfl rfl ?_
      refine ev_iconst (v := (4 : Int32)) dX10_turn_52 (by decide) ?_
      refine ew_iald dX10_turn_53 (shp_a g0 1 rfl) (by decide) ?_
      refine ev_iconst (v := (1 : Int32)) dX10_turn_54 (by decide) ?_
      refine ev_isub dX10_turn_55 ?_
      refine ev_iload_n dX10_turn_56 rfl ?_
      refine ev_isub dX10_turn_57 ?_
      refine ev_goto (tgt := 64) dX10_turn_58 (by decide) ?_
      exact ev_weak (sb_s (sb_s (sb_s (sb_s (sb_n (sb_n sb_0)))))) (tX10_turn_64 q0 g0 K33 k33 n y1 y2 y3 (((I (q0 + 1) (4 : Int32).toNatClampNeg) - (1 : Int32)) - y3) I _ h)
theorem tlX10_turn_33 {E : ev_N} {σ : ev_H} (q0 : Nat) (g0 : shp tb9 σ q0) : ∀ (n : Nat) (y1 : Int32) (y2 : Int32) (y3 : Int32) (I : ev_I) (o : Int32 × ev_I), lX10_turn_33 q0 n y1 y2 y3 I = some o → EV E mX10_turn 33 [some (.ref q0), some (.int y1), some (.int y2), some (.int y3), none, none] [] (h_w σ I) (Option.some (Value.int o.1), h_w σ o.2)
  | 0, _, _, _, _, _, h => by cases h
  | n + 1, y1, y2, y3, I, o, h => tX10_turn_33 q0 g0 (lX10_turn_33 q0 n) (tlX10_turn_33 q0 g0 n) n y1 y2 y3 I o h
set_option maxRecDepth 100000 in
set_option maxHeartbeats 4000000 in
theorem tX10_turn {E : ev_N} {σ : ev_H} (n : Nat) (q0 : Nat) (g0 : shp tb9 σ q0) (x1 : Int32) (I : ev_I) (o : Int32 × ev_I) (h : pX10_turn n q0 x1 I = some o) : ev_T E mX10_turn [.ref q0, .int x1] (h_w σ I) (Option.some (Value.int o.1), h_w σ o.2) := by
  unfold pX10_turn at h
  refine ev_met rfl rfl (Nat.le_of_ble_eq_true rfl) (ev_L0 (L' := [some (.ref q0), some (.int x1), none, none, none, none]) rfl ?_)
  refine ev_aload_n dX10_turn_0 rfl (fun _ e => by cases e) ?_
  refine ev_iconst (v := (0 : Int32)) dX10_turn_1 (by decide) ?_
  obtain ⟨I14, eI14, h⟩ := ev_ltE h
  refine ew_put0 dX10_turn_2 fX10_44 g0 rfl rfl rfl rfl rfl rfl (ew_nh eI14 ?_)
  refine ev_aload_n dX10_turn_5 rfl (fun _ e => by cases e) ?_
  refine ev_iload_n dX10_turn_6 rfl ?_
  refine ev_iconst (v := (0 : Int32)) dX10_turn_7 (by decide) ?_
  refine ev_aload_n dX10_turn_8 rfl (fun _ e => by cases e) ?_
  refine ew_getr0 dX10_turn_9 fX10_7 g0 rfl rfl rfl rfl ?_
  refine ev_iconst (v := (4 : Int32)) dX10_turn_12 (by decide) ?_
  refine ew_iald dX10_turn_13 (shp_a g0 1 rfl) (by decide) ?_
  obtain ⟨z15, hz15, h⟩ := ev_bnE h
  refine ec_Vi (Y := mX10_isIn) (ci := 9) (As := [.int x1, .int (0 : Int32), .int (I14 (q0 + 1) (4 : Int32).toNatClampNeg)]) (rest := []) dX10_turn_14 kX10_61 oX10_isIn ⟨Nat.le_of_ble_eq_true rfl, Nat.le_of_ble_eq_true rfl⟩ (by decide) rfl (shp_n g0 0 rfl) (shp_t g0 0 rfl) rfl (Nat.le_of_ble_eq_true rfl) (tX10_isIn n q0 g0 x1 (0 : Int32) (I14 (q0 + 1) (4 : Int32).toNatClampNeg) I14 z15 hz15) rfl ?_
  refine ev_if_ne (tgt := 22) dX10_turn_17 (by decide) (fun c16 => ?_) (fun c16 => ?_)
  · have h := ev_ifF h c16
    refine ev_aload_n dX10_turn_22 rfl (fun _ e => by cases e) ?_
    refine ew_getr0 dX10_turn_23 fX10_7 g0 rfl rfl rfl rfl ?_
    refine ev_iconst (v := (4 : Int32)) dX10_turn_26 (by decide) ?_
    refine ew_iald dX10_turn_27 (shp_a g0 1 rfl) (by decide) ?_
    refine ev_iload_n dX10_turn_28 rfl ?_
    refine ev_isub dX10_turn_29 ?_
    obtain ⟨v17, ev17, h⟩ := ev_ltE h
    refine ew_nm ev17 ?_
    refine ew_istn (L' := [some (.ref q0), some (.int x1), some (.int v17), none, none, none]) dX10_turn_30 (Nat.le_of_ble_eq_true rfl) rfl ?_
    refine ev_iconst (v := (0 : Int32)) dX10_turn_31 (by decide) ?_
    refine ew_istn (L' := [some (.ref q0), some (.int x1), some (.int v17), some (.int (0 : Int32)), none, none]) dX10_turn_32 (Nat.le_of_ble_eq_true rfl) rfl ?_
    exact ev_weak (sb_s (sb_s (sb_s (sb_s (sb_n (sb_n sb_0)))))) (tlX10_turn_33 q0 g0 n x1 v17 (0 : Int32) I14 _ h)
  · have h := ev_ifT h c16
    refine ev_iconst (v := (0 : Int32)) dX10_turn_20 (by decide) ?_
    cases h
    exact er_i dX10_turn_21 rfl rfl
-- ChainVotesModel storm(II)I
def cX10_storm_84 (q0 : Nat) (K34 : Int32 → Int32 → Int32 → Int32 → ev_I → Option (Int32 × ev_I)) (n : Nat) (y1 : Int32) (y2 : Int32) (y3 : Int32) (y4 : Int32) (I : ev_I) : Option (Int32 × ev_I) :=
  ev_lt (y4 + (1 : Int32)) fun v1 =>
  K34 y1 y2 y3 v1 I
def cX10_storm_34 (q0 : Nat) (K34 : Int32 → Int32 → Int32 → Int32 → ev_I → Option (Int32 × ev_I)) (n : Nat) (y1 : Int32) (y2 : Int32) (y3 : Int32) (y4 : Int32) (I : ev_I) : Option (Int32 × ev_I) :=
  if y1 ≤ y4 then
    some (y3, I)
  else
    if (I (q0 + 1) (4 : Int32).toNatClampNeg) ≤ 0 then
      some (y3, I)
    else
      (pX10_draw n q0 (I (q0 + 1) (4 : Int32).toNatClampNeg) I).bind fun z4 =>
      (pX10_takesOut n q0 z4.1 z4.2).bind fun z5 =>
      (pX10_draw n q0 (10 : Int32) z5).bind fun z6 =>
      if y2 ≤ z6.1 then
        (pX10_isDelivered n q0  z6.2).bind fun z8 =>
        ev_lt (y3 + (1 : Int32)) fun v9 =>
        cX10_storm_84 q0 K34 n y1 y2 v9 y4 z8
      else
        cX10_storm_84 q0 K34 n y1 y2 y3 y4 z6.2
def lX10_storm_34 (q0 : Nat) : Nat → Int32 → Int32 → Int32 → Int32 → ev_I → Option (Int32 × ev_I)
  | 0, _, _, _, _, _ => none
  | n + 1, y1, y2, y3, y4, I => cX10_storm_34 q0 (lX10_storm_34 q0 n) n y1 y2 y3 y4 I
def pX10_storm (n : Nat) (q0 : Nat) (x1 : Int32) (x2 : Int32) (I : ev_I) : Option (Int32 × ev_I) :=
  ev_lt (ev_u2 I q0 0 (0 : Int32)) fun I10 =>
  (pX10_isIn n q0 x1 (1 : Int32) (40 : Int32) I10).bind fun z11 =>
  if z11 = 0 then
    some ((-1 : Int32), I10)
  else
    (pX10_isIn n q0 x2 (0 : Int32) (9 : Int32) I10).bind fun z13 =>
    if z13 = 0 then
      some ((-1 : Int32), I10)
    else
      lX10_storm_34 q0 n x1 x2 (0 : Int32) (0 : Int32) I10
set_option maxRecDepth 100000 in
set_option maxHeartbeats 4000000 in
theorem tX10_storm_84 {E : ev_N} {σ : ev_H} (q0 : Nat) (g0 : shp tb9 σ q0) (K34 : Int32 → Int32 → Int32 → Int32 → ev_I → Option (Int32 × ev_I)) (k34 : ∀ (y1 : Int32) (y2 : Int32) (y3 : Int32) (y4 : Int32) (I : ev_I) (o : Int32 × ev_I), K34 y1 y2 y3 y4 I = some o → EV E mX10_storm 34 [some (.ref q0), some (.int y1), some (.int y2), some (.int y3), some (.int y4)] [] (h_w σ I) (Option.some (Value.int o.1), h_w σ o.2)) (n : Nat) (y1 : Int32) (y2 : Int32) (y3 : Int32) (y4 : Int32) (I : ev_I) (o : Int32 × ev_I) : cX10_storm_84 q0 K34 n y1 y2 y3 y4 I = some o → EV E mX10_storm 84 [some (.ref q0), some (.int y1), some (.int y2), some (.int y3), some (.int y4)] [] (h_w σ I) (Option.some (Value.int o.1), h_w σ o.2) := by
  intro h
  unfold cX10_storm_84 at h
  obtain ⟨v1, ev1, h⟩ := ev_ltE h
  refine ew_iinc (L' := [some (.ref q0), some (.int y1), some (.int y2), some (.int y3), some (.int v1)]) dX10_storm_84 (Nat.le_of_ble_eq_true rfl) rfl (by decide) ev1 rfl ?_
  refine ev_goto (tgt := 34) dX10_storm_87 (by decide) ?_
  exact ev_weak (sb_s (sb_s (sb_s (sb_s (sb_s sb_0))))) (k34 y1 y2 y3 v1 I _ h)
set_option maxRecDepth 100000 in
set_option maxHeartbeats 4000000 in
theorem tX10_storm_34 {E : ev_N} {σ : ev_H} (q0 : Nat) (g0 : shp tb9 σ q0) (K34 : Int32 → Int32 → Int32 → Int32 → ev_I → Option (Int32 × ev_I)) (k34 : ∀ (y1 : Int32) (y2 : Int32) (y3 : Int32) (y4 : Int32) (I : ev_I) (o : Int32 × ev_I), K34 y1 y2 y3 y4 I = some o → EV E mX10_storm 34 [some (.ref q0), some (.int y1), some (.int y2), some (.int y3), some (.int y4)] [] (h_w σ I) (Option.some (Value.int o.1), h_w σ o.2)) (n : Nat) (y1 : Int32) (y2 : Int32) (y3 : Int32) (y4 : Int32) (I : ev_I) (o : Int32 × ev_I) : cX10_storm_34 q0 K34 n y1 y2 y3 y4 I = some o → EV E mX10_storm 34 [some (.ref q0), some (.int y1), some (.int y2), some (.int y3), some (.int y4)] [] (h_w σ I) (Option.some (Value.int o.1), h_w σ o.2) := by
  intro h
  unfold cX10_storm_34 at h
  refine ev_iload dX10_storm_34 rfl ?_
  refine ev_iload_n dX10_storm_36 rfl ?_
  refine ev_icmp_ge (tgt := 90) dX10_storm_37 (by decide) (fun c2 => ?_) (fun c2 => ?_)
  · have h := ev_ifT h c2
    refine ev_iload_n dX10_storm_90 rfl ?_
    cases h
    exact er_i dX10_storm_91 rfl rfl
  · have h := ev_ifF h c2
    refine ev_aload_n dX10_storm_40 rfl (fun _ e => by cases e) ?_
    refine ew_getr0 dX10_storm_41 fX10_7 g0 rfl rfl rfl rfl ?_
    refine ev_iconst (v := (4 : Int32)) dX10_storm_44 (by decide) ?_
    refine ew_iald dX10_storm_45 (shp_a g0 1 rfl) (by decide) ?_
    refine ev_if_le (tgt := 90) dX10_storm_46 (by decide) (fun c3 => ?_) (fun c3 => ?_)
    · have h := ev_ifT h c3
      refine ev_iload_n dX10_storm_90 rfl ?_
      cases h
      exact er_i dX10_storm_91 rfl rfl
    · have h := ev_ifF h c3
      refine ev_aload_n dX10_storm_49 rfl (fun _ e => by cases e) ?_
      refine ev_aload_n dX10_storm_50 rfl (fun _ e => by cases e) ?_
      refine ev_aload_n dX10_storm_51 rfl (fun _ e => by cases e) ?_
      refine ew_getr0 dX10_storm_52 fX10_7 g0 rfl rfl rfl rfl ?_
      refine ev_iconst (v := (4 : Int32)) dX10_storm_55 (by decide) ?_
      refine ew_iald dX10_storm_56 (shp_a g0 1 rfl) (by decide) ?_
      obtain ⟨z4, hz4, h⟩ := ev_bnE h
      refine ec_Vi (Y := mX10_draw) (ci := 9) (As := [.int (I (q0 + 1) (4 : Int32).toNatClampNeg)]) (rest := [(.ref q0)]) dX10_storm_57 kX10_163 oX10_draw ⟨Nat.le_of_ble_eq_true rfl, Nat.le_of_ble_eq_true rfl⟩ (by decide) rfl (shp_n g0 0 rfl) (shp_t g0 0 rfl) rfl (Nat.le_of_ble_eq_true rfl) (tX10_draw n q0 g0 (I (q0 + 1) (4 : Int32).toNatClampNeg) I z4 hz4) rfl ?_
      obtain ⟨z5, hz5, h⟩ := ev_bnE h
      refine ec_Vv (Y := mX10_takesOut) (ci := 9) (As := [.int z4.1]) (rest := []) dX10_storm_60 kX10_156 oX10_takesOut ⟨Nat.le_of_ble_eq_true rfl, Nat.le_of_ble_eq_true rfl⟩ (by decide) rfl (shp_n g0 0 rfl) (shp_t g0 0 rfl) rfl (Nat.le_of_ble_eq_true rfl) (tX10_takesOut n q0 g0 z4.1 z4.2 z5 hz5) rfl ?_
      refine ev_aload_n dX10_storm_63 rfl (fun _ e => by cases e) ?_
      refine ev_bipush (v := (10 : Int32)) dX10_storm_64 (by decide) ?_
      obtain ⟨z6, hz6, h⟩ := ev_bnE h
      refine ec_Vi (Y := mX10_draw) (ci := 9) (As := [.int (10 : Int32)]) (rest := []) dX10_storm_66 kX10_163 oX10_draw ⟨Nat.le_of_ble_eq_true rfl, Nat.le_of_ble_eq_true rfl⟩ (by decide) rfl (shp_n g0 0 rfl) (shp_t g0 0 rfl) rfl (Nat.le_of_ble_eq_true rfl) (tX10_draw n q0 g0 (10 : Int32) z5 z6 hz6) rfl ?_
      refine ev_iload_n dX10_storm_69 rfl ?_
      refine ev_icmp_ge (tgt := 76) dX10_storm_70 (by decide) (fun c7 => ?_) (fun c7 => ?_)
      · have h := ev_ifT h c7
        refine ev_aload_n dX10_storm_76 rfl (fun _ e => by cases e) ?_
        obtain ⟨z8, hz8, h⟩ := ev_bnE h
        refine ec_Vv (Y := mX10_isDelivered) (ci := 9) (As := []) (rest := []) dX10_storm_77 kX10_160 oX10_isDelivered ⟨Nat.le_of_ble_eq_true rfl, Nat.le_of_ble_eq_true rfl⟩ (by decide) rfl (shp_n g0 0 rfl) (shp_t g0 0 rfl) rfl (Nat.le_of_ble_eq_true rfl) (tX10_isDelivered n q0 g0  z6.2 z8 hz8) rfl ?_
        refine ev_iload_n dX10_storm_80 rfl ?_
        refine ev_iconst (v := (1 : Int32)) dX10_storm_81 (by decide) ?_
        refine ev_iadd dX10_storm_82 ?_
        obtain ⟨v9, ev9, h⟩ := ev_ltE h
        refine ew_nm ev9 ?_
        refine ew_istn (L' := [some (.ref q0), some (.int y1), some (.int y2), some (.int v9), some (.int y4)]) dX10_storm_83 (Nat.le_of_ble_eq_true rfl) rfl ?_
        exact ev_weak (sb_s (sb_s (sb_s (sb_s (sb_s sb_0))))) (tX10_storm_84 q0 g0 K34 k34 n y1 y2 v9 y4 z8 _ h)
      · have h := ev_ifF h c7
        refine ev_goto (tgt := 84) dX10_storm_73 (by decide) ?_
        exact ev_weak (sb_s (sb_s (sb_s (sb_s (sb_s sb_0))))) (tX10_storm_84 q0 g0 K34 k34 n y1 y2 y3 y4 z6.2 _ h)
theorem tlX10_storm_34 {E : ev_N} {σ : ev_H} (q0 : Nat) (g0 : shp tb9 σ q0) : ∀ (n : Nat) (y1 : Int32) (y2 : Int32) (y3 : Int32) (y4 : Int32) (I : ev_I) (o : Int32 × ev_I), lX10_storm_34 q0 n y1 y2 y3 y4 I = some o → EV E mX10_storm 34 [some (.ref q0), some (.int y1), some (.int y2), some (.int y3), some (.int y4)] [] (h_w σ I) (Option.some (Value.int o.1), h_w σ o.2)
  | 0, _, _, _, _, _, _, h => by cases h
  | n + 1, y1, y2, y3, y4, I, o, h => tX10_storm_34 q0 g0 (lX10_storm_34 q0 n) (tlX10_storm_34 q0 g0 n) n y1 y2 y3 y4 I o h
set_option maxRecDepth 100000 in
set_option maxHeartbeats 4000000 in
theorem tX10_storm {E : ev_N} {σ : ev_H} (n : Nat) (q0 : Nat) (g0 : shp tb9 σ q0) (x1 : Int32) (x2 : Int32) (I : ev_I) (o : Int32 × ev_I) (h : pX10_storm n q0 x1 x2 I = some o) : ev_T E mX10_storm [.ref q0, .int x1, .int x2] (h_w σ I) (Option.some (Value.int o.1), h_w σ o.2) := by
  unfold pX10_storm at h
  refine ev_met rfl rfl (Nat.le_of_ble_eq_true rfl) (ev_L0 (L' := [some (.ref q0), some (.int x1), some (.int x2), none, none]) rfl ?_)
  refine ev_aload_n dX10_storm_0 rfl (fun _ e => by cases e) ?_
  refine ev_iconst (v := (0 : Int32)) dX10_storm_1 (by decide) ?_
  obtain ⟨I10, eI10, h⟩ := ev_ltE h
  refine ew_put0 dX10_storm_2 fX10_44 g0 rfl rfl rfl rfl rfl rfl (ew_nh eI10 ?_)
  refine ev_aload_n dX10_storm_5 rfl (fun _ e => by cases e) ?_
  refine ev_iload_n dX10_storm_6 rfl ?_
  refine ev_iconst (v := (1 : Int32)) dX10_storm_7 (by decide) ?_
  refine ev_bipush (v := (40 : Int32)) dX10_storm_8 (by decide) ?_
  obtain ⟨z11, hz11, h⟩ := ev_bnE h
  refine ec_Vi (Y := mX10_isIn) (ci := 9) (As := [.int x1, .int (1 : Int32), .int (40 : Int32)]) (rest := []) dX10_storm_10 kX10_61 oX10_isIn ⟨Nat.le_of_ble_eq_true rfl, Nat.le_of_ble_eq_true rfl⟩ (by decide) rfl (shp_n g0 0 rfl) (shp_t g0 0 rfl) rfl (Nat.le_of_ble_eq_true rfl) (tX10_isIn n q0 g0 x1 (1 : Int32) (40 : Int32) I10 z11 hz11) rfl ?_
  refine ev_if_eq (tgt := 27) dX10_storm_13 (by decide) (fun c12 => ?_) (fun c12 => ?_)
  · have h := ev_ifT h c12
    refine ev_iconst (v := (-1 : Int32)) dX10_storm_27 (by decide) ?_
    cases h
    exact er_i dX10_storm_28 rfl rfl
  · have h := ev_ifF h c12
    refine ev_aload_n dX10_storm_16 rfl (fun _ e => by cases e) ?_
    refine ev_iload_n dX10_storm_17 rfl ?_
    refine ev_iconst (v := (0 : Int32)) dX10_storm_18 (by decide) ?_
    refine ev_bipush (v := (9 : Int32)) dX10_storm_19 (by decide) ?_
    obtain ⟨z13, hz13, h⟩ := ev_bnE h
    refine ec_Vi (Y := mX10_isIn) (ci := 9) (As := [.int x2, .int (0 : Int32), .int (9 : Int32)]) (rest := []) dX10_storm_21 kX10_61 oX10_isIn ⟨Nat.le_of_ble_eq_true rfl, Nat.le_of_ble_eq_true rfl⟩ (by decide) rfl (shp_n g0 0 rfl) (shp_t g0 0 rfl) rfl (Nat.le_of_ble_eq_true rfl) (tX10_isIn n q0 g0 x2 (0 : Int32) (9 : Int32) I10 z13 hz13) rfl ?_
    refine ev_if_ne (tgt := 29) dX10_storm_24 (by decide) (fun c14 => ?_) (fun c14 => ?_)
    · have h := ev_ifF h c14
      refine ev_iconst (v := (0 : Int32)) dX10_storm_29 (by decide) ?_
      refine ew_istn (L' := [some (.ref q0), some (.int x1), some (.int x2), some (.int (0 : Int32)), none]) dX10_storm_30 (Nat.le_of_ble_eq_true rfl) rfl ?_
      refine ev_iconst (v := (0 : Int32)) dX10_storm_31 (by decide) ?_
      refine ew_ist (L' := [some (.ref q0), some (.int x1), some (.int x2), some (.int (0 : Int32)), some (.int (0 : Int32))]) dX10_storm_32 (Nat.le_of_ble_eq_true rfl) rfl ?_
      exact ev_weak (sb_s (sb_s (sb_s (sb_s (sb_s sb_0))))) (tlX10_storm_34 q0 g0 n x1 x2 (0 : Int32) (0 : Int32) I10 _ h)
    · have h := ev_ifT h c14
      refine ev_iconst (v := (-1 : Int32)) dX10_storm_27 (by decide) ?_
      cases h
      exact er_i dX10_storm_28 rfl rfl
-- ChainVotesModel canPropose(I)Z
def pX10_canPropose (n : Nat) (q0 : Nat) (x1 : Int32) (I : ev_I) : Option (Int32) :=
  (pX10_nodeAt n q0 x1 I).bind fun z1 =>
  (pX10_viewOf n q0 x1 I).bind fun z2 =>
  (pX10_isSilent n q0 x1 I).bind fun z3 =>
  if z3 = 0 then
    (pX10_blockMany n q0  I).bind fun z5 =>
    if z5 = (100 : Int32) then
      some (0 : Int32)
    else
      if (200 : Int32) < z2 then
        some (0 : Int32)
      else
        (pX10_leaderOf n q0 z2 I).bind fun z8 =>
        if z8 = x1 then
          ev_ck (ev_in (z1 + (3 : Int32)) 6010) <|
          if (I (q0 + 1) (z1 + (3 : Int32)).toNatClampNeg) < z2 then
            if z2 = (1 : Int32) then
              some (1 : Int32)
            else
              ev_ck (ev_in (z1 + (5 : Int32)) 6010) <|
              ev_ck (ev_in ((16 : Int32) + (I (q0 + 1) (z1 + (5 : Int32)).toNatClampNeg)) 6010) <|
              if (I (q0 + 1) ((16 : Int32) + (I (q0 + 1) (z1 + (5 : Int32)).toNatClampNeg)).toNatClampNeg) = (z2 - (1 : Int32)) then
                some (1 : Int32)
              else
                ev_ck (ev_in (z1 + (7 : Int32)) 6010) <|
                if (I (q0 + 1) (z1 + (7 : Int32)).toNatClampNeg) < (z2 - (1 : Int32)) then
                  some (0 : Int32)
                else
                  some (1 : Int32)
          else
            some (0 : Int32)
        else
          some (0 : Int32)
  else
    some (0 : Int32)
set_option maxRecDepth 100000 in
set_option maxHeartbeats 4000000 in
theorem tX10_canPropose {E : ev_N} {σ : ev_H} (n : Nat) (q0 : Nat) (g0 : shp tb9 σ q0) (x1 : Int32) (I : ev_I) (o : Int32) (h : pX10_canPropose n q0 x1 I = some o) : ev_T E mX10_canPropose [.ref q0, .int x1] (h_w σ I) (Option.some (Value.int o), h_w σ I) := by
  unfold pX10_canPropose at h
  refine ev_met rfl rfl (Nat.le_of_ble_eq_true rfl) (ev_L0 (L' := [some (.ref q0), some (.int x1), none, none]) rfl ?_)
  refine ev_aload_n dX10_canPropose_0 rfl (fun _ e => by cases e) ?_
  refine ev_iload_n dX10_canPropose_1 rfl ?_
  obtain ⟨z1, hz1, h⟩ := ev_bnE h
  refine ec_Vi (Y := mX10_nodeAt) (ci := 9) (As := [.int x1]) (rest := []) dX10_canPropose_2 kX10_54 oX10_nodeAt ⟨Nat.le_of_ble_eq_true rfl, Nat.le_of_ble_eq_true rfl⟩ (by decide) rfl (shp_n g0 0 rfl) (shp_t g0 0 rfl) rfl (Nat.le_of_ble_eq_true rfl) (tX10_nodeAt n q0 g0 x1 I z1 hz1) rfl ?_
  refine ew_istn (L' := [some (.ref q0), some (.int x1), some (.int z1), none]) dX10_canPropose_5 (Nat.le_of_ble_eq_true rfl) rfl ?_
  refine ev_aload_n dX10_canPropose_6 rfl (fun _ e => by cases e) ?_
  refine ev_iload_n dX10_canPropose_7 rfl ?_
  obtain ⟨z2, hz2, h⟩ := ev_bnE h
  refine ec_Vi (Y := mX10_viewOf) (ci := 9) (As := [.int x1]) (rest := []) dX10_canPropose_8 kX10_104 oX10_viewOf ⟨Nat.le_of_ble_eq_true rfl, Nat.le_of_ble_eq_true rfl⟩ (by decide) rfl (shp_n g0 0 rfl) (shp_t g0 0 rfl) rfl (Nat.le_of_ble_eq_true rfl) (tX10_viewOf n q0 g0 x1 I z2 hz2) rfl ?_
  refine ew_istn (L' := [some (.ref q0), some (.int x1), some (.int z1), some (.int z2)]) dX10_canPropose_11 (Nat.le_of_ble_eq_true rfl) rfl ?_
  refine ev_aload_n dX10_canPropose_12 rfl (fun _ e => by cases e) ?_
  refine ev_iload_n dX10_canPropose_13 rfl ?_
  obtain ⟨z3, hz3, h⟩ := ev_bnE h
  refine ec_Vi (Y := mX10_isSilent) (ci := 9) (As := [.int x1]) (rest := []) dX10_canPropose_14 kX10_140 oX10_isSilent ⟨Nat.le_of_ble_eq_true rfl, Nat.le_of_ble_eq_true rfl⟩ (by decide) rfl (shp_n g0 0 rfl) (shp_t g0 0 rfl) rfl (Nat.le_of_ble_eq_true rfl) (tX10_isSilent n q0 g0 x1 I z3 hz3) rfl ?_
  refine ev_if_ne (tgt := 57) dX10_canPropose_17 (by decide) (fun c4 => ?_) (fun c4 => ?_)
  · have h := ev_ifF h c4
    refine ev_iconst (v := (0 : Int32)) dX10_canPropose_57 (by decide) ?_
    cases h
    exact er_i dX10_canPropose_58 rfl rfl
  · have h := ev_ifT h c4
    refine ev_aload_n dX10_canPropose_20 rfl (fun _ e => by cases e) ?_
    obtain ⟨z5, hz5, h⟩ := ev_bnE h
    refine ec_Vi (Y := mX10_blockMany) (ci := 9) (As := []) (rest := []) dX10_canPropose_21 kX10_51 oX10_blockMany ⟨Nat.le_of_ble_eq_true rfl, Nat.le_of_ble_eq_true rfl⟩ (by decide) rfl (shp_n g0 0 rfl) (shp_t g0 0 rfl) rfl (Nat.le_of_ble_eq_true rfl) (tX10_blockMany n q0 g0  I z5 hz5) rfl ?_
    refine ev_bipush (v := (100 : Int32)) dX10_canPropose_24 (by decide) ?_
    refine ev_icmp_eq (tgt := 57) dX10_canPropose_26 (by decide) (fun c6 => ?_) (fun c6 => ?_)
    · have h := ev_ifT h c6
      refine ev_iconst (v := (0 : Int32)) dX10_canPropose_57 (by decide) ?_
      cases h
      exact er_i dX10_canPropose_58 rfl rfl
    · have h := ev_ifF h c6
      refine ev_iload_n dX10_canPropose_29 rfl ?_
      refine ev_sipush (v := (200 : Int32)) dX10_canPropose_30 (by decide) ?_
      refine ev_icmp_gt (tgt := 57) dX10_canPropose_33 (by decide) (fun c7 => ?_) (fun c7 => ?_)
      · have h := ev_ifT h c7
        refine ev_iconst (v := (0 : Int32)) dX10_canPropose_57 (by decide) ?_
        cases h
        exact er_i dX10_canPropose_58 rfl rfl
      · have h := ev_ifF h c7
        refine ev_aload_n dX10_canPropose_36 rfl (fun _ e => by cases e) ?_
        refine ev_iload_n dX10_canPropose_37 rfl ?_
        obtain ⟨z8, hz8, h⟩ := ev_bnE h
        refine ec_Vi (Y := mX10_leaderOf) (ci := 9) (As := [.int z2]) (rest := []) dX10_canPropose_38 kX10_128 oX10_leaderOf ⟨Nat.le_of_ble_eq_true rfl, Nat.le_of_ble_eq_true rfl⟩ (by decide) rfl (shp_n g0 0 rfl) (shp_t g0 0 rfl) rfl (Nat.le_of_ble_eq_true rfl) (tX10_leaderOf n q0 g0 z2 I z8 hz8) rfl ?_
        refine ev_iload_n dX10_canPropose_41 rfl ?_
        refine ev_icmp_ne (tgt := 57) dX10_canPropose_42 (by decide) (fun c9 => ?_) (fun c9 => ?_)
        · have h := ev_ifF h c9
          refine ev_iconst (v := (0 : Int32)) dX10_canPropose_57 (by decide) ?_
          cases h
          exact er_i dX10_canPropose_58 rfl rfl
        · have h := ev_ifT h c9
          refine ev_aload_n dX10_canPropose_45 rfl (fun _ e => by cases e) ?_
          refine ew_getr0 dX10_canPropose_46 fX10_7 g0 rfl rfl rfl rfl ?_
          refine ev_iload_n dX10_canPropose_49 rfl ?_
          refine ev_iconst (v := (3 : Int32)) dX10_canPropose_50 (by decide) ?_
          refine ev_iadd dX10_canPropose_51 ?_
          obtain ⟨c10, h⟩ := ev_ckE h
          refine ew_iald dX10_canPropose_52 (shp_a g0 1 rfl) c10 ?_
          refine ev_iload_n dX10_canPropose_53 rfl ?_
          refine ev_icmp_lt (tgt := 59) dX10_canPropose_54 (by decide) (fun c11 => ?_) (fun c11 => ?_)
          · have h := ev_ifT h c11
            refine ev_iload_n dX10_canPropose_59 rfl ?_
            refine ev_iconst (v := (1 : Int32)) dX10_canPropose_60 (by decide) ?_
            refine ev_icmp_eq (tgt := 101) dX10_canPropose_61 (by decide) (fun c12 => ?_) (fun c12 => ?_)
            · have h := ev_ifT h c12
              refine ev_iconst (v := (1 : Int32)) dX10_canPropose_101 (by decide) ?_
              refine ev_goto (tgt := 106) dX10_canPropose_102 (by decide) ?_
              cases h
              exact er_i dX10_canPropose_106 rfl rfl
            · have h := ev_ifF h c12
              refine ev_aload_n dX10_canPropose_64 rfl (fun _ e => by cases e) ?_
              refine ew_getr0 dX10_canPropose_65 fX10_7 g0 rfl rfl rfl rfl ?_
              refine ev_bipush (v := (16 : Int32)) dX10_canPropose_68 (by decide) ?_
              refine ev_aload_n dX10_canPropose_70 rfl (fun _ e => by cases e) ?_
              refine ew_getr0 dX10_canPropose_71 fX10_7 g0 rfl rfl rfl rfl ?_
              refine ev_iload_n dX10_canPropose_74 rfl ?_
              refine ev_iconst (v := (5 : Int32)) dX10_canPropose_75 (by decide) ?_
              refine ev_iadd dX10_canPropose_76 ?_
              obtain ⟨c13, h⟩ := ev_ckE h
              refine ew_iald dX10_canPropose_77 (shp_a g0 1 rfl) c13 ?_
              refine ev_iadd dX10_canPropose_78 ?_
              obtain ⟨c14, h⟩ := ev_ckE h
              refine ew_iald dX10_canPropose_79 (shp_a g0 1 rfl) c14 ?_
              refine ev_iload_n dX10_canPropose_80 rfl ?_
              refine ev_iconst (v := (1 : Int32)) dX10_canPropose_81 (by decide) ?_
              refine ev_isub dX10_canPropose_82 ?_
              refine ev_icmp_eq (tgt := 101) dX10_canPropose_83 (by decide) (fun c15 => ?_) (fun c15 => ?_)
              · have h := ev_ifT h c15
                refine ev_iconst (v := (1 : Int32)) dX10_canPropose_101 (by decide) ?_
                refine ev_goto (tgt := 106) dX10_canPropose_102 (by decide) ?_
                cases h
                exact er_i dX10_canPropose_106 rfl rfl
              · have h := ev_ifF h c15
                refine ev_aload_n dX10_canPropose_86 rfl (fun _ e => by cases e) ?_
                refine ew_getr0 dX10_canPropose_87 fX10_7 g0 rfl rfl rfl rfl ?_
                refine ev_iload_n dX10_canPropose_90 rfl ?_
                refine ev_bipush (v := (7 : Int32)) dX10_canPropose_91 (by decide) ?_
                refine ev_iadd dX10_canPropose_93 ?_
                obtain ⟨c16, h⟩ := ev_ckE h
                refine ew_iald dX10_canPropose_94 (shp_a g0 1 rfl) c16 ?_
                refine ev_iload_n dX10_canPropose_95 rfl ?_
                refine ev_iconst (v := (1 : Int32)) dX10_canPropose_96 (by decide) ?_
                refine ev_isub dX10_canPropose_97 ?_
                refine ev_icmp_lt (tgt := 105) dX10_canPropose_98 (by decide) (fun c17 => ?_) (fun c17 => ?_)
                · have h := ev_ifT h c17
                  refine ev_iconst (v := (0 : Int32)) dX10_canPropose_105 (by decide) ?_
                  cases h
                  exact er_i dX10_canPropose_106 rfl rfl
                · have h := ev_ifF h c17
                  refine ev_iconst (v := (1 : Int32)) dX10_canPropose_101 (by decide) ?_
                  refine ev_goto (tgt := 106) dX10_canPropose_102 (by decide) ?_
                  cases h
                  exact er_i dX10_canPropose_106 rfl rfl
          · have h := ev_ifF h c11
            refine ev_iconst (v := (0 : Int32)) dX10_canPropose_57 (by decide) ?_
            cases h
            exact er_i dX10_canPropose_58 rfl rfl
-- ChainVotesModel laysBlock(IIIIIZ)I
def cX10_laysBlock_113 (q0 : Nat) (n : Nat) (y1 : Int32) (y7 : Int32) (s1 : Int32) (s2 : Int32) (I : ev_I) : Option (Int32 × ev_I) :=
  ev_ck (ev_in s1 6010) <|
  ev_lt (ev_u2 I (q0 + 1) s1.toNatClampNeg s2) fun I2 =>
  ev_ck (ev_in ((716 : Int32) + y7) 6010) <|
  ev_lt (ev_u2 I2 (q0 + 1) ((716 : Int32) + y7).toNatClampNeg (0 : Int32)) fun I4 =>
  ev_lt (ev_u2 I4 (q0 + 1) (3 : Int32).toNatClampNeg y7) fun I5 =>
  (pX10_sendsAll n q0 y1 (1 : Int32) y7 (-1 : Int32) I5).bind fun z6 =>
  some (y7, z6)
def pX10_laysBlock (n : Nat) (q0 : Nat) (x1 : Int32) (x2 : Int32) (x3 : Int32) (x4 : Int32) (x5 : Int32) (x6 : Int32) (I : ev_I) : Option (Int32 × ev_I) :=
  (pX10_blockMany n q0  I).bind fun z7 =>
  ev_ck (ev_in ((16 : Int32) + z7) 6010) <|
  ev_lt (ev_u2 I (q0 + 1) ((16 : Int32) + z7).toNatClampNeg x2) fun I9 =>
  ev_ck (ev_in ((116 : Int32) + z7) 6010) <|
  ev_lt (ev_u2 I9 (q0 + 1) ((116 : Int32) + z7).toNatClampNeg (x3 + (1 : Int32))) fun I11 =>
  ev_ck (ev_in ((216 : Int32) + z7) 6010) <|
  ev_lt (ev_u2 I11 (q0 + 1) ((216 : Int32) + z7).toNatClampNeg x4) fun I13 =>
  ev_ck (ev_in ((316 : Int32) + z7) 6010) <|
  ev_lt (ev_u2 I13 (q0 + 1) ((316 : Int32) + z7).toNatClampNeg x5) fun I15 =>
  ev_ck (ev_in ((416 : Int32) + z7) 6010) <|
  ev_lt (ev_u2 I15 (q0 + 1) ((416 : Int32) + z7).toNatClampNeg (x1 + (1 : Int32))) fun I17 =>
  ev_ck (ev_in ((516 : Int32) + x3) 6010) <|
  ev_ck (ev_in ((516 : Int32) + z7) 6010) <|
  ev_lt (ev_u2 I17 (q0 + 1) ((516 : Int32) + z7).toNatClampNeg ((I17 (q0 + 1) ((516 : Int32) + x3).toNatClampNeg) + (1 : Int32))) fun I20 =>
  if x6 = 0 then
    cX10_laysBlock_113 q0 n x1 z7 ((616 : Int32) + z7) (0 : Int32) I20
  else
    cX10_laysBlock_113 q0 n x1 z7 ((616 : Int32) + z7) (1 : Int32) I20
set_option maxRecDepth 100000 in
set_option maxHeartbeats 4000000 in
theorem tX10_laysBlock_113 {E : ev_N} {σ : ev_H} (q0 : Nat) (g0 : shp tb9 σ q0) (n : Nat) (y1 : Int32) (y7 : Int32) (s1 : Int32) (s2 : Int32) (I : ev_I) (o : Int32 × ev_I) : cX10_laysBlock_113 q0 n y1 y7 s1 s2 I = some o → EV E mX10_laysBlock 113 [some (.ref q0), some (.int y1), none, none, none, none, none, some (.int y7)] [(.int s2), (.int s1), (.ref (q0 + 1))] (h_w σ I) (Option.some (Value.int o.1), h_w σ o.2) := by
  intro h
  unfold cX10_laysBlock_113 at h
  obtain ⟨c1, h⟩ := ev_ckE h
  obtain ⟨I2, eI2, h⟩ := ev_ltE h
  refine ew_iast dX10_laysBlock_113 (shp_a g0 1 rfl) c1 (ew_nh eI2 ?_)
  refine ev_aload_n dX10_laysBlock_114 rfl (fun _ e => by cases e) ?_
  refine ew_getr0 dX10_laysBlock_115 fX10_7 g0 rfl rfl rfl rfl ?_
  refine ev_sipush (v := (716 : Int32)) dX10_laysBlock_118 (by decide) ?_
  refine ev_iload dX10_laysBlock_121 rfl ?_
  refine ev_iadd dX10_laysBlock_123 ?_
  refine ev_iconst (v := (0 : Int32)) dX10_laysBlock_124 (by decide) ?_
  obtain ⟨c3, h⟩ := ev_ckE h
  obtain ⟨I4, eI4, h⟩ := ev_ltE h
  refine ew_iast dX10_laysBlock_125 (shp_a g0 1 rfl) c3 (ew_nh eI4 ?_)
  refine ev_aload_n dX10_laysBlock_126 rfl (fun _ e => by cases e) ?_
  refine ew_getr0 dX10_laysBlock_127 fX10_7 g0 rfl rfl rfl rfl ?_
  refine ev_iconst (v := (3 : Int32)) dX10_laysBlock_130 (by decide) ?_
  refine ev_iload dX10_laysBlock_131 rfl ?_
  obtain ⟨I5, eI5, h⟩ := ev_ltE h
  refine ew_iast dX10_laysBlock_133 (shp_a g0 1 rfl) (by decide) (ew_nh eI5 ?_)
  refine ev_aload_n dX10_laysBlock_134 rfl (fun _ e => by cases e) ?_
  refine ev_iload_n dX10_laysBlock_135 rfl ?_
  refine ev_iconst (v := (1 : Int32)) dX10_laysBlock_136 (by decide) ?_
  refine ev_iload dX10_laysBlock_137 rfl ?_
  refine ev_iconst (v := (-1 : Int32)) dX10_laysBlock_139 (by decide) ?_
  obtain ⟨z6, hz6, h⟩ := ev_bnE h
  refine ec_Vv (Y := mX10_sendsAll) (ci := 9) (As := [.int y1, .int (1 : Int32), .int y7, .int (-1 : Int32)]) (rest := []) dX10_laysBlock_140 kX10_166 oX10_sendsAll ⟨Nat.le_of_ble_eq_true rfl, Nat.le_of_ble_eq_true rfl⟩ (by decide) rfl (shp_n g0 0 rfl) (shp_t g0 0 rfl) rfl (Nat.le_of_ble_eq_true rfl) (tX10_sendsAll n q0 g0 y1 (1 : Int32) y7 (-1 : Int32) I5 z6 hz6) rfl ?_
  refine ev_iload dX10_laysBlock_143 rfl ?_
  cases h
  exact er_i dX10_laysBlock_145 rfl rfl
set_option maxRecDepth 100000 in
set_option maxHeartbeats 4000000 in
theorem tX10_laysBlock {E : ev_N} {σ : ev_H} (n : Nat) (q0 : Nat) (g0 : shp tb9 σ q0) (x1 : Int32) (x2 : Int32) (x3 : Int32) (x4 : Int32) (x5 : Int32) (x6 : Int32) (I : ev_I) (o : Int32 × ev_I) (h : pX10_laysBlock n q0 x1 x2 x3 x4 x5 x6 I = some o) : ev_T E mX10_laysBlock [.ref q0, .int x1, .int x2, .int x3, .int x4, .int x5, .int x6] (h_w σ I) (Option.some (Value.int o.1), h_w σ o.2) := by
  unfold pX10_laysBlock at h
  refine ev_met rfl rfl (Nat.le_of_ble_eq_true rfl) (ev_L0 (L' := [some (.ref q0), some (.int x1), some (.int x2), some (.int x3), some (.int x4), some (.int x5), some (.int x6), none]) rfl ?_)
  refine ev_aload_n dX10_laysBlock_0 rfl (fun _ e => by cases e) ?_
  obtain ⟨z7, hz7, h⟩ := ev_bnE h
  refine ec_Vi (Y := mX10_blockMany) (ci := 9) (As := []) (rest := []) dX10_laysBlock_1 kX10_51 oX10_blockMany ⟨Nat.le_of_ble_eq_true rfl, Nat.le_of_ble_eq_true rfl⟩ (by decide) rfl (shp_n g0 0 rfl) (shp_t g0 0 rfl) rfl (Nat.le_of_ble_eq_true rfl) (tX10_blockMany n q0 g0  I z7 hz7) rfl ?_
  refine ew_ist (L' := [some (.ref q0), some (.int x1), some (.int x2), some (.int x3), some (.int x4), some (.int x5), some (.int x6), some (.int z7)]) dX10_laysBlock_4 (Nat.le_of_ble_eq_true rfl) rfl ?_
  refine ev_aload_n dX10_laysBlock_6 rfl (fun _ e => by cases e) ?_
  refine ew_getr0 dX10_laysBlock_7 fX10_7 g0 rfl rfl rfl rfl ?_
  refine ev_bipush (v := (16 : Int32)) dX10_laysBlock_10 (by decide) ?_
  refine ev_iload dX10_laysBlock_12 rfl ?_
  refine ev_iadd dX10_laysBlock_14 ?_
  refine ev_iload_n dX10_laysBlock_15 rfl ?_
  obtain ⟨c8, h⟩ := ev_ckE h
  obtain ⟨I9, eI9, h⟩ := ev_ltE h
  refine ew_iast dX10_laysBlock_16 (shp_a g0 1 rfl) c8 (ew_nh eI9 ?_)
  refine ev_aload_n dX10_laysBlock_17 rfl (fun _ e => by cases e) ?_
  refine ew_getr0 dX10_laysBlock_18 fX10_7 g0 rfl rfl rfl rfl ?_
  refine ev_bipush (v := (116 : Int32)) dX10_laysBlock_21 (by decide) ?_
  refine ev_iload dX10_laysBlock_23 rfl ?_
  refine ev_iadd dX10_laysBlock_25 ?_
  refine ev_iload_n dX10_laysBlock_26 rfl ?_
  refine ev_iconst (v := (1 : Int32)) dX10_laysBlock_27 (by decide) ?_
  refine ev_iadd dX10_laysBlock_28 ?_
  obtain ⟨c10, h⟩ := ev_ckE h
  obtain ⟨I11, eI11, h⟩ := ev_ltE h
  refine ew_iast dX10_laysBlock_29 (shp_a g0 1 rfl) c10 (ew_nh eI11 ?_)
  refine ev_aload_n dX10_laysBlock_30 rfl (fun _ e => by cases e) ?_
  refine ew_getr0 dX10_laysBlock_31 fX10_7 g0 rfl rfl rfl rfl ?_
  refine ev_sipush (v := (216 : Int32)) dX10_laysBlock_34 (by decide) ?_
  refine ev_iload dX10_laysBlock_37 rfl ?_
  refine ev_iadd dX10_laysBlock_39 ?_
  refine ev_iload dX10_laysBlock_40 rfl ?_
  obtain ⟨c12, h⟩ := ev_ckE h
  obtain ⟨I13, eI13, h⟩ := ev_ltE h
  refine ew_iast dX10_laysBlock_42 (shp_a g0 1 rfl) c12 (ew_nh eI13 ?_)
  refine ev_aload_n dX10_laysBlock_43 rfl (fun _ e => by cases e) ?_
  refine ew_getr0 dX10_laysBlock_44 fX10_7 g0 rfl rfl rfl rfl ?_
  refine ev_sipush (v := (316 : Int32)) dX10_laysBlock_47 (by decide) ?_
  refine ev_iload dX10_laysBlock_50 rfl ?_
  refine ev_iadd dX10_laysBlock_52 ?_
  refine ev_iload dX10_laysBlock_53 rfl ?_
  obtain ⟨c14, h⟩ := ev_ckE h
  obtain ⟨I15, eI15, h⟩ := ev_ltE h
  refine ew_iast dX10_laysBlock_55 (shp_a g0 1 rfl) c14 (ew_nh eI15 ?_)
  refine ev_aload_n dX10_laysBlock_56 rfl (fun _ e => by cases e) ?_
  refine ew_getr0 dX10_laysBlock_57 fX10_7 g0 rfl rfl rfl rfl ?_
  refine ev_sipush (v := (416 : Int32)) dX10_laysBlock_60 (by decide) ?_
  refine ev_iload dX10_laysBlock_63 rfl ?_
  refine ev_iadd dX10_laysBlock_65 ?_
  refine ev_iload_n dX10_laysBlock_66 rfl ?_
  refine ev_iconst (v := (1 : Int32)) dX10_laysBlock_67 (by decide) ?_
  refine ev_iadd dX10_laysBlock_68 ?_
  obtain ⟨c16, h⟩ := ev_ckE h
  obtain ⟨I17, eI17, h⟩ := ev_ltE h
  refine ew_iast dX10_laysBlock_69 (shp_a g0 1 rfl) c16 (ew_nh eI17 ?_)
  refine ev_aload_n dX10_laysBlock_70 rfl (fun _ e => by cases e) ?_
  refine ew_getr0 dX10_laysBlock_71 fX10_7 g0 rfl rfl rfl rfl ?_
  refine ev_sipush (v := (516 : Int32)) dX10_laysBlock_74 (by decide) ?_
  refine ev_iload dX10_laysBlock_77 rfl ?_
  refine ev_iadd dX10_laysBlock_79 ?_
  refine ev_aload_n dX10_laysBlock_80 rfl (fun _ e => by cases e) ?_
  refine ew_getr0 dX10_laysBlock_81 fX10_7 g0 rfl rfl rfl rfl ?_
  refine ev_sipush (v := (516 : Int32)) dX10_laysBlock_84 (by decide) ?_
  refine ev_iload_n dX10_laysBlock_87 rfl ?_
  refine ev_iadd dX10_laysBlock_88 ?_
  obtain ⟨c18, h⟩ := ev_ckE h
  refine ew_iald dX10_laysBlock_89 (shp_a g0 1 rfl) c18 ?_
  refine ev_iconst (v := (1 : Int32)) dX10_laysBlock_90 (by decide) ?_
  refine ev_iadd dX10_laysBlock_91 ?_
  obtain ⟨c19, h⟩ := ev_ckE h
  obtain ⟨I20, eI20, h⟩ := ev_ltE h
  refine ew_iast dX10_laysBlock_92 (shp_a g0 1 rfl) c19 (ew_nh eI20 ?_)
  refine ev_aload_n dX10_laysBlock_93 rfl (fun _ e => by cases e) ?_
  refine ew_getr0 dX10_laysBlock_94 fX10_7 g0 rfl rfl rfl rfl ?_
  refine ev_sipush (v := (616 : Int32)) dX10_laysBlock_97 (by decide) ?_
  refine ev_iload dX10_laysBlock_100 rfl ?_
  refine ev_iadd dX10_laysBlock_102 ?_
  refine ev_iload dX10_laysBlock_103 rfl ?_
  refine ev_if_eq (tgt := 112) dX10_laysBlock_105 (by decide) (fun c21 => ?_) (fun c21 => ?_)
  · have h := ev_ifT h c21
    refine ev_iconst (v := (0 : Int32)) dX10_laysBlock_112 (by decide) ?_
    exact ev_weak (sb_s (sb_s (sb_n (sb_n (sb_n (sb_n (sb_n (sb_s sb_0)))))))) (tX10_laysBlock_113 q0 g0 n x1 z7 ((616 : Int32) + z7) (0 : Int32) I20 _ h)
  · have h := ev_ifF h c21
    refine ev_iconst (v := (1 : Int32)) dX10_laysBlock_108 (by decide) ?_
    refine ev_goto (tgt := 113) dX10_laysBlock_109 (by decide) ?_
    exact ev_weak (sb_s (sb_s (sb_n (sb_n (sb_n (sb_n (sb_n (sb_s sb_0)))))))) (tX10_laysBlock_113 q0 g0 n x1 z7 ((616 : Int32) + z7) (1 : Int32) I20 _ h)
-- ChainVotesModel proposes(II)I
def cX10_proposes_65 (q0 : Nat) (n : Nat) (s1 : Int32) (s2 : Int32) (s3 : Int32) (s4 : Int32) (s5 : Int32) (s6 : Int32) (I : ev_I) : Option (Int32 × ev_I) :=
  (pX10_laysBlock n q0 s1 s2 s3 s4 s5 s6 I).bind fun z1 =>
  some (z1.1, z1.2)
def pX10_proposes (n : Nat) (q0 : Nat) (x1 : Int32) (x2 : Int32) (I : ev_I) : Option (Int32 × ev_I) :=
  (pX10_nodeAt n q0 x1 I).bind fun z2 =>
  (pX10_viewOf n q0 x1 I).bind fun z3 =>
  ev_ck (ev_in (z2 + (3 : Int32)) 6010) <|
  ev_lt (ev_u2 I (q0 + 1) (z2 + (3 : Int32)).toNatClampNeg z3) fun I5 =>
  ev_ck (ev_in (z2 + (5 : Int32)) 6010) <|
  ev_ck (ev_in (z2 + (5 : Int32)) 6010) <|
  ev_ck (ev_in (z2 + (7 : Int32)) 6010) <|
  if (I5 (q0 + 1) (z2 + (7 : Int32)).toNatClampNeg) < (z3 - (1 : Int32)) then
    cX10_proposes_65 q0 n x1 z3 (I5 (q0 + 1) (z2 + (5 : Int32)).toNatClampNeg) (I5 (q0 + 1) (z2 + (5 : Int32)).toNatClampNeg) x2 (0 : Int32) I5
  else
    cX10_proposes_65 q0 n x1 z3 (I5 (q0 + 1) (z2 + (5 : Int32)).toNatClampNeg) (I5 (q0 + 1) (z2 + (5 : Int32)).toNatClampNeg) x2 (1 : Int32) I5
set_option maxRecDepth 100000 in
set_option maxHeartbeats 4000000 in
theorem tX10_proposes_65 {E : ev_N} {σ : ev_H} (q0 : Nat) (g0 : shp tb9 σ q0) (n : Nat) (s1 : Int32) (s2 : Int32) (s3 : Int32) (s4 : Int32) (s5 : Int32) (s6 : Int32) (I : ev_I) (o : Int32 × ev_I) : cX10_proposes_65 q0 n s1 s2 s3 s4 s5 s6 I = some o → EV E mX10_proposes 65 [none, none, none, none, none] [(.int s6), (.int s5), (.int s4), (.int s3), (.int s2), (.int s1), (.ref q0)] (h_w σ I) (Option.some (Value.int o.1), h_w σ o.2) := by
  intro h
  unfold cX10_proposes_65 at h
  obtain ⟨z1, hz1, h⟩ := ev_bnE h
  refine ec_Vi (Y := mX10_laysBlock) (ci := 9) (As := [.int s1, .int s2, .int s3, .int s4, .int s5, .int s6]) (rest := []) dX10_proposes_65 kX10_169 oX10_laysBlock ⟨Nat.le_of_ble_eq_true rfl, Nat.le_of_ble_eq_true rfl⟩ (by decide) rfl (shp_n g0 0 rfl) (shp_t g0 0 rfl) rfl (Nat.le_of_ble_eq_true rfl) (tX10_laysBlock n q0 g0 s1 s2 s3 s4 s5 s6 I z1 hz1) rfl ?_
  cases h
  exact er_i dX10_proposes_68 rfl rfl
set_option maxRecDepth 100000 in
set_option maxHeartbeats 4000000 in
theorem tX10_proposes {E : ev_N} {σ : ev_H} (n : Nat) (q0 : Nat) (g0 : shp tb9 σ q0) (x1 : Int32) (x2 : Int32) (I : ev_I) (o : Int32 × ev_I) (h : pX10_proposes n q0 x1 x2 I = some o) : ev_T E mX10_proposes [.ref q0, .int x1, .int x2] (h_w σ I) (Option.some (Value.int o.1), h_w σ o.2) := by
  unfold pX10_proposes at h
  refine ev_met rfl rfl (Nat.le_of_ble_eq_true rfl) (ev_L0 (L' := [some (.ref q0), some (.int x1), some (.int x2), none, none]) rfl ?_)
  refine ev_aload_n dX10_proposes_0 rfl (fun _ e => by cases e) ?_
  refine ev_iload_n dX10_proposes_1 rfl ?_
  obtain ⟨z2, hz2, h⟩ := ev_bnE h
  refine ec_Vi (Y := mX10_nodeAt) (ci := 9) (As := [.int x1]) (rest := []) dX10_proposes_2 kX10_54 oX10_nodeAt ⟨Nat.le_of_ble_eq_true rfl, Nat.le_of_ble_eq_true rfl⟩ (by decide) rfl (shp_n g0 0 rfl) (shp_t g0 0 rfl) rfl (Nat.le_of_ble_eq_true rfl) (tX10_nodeAt n q0 g0 x1 I z2 hz2) rfl ?_
  refine ew_istn (L' := [some (.ref q0), some (.int x1), some (.int x2), some (.int z2), none]) dX10_proposes_5 (Nat.le_of_ble_eq_true rfl) rfl ?_
  refine ev_aload_n dX10_proposes_6 rfl (fun _ e => by cases e) ?_
  refine ev_iload_n dX10_proposes_7 rfl ?_
  obtain ⟨z3, hz3, h⟩ := ev_bnE h
  refine ec_Vi (Y := mX10_viewOf) (ci := 9) (As := [.int x1]) (rest := []) dX10_proposes_8 kX10_104 oX10_viewOf ⟨Nat.le_of_ble_eq_true rfl, Nat.le_of_ble_eq_true rfl⟩ (by decide) rfl (shp_n g0 0 rfl) (shp_t g0 0 rfl) rfl (Nat.le_of_ble_eq_true rfl) (tX10_viewOf n q0 g0 x1 I z3 hz3) rfl ?_
  refine ew_ist (L' := [some (.ref q0), some (.int x1), some (.int x2), some (.int z2), some (.int z3)]) dX10_proposes_11 (Nat.le_of_ble_eq_true rfl) rfl ?_
  refine ev_aload_n dX10_proposes_13 rfl (fun _ e => by cases e) ?_
  refine ew_getr0 dX10_proposes_14 fX10_7 g0 rfl rfl rfl rfl ?_
  refine ev_iload_n dX10_proposes_17 rfl ?_
  refine ev_iconst (v := (3 : Int32)) dX10_proposes_18 (by decide) ?_
  refine ev_iadd dX10_proposes_19 ?_
  refine ev_iload dX10_proposes_20 rfl ?_
  obtain ⟨c4, h⟩ := ev_ckE h
  obtain ⟨I5, eI5, h⟩ := ev_ltE h
  refine ew_iast dX10_proposes_22 (shp_a g0 1 rfl) c4 (ew_nh eI5 ?_)
  refine ev_aload_n dX10_proposes_23 rfl (fun _ e => by cases e) ?_
  refine ev_iload_n dX10_proposes_24 rfl ?_
  refine ev_iload dX10_proposes_25 rfl ?_
  refine ev_aload_n dX10_proposes_27 rfl (fun _ e => by cases e) ?_
  refine ew_getr0 dX10_proposes_28 fX10_7 g0 rfl rfl rfl rfl ?_
  refine ev_iload_n dX10_proposes_31 rfl ?_
  refine ev_iconst (v := (5 : Int32)) dX10_proposes_32 (by decide) ?_
  refine ev_iadd dX10_proposes_33 ?_
  obtain ⟨c6, h⟩ := ev_ckE h
  refine ew_iald dX10_proposes_34 (shp_a g0 1 rfl) c6 ?_
  refine ev_aload_n dX10_proposes_35 rfl (fun _ e => by cases e) ?_
  refine ew_getr0 dX10_proposes_36 fX10_7 g0 rfl rfl rfl rfl ?_
  refine ev_iload_n dX10_proposes_39 rfl ?_
  refine ev_iconst (v := (5 : Int32)) dX10_proposes_40 (by decide) ?_
  refine ev_iadd dX10_proposes_41 ?_
  obtain ⟨c7, h⟩ := ev_ckE h
  refine ew_iald dX10_proposes_42 (shp_a g0 1 rfl) c7 ?_
  refine ev_iload_n dX10_proposes_43 rfl ?_
  refine ev_aload_n dX10_proposes_44 rfl (fun _ e => by cases e) ?_
  refine ew_getr0 dX10_proposes_45 fX10_7 g0 rfl rfl rfl rfl ?_
  refine ev_iload_n dX10_proposes_48 rfl ?_
  refine ev_bipush (v := (7 : Int32)) dX10_proposes_49 (by decide) ?_
  refine ev_iadd dX10_proposes_51 ?_
  obtain ⟨c8, h⟩ := ev_ckE h
  refine ew_iald dX10_proposes_52 (shp_a g0 1 rfl) c8 ?_
  refine ev_iload dX10_proposes_53 rfl ?_
  refine ev_iconst (v := (1 : Int32)) dX10_proposes_55 (by decide) ?_
  refine ev_isub dX10_proposes_56 ?_
  refine ev_icmp_lt (tgt := 64) dX10_proposes_57 (by decide) (fun c9 => ?_) (fun c9 => ?_)
  · have h := ev_ifT h c9
    refine ev_iconst (v := (0 : Int32)) dX10_proposes_64 (by decide) ?_
    exact ev_weak (sb_n (sb_n (sb_n (sb_n (sb_n sb_0))))) (tX10_proposes_65 q0 g0 n x1 z3 (I5 (q0 + 1) (z2 + (5 : Int32)).toNatClampNeg) (I5 (q0 + 1) (z2 + (5 : Int32)).toNatClampNeg) x2 (0 : Int32) I5 _ h)
  · have h := ev_ifF h c9
    refine ev_iconst (v := (1 : Int32)) dX10_proposes_60 (by decide) ?_
    refine ev_goto (tgt := 65) dX10_proposes_61 (by decide) ?_
    exact ev_weak (sb_n (sb_n (sb_n (sb_n (sb_n sb_0))))) (tX10_proposes_65 q0 g0 n x1 z3 (I5 (q0 + 1) (z2 + (5 : Int32)).toNatClampNeg) (I5 (q0 + 1) (z2 + (5 : Int32)).toNatClampNeg) x2 (1 : Int32) I5 _ h)
-- ChainVotesModel propose(II)I
def pX10_propose (n : Nat) (q0 : Nat) (x1 : Int32) (x2 : Int32) (I : ev_I) : Option (Int32 × ev_I) :=
  ev_lt (ev_u2 I q0 0 (0 : Int32)) fun I1 =>
  (pX10_isNode n q0 x1 I1).bind fun z2 =>
  if z2 = 0 then
    some ((-1 : Int32), I1)
  else
    (pX10_isIn n q0 x2 (0 : Int32) (999 : Int32) I1).bind fun z4 =>
    if z4 = 0 then
      some ((-1 : Int32), I1)
    else
      (pX10_canPropose n q0 x1 I1).bind fun z6 =>
      if z6 = 0 then
        some ((-1 : Int32), I1)
      else
        (pX10_proposes n q0 x1 x2 I1).bind fun z8 =>
        some (z8.1, z8.2)
set_option maxRecDepth 100000 in
set_option maxHeartbeats 4000000 in
theorem tX10_propose {E : ev_N} {σ : ev_H} (n : Nat) (q0 : Nat) (g0 : shp tb9 σ q0) (x1 : Int32) (x2 : Int32) (I : ev_I) (o : Int32 × ev_I) (h : pX10_propose n q0 x1 x2 I = some o) : ev_T E mX10_propose [.ref q0, .int x1, .int x2] (h_w σ I) (Option.some (Value.int o.1), h_w σ o.2) := by
  unfold pX10_propose at h
  refine ev_met rfl rfl (Nat.le_of_ble_eq_true rfl) (ev_L0 (L' := [some (.ref q0), some (.int x1), some (.int x2)]) rfl ?_)
  refine ev_aload_n dX10_propose_0 rfl (fun _ e => by cases e) ?_
  refine ev_iconst (v := (0 : Int32)) dX10_propose_1 (by decide) ?_
  obtain ⟨I1, eI1, h⟩ := ev_ltE h
  refine ew_put0 dX10_propose_2 fX10_44 g0 rfl rfl rfl rfl rfl rfl (ew_nh eI1 ?_)
  refine ev_aload_n dX10_propose_5 rfl (fun _ e => by cases e) ?_
  refine ev_iload_n dX10_propose_6 rfl ?_
  obtain ⟨z2, hz2, h⟩ := ev_bnE h
  refine ec_Vi (Y := mX10_isNode) (ci := 9) (As := [.int x1]) (rest := []) dX10_propose_7 kX10_71 oX10_isNode ⟨Nat.le_of_ble_eq_true rfl, Nat.le_of_ble_eq_true rfl⟩ (by decide) rfl (shp_n g0 0 rfl) (shp_t g0 0 rfl) rfl (Nat.le_of_ble_eq_true rfl) (tX10_isNode n q0 g0 x1 I1 z2 hz2) rfl ?_
  refine ev_if_eq (tgt := 42) dX10_propose_10 (by decide) (fun c3 => ?_) (fun c3 => ?_)
  · have h := ev_ifT h c3
    refine ev_iconst (v := (-1 : Int32)) dX10_propose_42 (by decide) ?_
    cases h
    exact er_i dX10_propose_43 rfl rfl
  · have h := ev_ifF h c3
    refine ev_aload_n dX10_propose_13 rfl (fun _ e => by cases e) ?_
    refine ev_iload_n dX10_propose_14 rfl ?_
    refine ev_iconst (v := (0 : Int32)) dX10_propose_15 (by decide) ?_
    refine ev_sipush (v := (999 : Int32)) dX10_propose_16 (by decide) ?_
    obtain ⟨z4, hz4, h⟩ := ev_bnE h
    refine ec_Vi (Y := mX10_isIn) (ci := 9) (As := [.int x2, .int (0 : Int32), .int (999 : Int32)]) (rest := []) dX10_propose_19 kX10_61 oX10_isIn ⟨Nat.le_of_ble_eq_true rfl, Nat.le_of_ble_eq_true rfl⟩ (by decide) rfl (shp_n g0 0 rfl) (shp_t g0 0 rfl) rfl (Nat.le_of_ble_eq_true rfl) (tX10_isIn n q0 g0 x2 (0 : Int32) (999 : Int32) I1 z4 hz4) rfl ?_
    refine ev_if_eq (tgt := 42) dX10_propose_22 (by decide) (fun c5 => ?_) (fun c5 => ?_)
    · have h := ev_ifT h c5
      refine ev_iconst (v := (-1 : Int32)) dX10_propose_42 (by decide) ?_
      cases h
      exact er_i dX10_propose_43 rfl rfl
    · have h := ev_ifF h c5
      refine ev_aload_n dX10_propose_25 rfl (fun _ e => by cases e) ?_
      refine ev_iload_n dX10_propose_26 rfl ?_
      obtain ⟨z6, hz6, h⟩ := ev_bnE h
      refine ec_Vi (Y := mX10_canPropose) (ci := 9) (As := [.int x1]) (rest := []) dX10_propose_27 kX10_173 oX10_canPropose ⟨Nat.le_of_ble_eq_true rfl, Nat.le_of_ble_eq_true rfl⟩ (by decide) rfl (shp_n g0 0 rfl) (shp_t g0 0 rfl) rfl (Nat.le_of_ble_eq_true rfl) (tX10_canPropose n q0 g0 x1 I1 z6 hz6) rfl ?_
      refine ev_if_eq (tgt := 42) dX10_propose_30 (by decide) (fun c7 => ?_) (fun c7 => ?_)
      · have h := ev_ifT h c7
        refine ev_iconst (v := (-1 : Int32)) dX10_propose_42 (by decide) ?_
        cases h
        exact er_i dX10_propose_43 rfl rfl
      · have h := ev_ifF h c7
        refine ev_aload_n dX10_propose_33 rfl (fun _ e => by cases e) ?_
        refine ev_iload_n dX10_propose_34 rfl ?_
        refine ev_iload_n dX10_propose_35 rfl ?_
        obtain ⟨z8, hz8, h⟩ := ev_bnE h
        refine ec_Vi (Y := mX10_proposes) (ci := 9) (As := [.int x1, .int x2]) (rest := []) dX10_propose_36 kX10_176 oX10_proposes ⟨Nat.le_of_ble_eq_true rfl, Nat.le_of_ble_eq_true rfl⟩ (by decide) rfl (shp_n g0 0 rfl) (shp_t g0 0 rfl) rfl (Nat.le_of_ble_eq_true rfl) (tX10_proposes n q0 g0 x1 x2 I1 z8 hz8) rfl ?_
        refine ev_goto (tgt := 43) dX10_propose_39 (by decide) ?_
        cases h
        exact er_i dX10_propose_43 rfl rfl
