-- ChainVotes$Tape write(I)V
def cX7_write_3 (q0 : Nat) (K3 : Int32 → Int32 → ev_I → Option (ev_I)) (n : Nat) (y1 : Int32) (y2 : Int32) (I : ev_I) : Option (ev_I) :=
  if y2 < 0 then
    some I
  else
    if (400 : Int32) ≤ (I q0 1) then
      some I
    else
      ev_ck (ev_in (I q0 1) 400) <|
      ev_lt (ev_u2 I (q0 + 1) (I q0 1).toNatClampNeg (vp_nar .byte (y1 >>> (y2 &&& 31)).toInt8.toInt32)) fun I4 =>
      ev_lt (ev_u2 I4 q0 1 ((I4 q0 1) + (1 : Int32))) fun I5 =>
      ev_lt (y2 + (-8 : Int32)) fun v6 =>
      K3 y1 v6 I5
def lX7_write_3 (q0 : Nat) : Nat → Int32 → Int32 → ev_I → Option (ev_I)
  | 0, _, _, _ => none
  | n + 1, y1, y2, I => cX7_write_3 q0 (lX7_write_3 q0 n) n y1 y2 I
def pX7_write (n : Nat) (q0 : Nat) (x1 : Int32) (I : ev_I) : Option (ev_I) :=
  lX7_write_3 q0 n x1 (24 : Int32) I
set_option maxRecDepth 100000 in
set_option maxHeartbeats 4000000 in
theorem tX7_write_3 {E : ev_N} {σ : ev_H} (q0 : Nat) (g0 : shp tb6 σ q0) (K3 : Int32 → Int32 → ev_I → Option (ev_I)) (k3 : ∀ (y1 : Int32) (y2 : Int32) (I : ev_I) (o : ev_I), K3 y1 y2 I = some o → EV E mX7_write 3 [some (.ref q0), some (.int y1), some (.int y2)] [] (h_w σ I) (Option.none, h_w σ o)) (n : Nat) (y1 : Int32) (y2 : Int32) (I : ev_I) (o : ev_I) : cX7_write_3 q0 K3 n y1 y2 I = some o → EV E mX7_write 3 [some (.ref q0), some (.int y1), some (.int y2)] [] (h_w σ I) (Option.none, h_w σ o) := by
  intro h
  unfold cX7_write_3 at h
  refine ev_iload_n dX7_write_3 rfl ?_
  refine ev_if_lt (tgt := 46) dX7_write_4 (by decide) (fun c1 => ?_) (fun c1 => ?_)
  · have h := ev_ifT h c1
    cases h
    exact er_v dX7_write_46 rfl
  · have h := ev_ifF h c1
    refine ev_aload_n dX7_write_7 rfl (fun _ e => by cases e) ?_
    refine ew_get0 dX7_write_8 fX7_26 g0 rfl rfl rfl ?_
    refine ev_sipush (v := (400 : Int32)) dX7_write_11 (by decide) ?_
    refine ev_icmp_ge (tgt := 46) dX7_write_14 (by decide) (fun c2 => ?_) (fun c2 => ?_)
    · have h := ev_ifT h c2
      cases h
      exact er_v dX7_write_46 rfl
    · have h := ev_ifF h c2
      refine ev_aload_n dX7_write_17 rfl (fun _ e => by cases e) ?_
      refine ew_getr0 dX7_write_18 fX7_9 g0 rfl rfl rfl rfl ?_
      refine ev_aload_n dX7_write_21 rfl (fun _ e => by cases e) ?_
      refine ew_get0 dX7_write_22 fX7_26 g0 rfl rfl rfl ?_
      refine ev_iload_n dX7_write_25 rfl ?_
      refine ev_iload_n dX7_write_26 rfl ?_
      refine ev_ishr dX7_write_27 ?_
      refine ev_i2b dX7_write_28 ?_
      obtain ⟨c3, h⟩ := ev_ckE h
      obtain ⟨I4, eI4, h⟩ := ev_ltE h
      refine ew_bast dX7_write_29 (shp_a g0 1 rfl) c3 (ew_nh eI4 ?_)
      refine ev_aload_n dX7_write_30 rfl (fun _ e => by cases e) ?_
      refine ev_dup dX7_write_31 ?_
      refine ew_get0 dX7_write_32 fX7_26 g0 rfl rfl rfl ?_
      refine ev_iconst (v := (1 : Int32)) dX7_write_35 (by decide) ?_
      refine ev_iadd dX7_write_36 ?_
      obtain ⟨I5, eI5, h⟩ := ev_ltE h
      refine ew_put0 dX7_write_37 fX7_26 g0 rfl rfl rfl rfl rfl rfl (ew_nh eI5 ?_)
      obtain ⟨v6, ev6, h⟩ := ev_ltE h
      refine ew_iinc (L' := [some (.ref q0), some (.int y1), some (.int v6)]) dX7_write_40 (Nat.le_of_ble_eq_true rfl) rfl (by decide) ev6 rfl ?_
      refine ev_goto (tgt := 3) dX7_write_43 (by decide) ?_
      exact ev_weak (sb_s (sb_s (sb_s sb_0))) (k3 y1 v6 I5 _ h)
theorem tlX7_write_3 {E : ev_N} {σ : ev_H} (q0 : Nat) (g0 : shp tb6 σ q0) : ∀ (n : Nat) (y1 : Int32) (y2 : Int32) (I : ev_I) (o : ev_I), lX7_write_3 q0 n y1 y2 I = some o → EV E mX7_write 3 [some (.ref q0), some (.int y1), some (.int y2)] [] (h_w σ I) (Option.none, h_w σ o)
  | 0, _, _, _, _, h => by cases h
  | n + 1, y1, y2, I, o, h => tX7_write_3 q0 g0 (lX7_write_3 q0 n) (tlX7_write_3 q0 g0 n) n y1 y2 I o h
set_option maxRecDepth 100000 in
set_option maxHeartbeats 4000000 in
theorem tX7_write {E : ev_N} {σ : ev_H} (n : Nat) (q0 : Nat) (g0 : shp tb6 σ q0) (x1 : Int32) (I : ev_I) (o : ev_I) (h : pX7_write n q0 x1 I = some o) : ev_T E mX7_write [.ref q0, .int x1] (h_w σ I) (Option.none, h_w σ o) := by
  unfold pX7_write at h
  refine ev_met rfl rfl (Nat.le_of_ble_eq_true rfl) (ev_L0 (L' := [some (.ref q0), some (.int x1), none]) rfl ?_)
  refine ev_bipush (v := (24 : Int32)) dX7_write_0 (by decide) ?_
  refine ew_istn (L' := [some (.ref q0), some (.int x1), some (.int (24 : Int32))]) dX7_write_2 (Nat.le_of_ble_eq_true rfl) rfl ?_
  exact ev_weak (sb_s (sb_s (sb_s sb_0))) (tlX7_write_3 q0 g0 n x1 (24 : Int32) I _ h)
-- ChainVotes$Tape fail(I)V
def pX7_fail (n : Nat) (q0 : Nat) (x1 : Int32) (I : ev_I) : Option (ev_I) :=
  ev_lt (ev_u2 I q0 2 x1) fun I1 =>
  ev_lt (ev_u2 I1 q0 3 (I1 q0 5)) fun I2 =>
  some I2
set_option maxRecDepth 100000 in
set_option maxHeartbeats 4000000 in
theorem tX7_fail {E : ev_N} {σ : ev_H} (n : Nat) (q0 : Nat) (g0 : shp tb6 σ q0) (x1 : Int32) (I : ev_I) (o : ev_I) (h : pX7_fail n q0 x1 I = some o) : ev_T E mX7_fail [.ref q0, .int x1] (h_w σ I) (Option.none, h_w σ o) := by
  unfold pX7_fail at h
  refine ev_met rfl rfl (Nat.le_of_ble_eq_true rfl) (ev_L0 (L' := [some (.ref q0), some (.int x1)]) rfl ?_)
  refine ev_aload_n dX7_fail_0 rfl (fun _ e => by cases e) ?_
  refine ev_iload_n dX7_fail_1 rfl ?_
  obtain ⟨I1, eI1, h⟩ := ev_ltE h
  refine ew_put0 dX7_fail_2 fX7_29 g0 rfl rfl rfl rfl rfl rfl (ew_nh eI1 ?_)
  refine ev_aload_n dX7_fail_5 rfl (fun _ e => by cases e) ?_
  refine ev_aload_n dX7_fail_6 rfl (fun _ e => by cases e) ?_
  refine ew_get0 dX7_fail_7 fX7_95 g0 rfl rfl rfl ?_
  obtain ⟨I2, eI2, h⟩ := ev_ltE h
  refine ew_put0 dX7_fail_10 fX7_22 g0 rfl rfl rfl rfl rfl rfl (ew_nh eI2 ?_)
  cases h
  exact er_v dX7_fail_13 rfl
-- ChainVotes$Tape isBlank(I)Z
def pX7_isBlank (n : Nat)  (x0 : Int32) (I : ev_I) : Option (Int32) :=
  if x0 = (32 : Int32) then
    some (1 : Int32)
  else
    if x0 = (10 : Int32) then
      some (1 : Int32)
    else
      some (0 : Int32)
set_option maxRecDepth 100000 in
set_option maxHeartbeats 4000000 in
theorem tX7_isBlank {E : ev_N} {σ : ev_H} (n : Nat)   (x0 : Int32) (I : ev_I) (o : Int32) (h : pX7_isBlank n  x0 I = some o) : ev_T E mX7_isBlank [.int x0] (h_w σ I) (Option.some (Value.int o), h_w σ I) := by
  unfold pX7_isBlank at h
  refine ev_met rfl rfl (Nat.le_of_ble_eq_true rfl) (ev_L0 (L' := [some (.int x0)]) rfl ?_)
  refine ev_iload_n dX7_isBlank_0 rfl ?_
  refine ev_bipush (v := (32 : Int32)) dX7_isBlank_1 (by decide) ?_
  refine ev_icmp_eq (tgt := 12) dX7_isBlank_3 (by decide) (fun c1 => ?_) (fun c1 => ?_)
  · have h := ev_ifT h c1
    refine ev_iconst (v := (1 : Int32)) dX7_isBlank_12 (by decide) ?_
    refine ev_goto (tgt := 17) dX7_isBlank_13 (by decide) ?_
    cases h
    exact er_i dX7_isBlank_17 rfl rfl
  · have h := ev_ifF h c1
    refine ev_iload_n dX7_isBlank_6 rfl ?_
    refine ev_bipush (v := (10 : Int32)) dX7_isBlank_7 (by decide) ?_
    refine ev_icmp_ne (tgt := 16) dX7_isBlank_9 (by decide) (fun c2 => ?_) (fun c2 => ?_)
    · have h := ev_ifF h c2
      refine ev_iconst (v := (0 : Int32)) dX7_isBlank_16 (by decide) ?_
      cases h
      exact er_i dX7_isBlank_17 rfl rfl
    · have h := ev_ifT h c2
      refine ev_iconst (v := (1 : Int32)) dX7_isBlank_12 (by decide) ?_
      refine ev_goto (tgt := 17) dX7_isBlank_13 (by decide) ?_
      cases h
      exact er_i dX7_isBlank_17 rfl rfl
-- ChainVotes$Tape isLetter(I)Z
def cX7_isLetter_12  (n : Nat) (y0 : Int32) (I : ev_I) : Option (Int32) :=
  if y0 < (65 : Int32) then
    some (0 : Int32)
  else
    if (90 : Int32) < y0 then
      some (0 : Int32)
    else
      some (1 : Int32)
def pX7_isLetter (n : Nat)  (x0 : Int32) (I : ev_I) : Option (Int32) :=
  if x0 < (97 : Int32) then
    cX7_isLetter_12  n x0 I
  else
    if x0 ≤ (122 : Int32) then
      some (1 : Int32)
    else
      cX7_isLetter_12  n x0 I
set_option maxRecDepth 100000 in
set_option maxHeartbeats 4000000 in
theorem tX7_isLetter_12 {E : ev_N} {σ : ev_H}   (n : Nat) (y0 : Int32) (I : ev_I) (o : Int32) : cX7_isLetter_12  n y0 I = some o → EV E mX7_isLetter 12 [some (.int y0)] [] (h_w σ I) (Option.some (Value.int o), h_w σ I) := by
  intro h
  unfold cX7_isLetter_12 at h
  refine ev_iload_n dX7_isLetter_12 rfl ?_
  refine ev_bipush (v := (65 : Int32)) dX7_isLetter_13 (by decide) ?_
  refine ev_icmp_lt (tgt := 28) dX7_isLetter_15 (by decide) (fun c1 => ?_) (fun c1 => ?_)
  · have h := ev_ifT h c1
    refine ev_iconst (v := (0 : Int32)) dX7_isLetter_28 (by decide) ?_
    cases h
    exact er_i dX7_isLetter_29 rfl rfl
  · have h := ev_ifF h c1
    refine ev_iload_n dX7_isLetter_18 rfl ?_
    refine ev_bipush (v := (90 : Int32)) dX7_isLetter_19 (by decide) ?_
    refine ev_icmp_gt (tgt := 28) dX7_isLetter_21 (by decide) (fun c2 => ?_) (fun c2 => ?_)
    · have h := ev_ifT h c2
      refine ev_iconst (v := (0 : Int32)) dX7_isLetter_28 (by decide) ?_
      cases h
      exact er_i dX7_isLetter_29 rfl rfl
    · have h := ev_ifF h c2
      refine ev_iconst (v := (1 : Int32)) dX7_isLetter_24 (by decide) ?_
      refine ev_goto (tgt := 29) dX7_isLetter_25 (by decide) ?_
      cases h
      exact er_i dX7_isLetter_29 rfl rfl
set_option maxRecDepth 100000 in
set_option maxHeartbeats 4000000 in
theorem tX7_isLetter {E : ev_N} {σ : ev_H} (n : Nat)   (x0 : Int32) (I : ev_I) (o : Int32) (h : pX7_isLetter n  x0 I = some o) : ev_T E mX7_isLetter [.int x0] (h_w σ I) (Option.some (Value.int o), h_w σ I) := by
  unfold pX7_isLetter at h
  refine ev_met rfl rfl (Nat.le_of_ble_eq_true rfl) (ev_L0 (L' := [some (.int x0)]) rfl ?_)
  refine ev_iload_n dX7_isLetter_0 rfl ?_
  refine ev_bipush (v := (97 : Int32)) dX7_isLetter_1 (by decide) ?_
  refine ev_icmp_lt (tgt := 12) dX7_isLetter_3 (by decide) (fun c3 => ?_) (fun c3 => ?_)
  · have h := ev_ifT h c3
    exact ev_weak (sb_s sb_0) (tX7_isLetter_12   n x0 I _ h)
  · have h := ev_ifF h c3
    refine ev_iload_n dX7_isLetter_6 rfl ?_
    refine ev_bipush (v := (122 : Int32)) dX7_isLetter_7 (by decide) ?_
    refine ev_icmp_le (tgt := 24) dX7_isLetter_9 (by decide) (fun c4 => ?_) (fun c4 => ?_)
    · have h := ev_ifT h c4
      refine ev_iconst (v := (1 : Int32)) dX7_isLetter_24 (by decide) ?_
      refine ev_goto (tgt := 29) dX7_isLetter_25 (by decide) ?_
      cases h
      exact er_i dX7_isLetter_29 rfl rfl
    · have h := ev_ifF h c4
      exact ev_weak (sb_s sb_0) (tX7_isLetter_12   n x0 I _ h)
-- ChainVotes$Tape isDigit(I)Z
def pX7_isDigit (n : Nat)  (x0 : Int32) (I : ev_I) : Option (Int32) :=
  if x0 < (48 : Int32) then
    some (0 : Int32)
  else
    if (57 : Int32) < x0 then
      some (0 : Int32)
    else
      some (1 : Int32)
set_option maxRecDepth 100000 in
set_option maxHeartbeats 4000000 in
theorem tX7_isDigit {E : ev_N} {σ : ev_H} (n : Nat)   (x0 : Int32) (I : ev_I) (o : Int32) (h : pX7_isDigit n  x0 I = some o) : ev_T E mX7_isDigit [.int x0] (h_w σ I) (Option.some (Value.int o), h_w σ I) := by
  unfold pX7_isDigit at h
  refine ev_met rfl rfl (Nat.le_of_ble_eq_true rfl) (ev_L0 (L' := [some (.int x0)]) rfl ?_)
  refine ev_iload_n dX7_isDigit_0 rfl ?_
  refine ev_bipush (v := (48 : Int32)) dX7_isDigit_1 (by decide) ?_
  refine ev_icmp_lt (tgt := 16) dX7_isDigit_3 (by decide) (fun c1 => ?_) (fun c1 => ?_)
  · have h := ev_ifT h c1
    refine ev_iconst (v := (0 : Int32)) dX7_isDigit_16 (by decide) ?_
    cases h
    exact er_i dX7_isDigit_17 rfl rfl
  · have h := ev_ifF h c1
    refine ev_iload_n dX7_isDigit_6 rfl ?_
    refine ev_bipush (v := (57 : Int32)) dX7_isDigit_7 (by decide) ?_
    refine ev_icmp_gt (tgt := 16) dX7_isDigit_9 (by decide) (fun c2 => ?_) (fun c2 => ?_)
    · have h := ev_ifT h c2
      refine ev_iconst (v := (0 : Int32)) dX7_isDigit_16 (by decide) ?_
      cases h
      exact er_i dX7_isDigit_17 rfl rfl
    · have h := ev_ifF h c2
      refine ev_iconst (v := (1 : Int32)) dX7_isDigit_12 (by decide) ?_
      refine ev_goto (tgt := 17) dX7_isDigit_13 (by decide) ?_
      cases h
      exact er_i dX7_isDigit_17 rfl rfl
-- ChainVotes$Tape numberHere()I
def cX7_numberHere_7 (q0 : Nat) (K7 : Int32 → Int32 → ev_I → Option (Int32)) (n : Nat) (y1 : Int32) (y2 : Int32) (I : ev_I) : Option (Int32) :=
  if (I q0 6) ≤ y2 then
    some y1
  else
    ev_ck (ev_in y2 400) <|
    ev_lt ((((10 : Int32) * y1) + (I (q0 + 1) y2.toNatClampNeg)) - (48 : Int32)) fun v3 =>
    ev_lt (y2 + (1 : Int32)) fun v4 =>
    K7 v3 v4 I
def lX7_numberHere_7 (q0 : Nat) : Nat → Int32 → Int32 → ev_I → Option (Int32)
  | 0, _, _, _ => none
  | n + 1, y1, y2, I => cX7_numberHere_7 q0 (lX7_numberHere_7 q0 n) n y1 y2 I
def pX7_numberHere (n : Nat) (q0 : Nat) (I : ev_I) : Option (Int32) :=
  ev_lt (I q0 5) fun v5 =>
  lX7_numberHere_7 q0 n (0 : Int32) v5 I
set_option maxRecDepth 100000 in
set_option maxHeartbeats 4000000 in
theorem tX7_numberHere_7 {E : ev_N} {σ : ev_H} (q0 : Nat) (g0 : shp tb6 σ q0) (K7 : Int32 → Int32 → ev_I → Option (Int32)) (k7 : ∀ (y1 : Int32) (y2 : Int32) (I : ev_I) (o : Int32), K7 y1 y2 I = some o → EV E mX7_numberHere 7 [some (.ref q0), some (.int y1), some (.int y2)] [] (h_w σ I) (Option.some (Value.int o), h_w σ I)) (n : Nat) (y1 : Int32) (y2 : Int32) (I : ev_I) (o : Int32) : cX7_numberHere_7 q0 K7 n y1 y2 I = some o → EV E mX7_numberHere 7 [some (.ref q0), some (.int y1), some (.int y2)] [] (h_w σ I) (Option.some (Value.int o), h_w σ I) := by
  intro h
  unfold cX7_numberHere_7 at h
  refine ev_iload_n dX7_numberHere_7 rfl ?_
  refine ev_aload_n dX7_numberHere_8 rfl (fun _ e => by cases e) ?_
  refine ew_get0 dX7_numberHere_9 fX7_32 g0 rfl rfl rfl ?_
  refine ev_icmp_ge (tgt := 36) dX7_numberHere_12 (by decide) (fun c1 => ?_) (fun c1 => ?_)
  · have h := ev_ifT h c1
    refine ev_iload_n dX7_numberHere_36 rfl ?_
    cases h
    exact er_i dX7_numberHere_37 rfl rfl
  · have h := ev_ifF h c1
    refine ev_bipush (v := (10 : Int32)) dX7_numberHere_15 (by decide) ?_
    refine ev_iload_n dX7_numberHere_17 rfl ?_
    refine ev_imul dX7_numberHere_18 ?_
    refine ev_aload_n dX7_numberHere_19 rfl (fun _ e => by cases e) ?_
    refine ew_getr0 dX7_numberHere_20 fX7_9 g0 rfl rfl rfl rfl ?_
    refine ev_iload_n dX7_numberHere_23 rfl ?_
    obtain ⟨c2, h⟩ := ev_ckE h
    refine ew_bald dX7_numberHere_24 (shp_a g0 1 rfl) c2 ?_
    refine ev_iadd dX7_numberHere_25 ?_
    refine ev_bipush (v := (48 : Int32)) dX7_numberHere_26 (by decide) ?_
    refine ev_isub dX7_numberHere_28 ?_
    obtain ⟨v3, ev3, h⟩ := ev_ltE h
    refine ew_nm ev3 ?_
    refine ew_istn (L' := [some (.ref q0), some (.int v3), some (.int y2)]) dX7_numberHere_29 (Nat.le_of_ble_eq_true rfl) rfl ?_
    obtain ⟨v4, ev4, h⟩ := ev_ltE h
    refine ew_iinc (L' := [some (.ref q0), some (.int v3), some (.int v4)]) dX7_numberHere_30 (Nat.le_of_ble_eq_true rfl) rfl (by decide) ev4 rfl ?_
    refine ev_goto (tgt := 7) dX7_numberHere_33 (by decide) ?_
    exact ev_weak (sb_s (sb_s (sb_s sb_0))) (k7 v3 v4 I _ h)
theorem tlX7_numberHere_7 {E : ev_N} {σ : ev_H} (q0 : Nat) (g0 : shp tb6 σ q0) : ∀ (n : Nat) (y1 : Int32) (y2 : Int32) (I : ev_I) (o : Int32), lX7_numberHere_7 q0 n y1 y2 I = some o → EV E mX7_numberHere 7 [some (.ref q0), some (.int y1), some (.int y2)] [] (h_w σ I) (Option.some (Value.int o), h_w σ I)
  | 0, _, _, _, _, h => by cases h
  | n + 1, y1, y2, I, o, h => tX7_numberHere_7 q0 g0 (lX7_numberHere_7 q0 n) (tlX7_numberHere_7 q0 g0 n) n y1 y2 I o h
set_option maxRecDepth 100000 in
set_option maxHeartbeats 4000000 in
theorem tX7_numberHere {E : ev_N} {σ : ev_H} (n : Nat) (q0 : Nat) (g0 : shp tb6 σ q0) (I : ev_I) (o : Int32) (h : pX7_numberHere n q0  I = some o) : ev_T E mX7_numberHere [.ref q0] (h_w σ I) (Option.some (Value.int o), h_w σ I) := by
  unfold pX7_numberHere at h
  refine ev_met rfl rfl (Nat.le_of_ble_eq_true rfl) (ev_L0 (L' := [some (.ref q0), none, none]) rfl ?_)
  refine ev_iconst (v := (0 : Int32)) dX7_numberHere_0 (by decide) ?_
  refine ew_istn (L' := [some (.ref q0), some (.int (0 : Int32)), none]) dX7_numberHere_1 (Nat.le_of_ble_eq_true rfl) rfl ?_
  refine ev_aload_n dX7_numberHere_2 rfl (fun _ e => by cases e) ?_
  refine ew_get0 dX7_numberHere_3 fX7_95 g0 rfl rfl rfl ?_
  obtain ⟨v5, ev5, h⟩ := ev_ltE h
  refine ew_nm ev5 ?_
  refine ew_istn (L' := [some (.ref q0), some (.int (0 : Int32)), some (.int v5)]) dX7_numberHere_6 (Nat.le_of_ble_eq_true rfl) rfl ?_
  exact ev_weak (sb_s (sb_s (sb_s sb_0))) (tlX7_numberHere_7 q0 g0 n (0 : Int32) v5 I _ h)
-- ChainVotes$Tape leastOf(C)I
def pX7_leastOf (n : Nat)  (x0 : Int32) (I : ev_I) : Option (Int32) :=
  if x0 = (75 : Int32) then
    some (1 : Int32)
  else
    if x0 = (86 : Int32) then
      some (1 : Int32)
    else
      if x0 = (82 : Int32) then
        some (1 : Int32)
      else
        some (0 : Int32)
set_option maxRecDepth 100000 in
set_option maxHeartbeats 4000000 in
theorem tX7_leastOf {E : ev_N} {σ : ev_H} (n : Nat)   (x0 : Int32) (I : ev_I) (o : Int32) (h : pX7_leastOf n  x0 I = some o) : ev_T E mX7_leastOf [.int x0] (h_w σ I) (Option.some (Value.int o), h_w σ I) := by
  unfold pX7_leastOf at h
  refine ev_met rfl rfl (Nat.le_of_ble_eq_true rfl) (ev_L0 (L' := [some (.int x0)]) rfl ?_)
  refine ev_iload_n dX7_leastOf_0 rfl ?_
  refine ev_bipush (v := (75 : Int32)) dX7_leastOf_1 (by decide) ?_
  refine ev_icmp_eq (tgt := 18) dX7_leastOf_3 (by decide) (fun c1 => ?_) (fun c1 => ?_)
  · have h := ev_ifT h c1
    refine ev_iconst (v := (1 : Int32)) dX7_leastOf_18 (by decide) ?_
    refine ev_goto (tgt := 23) dX7_leastOf_19 (by decide) ?_
    cases h
    exact er_i dX7_leastOf_23 rfl rfl
  · have h := ev_ifF h c1
    refine ev_iload_n dX7_leastOf_6 rfl ?_
    refine ev_bipush (v := (86 : Int32)) dX7_leastOf_7 (by decide) ?_
    refine ev_icmp_eq (tgt := 18) dX7_leastOf_9 (by decide) (fun c2 => ?_) (fun c2 => ?_)
    · have h := ev_ifT h c2
      refine ev_iconst (v := (1 : Int32)) dX7_leastOf_18 (by decide) ?_
      refine ev_goto (tgt := 23) dX7_leastOf_19 (by decide) ?_
      cases h
      exact er_i dX7_leastOf_23 rfl rfl
    · have h := ev_ifF h c2
      refine ev_iload_n dX7_leastOf_12 rfl ?_
      refine ev_bipush (v := (82 : Int32)) dX7_leastOf_13 (by decide) ?_
      refine ev_icmp_ne (tgt := 22) dX7_leastOf_15 (by decide) (fun c3 => ?_) (fun c3 => ?_)
      · have h := ev_ifF h c3
        refine ev_iconst (v := (0 : Int32)) dX7_leastOf_22 (by decide) ?_
        cases h
        exact er_i dX7_leastOf_23 rfl rfl
      · have h := ev_ifT h c3
        refine ev_iconst (v := (1 : Int32)) dX7_leastOf_18 (by decide) ?_
        refine ev_goto (tgt := 23) dX7_leastOf_19 (by decide) ?_
        cases h
        exact er_i dX7_leastOf_23 rfl rfl
-- ChainVotes$Tape mostOf(C)I
def pX7_mostOf (n : Nat)  (x0 : Int32) (I : ev_I) : Option (Int32) :=
  if x0 = (66 : Int32) then
    some (99 : Int32)
  else
  if x0 = (78 : Int32) then
    some (6 : Int32)
  else
  if x0 = (80 : Int32) then
    some (999 : Int32)
  else
  if x0 = (82 : Int32) then
    some (20 : Int32)
  else
  if x0 = (86 : Int32) then
    some (200 : Int32)
  else
  some (50 : Int32)
set_option maxRecDepth 100000 in
set_option maxHeartbeats 4000000 in
theorem tX7_mostOf {E : ev_N} {σ : ev_H} (n : Nat)   (x0 : Int32) (I : ev_I) (o : Int32) (h : pX7_mostOf n  x0 I = some o) : ev_T E mX7_mostOf [.int x0] (h_w σ I) (Option.some (Value.int o), h_w σ I) := by
  unfold pX7_mostOf at h
  refine ev_met rfl rfl (Nat.le_of_ble_eq_true rfl) (ev_L0 (L' := [some (.int x0)]) rfl ?_)
  refine ev_iload_n dX7_mostOf_0 rfl ?_
  by_cases c1 : x0 = (66 : Int32)
  · have h := ev_ifT h c1
    refine ev_lookup (tgt := 59) dX7_mostOf_1 (by decide) (by rw [c1]; decide) ?_
    refine ev_bipush (v := (99 : Int32)) dX7_mostOf_59 (by decide) ?_
    cases h
    exact er_i dX7_mostOf_61 rfl rfl
  have h := ev_ifF h c1
  by_cases c2 : x0 = (78 : Int32)
  · have h := ev_ifT h c2
    refine ev_lookup (tgt := 52) dX7_mostOf_1 (by decide) (by rw [c2]; decide) ?_
    refine ev_bipush (v := (6 : Int32)) dX7_mostOf_52 (by decide) ?_
    cases h
    exact er_i dX7_mostOf_54 rfl rfl
  have h := ev_ifF h c2
  by_cases c3 : x0 = (80 : Int32)
  · have h := ev_ifT h c3
    refine ev_lookup (tgt := 55) dX7_mostOf_1 (by decide) (by rw [c3]; decide) ?_
    refine ev_sipush (v := (999 : Int32)) dX7_mostOf_55 (by decide) ?_
    cases h
    exact er_i dX7_mostOf_58 rfl rfl
  have h := ev_ifF h c3
  by_cases c4 : x0 = (82 : Int32)
  · have h := ev_ifT h c4
    refine ev_lookup (tgt := 66) dX7_mostOf_1 (by decide) (by rw [c4]; decide) ?_
    refine ev_bipush (v := (20 : Int32)) dX7_mostOf_66 (by decide) ?_
    cases h
    exact er_i dX7_mostOf_68 rfl rfl
  have h := ev_ifF h c4
  by_cases c5 : x0 = (86 : Int32)
  · have h := ev_ifT h c5
    refine ev_lookup (tgt := 62) dX7_mostOf_1 (by decide) (by rw [c5]; decide) ?_
    refine ev_sipush (v := (200 : Int32)) dX7_mostOf_62 (by decide) ?_
    cases h
    exact er_i dX7_mostOf_65 rfl rfl
  have h := ev_ifF h c5
  refine ev_lookup (tgt := 69) dX7_mostOf_1 (by decide) (by rw [sw_lk (by intro q hq; simp at hq; rcases hq with rfl | rfl | rfl | rfl | rfl <;> first | exact ⟨_, by decide, c1⟩ | exact ⟨_, by decide, c2⟩ | exact ⟨_, by decide, c3⟩ | exact ⟨_, by decide, c4⟩ | exact ⟨_, by decide, c5⟩)]; decide) ?_
  refine ev_bipush (v := (50 : Int32)) dX7_mostOf_69 (by decide) ?_
  cases h
  exact er_i dX7_mostOf_71 rfl rfl
-- ChainVotes$Tape step()V
def cX7_step_128 (q0 : Nat) (n : Nat) (I : ev_I) : Option (ev_I) :=
  ev_lt (ev_u2 I q0 7 (1 : Int32)) fun I1 =>
  some I1
def cX7_step_89 (q0 : Nat) (K89 : ev_I → Option (ev_I)) (n : Nat) (I : ev_I) : Option (ev_I) :=
  if (I q0 1) ≤ (I q0 6) then
    cX7_step_128 q0 n  I
  else
    ev_ck (ev_in (I q0 6) 400) <|
    (pX7_isLetter n  (I (q0 + 1) (I q0 6).toNatClampNeg) I).bind fun z4 =>
    if z4 = 0 then
      cX7_step_128 q0 n  I
    else
      ev_lt (ev_u2 I q0 6 ((I q0 6) + (1 : Int32))) fun I6 =>
      K89  I6
def lX7_step_89 (q0 : Nat) : Nat → ev_I → Option (ev_I)
  | 0, _ => none
  | n + 1, I => cX7_step_89 q0 (lX7_step_89 q0 n) n  I
def cX7_step_245 (q0 : Nat) (n : Nat) (s1 : Int32) (I : ev_I) : Option (ev_I) :=
  ev_lt (ev_u2 I q0 7 s1) fun I7 =>
  some I7
def cX7_step_209 (q0 : Nat) (n : Nat) (s1 : Int32) (I : ev_I) : Option (ev_I) :=
  ev_lt (ev_u2 I q0 7 s1) fun I8 =>
  some I8
def cX7_step_190 (q0 : Nat) (n : Nat) (I : ev_I) : Option (ev_I) :=
  if (4 : Int32) < ((I q0 6) - (I q0 5)) then
    cX7_step_209 q0 n (4 : Int32) I
  else
    cX7_step_209 q0 n (2 : Int32) I
def cX7_step_151 (q0 : Nat) (K151 : ev_I → Option (ev_I)) (n : Nat) (I : ev_I) : Option (ev_I) :=
  if (I q0 1) ≤ (I q0 6) then
    cX7_step_190 q0 n  I
  else
    ev_ck (ev_in (I q0 6) 400) <|
    (pX7_isDigit n  (I (q0 + 1) (I q0 6).toNatClampNeg) I).bind fun z12 =>
    if z12 = 0 then
      cX7_step_190 q0 n  I
    else
      ev_lt (ev_u2 I q0 6 ((I q0 6) + (1 : Int32))) fun I14 =>
      K151  I14
def lX7_step_151 (q0 : Nat) : Nat → ev_I → Option (ev_I)
  | 0, _ => none
  | n + 1, I => cX7_step_151 q0 (lX7_step_151 q0 n) n  I
def cX7_step_47 (q0 : Nat) (n : Nat) (I : ev_I) : Option (ev_I) :=
  ev_lt (ev_u2 I q0 6 (I q0 5)) fun I15 =>
  if (I15 q0 5) < (I15 q0 1) then
    ev_ck (ev_in (I15 q0 5) 400) <|
    (pX7_isLetter n  (I15 (q0 + 1) (I15 q0 5).toNatClampNeg) I15).bind fun z18 =>
    if z18 = 0 then
      ev_ck (ev_in (I15 q0 5) 400) <|
      (pX7_isDigit n  (I15 (q0 + 1) (I15 q0 5).toNatClampNeg) I15).bind fun z21 =>
      if z21 = 0 then
        ev_lt (ev_u2 I15 q0 6 ((I15 q0 5) + (1 : Int32))) fun I23 =>
        ev_ck (ev_in (I23 q0 5) 400) <|
        if (I23 (q0 + 1) (I23 q0 5).toNatClampNeg) = (59 : Int32) then
          cX7_step_245 q0 n (3 : Int32) I23
        else
          cX7_step_245 q0 n (4 : Int32) I23
      else
        lX7_step_151 q0 n  I15
    else
      lX7_step_89 q0 n  I15
  else
    ev_lt (ev_u2 I15 q0 7 (0 : Int32)) fun I26 =>
    some I26
def cX7_step_8 (q0 : Nat) (K8 : ev_I → Option (ev_I)) (n : Nat) (I : ev_I) : Option (ev_I) :=
  if (I q0 1) ≤ (I q0 5) then
    cX7_step_47 q0 n  I
  else
    ev_ck (ev_in (I q0 5) 400) <|
    (pX7_isBlank n  (I (q0 + 1) (I q0 5).toNatClampNeg) I).bind fun z29 =>
    if z29 = 0 then
      cX7_step_47 q0 n  I
    else
      ev_lt (ev_u2 I q0 5 ((I q0 5) + (1 : Int32))) fun I31 =>
      K8  I31
def lX7_step_8 (q0 : Nat) : Nat → ev_I → Option (ev_I)
  | 0, _ => none
  | n + 1, I => cX7_step_8 q0 (lX7_step_8 q0 n) n  I
def pX7_step (n : Nat) (q0 : Nat) (I : ev_I) : Option (ev_I) :=
  ev_lt (ev_u2 I q0 5 (I q0 6)) fun I32 =>
  lX7_step_8 q0 n  I32
set_option maxRecDepth 100000 in
set_option maxHeartbeats 4000000 in
theorem tX7_step_128 {E : ev_N} {σ : ev_H} (q0 : Nat) (g0 : shp tb6 σ q0) (n : Nat) (I : ev_I) (o : ev_I) : cX7_step_128 q0 n  I = some o → EV E mX7_step 128 [some (.ref q0)] [] (h_w σ I) (Option.none, h_w σ o) := by
  intro h
  unfold cX7_step_128 at h
  refine ev_aload_n dX7_step_128 rfl (fun _ e => by cases e) ?_
  refine ev_iconst (v := (1 : Int32)) dX7_step_129 (by decide) ?_
  obtain ⟨I1, eI1, h⟩ := ev_ltE h
  refine ew_put0 dX7_step_130 fX7_41 g0 rfl rfl rfl rfl rfl rfl (ew_nh eI1 ?_)
  refine ev_goto (tgt := 248) dX7_step_133 (by decide) ?_
  cases h
  exact er_v dX7_step_248 rfl
set_option maxRecDepth 100000 in
set_option maxHeartbeats 4000000 in
theorem tX7_step_89 {E : ev_N} {σ : ev_H} (q0 : Nat) (g0 : shp tb6 σ q0) (K89 : ev_I → Option (ev_I)) (k89 : ∀ (I : ev_I) (o : ev_I), K89  I = some o → EV E mX7_step 89 [some (.ref q0)] [] (h_w σ I) (Option.none, h_w σ o)) (n : Nat) (I : ev_I) (o : ev_I) : cX7_step_89 q0 K89 n  I = some o → EV E mX7_step 89 [some (.ref q0)] [] (h_w σ I) (Option.none, h_w σ o) := by
  intro h
  unfold cX7_step_89 at h
  refine ev_aload_n dX7_step_89 rfl (fun _ e => by cases e) ?_
  refine ew_get0 dX7_step_90 fX7_32 g0 rfl rfl rfl ?_
  refine ev_aload_n dX7_step_93 rfl (fun _ e => by cases e) ?_
  refine ew_get0 dX7_step_94 fX7_26 g0 rfl rfl rfl ?_
  refine ev_icmp_ge (tgt := 128) dX7_step_97 (by decide) (fun c2 => ?_) (fun c2 => ?_)
  · have h := ev_ifT h c2
    exact ev_weak (sb_s sb_0) (tX7_step_128 q0 g0 n  I _ h)
  · have h := ev_ifF h c2
    refine ev_aload_n dX7_step_100 rfl (fun _ e => by cases e) ?_
    refine ew_getr0 dX7_step_101 fX7_9 g0 rfl rfl rfl rfl ?_
    refine ev_aload_n dX7_step_104 rfl (fun _ e => by cases e) ?_
    refine ew_get0 dX7_step_105 fX7_32 g0 rfl rfl rfl ?_
    obtain ⟨c3, h⟩ := ev_ckE h
    refine ew_bald dX7_step_108 (shp_a g0 1 rfl) c3 ?_
    obtain ⟨z4, hz4, h⟩ := ev_bnE h
    refine ec_Si (Y := mX7_isLetter) (As := [.int (I (q0 + 1) (I q0 6).toNatClampNeg)]) (rest := []) dX7_step_109 kX7_102 oX7_isLetter ⟨Nat.le_of_ble_eq_true rfl, Nat.le_of_ble_eq_true rfl⟩ rfl (Nat.le_of_ble_eq_true rfl) (tX7_isLetter n   (I (q0 + 1) (I q0 6).toNatClampNeg) I z4 hz4) rfl ?_
    refine ev_if_eq (tgt := 128) dX7_step_112 (by decide) (fun c5 => ?_) (fun c5 => ?_)
    · have h := ev_ifT h c5
      exact ev_weak (sb_s sb_0) (tX7_step_128 q0 g0 n  I _ h)
    · have h := ev_ifF h c5
      refine ev_aload_n dX7_step_115 rfl (fun _ e => by cases e) ?_
      refine ev_dup dX7_step_116 ?_
      refine ew_get0 dX7_step_117 fX7_32 g0 rfl rfl rfl ?_
      refine ev_iconst (v := (1 : Int32)) dX7_step_120 (by decide) ?_
      refine ev_iadd dX7_step_121 ?_
      obtain ⟨I6, eI6, h⟩ := ev_ltE h
      refine ew_put0 dX7_step_122 fX7_32 g0 rfl rfl rfl rfl rfl rfl (ew_nh eI6 ?_)
      refine ev_goto (tgt := 89) dX7_step_125 (by decide) ?_
      exact ev_weak (sb_s sb_0) (k89  I6 _ h)
theorem tlX7_step_89 {E : ev_N} {σ : ev_H} (q0 : Nat) (g0 : shp tb6 σ q0) : ∀ (n : Nat) (I : ev_I) (o : ev_I), lX7_step_89 q0 n  I = some o → EV E mX7_step 89 [some (.ref q0)] [] (h_w σ I) (Option.none, h_w σ o)
  | 0, _, _, h => by cases h
  | n + 1, I, o, h => tX7_step_89 q0 g0 (lX7_step_89 q0 n) (tlX7_step_89 q0 g0 n) n  I o h
set_option maxRecDepth 100000 in
set_option maxHeartbeats 4000000 in
theorem tX7_step_245 {E : ev_N} {σ : ev_H} (q0 : Nat) (g0 : shp tb6 σ q0) (n : Nat) (s1 : Int32) (I : ev_I) (o : ev_I) : cX7_step_245 q0 n s1 I = some o → EV E mX7_step 245 [none] [(.int s1), (.ref q0)] (h_w σ I) (Option.none, h_w σ o) := by
  intro h
  unfold cX7_step_245 at h
  obtain ⟨I7, eI7, h⟩ := ev_ltE h
  refine ew_put0 dX7_step_245 fX7_41 g0 rfl rfl rfl rfl rfl rfl (ew_nh eI7 ?_)
  cases h
  exact er_v dX7_step_248 rfl
set_option maxRecDepth 100000 in
set_option maxHeartbeats 4000000 in
theorem tX7_step_209 {E : ev_N} {σ : ev_H} (q0 : Nat) (g0 : shp tb6 σ q0) (n : Nat) (s1 : Int32) (I : ev_I) (o : ev_I) : cX7_step_209 q0 n s1 I = some o → EV E mX7_step 209 [none] [(.int s1), (.ref q0)] (h_w σ I) (Option.none, h_w σ o) := by
  intro h
  unfold cX7_step_209 at h
  obtain ⟨I8, eI8, h⟩ := ev_ltE h
  refine ew_put0 dX7_step_209 fX7_41 g0 rfl rfl rfl rfl rfl rfl (ew_nh eI8 ?_)
  refine ev_goto (tgt := 248) dX7_step_212 (by decide) ?_
  cases h
  exact er_v dX7_step_248 rfl
set_option maxRecDepth 100000 in
set_option maxHeartbeats 4000000 in
theorem tX7_step_190 {E : ev_N} {σ : ev_H} (q0 : Nat) (g0 : shp tb6 σ q0) (n : Nat) (I : ev_I) (o : ev_I) : cX7_step_190 q0 n  I = some o → EV E mX7_step 190 [some (.ref q0)] [] (h_w σ I) (Option.none, h_w σ o) := by
  intro h
  unfold cX7_step_190 at h
  refine ev_aload_n dX7_step_190 rfl (fun _ e => by cases e) ?_
  refine ev_aload_n dX7_step_191 rfl (fun _ e => by cases e) ?_
  refine ew_get0 dX7_step_192 fX7_32 g0 rfl rfl rfl ?_
  refine ev_aload_n dX7_step_195 rfl (fun _ e => by cases e) ?_
  refine ew_get0 dX7_step_196 fX7_95 g0 rfl rfl rfl ?_
  refine ev_isub dX7_step_199 ?_
  refine ev_iconst (v := (4 : Int32)) dX7_step_200 (by decide) ?_
  refine ev_icmp_gt (tgt := 208) dX7_step_201 (by decide) (fun c9 => ?_) (fun c9 => ?_)
  · have h := ev_ifT h c9
    refine ev_iconst (v := (4 : Int32)) dX7_step_208 (by decide) ?_
    exact ev_weak (sb_n sb_0) (tX7_step_209 q0 g0 n (4 : Int32) I _ h)
  · have h := ev_ifF h c9
    refine ev_iconst (v := (2 : Int32)) dX7_step_204 (by decide) ?_
    refine ev_goto (tgt := 209) dX7_step_205 (by decide) ?_
    exact ev_weak (sb_n sb_0) (tX7_step_209 q0 g0 n (2 : Int32) I _ h)
set_option maxRecDepth 100000 in
set_option maxHeartbeats 4000000 in
theorem tX7_step_151 {E : ev_N} {σ : ev_H} (q0 : Nat) (g0 : shp tb6 σ q0) (K151 : ev_I → Option (ev_I)) (k151 : ∀ (I : ev_I) (o : ev_I), K151  I = some o → EV E mX7_step 151 [some (.ref q0)] [] (h_w σ I) (Option.none, h_w σ o)) (n : Nat) (I : ev_I) (o : ev_I) : cX7_step_151 q0 K151 n  I = some o → EV E mX7_step 151 [some (.ref q0)] [] (h_w σ I) (Option.none, h_w σ o) := by
  intro h
  unfold cX7_step_151 at h
  refine ev_aload_n dX7_step_151 rfl (fun _ e => by cases e) ?_
  refine ew_get0 dX7_step_152 fX7_32 g0 rfl rfl rfl ?_
  refine ev_aload_n dX7_step_155 rfl (fun _ e => by cases e) ?_
  refine ew_get0 dX7_step_156 fX7_26 g0 rfl rfl rfl ?_
  refine ev_icmp_ge (tgt := 190) dX7_step_159 (by decide) (fun c10 => ?_) (fun c10 => ?_)
  · have h := ev_ifT h c10
    exact ev_weak (sb_s sb_0) (tX7_step_190 q0 g0 n  I _ h)
  · have h := ev_ifF h c10
    refine ev_aload_n dX7_step_162 rfl (fun _ e => by cases e) ?_
    refine ew_getr0 dX7_step_163 fX7_9 g0 rfl rfl rfl rfl ?_
    refine ev_aload_n dX7_step_166 rfl (fun _ e => by cases e) ?_
    refine ew_get0 dX7_step_167 fX7_32 g0 rfl rfl rfl ?_
    obtain ⟨c11, h⟩ := ev_ckE h
    refine ew_bald dX7_step_170 (shp_a g0 1 rfl) c11 ?_
    obtain ⟨z12, hz12, h⟩ := ev_bnE h
    refine ec_Si (Y := mX7_isDigit) (As := [.int (I (q0 + 1) (I q0 6).toNatClampNeg)]) (rest := []) dX7_step_171 kX7_105 oX7_isDigit ⟨Nat.le_of_ble_eq_true rfl, Nat.le_of_ble_eq_true rfl⟩ rfl (Nat.le_of_ble_eq_true rfl) (tX7_isDigit n   (I (q0 + 1) (I q0 6).toNatClampNeg) I z12 hz12) rfl ?_
    refine ev_if_eq (tgt := 190) dX7_step_174 (by decide) (fun c13 => ?_) (fun c13 => ?_)
    · have h := ev_ifT h c13
      exact ev_weak (sb_s sb_0) (tX7_step_190 q0 g0 n  I _ h)
    · have h := ev_ifF h c13
      refine ev_aload_n dX7_step_177 rfl (fun _ e => by cases e) ?_
      refine ev_dup dX7_step_178 ?_
      refine ew_get0 dX7_step_179 fX7_32 g0 rfl rfl rfl ?_
      refine ev_iconst (v := (1 : Int32)) dX7_step_182 (by decide) ?_
      refine ev_iadd dX7_step_183 ?_
      obtain ⟨I14, eI14, h⟩ := ev_ltE h
      refine ew_put0 dX7_step_184 fX7_32 g0 rfl rfl rfl rfl rfl rfl (ew_nh eI14 ?_)
      refine ev_goto (tgt := 151) dX7_step_187 (by decide) ?_
      exact ev_weak (sb_s sb_0) (k151  I14 _ h)
theorem tlX7_step_151 {E : ev_N} {σ : ev_H} (q0 : Nat) (g0 : shp tb6 σ q0) : ∀ (n : Nat) (I : ev_I) (o : ev_I), lX7_step_151 q0 n  I = some o → EV E mX7_step 151 [some (.ref q0)] [] (h_w σ I) (Option.none, h_w σ o)
  | 0, _, _, h => by cases h
  | n + 1, I, o, h => tX7_step_151 q0 g0 (lX7_step_151 q0 n) (tlX7_step_151 q0 g0 n) n  I o h
set_option maxRecDepth 100000 in
set_option maxHeartbeats 4000000 in
theorem tX7_step_47 {E : ev_N} {σ : ev_H} (q0 : Nat) (g0 : shp tb6 σ q0) (n : Nat) (I : ev_I) (o : ev_I) : cX7_step_47 q0 n  I = some o → EV E mX7_step 47 [some (.ref q0)] [] (h_w σ I) (Option.none, h_w σ o) := by
  intro h
  unfold cX7_step_47 at h
  refine ev_aload_n dX7_step_47 rfl (fun _ e => by cases e) ?_
  refine ev_aload_n dX7_step_48 rfl (fun _ e => by cases e) ?_
  refine ew_get0 dX7_step_49 fX7_95 g0 rfl rfl rfl ?_
  obtain ⟨I15, eI15, h⟩ := ev_ltE h
  refine ew_put0 dX7_step_52 fX7_32 g0 rfl rfl rfl rfl rfl rfl (ew_nh eI15 ?_)
  refine ev_aload_n dX7_step_55 rfl (fun _ e => by cases e) ?_
  refine ew_get0 dX7_step_56 fX7_95 g0 rfl rfl rfl ?_
  refine ev_aload_n dX7_step_59 rfl (fun _ e => by cases e) ?_
  refine ew_get0 dX7_step_60 fX7_26 g0 rfl rfl rfl ?_
  refine ev_icmp_lt (tgt := 74) dX7_step_63 (by decide) (fun c16 => ?_) (fun c16 => ?_)
  · have h := ev_ifT h c16
    refine ev_aload_n dX7_step_74 rfl (fun _ e => by cases e) ?_
    refine ew_getr0 dX7_step_75 fX7_9 g0 rfl rfl rfl rfl ?_
    refine ev_aload_n dX7_step_78 rfl (fun _ e => by cases e) ?_
    refine ew_get0 dX7_step_79 fX7_95 g0 rfl rfl rfl ?_
    obtain ⟨c17, h⟩ := ev_ckE h
    refine ew_bald dX7_step_82 (shp_a g0 1 rfl) c17 ?_
    obtain ⟨z18, hz18, h⟩ := ev_bnE h
    refine ec_Si (Y := mX7_isLetter) (As := [.int (I15 (q0 + 1) (I15 q0 5).toNatClampNeg)]) (rest := []) dX7_step_83 kX7_102 oX7_isLetter ⟨Nat.le_of_ble_eq_true rfl, Nat.le_of_ble_eq_true rfl⟩ rfl (Nat.le_of_ble_eq_true rfl) (tX7_isLetter n   (I15 (q0 + 1) (I15 q0 5).toNatClampNeg) I15 z18 hz18) rfl ?_
    refine ev_if_eq (tgt := 136) dX7_step_86 (by decide) (fun c19 => ?_) (fun c19 => ?_)
    · have h := ev_ifT h c19
      refine ev_aload_n dX7_step_136 rfl (fun _ e => by cases e) ?_
      refine ew_getr0 dX7_step_137 fX7_9 g0 rfl rfl rfl rfl ?_
      refine ev_aload_n dX7_step_140 rfl (fun _ e => by cases e) ?_
      refine ew_get0 dX7_step_141 fX7_95 g0 rfl rfl rfl ?_
      obtain ⟨c20, h⟩ := ev_ckE h
      refine ew_bald dX7_step_144 (shp_a g0 1 rfl) c20 ?_
      obtain ⟨z21, hz21, h⟩ := ev_bnE h
      refine ec_Si (Y := mX7_isDigit) (As := [.int (I15 (q0 + 1) (I15 q0 5).toNatClampNeg)]) (rest := []) dX7_step_145 kX7_105 oX7_isDigit ⟨Nat.le_of_ble_eq_true rfl, Nat.le_of_ble_eq_true rfl⟩ rfl (Nat.le_of_ble_eq_true rfl) (tX7_isDigit n   (I15 (q0 + 1) (I15 q0 5).toNatClampNeg) I15 z21 hz21) rfl ?_
      refine ev_if_eq (tgt := 215) dX7_step_148 (by decide) (fun c22 => ?_) (fun c22 => ?_)
      · have h := ev_ifT h c22
        refine ev_aload_n dX7_step_215 rfl (fun _ e => by cases e) ?_
        refine ev_aload_n dX7_step_216 rfl (fun _ e => by cases e) ?_
        refine ew_get0 dX7_step_217 fX7_95 g0 rfl rfl rfl ?_
        refine ev_iconst (v := (1 : Int32)) dX7_step_220 (by decide) ?_
        refine ev_iadd dX7_step_221 ?_
        obtain ⟨I23, eI23, h⟩ := ev_ltE h
        refine ew_put0 dX7_step_222 fX7_32 g0 rfl rfl rfl rfl rfl rfl (ew_nh eI23 ?_)
        refine ev_aload_n dX7_step_225 rfl (fun _ e => by cases e) ?_
        refine ev_aload_n dX7_step_226 rfl (fun _ e => by cases e) ?_
        refine ew_getr0 dX7_step_227 fX7_9 g0 rfl rfl rfl rfl ?_
        refine ev_aload_n dX7_step_230 rfl (fun _ e => by cases e) ?_
        refine ew_get0 dX7_step_231 fX7_95 g0 rfl rfl rfl ?_
        obtain ⟨c24, h⟩ := ev_ckE h
        refine ew_bald dX7_step_234 (shp_a g0 1 rfl) c24 ?_
        refine ev_bipush (v := (59 : Int32)) dX7_step_235 (by decide) ?_
        refine ev_icmp_ne (tgt := 244) dX7_step_237 (by decide) (fun c25 => ?_) (fun c25 => ?_)
        · have h := ev_ifF h c25
          refine ev_iconst (v := (4 : Int32)) dX7_step_244 (by decide) ?_
          exact ev_weak (sb_n sb_0) (tX7_step_245 q0 g0 n (4 : Int32) I23 _ h)
        · have h := ev_ifT h c25
          refine ev_iconst (v := (3 : Int32)) dX7_step_240 (by decide) ?_
          refine ev_goto (tgt := 245) dX7_step_241 (by decide) ?_
          exact ev_weak (sb_n sb_0) (tX7_step_245 q0 g0 n (3 : Int32) I23 _ h)
      · have h := ev_ifF h c22
        exact ev_weak (sb_s sb_0) (tlX7_step_151 q0 g0 n  I15 _ h)
    · have h := ev_ifF h c19
      exact ev_weak (sb_s sb_0) (tlX7_step_89 q0 g0 n  I15 _ h)
  · have h := ev_ifF h c16
    refine ev_aload_n dX7_step_66 rfl (fun _ e => by cases e) ?_
    refine ev_iconst (v := (0 : Int32)) dX7_step_67 (by decide) ?_
    obtain ⟨I26, eI26, h⟩ := ev_ltE h
    refine ew_put0 dX7_step_68 fX7_41 g0 rfl rfl rfl rfl rfl rfl (ew_nh eI26 ?_)
    refine ev_goto (tgt := 248) dX7_step_71 (by decide) ?_
    cases h
    exact er_v dX7_step_248 rfl
set_option maxRecDepth 100000 in
set_option maxHeartbeats 4000000 in
theorem tX7_step_8 {E : ev_N} {σ : ev_H} (q0 : Nat) (g0 : shp tb6 σ q0) (K8 : ev_I → Option (ev_I)) (k8 : ∀ (I : ev_I) (o : ev_I), K8  I = some o → EV E mX7_step 8 [some (.ref q0)] [] (h_w σ I) (Option.none, h_w σ o)) (n : Nat) (I : ev_I) (o : ev_I) : cX7_step_8 q0 K8 n  I = some o → EV E mX7_step 8 [some (.ref q0)] [] (h_w σ I) (Option.none, h_w σ o) := by
  intro h
  unfold cX7_step_8 at h
  refine ev_aload_n dX7_step_8 rfl (fun _ e => by cases e) ?_
  refine ew_get0 dX7_step_9 fX7_95 g0 rfl rfl rfl ?_
  refine ev_aload_n dX7_step_12 rfl (fun _ e => by cases e) ?_
  refine ew_get0 dX7_step_13 fX7_26 g0 rfl rfl rfl ?_
  refine ev_icmp_ge (tgt := 47) dX7_step_16 (by decide) (fun c27 => ?_) (fun c27 => ?_)
  · have h := ev_ifT h c27
    exact ev_weak (sb_s sb_0) (tX7_step_47 q0 g0 n  I _ h)
  · have h := ev_ifF h c27
    refine ev_aload_n dX7_step_19 rfl (fun _ e => by cases e) ?_
    refine ew_getr0 dX7_step_20 fX7_9 g0 rfl rfl rfl rfl ?_
    refine ev_aload_n dX7_step_23 rfl (fun _ e => by cases e) ?_
    refine ew_get0 dX7_step_24 fX7_95 g0 rfl rfl rfl ?_
    obtain ⟨c28, h⟩ := ev_ckE h
    refine ew_bald dX7_step_27 (shp_a g0 1 rfl) c28 ?_
    obtain ⟨z29, hz29, h⟩ := ev_bnE h
    refine ec_Si (Y := mX7_isBlank) (As := [.int (I (q0 + 1) (I q0 5).toNatClampNeg)]) (rest := []) dX7_step_28 kX7_98 oX7_isBlank ⟨Nat.le_of_ble_eq_true rfl, Nat.le_of_ble_eq_true rfl⟩ rfl (Nat.le_of_ble_eq_true rfl) (tX7_isBlank n   (I (q0 + 1) (I q0 5).toNatClampNeg) I z29 hz29) rfl ?_
    refine ev_if_eq (tgt := 47) dX7_step_31 (by decide) (fun c30 => ?_) (fun c30 => ?_)
    · have h := ev_ifT h c30
      exact ev_weak (sb_s sb_0) (tX7_step_47 q0 g0 n  I _ h)
    · have h := ev_ifF h c30
      refine ev_aload_n dX7_step_34 rfl (fun _ e => by cases e) ?_
      refine ev_dup dX7_step_35 ?_
      refine ew_get0 dX7_step_36 fX7_95 g0 rfl rfl rfl ?_
      refine ev_iconst (v := (1 : Int32)) dX7_step_39 (by decide) ?_
      refine ev_iadd dX7_step_40 ?_
      obtain ⟨I31, eI31, h⟩ := ev_ltE h
      refine ew_put0 dX7_step_41 fX7_95 g0 rfl rfl rfl rfl rfl rfl (ew_nh eI31 ?_)
      refine ev_goto (tgt := 8) dX7_step_44 (by decide) ?_
      exact ev_weak (sb_s sb_0) (k8  I31 _ h)
theorem tlX7_step_8 {E : ev_N} {σ : ev_H} (q0 : Nat) (g0 : shp tb6 σ q0) : ∀ (n : Nat) (I : ev_I) (o : ev_I), lX7_step_8 q0 n  I = some o → EV E mX7_step 8 [some (.ref q0)] [] (h_w σ I) (Option.none, h_w σ o)
  | 0, _, _, h => by cases h
  | n + 1, I, o, h => tX7_step_8 q0 g0 (lX7_step_8 q0 n) (tlX7_step_8 q0 g0 n) n  I o h
set_option maxRecDepth 100000 in
set_option maxHeartbeats 4000000 in
theorem tX7_step {E : ev_N} {σ : ev_H} (n : Nat) (q0 : Nat) (g0 : shp tb6 σ q0) (I : ev_I) (o : ev_I) (h : pX7_step n q0  I = some o) : ev_T E mX7_step [.ref q0] (h_w σ I) (Option.none, h_w σ o) := by
  unfold pX7_step at h
  refine ev_met rfl rfl (Nat.le_of_ble_eq_true rfl) (ev_L0 (L' := [some (.ref q0)]) rfl ?_)
  refine ev_aload_n dX7_step_0 rfl (fun _ e => by cases e) ?_
  refine ev_aload_n dX7_step_1 rfl (fun _ e => by cases e) ?_
  refine ew_get0 dX7_step_2 fX7_32 g0 rfl rfl rfl ?_
  obtain ⟨I32, eI32, h⟩ := ev_ltE h
  refine ew_put0 dX7_step_5 fX7_95 g0 rfl rfl rfl rfl rfl rfl (ew_nh eI32 ?_)
  exact ev_weak (sb_s sb_0) (tlX7_step_8 q0 g0 n  I32 _ h)
-- ChainVotes$Tape readSemicolon()V
def pX7_readSemicolon (n : Nat) (q0 : Nat) (I : ev_I) : Option (ev_I) :=
  if (I q0 2) = 0 then
    if (I q0 7) = (3 : Int32) then
      (pX7_step n q0  I).bind fun z3 =>
      some z3
    else
      (pX7_fail n q0 (1 : Int32) I).bind fun z4 =>
      some z4
  else
    some I
set_option maxRecDepth 100000 in
set_option maxHeartbeats 4000000 in
theorem tX7_readSemicolon {E : ev_N} {σ : ev_H} (n : Nat) (q0 : Nat) (g0 : shp tb6 σ q0) (I : ev_I) (o : ev_I) (h : pX7_readSemicolon n q0  I = some o) : ev_T E mX7_readSemicolon [.ref q0] (h_w σ I) (Option.none, h_w σ o) := by
  unfold pX7_readSemicolon at h
  refine ev_met rfl rfl (Nat.le_of_ble_eq_true rfl) (ev_L0 (L' := [some (.ref q0)]) rfl ?_)
  refine ev_aload_n dX7_readSemicolon_0 rfl (fun _ e => by cases e) ?_
  refine ew_get0 dX7_readSemicolon_1 fX7_29 g0 rfl rfl rfl ?_
  refine ev_if_eq (tgt := 8) dX7_readSemicolon_4 (by decide) (fun c1 => ?_) (fun c1 => ?_)
  · have h := ev_ifT h c1
    refine ev_aload_n dX7_readSemicolon_8 rfl (fun _ e => by cases e) ?_
    refine ew_get0 dX7_readSemicolon_9 fX7_41 g0 rfl rfl rfl ?_
    refine ev_iconst (v := (3 : Int32)) dX7_readSemicolon_12 (by decide) ?_
    refine ev_icmp_eq (tgt := 22) dX7_readSemicolon_13 (by decide) (fun c2 => ?_) (fun c2 => ?_)
    · have h := ev_ifT h c2
      refine ev_aload_n dX7_readSemicolon_22 rfl (fun _ e => by cases e) ?_
      obtain ⟨z3, hz3, h⟩ := ev_bnE h
      refine ec_Vv (Y := mX7_step) (ci := 6) (As := []) (rest := []) dX7_readSemicolon_23 kX7_38 oX7_step ⟨Nat.le_of_ble_eq_true rfl, Nat.le_of_ble_eq_true rfl⟩ (by decide) rfl (shp_n g0 0 rfl) (shp_t g0 0 rfl) rfl (Nat.le_of_ble_eq_true rfl) (tX7_step n q0 g0  I z3 hz3) rfl ?_
      cases h
      exact er_v dX7_readSemicolon_26 rfl
    · have h := ev_ifF h c2
      refine ev_aload_n dX7_readSemicolon_16 rfl (fun _ e => by cases e) ?_
      refine ev_iconst (v := (1 : Int32)) dX7_readSemicolon_17 (by decide) ?_
      obtain ⟨z4, hz4, h⟩ := ev_bnE h
      refine ec_Vv (Y := mX7_fail) (ci := 6) (As := [.int (1 : Int32)]) (rest := []) dX7_readSemicolon_18 kX7_51 oX7_fail ⟨Nat.le_of_ble_eq_true rfl, Nat.le_of_ble_eq_true rfl⟩ (by decide) rfl (shp_n g0 0 rfl) (shp_t g0 0 rfl) rfl (Nat.le_of_ble_eq_true rfl) (tX7_fail n q0 g0 (1 : Int32) I z4 hz4) rfl ?_
      cases h
      exact er_v dX7_readSemicolon_21 rfl
  · have h := ev_ifF h c1
    cases h
    exact er_v dX7_readSemicolon_7 rfl
