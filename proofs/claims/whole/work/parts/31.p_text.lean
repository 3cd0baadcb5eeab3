-- ChainVotes$Tape isHere(Ljava/lang/String;)Z
def cX7_isHere_20 (q0 : Nat) (q1 : Nat) (K20 : Int32 → ev_I → Option (Int32 × ev_I)) (n : Nat) (y2 : Int32) (I : ev_I) : Option (Int32 × ev_I) :=
  ev_ck (ev_le (q1 + 1) 19) <|
  if (nI (ev_ln.getD q1 0)) ≤ y2 then
    some ((1 : Int32), I)
  else
    ev_ck (ev_in ((I q0 5) + y2) 400) <|
    ev_ck (ev_le (q1 + 1) 19) <|
    ev_ck (ev_in y2 (ev_ln.getD q1 0)) <|
    if (I (q0 + 1) ((I q0 5) + y2).toNatClampNeg) = (ev_ch q1 y2.toNatClampNeg) then
      ev_lt (y2 + (1 : Int32)) fun v7 =>
      K20 v7 I
    else
      some ((0 : Int32), I)
def lX7_isHere_20 (q0 : Nat) (q1 : Nat) : Nat → Int32 → ev_I → Option (Int32 × ev_I)
  | 0, _, _ => none
  | n + 1, y2, I => cX7_isHere_20 q0 q1 (lX7_isHere_20 q0 q1 n) n y2 I
def pX7_isHere (n : Nat) (q0 : Nat) (q1 : Nat) (I : ev_I) : Option (Int32 × ev_I) :=
  ev_ck (ev_le (q1 + 1) 19) <|
  if (nI (ev_ln.getD q1 0)) = ((I q0 6) - (I q0 5)) then
    lX7_isHere_20 q0 q1 n (0 : Int32) I
  else
    some ((0 : Int32), I)
set_option maxRecDepth 100000 in
set_option maxHeartbeats 4000000 in
theorem tX7_isHere_20 {E : ev_N} {σ : ev_H} (q0 : Nat) (q1 : Nat) (g0 : shp tb6 σ q0) (K20 : Int32 → ev_I → Option (Int32 × ev_I)) (k20 : ∀ (y2 : Int32) (I : ev_I) (o : Int32 × ev_I), K20 y2 I = some o → EV E mX7_isHere 20 [some (.ref q0), some (su q1), some (.int y2)] [] (h_w σ I) (Option.some (Value.int o.1), h_w σ o.2)) (n : Nat) (y2 : Int32) (I : ev_I) (o : Int32 × ev_I) : cX7_isHere_20 q0 q1 K20 n y2 I = some o → EV E mX7_isHere 20 [some (.ref q0), some (su q1), some (.int y2)] [] (h_w σ I) (Option.some (Value.int o.1), h_w σ o.2) := by
  intro h
  unfold cX7_isHere_20 at h
  refine ev_iload_n dX7_isHere_20 rfl ?_
  refine ev_aload_n dX7_isHere_21 rfl su_i ?_
  obtain ⟨c1, h⟩ := ev_ckE h
  refine es_len (k := q1) dX7_isHere_22 kX7_77 ⟨Nat.le_of_ble_eq_true rfl, Nat.le_of_ble_eq_true rfl⟩ c1 (Nat.le_of_ble_eq_true rfl) ?_
  refine ev_icmp_ge (tgt := 55) dX7_isHere_25 (by decide) (fun c2 => ?_) (fun c2 => ?_)
  · have h := ev_ifT h c2
    refine ev_iconst (v := (1 : Int32)) dX7_isHere_55 (by decide) ?_
    cases h
    exact er_i dX7_isHere_56 rfl rfl
  · have h := ev_ifF h c2
    refine ev_aload_n dX7_isHere_28 rfl (fun _ e => by cases e) ?_
    refine ew_getr0 dX7_isHere_29 fX7_9 g0 rfl rfl rfl rfl ?_
    refine ev_aload_n dX7_isHere_32 rfl (fun _ e => by cases e) ?_
    refine ew_get0 dX7_isHere_33 fX7_95 g0 rfl rfl rfl ?_
    refine ev_iload_n dX7_isHere_36 rfl ?_
    refine ev_iadd dX7_isHere_37 ?_
    obtain ⟨c3, h⟩ := ev_ckE h
    refine ew_bald dX7_isHere_38 (shp_a g0 1 rfl) c3 ?_
    refine ev_aload_n dX7_isHere_39 rfl su_i ?_
    refine ev_iload_n dX7_isHere_40 rfl ?_
    obtain ⟨c4, h⟩ := ev_ckE h
    obtain ⟨c5, h⟩ := ev_ckE h
    refine es_chr (k := q1) dX7_isHere_41 kX7_84 ⟨Nat.le_of_ble_eq_true rfl, Nat.le_of_ble_eq_true rfl⟩ c4 c5 (Nat.le_of_ble_eq_true rfl) ?_
    refine ev_icmp_eq (tgt := 49) dX7_isHere_44 (by decide) (fun c6 => ?_) (fun c6 => ?_)
    · have h := ev_ifT h c6
      obtain ⟨v7, ev7, h⟩ := ev_ltE h
      refine ew_iinc (L' := [some (.ref q0), some (su q1), some (.int v7)]) dX7_isHere_49 (Nat.le_of_ble_eq_true rfl) rfl (by decide) ev7 rfl ?_
      refine ev_goto (tgt := 20) dX7_isHere_52 (by decide) ?_
      exact ev_weak (sb_s (sb_s (sb_s sb_0))) (k20 v7 I _ h)
    · have h := ev_ifF h c6
      refine ev_iconst (v := (0 : Int32)) dX7_isHere_47 (by decide) ?_
      cases h
      exact er_i dX7_isHere_48 rfl rfl
theorem tlX7_isHere_20 {E : ev_N} {σ : ev_H} (q0 : Nat) (q1 : Nat) (g0 : shp tb6 σ q0) : ∀ (n : Nat) (y2 : Int32) (I : ev_I) (o : Int32 × ev_I), lX7_isHere_20 q0 q1 n y2 I = some o → EV E mX7_isHere 20 [some (.ref q0), some (su q1), some (.int y2)] [] (h_w σ I) (Option.some (Value.int o.1), h_w σ o.2)
  | 0, _, _, _, h => by cases h
  | n + 1, y2, I, o, h => tX7_isHere_20 q0 q1 g0 (lX7_isHere_20 q0 q1 n) (tlX7_isHere_20 q0 q1 g0 n) n y2 I o h
set_option maxRecDepth 100000 in
set_option maxHeartbeats 4000000 in
theorem tX7_isHere {E : ev_N} {σ : ev_H} (n : Nat) (q0 : Nat) (q1 : Nat) (g0 : shp tb6 σ q0) (I : ev_I) (o : Int32 × ev_I) (h : pX7_isHere n q0 q1  I = some o) : ev_T E mX7_isHere [.ref q0, su q1] (h_w σ I) (Option.some (Value.int o.1), h_w σ o.2) := by
  unfold pX7_isHere at h
  refine ev_met rfl rfl (Nat.le_of_ble_eq_true rfl) (ev_L0 (L' := [some (.ref q0), some (su q1), none]) rfl ?_)
  refine ev_aload_n dX7_isHere_0 rfl su_i ?_
  obtain ⟨c8, h⟩ := ev_ckE h
  refine es_len (k := q1) dX7_isHere_1 kX7_77 ⟨Nat.le_of_ble_eq_true rfl, Nat.le_of_ble_eq_true rfl⟩ c8 (Nat.le_of_ble_eq_true rfl) ?_
  refine ev_aload_n dX7_isHere_4 rfl (fun _ e => by cases e) ?_
  refine ew_get0 dX7_isHere_5 fX7_32 g0 rfl rfl rfl ?_
  refine ev_aload_n dX7_isHere_8 rfl (fun _ e => by cases e) ?_
  refine ew_get0 dX7_isHere_9 fX7_95 g0 rfl rfl rfl ?_
  refine ev_isub dX7_isHere_12 ?_
  refine ev_icmp_eq (tgt := 18) dX7_isHere_13 (by decide) (fun c9 => ?_) (fun c9 => ?_)
  · have h := ev_ifT h c9
    refine ev_iconst (v := (0 : Int32)) dX7_isHere_18 (by decide) ?_
    refine ew_istn (L' := [some (.ref q0), some (su q1), some (.int (0 : Int32))]) dX7_isHere_19 (Nat.le_of_ble_eq_true rfl) rfl ?_
    exact ev_weak (sb_s (sb_s (sb_s sb_0))) (tlX7_isHere_20 q0 q1 g0 n (0 : Int32) I _ h)
  · have h := ev_ifF h c9
    refine ev_iconst (v := (0 : Int32)) dX7_isHere_16 (by decide) ?_
    cases h
    exact er_i dX7_isHere_17 rfl rfl
-- ChainVotes$Tape wordOf(I)Ljava/lang/String;
def pX7_wordOf (n : Nat)  (x0 : Int32) (I : ev_I) : Option (Nat) :=
  if x0 = (1 : Int32) then
    some 0
  else
  if x0 = (2 : Int32) then
    some 1
  else
  if x0 = (3 : Int32) then
    some 2
  else
  if x0 = (4 : Int32) then
    some 3
  else
  if x0 = (5 : Int32) then
    some 4
  else
  if x0 = (6 : Int32) then
    some 5
  else
  if x0 = (7 : Int32) then
    some 6
  else
  if x0 = (8 : Int32) then
    some 7
  else
  if x0 = (9 : Int32) then
    some 8
  else
  if x0 = (10 : Int32) then
    some 9
  else
  if x0 = (11 : Int32) then
    some 5
  else
  some 10
set_option maxRecDepth 100000 in
set_option maxHeartbeats 4000000 in
theorem tX7_wordOf {E : ev_N} {σ : ev_H} (n : Nat)   (x0 : Int32) (I : ev_I) (o : Nat) (h : pX7_wordOf n  x0 I = some o) : ev_T E mX7_wordOf [.int x0] (h_w σ I) (Option.some (su o), h_w σ I) := by
  unfold pX7_wordOf at h
  refine ev_met rfl rfl (Nat.le_of_ble_eq_true rfl) (ev_L0 (L' := [some (.int x0)]) rfl ?_)
  refine ev_iload_n dX7_wordOf_0 rfl ?_
  by_cases c1 : x0 = (1 : Int32)
  · have h := ev_ifT h c1
    refine ev_table (tgt := 60) dX7_wordOf_1 (by rw [c1]; decide) (by decide) ?_
    refine es_ldc 0 dX7_wordOf_60 rfl rfl (Nat.le_of_ble_eq_true rfl) ?_
    cases h
    exact er_s dX7_wordOf_62 rfl ⟨_, rfl⟩
  have h := ev_ifF h c1
  by_cases c2 : x0 = (2 : Int32)
  · have h := ev_ifT h c2
    refine ev_table (tgt := 63) dX7_wordOf_1 (by rw [c2]; decide) (by decide) ?_
    refine es_ldc 1 dX7_wordOf_63 rfl rfl (Nat.le_of_ble_eq_true rfl) ?_
    cases h
    exact er_s dX7_wordOf_65 rfl ⟨_, rfl⟩
  have h := ev_ifF h c2
  by_cases c3 : x0 = (3 : Int32)
  · have h := ev_ifT h c3
    refine ev_table (tgt := 66) dX7_wordOf_1 (by rw [c3]; decide) (by decide) ?_
    refine es_ldc 2 dX7_wordOf_66 rfl rfl (Nat.le_of_ble_eq_true rfl) ?_
    cases h
    exact er_s dX7_wordOf_68 rfl ⟨_, rfl⟩
  have h := ev_ifF h c3
  by_cases c4 : x0 = (4 : Int32)
  · have h := ev_ifT h c4
    refine ev_table (tgt := 69) dX7_wordOf_1 (by rw [c4]; decide) (by decide) ?_
    refine es_ldc 3 dX7_wordOf_69 rfl rfl (Nat.le_of_ble_eq_true rfl) ?_
    cases h
    exact er_s dX7_wordOf_71 rfl ⟨_, rfl⟩
  have h := ev_ifF h c4
  by_cases c5 : x0 = (5 : Int32)
  · have h := ev_ifT h c5
    refine ev_table (tgt := 72) dX7_wordOf_1 (by rw [c5]; decide) (by decide) ?_
    refine es_ldc 4 dX7_wordOf_72 rfl rfl (Nat.le_of_ble_eq_true rfl) ?_
    cases h
    exact er_s dX7_wordOf_74 rfl ⟨_, rfl⟩
  have h := ev_ifF h c5
  by_cases c6 : x0 = (6 : Int32)
  · have h := ev_ifT h c6
    refine ev_table (tgt := 75) dX7_wordOf_1 (by rw [c6]; decide) (by decide) ?_
    refine es_ldc 5 dX7_wordOf_75 rfl rfl (Nat.le_of_ble_eq_true rfl) ?_
    cases h
    exact er_s dX7_wordOf_77 rfl ⟨_, rfl⟩
  have h := ev_ifF h c6
  by_cases c7 : x0 = (7 : Int32)
  · have h := ev_ifT h c7
    refine ev_table (tgt := 78) dX7_wordOf_1 (by rw [c7]; decide) (by decide) ?_
    refine es_ldc 6 dX7_wordOf_78 rfl rfl (Nat.le_of_ble_eq_true rfl) ?_
    cases h
    exact er_s dX7_wordOf_80 rfl ⟨_, rfl⟩
  have h := ev_ifF h c7
  by_cases c8 : x0 = (8 : Int32)
  · have h := ev_ifT h c8
    refine ev_table (tgt := 81) dX7_wordOf_1 (by rw [c8]; decide) (by decide) ?_
    refine es_ldc 7 dX7_wordOf_81 rfl rfl (Nat.le_of_ble_eq_true rfl) ?_
    cases h
    exact er_s dX7_wordOf_83 rfl ⟨_, rfl⟩
  have h := ev_ifF h c8
  by_cases c9 : x0 = (9 : Int32)
  · have h := ev_ifT h c9
    refine ev_table (tgt := 84) dX7_wordOf_1 (by rw [c9]; decide) (by decide) ?_
    refine es_ldc 8 dX7_wordOf_84 rfl rfl (Nat.le_of_ble_eq_true rfl) ?_
    cases h
    exact er_s dX7_wordOf_86 rfl ⟨_, rfl⟩
  have h := ev_ifF h c9
  by_cases c10 : x0 = (10 : Int32)
  · have h := ev_ifT h c10
    refine ev_table (tgt := 87) dX7_wordOf_1 (by rw [c10]; decide) (by decide) ?_
    refine es_ldc 9 dX7_wordOf_87 rfl rfl (Nat.le_of_ble_eq_true rfl) ?_
    cases h
    exact er_s dX7_wordOf_89 rfl ⟨_, rfl⟩
  have h := ev_ifF h c10
  by_cases c11 : x0 = (11 : Int32)
  · have h := ev_ifT h c11
    refine ev_table (tgt := 90) dX7_wordOf_1 (by rw [c11]; decide) (by decide) ?_
    refine es_ldc 5 dX7_wordOf_90 rfl rfl (Nat.le_of_ble_eq_true rfl) ?_
    cases h
    exact er_s dX7_wordOf_92 rfl ⟨_, rfl⟩
  have h := ev_ifF h c11
  refine ev_table (tgt := 93) dX7_wordOf_1 (by rw [if_pos (sw_out _ _ x0 (by intro i h1 h2; rcases (show i = 1 ∨ i = 2 ∨ i = 3 ∨ i = 4 ∨ i = 5 ∨ i = 6 ∨ i = 7 ∨ i = 8 ∨ i = 9 ∨ i = 10 ∨ i = 11 by omega) with rfl | rfl | rfl | rfl | rfl | rfl | rfl | rfl | rfl | rfl | rfl <;> first | exact ⟨_, by decide, c1⟩ | exact ⟨_, by decide, c2⟩ | exact ⟨_, by decide, c3⟩ | exact ⟨_, by decide, c4⟩ | exact ⟨_, by decide, c5⟩ | exact ⟨_, by decide, c6⟩ | exact ⟨_, by decide, c7⟩ | exact ⟨_, by decide, c8⟩ | exact ⟨_, by decide, c9⟩ | exact ⟨_, by decide, c10⟩ | exact ⟨_, by decide, c11⟩))]; rfl) (by decide) ?_
  refine es_ldc 10 dX7_wordOf_93 rfl rfl (Nat.le_of_ble_eq_true rfl) ?_
  cases h
  exact er_s dX7_wordOf_95 rfl ⟨_, rfl⟩
-- ChainVotes$Tape numbersOf(I)Ljava/lang/String;
def pX7_numbersOf (n : Nat)  (x0 : Int32) (I : ev_I) : Option (Nat) :=
  if x0 = (1 : Int32) then
    some 11
  else
  if x0 = (2 : Int32) then
    some 12
  else
  if x0 = (3 : Int32) then
    some 12
  else
  if x0 = (4 : Int32) then
    some 13
  else
  if x0 = (5 : Int32) then
    some 14
  else
  if x0 = (6 : Int32) then
    some 13
  else
  if x0 = (7 : Int32) then
    some 15
  else
  if x0 = (8 : Int32) then
    some 13
  else
  if x0 = (9 : Int32) then
    some 16
  else
  if x0 = (10 : Int32) then
    some 17
  else
  if x0 = (11 : Int32) then
    some 18
  else
  some 10
set_option maxRecDepth 100000 in
set_option maxHeartbeats 4000000 in
theorem tX7_numbersOf {E : ev_N} {σ : ev_H} (n : Nat)   (x0 : Int32) (I : ev_I) (o : Nat) (h : pX7_numbersOf n  x0 I = some o) : ev_T E mX7_numbersOf [.int x0] (h_w σ I) (Option.some (su o), h_w σ I) := by
  unfold pX7_numbersOf at h
  refine ev_met rfl rfl (Nat.le_of_ble_eq_true rfl) (ev_L0 (L' := [some (.int x0)]) rfl ?_)
  refine ev_iload_n dX7_numbersOf_0 rfl ?_
  by_cases c1 : x0 = (1 : Int32)
  · have h := ev_ifT h c1
    refine ev_table (tgt := 60) dX7_numbersOf_1 (by rw [c1]; decide) (by decide) ?_
    refine es_ldc 11 dX7_numbersOf_60 rfl rfl (Nat.le_of_ble_eq_true rfl) ?_
    cases h
    exact er_s dX7_numbersOf_62 rfl ⟨_, rfl⟩
  have h := ev_ifF h c1
  by_cases c2 : x0 = (2 : Int32)
  · have h := ev_ifT h c2
    refine ev_table (tgt := 63) dX7_numbersOf_1 (by rw [c2]; decide) (by decide) ?_
    refine es_ldc 12 dX7_numbersOf_63 rfl rfl (Nat.le_of_ble_eq_true rfl) ?_
    cases h
    exact er_s dX7_numbersOf_65 rfl ⟨_, rfl⟩
  have h := ev_ifF h c2
  by_cases c3 : x0 = (3 : Int32)
  · have h := ev_ifT h c3
    refine ev_table (tgt := 66) dX7_numbersOf_1 (by rw [c3]; decide) (by decide) ?_
    refine es_ldc 12 dX7_numbersOf_66 rfl rfl (Nat.le_of_ble_eq_true rfl) ?_
    cases h
    exact er_s dX7_numbersOf_68 rfl ⟨_, rfl⟩
  have h := ev_ifF h c3
  by_cases c4 : x0 = (4 : Int32)
  · have h := ev_ifT h c4
    refine ev_table (tgt := 69) dX7_numbersOf_1 (by rw [c4]; decide) (by decide) ?_
    refine es_ldc 13 dX7_numbersOf_69 rfl rfl (Nat.le_of_ble_eq_true rfl) ?_
    cases h
    exact er_s dX7_numbersOf_71 rfl ⟨_, rfl⟩
  have h := ev_ifF h c4
  by_cases c5 : x0 = (5 : Int32)
  · have h := ev_ifT h c5
    refine ev_table (tgt := 72) dX7_numbersOf_1 (by rw [c5]; decide) (by decide) ?_
    refine es_ldc 14 dX7_numbersOf_72 rfl rfl (Nat.le_of_ble_eq_true rfl) ?_
    cases h
    exact er_s dX7_numbersOf_74 rfl ⟨_, rfl⟩
  have h := ev_ifF h c5
  by_cases c6 : x0 = (6 : Int32)
  · have h := ev_ifT h c6
    refine ev_table (tgt := 75) dX7_numbersOf_1 (by rw [c6]; decide) (by decide) ?_
    refine es_ldc 13 dX7_numbersOf_75 rfl rfl (Nat.le_of_ble_eq_true rfl) ?_
    cases h
    exact er_s dX7_numbersOf_77 rfl ⟨_, rfl⟩
  have h := ev_ifF h c6
  by_cases c7 : x0 = (7 : Int32)
  · have h := ev_ifT h c7
    refine ev_table (tgt := 78) dX7_numbersOf_1 (by rw [c7]; decide) (by decide) ?_
    refine es_ldc 15 dX7_numbersOf_78 rfl rfl (Nat.le_of_ble_eq_true rfl) ?_
    cases h
    exact er_s dX7_numbersOf_80 rfl ⟨_, rfl⟩
  have h := ev_ifF h c7
  by_cases c8 : x0 = (8 : Int32)
  · have h := ev_ifT h c8
    refine ev_table (tgt := 81) dX7_numbersOf_1 (by rw [c8]; decide) (by decide) ?_
    refine es_ldc 13 dX7_numbersOf_81 rfl rfl (Nat.le_of_ble_eq_true rfl) ?_
    cases h
    exact er_s dX7_numbersOf_83 rfl ⟨_, rfl⟩
  have h := ev_ifF h c8
  by_cases c9 : x0 = (9 : Int32)
  · have h := ev_ifT h c9
    refine ev_table (tgt := 84) dX7_numbersOf_1 (by rw [c9]; decide) (by decide) ?_
    refine es_ldc 16 dX7_numbersOf_84 rfl rfl (Nat.le_of_ble_eq_true rfl) ?_
    cases h
    exact er_s dX7_numbersOf_86 rfl ⟨_, rfl⟩
  have h := ev_ifF h c9
  by_cases c10 : x0 = (10 : Int32)
  · have h := ev_ifT h c10
    refine ev_table (tgt := 87) dX7_numbersOf_1 (by rw [c10]; decide) (by decide) ?_
    refine es_ldc 17 dX7_numbersOf_87 rfl rfl (Nat.le_of_ble_eq_true rfl) ?_
    cases h
    exact er_s dX7_numbersOf_89 rfl ⟨_, rfl⟩
  have h := ev_ifF h c10
  by_cases c11 : x0 = (11 : Int32)
  · have h := ev_ifT h c11
    refine ev_table (tgt := 90) dX7_numbersOf_1 (by rw [c11]; decide) (by decide) ?_
    refine es_ldc 18 dX7_numbersOf_90 rfl rfl (Nat.le_of_ble_eq_true rfl) ?_
    cases h
    exact er_s dX7_numbersOf_92 rfl ⟨_, rfl⟩
  have h := ev_ifF h c11
  refine ev_table (tgt := 93) dX7_numbersOf_1 (by rw [if_pos (sw_out _ _ x0 (by intro i h1 h2; rcases (show i = 1 ∨ i = 2 ∨ i = 3 ∨ i = 4 ∨ i = 5 ∨ i = 6 ∨ i = 7 ∨ i = 8 ∨ i = 9 ∨ i = 10 ∨ i = 11 by omega) with rfl | rfl | rfl | rfl | rfl | rfl | rfl | rfl | rfl | rfl | rfl <;> first | exact ⟨_, by decide, c1⟩ | exact ⟨_, by decide, c2⟩ | exact ⟨_, by decide, c3⟩ | exact ⟨_, by decide, c4⟩ | exact ⟨_, by decide, c5⟩ | exact ⟨_, by decide, c6⟩ | exact ⟨_, by decide, c7⟩ | exact ⟨_, by decide, c8⟩ | exact ⟨_, by decide, c9⟩ | exact ⟨_, by decide, c10⟩ | exact ⟨_, by decide, c11⟩))]; rfl) (by decide) ?_
  refine es_ldc 10 dX7_numbersOf_93 rfl rfl (Nat.le_of_ble_eq_true rfl) ?_
  cases h
  exact er_s dX7_numbersOf_95 rfl ⟨_, rfl⟩
-- ChainVotes$Tape readNumber(II)I
def cX7_readNumber_69 (q0 : Nat) (n : Nat) (I : ev_I) : Option (Int32 × ev_I) :=
  (pX7_fail n q0 (2 : Int32) I).bind fun z1 =>
  some ((0 : Int32), z1)
def pX7_readNumber (n : Nat) (q0 : Nat) (x1 : Int32) (x2 : Int32) (I : ev_I) : Option (Int32 × ev_I) :=
  (pX7_numbersOf n  x1 I).bind fun z2 =>
  if (I q0 2) = 0 then
    ev_ck (ev_le (z2 + 1) 19) <|
    if x2 < (nI (ev_ln.getD z2 0)) then
      if (I q0 7) = (2 : Int32) then
        (pX7_numberHere n q0  I).bind fun z7 =>
        ev_ck (ev_le (z2 + 1) 19) <|
        ev_ck (ev_in x2 (ev_ln.getD z2 0)) <|
        (pX7_leastOf n  (ev_ch z2 x2.toNatClampNeg) I).bind fun z10 =>
        if z7 < z10 then
          cX7_readNumber_69 q0 n  I
        else
          ev_ck (ev_le (z2 + 1) 19) <|
          ev_ck (ev_in x2 (ev_ln.getD z2 0)) <|
          (pX7_mostOf n  (ev_ch z2 x2.toNatClampNeg) I).bind fun z14 =>
          if z7 ≤ z14 then
            (pX7_step n q0  I).bind fun z16 =>
            some (z7, z16)
          else
            cX7_readNumber_69 q0 n  I
      else
        (pX7_fail n q0 (1 : Int32) I).bind fun z17 =>
        some ((0 : Int32), z17)
    else
      some ((0 : Int32), I)
  else
    some ((0 : Int32), I)
set_option maxRecDepth 100000 in
set_option maxHeartbeats 4000000 in
theorem tX7_readNumber_69 {E : ev_N} {σ : ev_H} (q0 : Nat) (g0 : shp tb6 σ q0) (n : Nat) (I : ev_I) (o : Int32 × ev_I) : cX7_readNumber_69 q0 n  I = some o → EV E mX7_readNumber 69 [some (.ref q0), none, none, none, none] [] (h_w σ I) (Option.some (Value.int o.1), h_w σ o.2) := by
  intro h
  unfold cX7_readNumber_69 at h
  refine ev_aload_n dX7_readNumber_69 rfl (fun _ e => by cases e) ?_
  refine ev_iconst (v := (2 : Int32)) dX7_readNumber_70 (by decide) ?_
  obtain ⟨z1, hz1, h⟩ := ev_bnE h
  refine ec_Vv (Y := mX7_fail) (ci := 6) (As := [.int (2 : Int32)]) (rest := []) dX7_readNumber_71 kX7_51 oX7_fail ⟨Nat.le_of_ble_eq_true rfl, Nat.le_of_ble_eq_true rfl⟩ (by decide) rfl (shp_n g0 0 rfl) (shp_t g0 0 rfl) rfl (Nat.le_of_ble_eq_true rfl) (tX7_fail n q0 g0 (2 : Int32) I z1 hz1) rfl ?_
  refine ev_iconst (v := (0 : Int32)) dX7_readNumber_74 (by decide) ?_
  cases h
  exact er_i dX7_readNumber_75 rfl rfl
set_option maxRecDepth 100000 in
set_option maxHeartbeats 4000000 in
theorem tX7_readNumber {E : ev_N} {σ : ev_H} (n : Nat) (q0 : Nat) (g0 : shp tb6 σ q0) (x1 : Int32) (x2 : Int32) (I : ev_I) (o : Int32 × ev_I) (h : pX7_readNumber n q0 x1 x2 I = some o) : ev_T E mX7_readNumber [.ref q0, .int x1, .int x2] (h_w σ I) (Option.some (Value.int o.1), h_w σ o.2) := by
  unfold pX7_readNumber at h
  refine ev_met rfl rfl (Nat.le_of_ble_eq_true rfl) (ev_L0 (L' := [some (.ref q0), some (.int x1), some (.int x2), none, none]) rfl ?_)
  refine ev_iload_n dX7_readNumber_0 rfl ?_
  obtain ⟨z2, hz2, h⟩ := ev_bnE h
  refine ec_Ss (Y := mX7_numbersOf) (As := [.int x1]) (rest := []) dX7_readNumber_1 kX7_73 oX7_numbersOf ⟨Nat.le_of_ble_eq_true rfl, Nat.le_of_ble_eq_true rfl⟩ rfl (Nat.le_of_ble_eq_true rfl) (tX7_numbersOf n   x1 I z2 hz2) rfl ?_
  refine ew_astn (L' := [some (.ref q0), some (.int x1), some (.int x2), some (su z2), none]) dX7_readNumber_4 (Nat.le_of_ble_eq_true rfl) su_i rfl ?_
  refine ev_aload_n dX7_readNumber_5 rfl (fun _ e => by cases e) ?_
  refine ew_get0 dX7_readNumber_6 fX7_29 g0 rfl rfl rfl ?_
  refine ev_if_ne (tgt := 20) dX7_readNumber_9 (by decide) (fun c3 => ?_) (fun c3 => ?_)
  · have h := ev_ifF h c3
    refine ev_iconst (v := (0 : Int32)) dX7_readNumber_20 (by decide) ?_
    cases h
    exact er_i dX7_readNumber_21 rfl rfl
  · have h := ev_ifT h c3
    refine ev_iload_n dX7_readNumber_12 rfl ?_
    refine ev_aload_n dX7_readNumber_13 rfl su_i ?_
    obtain ⟨c4, h⟩ := ev_ckE h
    refine es_len (k := z2) dX7_readNumber_14 kX7_77 ⟨Nat.le_of_ble_eq_true rfl, Nat.le_of_ble_eq_true rfl⟩ c4 (Nat.le_of_ble_eq_true rfl) ?_
    refine ev_icmp_lt (tgt := 22) dX7_readNumber_17 (by decide) (fun c5 => ?_) (fun c5 => ?_)
    · have h := ev_ifT h c5
      refine ev_aload_n dX7_readNumber_22 rfl (fun _ e => by cases e) ?_
      refine ew_get0 dX7_readNumber_23 fX7_41 g0 rfl rfl rfl ?_
      refine ev_iconst (v := (2 : Int32)) dX7_readNumber_26 (by decide) ?_
      refine ev_icmp_eq (tgt := 37) dX7_readNumber_27 (by decide) (fun c6 => ?_) (fun c6 => ?_)
      · have h := ev_ifT h c6
        refine ev_aload_n dX7_readNumber_37 rfl (fun _ e => by cases e) ?_
        obtain ⟨z7, hz7, h⟩ := ev_bnE h
        refine ec_Vi (Y := mX7_numberHere) (ci := 6) (As := []) (rest := []) dX7_readNumber_38 kX7_81 oX7_numberHere ⟨Nat.le_of_ble_eq_true rfl, Nat.le_of_ble_eq_true rfl⟩ (by decide) rfl (shp_n g0 0 rfl) (shp_t g0 0 rfl) rfl (Nat.le_of_ble_eq_true rfl) (tX7_numberHere n q0 g0  I z7 hz7) rfl ?_
        refine ew_ist (L' := [some (.ref q0), some (.int x1), some (.int x2), some (su z2), some (.int z7)]) dX7_readNumber_41 (Nat.le_of_ble_eq_true rfl) rfl ?_
        refine ev_iload dX7_readNumber_43 rfl ?_
        refine ev_aload_n dX7_readNumber_45 rfl su_i ?_
        refine ev_iload_n dX7_readNumber_46 rfl ?_
        obtain ⟨c8, h⟩ := ev_ckE h
        obtain ⟨c9, h⟩ := ev_ckE h
        refine es_chr (k := z2) dX7_readNumber_47 kX7_84 ⟨Nat.le_of_ble_eq_true rfl, Nat.le_of_ble_eq_true rfl⟩ c8 c9 (Nat.le_of_ble_eq_true rfl) ?_
        obtain ⟨z10, hz10, h⟩ := ev_bnE h
        refine ec_Si (Y := mX7_leastOf) (As := [.int (ev_ch z2 x2.toNatClampNeg)]) (rest := [(.int z7)]) dX7_readNumber_50 kX7_88 oX7_leastOf ⟨Nat.le_of_ble_eq_true rfl, Nat.le_of_ble_eq_true rfl⟩ rfl (Nat.le_of_ble_eq_true rfl) (tX7_leastOf n   (ev_ch z2 x2.toNatClampNeg) I z10 hz10) rfl ?_
        refine ev_icmp_lt (tgt := 69) dX7_readNumber_53 (by decide) (fun c11 => ?_) (fun c11 => ?_)
        · have h := ev_ifT h c11
          exact ev_weak (sb_s (sb_n (sb_n (sb_n (sb_n sb_0))))) (tX7_readNumber_69 q0 g0 n  I _ h)
        · have h := ev_ifF h c11
          refine ev_iload dX7_readNumber_56 rfl ?_
          refine ev_aload_n dX7_readNumber_58 rfl su_i ?_
          refine ev_iload_n dX7_readNumber_59 rfl ?_
          obtain ⟨c12, h⟩ := ev_ckE h
          obtain ⟨c13, h⟩ := ev_ckE h
          refine es_chr (k := z2) dX7_readNumber_60 kX7_84 ⟨Nat.le_of_ble_eq_true rfl, Nat.le_of_ble_eq_true rfl⟩ c12 c13 (Nat.le_of_ble_eq_true rfl) ?_
          obtain ⟨z14, hz14, h⟩ := ev_bnE h
          refine ec_Si (Y := mX7_mostOf) (As := [.int (ev_ch z2 x2.toNatClampNeg)]) (rest := [(.int z7)]) dX7_readNumber_63 kX7_92 oX7_mostOf ⟨Nat.le_of_ble_eq_true rfl, Nat.le_of_ble_eq_true rfl⟩ rfl (Nat.le_of_ble_eq_true rfl) (tX7_mostOf n   (ev_ch z2 x2.toNatClampNeg) I z14 hz14) rfl ?_
          refine ev_icmp_le (tgt := 76) dX7_readNumber_66 (by decide) (fun c15 => ?_) (fun c15 => ?_)
          · have h := ev_ifT h c15
            refine ev_aload_n dX7_readNumber_76 rfl (fun _ e => by cases e) ?_
            obtain ⟨z16, hz16, h⟩ := ev_bnE h
            refine ec_Vv (Y := mX7_step) (ci := 6) (As := []) (rest := []) dX7_readNumber_77 kX7_38 oX7_step ⟨Nat.le_of_ble_eq_true rfl, Nat.le_of_ble_eq_true rfl⟩ (by decide) rfl (shp_n g0 0 rfl) (shp_t g0 0 rfl) rfl (Nat.le_of_ble_eq_true rfl) (tX7_step n q0 g0  I z16 hz16) rfl ?_
            refine ev_iload dX7_readNumber_80 rfl ?_
            cases h
            exact er_i dX7_readNumber_82 rfl rfl
          · have h := ev_ifF h c15
            exact ev_weak (sb_s (sb_n (sb_n (sb_n (sb_n sb_0))))) (tX7_readNumber_69 q0 g0 n  I _ h)
      · have h := ev_ifF h c6
        refine ev_aload_n dX7_readNumber_30 rfl (fun _ e => by cases e) ?_
        refine ev_iconst (v := (1 : Int32)) dX7_readNumber_31 (by decide) ?_
        obtain ⟨z17, hz17, h⟩ := ev_bnE h
        refine ec_Vv (Y := mX7_fail) (ci := 6) (As := [.int (1 : Int32)]) (rest := []) dX7_readNumber_32 kX7_51 oX7_fail ⟨Nat.le_of_ble_eq_true rfl, Nat.le_of_ble_eq_true rfl⟩ (by decide) rfl (shp_n g0 0 rfl) (shp_t g0 0 rfl) rfl (Nat.le_of_ble_eq_true rfl) (tX7_fail n q0 g0 (1 : Int32) I z17 hz17) rfl ?_
        refine ev_iconst (v := (0 : Int32)) dX7_readNumber_35 (by decide) ?_
        cases h
        exact er_i dX7_readNumber_36 rfl rfl
    · have h := ev_ifF h c5
      refine ev_iconst (v := (0 : Int32)) dX7_readNumber_20 (by decide) ?_
      cases h
      exact er_i dX7_readNumber_21 rfl rfl
-- ChainVotes$Tape wordAmong(II)I
def cX7_wordAmong_28 (q0 : Nat) (K2 : Int32 → Int32 → ev_I → Option (Int32 × ev_I)) (n : Nat) (y2 : Int32) (y3 : Int32) (I : ev_I) : Option (Int32 × ev_I) :=
  ev_lt (y3 + (1 : Int32)) fun v1 =>
  K2 y2 v1 I
def cX7_wordAmong_2 (q0 : Nat) (K2 : Int32 → Int32 → ev_I → Option (Int32 × ev_I)) (n : Nat) (y2 : Int32) (y3 : Int32) (I : ev_I) : Option (Int32 × ev_I) :=
  if y2 < y3 then
    some ((0 : Int32), I)
  else
    if (I q0 7) = (1 : Int32) then
      (pX7_wordOf n  y3 I).bind fun z4 =>
      (pX7_isHere n q0 z4  I).bind fun z5 =>
      if z5.1 = 0 then
        cX7_wordAmong_28 q0 K2 n y2 y3 z5.2
      else
        some (y3, z5.2)
    else
      cX7_wordAmong_28 q0 K2 n y2 y3 I
def lX7_wordAmong_2 (q0 : Nat) : Nat → Int32 → Int32 → ev_I → Option (Int32 × ev_I)
  | 0, _, _, _ => none
  | n + 1, y2, y3, I => cX7_wordAmong_2 q0 (lX7_wordAmong_2 q0 n) n y2 y3 I
def pX7_wordAmong (n : Nat) (q0 : Nat) (x1 : Int32) (x2 : Int32) (I : ev_I) : Option (Int32 × ev_I) :=
  lX7_wordAmong_2 q0 n x2 x1 I
set_option maxRecDepth 100000 in
set_option maxHeartbeats 4000000 in
theorem tX7_wordAmong_28 {E : ev_N} {σ : ev_H} (q0 : Nat) (g0 : shp tb6 σ q0) (K2 : Int32 → Int32 → ev_I → Option (Int32 × ev_I)) (k2 : ∀ (y2 : Int32) (y3 : Int32) (I : ev_I) (o : Int32 × ev_I), K2 y2 y3 I = some o → EV E mX7_wordAmong 2 [some (.ref q0), none, some (.int y2), some (.int y3)] [] (h_w σ I) (Option.some (Value.int o.1), h_w σ o.2)) (n : Nat) (y2 : Int32) (y3 : Int32) (I : ev_I) (o : Int32 × ev_I) : cX7_wordAmong_28 q0 K2 n y2 y3 I = some o → EV E mX7_wordAmong 28 [some (.ref q0), none, some (.int y2), some (.int y3)] [] (h_w σ I) (Option.some (Value.int o.1), h_w σ o.2) := by
  intro h
  unfold cX7_wordAmong_28 at h
  obtain ⟨v1, ev1, h⟩ := ev_ltE h
  refine ew_iinc (L' := [some (.ref q0), none, some (.int y2), some (.int v1)]) dX7_wordAmong_28 (Nat.le_of_ble_eq_true rfl) rfl (by decide) ev1 rfl ?_
  refine ev_goto (tgt := 2) dX7_wordAmong_31 (by decide) ?_
  exact ev_weak (sb_s (sb_n (sb_s (sb_s sb_0)))) (k2 y2 v1 I _ h)
set_option maxRecDepth 100000 in
set_option maxHeartbeats 4000000 in
theorem tX7_wordAmong_2 {E : ev_N} {σ : ev_H} (q0 : Nat) (g0 : shp tb6 σ q0) (K2 : Int32 → Int32 → ev_I → Option (Int32 × ev_I)) (k2 : ∀ (y2 : Int32) (y3 : Int32) (I : ev_I) (o : Int32 × ev_I), K2 y2 y3 I = some o → EV E mX7_wordAmong 2 [some (.ref q0), none, some (.int y2), some (.int y3)] [] (h_w σ I) (Option.some (Value.int o.1), h_w σ o.2)) (n : Nat) (y2 : Int32) (y3 : Int32) (I : ev_I) (o : Int32 × ev_I) : cX7_wordAmong_2 q0 K2 n y2 y3 I = some o → EV E mX7_wordAmong 2 [some (.ref q0), none, some (.int y2), some (.int y3)] [] (h_w σ I) (Option.some (Value.int o.1), h_w σ o.2) := by
  intro h
  unfold cX7_wordAmong_2 at h
  refine ev_iload_n dX7_wordAmong_2 rfl ?_
  refine ev_iload_n dX7_wordAmong_3 rfl ?_
  refine ev_icmp_gt (tgt := 34) dX7_wordAmong_4 (by decide) (fun c2 => ?_) (fun c2 => ?_)
  · have h := ev_ifT h c2
    refine ev_iconst (v := (0 : Int32)) dX7_wordAmong_34 (by decide) ?_
    cases h
    exact er_i dX7_wordAmong_35 rfl rfl
  · have h := ev_ifF h c2
    refine ev_aload_n dX7_wordAmong_7 rfl (fun _ e => by cases e) ?_
    refine ew_get0 dX7_wordAmong_8 fX7_41 g0 rfl rfl rfl ?_
    refine ev_iconst (v := (1 : Int32)) dX7_wordAmong_11 (by decide) ?_
    refine ev_icmp_ne (tgt := 28) dX7_wordAmong_12 (by decide) (fun c3 => ?_) (fun c3 => ?_)
    · have h := ev_ifF h c3
      exact ev_weak (sb_s (sb_n (sb_s (sb_s sb_0)))) (tX7_wordAmong_28 q0 g0 K2 k2 n y2 y3 I _ h)
    · have h := ev_ifT h c3
      refine ev_aload_n dX7_wordAmong_15 rfl (fun _ e => by cases e) ?_
      refine ev_iload_n dX7_wordAmong_16 rfl ?_
      obtain ⟨z4, hz4, h⟩ := ev_bnE h
      refine ec_Ss (Y := mX7_wordOf) (As := [.int y3]) (rest := [(.ref q0)]) dX7_wordAmong_17 kX7_108 oX7_wordOf ⟨Nat.le_of_ble_eq_true rfl, Nat.le_of_ble_eq_true rfl⟩ rfl (Nat.le_of_ble_eq_true rfl) (tX7_wordOf n   y3 I z4 hz4) rfl ?_
      obtain ⟨z5, hz5, h⟩ := ev_bnE h
      refine ec_Vi (Y := mX7_isHere) (ci := 6) (As := [su z4]) (rest := []) dX7_wordAmong_20 kX7_111 oX7_isHere ⟨Nat.le_of_ble_eq_true rfl, Nat.le_of_ble_eq_true rfl⟩ (by decide) rfl (shp_n g0 0 rfl) (shp_t g0 0 rfl) rfl (Nat.le_of_ble_eq_true rfl) (tX7_isHere n q0 z4 g0  I z5 hz5) rfl ?_
      refine ev_if_eq (tgt := 28) dX7_wordAmong_23 (by decide) (fun c6 => ?_) (fun c6 => ?_)
      · have h := ev_ifT h c6
        exact ev_weak (sb_s (sb_n (sb_s (sb_s sb_0)))) (tX7_wordAmong_28 q0 g0 K2 k2 n y2 y3 z5.2 _ h)
      · have h := ev_ifF h c6
        refine ev_iload_n dX7_wordAmong_26 rfl ?_
        cases h
        exact er_i dX7_wordAmong_27 rfl rfl
theorem tlX7_wordAmong_2 {E : ev_N} {σ : ev_H} (q0 : Nat) (g0 : shp tb6 σ q0) : ∀ (n : Nat) (y2 : Int32) (y3 : Int32) (I : ev_I) (o : Int32 × ev_I), lX7_wordAmong_2 q0 n y2 y3 I = some o → EV E mX7_wordAmong 2 [some (.ref q0), none, some (.int y2), some (.int y3)] [] (h_w σ I) (Option.some (Value.int o.1), h_w σ o.2)
  | 0, _, _, _, _, h => by cases h
  | n + 1, y2, y3, I, o, h => tX7_wordAmong_2 q0 g0 (lX7_wordAmong_2 q0 n) (tlX7_wordAmong_2 q0 g0 n) n y2 y3 I o h
set_option maxRecDepth 100000 in
set_option maxHeartbeats 4000000 in
theorem tX7_wordAmong {E : ev_N} {σ : ev_H} (n : Nat) (q0 : Nat) (g0 : shp tb6 σ q0) (x1 : Int32) (x2 : Int32) (I : ev_I) (o : Int32 × ev_I) (h : pX7_wordAmong n q0 x1 x2 I = some o) : ev_T E mX7_wordAmong [.ref q0, .int x1, .int x2] (h_w σ I) (Option.some (Value.int o.1), h_w σ o.2) := by
  unfold pX7_wordAmong at h
  refine ev_met rfl rfl (Nat.le_of_ble_eq_true rfl) (ev_L0 (L' := [some (.ref q0), some (.int x1), some (.int x2), none]) rfl ?_)
  refine ev_iload_n dX7_wordAmong_0 rfl ?_
  refine ew_istn (L' := [some (.ref q0), some (.int x1), some (.int x2), some (.int x1)]) dX7_wordAmong_1 (Nat.le_of_ble_eq_true rfl) rfl ?_
  exact ev_weak (sb_s (sb_n (sb_s (sb_s sb_0)))) (tlX7_wordAmong_2 q0 g0 n x2 x1 I _ h)
-- ChainVotes$Tape readLie()I
def pX7_readLie (n : Nat) (q0 : Nat) (I : ev_I) : Option (Int32 × ev_I) :=
  (pX7_wordAmong n q0 (9 : Int32) (11 : Int32) I).bind fun z1 =>
  if z1.1 = 0 then
    (pX7_fail n q0 (1 : Int32) z1.2).bind fun z4 =>
    some ((8 : Int32), z4)
  else
    (pX7_step n q0  z1.2).bind fun z3 =>
    some (z1.1, z3)
set_option maxRecDepth 100000 in
set_option maxHeartbeats 4000000 in
theorem tX7_readLie {E : ev_N} {σ : ev_H} (n : Nat) (q0 : Nat) (g0 : shp tb6 σ q0) (I : ev_I) (o : Int32 × ev_I) (h : pX7_readLie n q0  I = some o) : ev_T E mX7_readLie [.ref q0] (h_w σ I) (Option.some (Value.int o.1), h_w σ o.2) := by
  unfold pX7_readLie at h
  refine ev_met rfl rfl (Nat.le_of_ble_eq_true rfl) (ev_L0 (L' := [some (.ref q0), none]) rfl ?_)
  refine ev_aload_n dX7_readLie_0 rfl (fun _ e => by cases e) ?_
  refine ev_bipush (v := (9 : Int32)) dX7_readLie_1 (by decide) ?_
  refine ev_bipush (v := (11 : Int32)) dX7_readLie_3 (by decide) ?_
  obtain ⟨z1, hz1, h⟩ := ev_bnE h
  refine ec_Vi (Y := mX7_wordAmong) (ci := 6) (As := [.int (9 : Int32), .int (11 : Int32)]) (rest := []) dX7_readLie_5 kX7_47 oX7_wordAmong ⟨Nat.le_of_ble_eq_true rfl, Nat.le_of_ble_eq_true rfl⟩ (by decide) rfl (shp_n g0 0 rfl) (shp_t g0 0 rfl) rfl (Nat.le_of_ble_eq_true rfl) (tX7_wordAmong n q0 g0 (9 : Int32) (11 : Int32) I z1 hz1) rfl ?_
  refine ew_istn (L' := [some (.ref q0), some (.int z1.1)]) dX7_readLie_8 (Nat.le_of_ble_eq_true rfl) rfl ?_
  refine ev_iload_n dX7_readLie_9 rfl ?_
  refine ev_if_ne (tgt := 21) dX7_readLie_10 (by decide) (fun c2 => ?_) (fun c2 => ?_)
  · have h := ev_ifF h c2
    refine ev_aload_n dX7_readLie_21 rfl (fun _ e => by cases e) ?_
    obtain ⟨z3, hz3, h⟩ := ev_bnE h
    refine ec_Vv (Y := mX7_step) (ci := 6) (As := []) (rest := []) dX7_readLie_22 kX7_38 oX7_step ⟨Nat.le_of_ble_eq_true rfl, Nat.le_of_ble_eq_true rfl⟩ (by decide) rfl (shp_n g0 0 rfl) (shp_t g0 0 rfl) rfl (Nat.le_of_ble_eq_true rfl) (tX7_step n q0 g0  z1.2 z3 hz3) rfl ?_
    refine ev_iload_n dX7_readLie_25 rfl ?_
    cases h
    exact er_i dX7_readLie_26 rfl rfl
  · have h := ev_ifT h c2
    refine ev_aload_n dX7_readLie_13 rfl (fun _ e => by cases e) ?_
    refine ev_iconst (v := (1 : Int32)) dX7_readLie_14 (by decide) ?_
    obtain ⟨z4, hz4, h⟩ := ev_bnE h
    refine ec_Vv (Y := mX7_fail) (ci := 6) (As := [.int (1 : Int32)]) (rest := []) dX7_readLie_15 kX7_51 oX7_fail ⟨Nat.le_of_ble_eq_true rfl, Nat.le_of_ble_eq_true rfl⟩ (by decide) rfl (shp_n g0 0 rfl) (shp_t g0 0 rfl) rfl (Nat.le_of_ble_eq_true rfl) (tX7_fail n q0 g0 (1 : Int32) z1.2 z4 hz4) rfl ?_
    refine ev_bipush (v := (8 : Int32)) dX7_readLie_18 (by decide) ?_
    cases h
    exact er_i dX7_readLie_20 rfl rfl
-- ChainVotes$Tape readLine()V
def cX7_readLine_63 (q0 : Nat) (n : Nat) (y1 : Int32) (y2 : Int32) (I : ev_I) : Option (ev_I) :=
  (pX7_readNumber n q0 y1 (1 : Int32) I).bind fun z1 =>
  (pX7_readNumber n q0 y1 (2 : Int32) z1.2).bind fun z2 =>
  (pX7_readSemicolon n q0  z2.2).bind fun z3 =>
  if (z3 q0 2) = 0 then
    (pX5_add n (q0 + 2) y1 y2 z1.1 z2.1 z3).bind fun z5 =>
    some z5
  else
    some z3
def pX7_readLine (n : Nat) (q0 : Nat) (I : ev_I) : Option (ev_I) :=
  (pX7_wordAmong n q0 (1 : Int32) (8 : Int32) I).bind fun z6 =>
  if z6.1 = 0 then
    (pX7_fail n q0 (1 : Int32) z6.2).bind fun z16 =>
    some z16
  else
    (pX5_isFull n (q0 + 2)  z6.2).bind fun z8 =>
    if z8 = 0 then
      (pX7_step n q0  z6.2).bind fun z10 =>
      (pX7_readNumber n q0 z6.1 (0 : Int32) z10).bind fun z11 =>
      if z6.1 = (8 : Int32) then
        if (z11.2 q0 2) = 0 then
          (pX7_readLie n q0  z11.2).bind fun z14 =>
          cX7_readLine_63 q0 n z14.1 z11.1 z14.2
        else
          cX7_readLine_63 q0 n z6.1 z11.1 z11.2
      else
        cX7_readLine_63 q0 n z6.1 z11.1 z11.2
    else
      (pX7_fail n q0 (3 : Int32) z6.2).bind fun z15 =>
      some z15
set_option maxRecDepth 100000 in
set_option maxHeartbeats 4000000 in
theorem tX7_readLine_63 {E : ev_N} {σ : ev_H} (q0 : Nat) (g0 : shp tb6 σ q0) (n : Nat) (y1 : Int32) (y2 : Int32) (I : ev_I) (o : ev_I) : cX7_readLine_63 q0 n y1 y2 I = some o → EV E mX7_readLine 63 [some (.ref q0), some (.int y1), some (.int y2), none, none] [] (h_w σ I) (Option.none, h_w σ o) := by
  intro h
  unfold cX7_readLine_63 at h
  refine ev_aload_n dX7_readLine_63 rfl (fun _ e => by cases e) ?_
  refine ev_iload_n dX7_readLine_64 rfl ?_
  refine ev_iconst (v := (1 : Int32)) dX7_readLine_65 (by decide) ?_
  obtain ⟨z1, hz1, h⟩ := ev_bnE h
  refine ec_Vi (Y := mX7_readNumber) (ci := 6) (As := [.int y1, .int (1 : Int32)]) (rest := []) dX7_readLine_66 kX7_59 oX7_readNumber ⟨Nat.le_of_ble_eq_true rfl, Nat.le_of_ble_eq_true rfl⟩ (by decide) rfl (shp_n g0 0 rfl) (shp_t g0 0 rfl) rfl (Nat.le_of_ble_eq_true rfl) (tX7_readNumber n q0 g0 y1 (1 : Int32) I z1 hz1) rfl ?_
  refine ew_istn (L' := [some (.ref q0), some (.int y1), some (.int y2), some (.int z1.1), none]) dX7_readLine_69 (Nat.le_of_ble_eq_true rfl) rfl ?_
  refine ev_aload_n dX7_readLine_70 rfl (fun _ e => by cases e) ?_
  refine ev_iload_n dX7_readLine_71 rfl ?_
  refine ev_iconst (v := (2 : Int32)) dX7_readLine_72 (by decide) ?_
  obtain ⟨z2, hz2, h⟩ := ev_bnE h
  refine ec_Vi (Y := mX7_readNumber) (ci := 6) (As := [.int y1, .int (2 : Int32)]) (rest := []) dX7_readLine_73 kX7_59 oX7_readNumber ⟨Nat.le_of_ble_eq_true rfl, Nat.le_of_ble_eq_true rfl⟩ (by decide) rfl (shp_n g0 0 rfl) (shp_t g0 0 rfl) rfl (Nat.le_of_ble_eq_true rfl) (tX7_readNumber n q0 g0 y1 (2 : Int32) z1.2 z2 hz2) rfl ?_
  refine ew_ist (L' := [some (.ref q0), some (.int y1), some (.int y2), some (.int z1.1), some (.int z2.1)]) dX7_readLine_76 (Nat.le_of_ble_eq_true rfl) rfl ?_
  refine ev_aload_n dX7_readLine_78 rfl (fun _ e => by cases e) ?_
  obtain ⟨z3, hz3, h⟩ := ev_bnE h
  refine ec_Vv (Y := mX7_readSemicolon) (ci := 6) (As := []) (rest := []) dX7_readLine_79 kX7_66 oX7_readSemicolon ⟨Nat.le_of_ble_eq_true rfl, Nat.le_of_ble_eq_true rfl⟩ (by decide) rfl (shp_n g0 0 rfl) (shp_t g0 0 rfl) rfl (Nat.le_of_ble_eq_true rfl) (tX7_readSemicolon n q0 g0  z2.2 z3 hz3) rfl ?_
  refine ev_aload_n dX7_readLine_82 rfl (fun _ e => by cases e) ?_
  refine ew_get0 dX7_readLine_83 fX7_29 g0 rfl rfl rfl ?_
  refine ev_if_ne (tgt := 101) dX7_readLine_86 (by decide) (fun c4 => ?_) (fun c4 => ?_)
  · have h := ev_ifF h c4
    cases h
    exact er_v dX7_readLine_101 rfl
  · have h := ev_ifT h c4
    refine ev_aload_n dX7_readLine_89 rfl (fun _ e => by cases e) ?_
    refine ew_getr0 dX7_readLine_90 fX7_18 g0 rfl rfl rfl rfl ?_
    refine ev_iload_n dX7_readLine_93 rfl ?_
    refine ev_iload_n dX7_readLine_94 rfl ?_
    refine ev_iload_n dX7_readLine_95 rfl ?_
    refine ev_iload dX7_readLine_96 rfl ?_
    obtain ⟨z5, hz5, h⟩ := ev_bnE h
    refine ec_Vv (Y := mX5_add) (ci := 5) (As := [.int y1, .int y2, .int z1.1, .int z2.1]) (rest := []) dX7_readLine_98 kX7_69 oX5_add ⟨Nat.le_of_ble_eq_true rfl, Nat.le_of_ble_eq_true rfl⟩ (by decide) rfl (shp_n (s65 g0) 0 rfl) (shp_t (s65 g0) 0 rfl) rfl (Nat.le_of_ble_eq_true rfl) (tX5_add n (q0 + 2) (s65 g0) y1 y2 z1.1 z2.1 z3 z5 hz5) rfl ?_
    cases h
    exact er_v dX7_readLine_101 rfl
set_option maxRecDepth 100000 in
set_option maxHeartbeats 4000000 in
theorem tX7_readLine {E : ev_N} {σ : ev_H} (n : Nat) (q0 : Nat) (g0 : shp tb6 σ q0) (I : ev_I) (o : ev_I) (h : pX7_readLine n q0  I = some o) : ev_T E mX7_readLine [.ref q0] (h_w σ I) (Option.none, h_w σ o) := by
  unfold pX7_readLine at h
  refine ev_met rfl rfl (Nat.le_of_ble_eq_true rfl) (ev_L0 (L' := [some (.ref q0), none, none, none, none]) rfl ?_)
  refine ev_aload_n dX7_readLine_0 rfl (fun _ e => by cases e) ?_
  refine ev_iconst (v := (1 : Int32)) dX7_readLine_1 (by decide) ?_
  refine ev_bipush (v := (8 : Int32)) dX7_readLine_2 (by decide) ?_
  obtain ⟨z6, hz6, h⟩ := ev_bnE h
  refine ec_Vi (Y := mX7_wordAmong) (ci := 6) (As := [.int (1 : Int32), .int (8 : Int32)]) (rest := []) dX7_readLine_4 kX7_47 oX7_wordAmong ⟨Nat.le_of_ble_eq_true rfl, Nat.le_of_ble_eq_true rfl⟩ (by decide) rfl (shp_n g0 0 rfl) (shp_t g0 0 rfl) rfl (Nat.le_of_ble_eq_true rfl) (tX7_wordAmong n q0 g0 (1 : Int32) (8 : Int32) I z6 hz6) rfl ?_
  refine ew_istn (L' := [some (.ref q0), some (.int z6.1), none, none, none]) dX7_readLine_7 (Nat.le_of_ble_eq_true rfl) rfl ?_
  refine ev_iload_n dX7_readLine_8 rfl ?_
  refine ev_if_ne (tgt := 18) dX7_readLine_9 (by decide) (fun c7 => ?_) (fun c7 => ?_)
  · have h := ev_ifF h c7
    refine ev_aload_n dX7_readLine_18 rfl (fun _ e => by cases e) ?_
    refine ew_getr0 dX7_readLine_19 fX7_18 g0 rfl rfl rfl rfl ?_
    obtain ⟨z8, hz8, h⟩ := ev_bnE h
    refine ec_Vi (Y := mX5_isFull) (ci := 5) (As := []) (rest := []) dX7_readLine_22 kX7_55 oX5_isFull ⟨Nat.le_of_ble_eq_true rfl, Nat.le_of_ble_eq_true rfl⟩ (by decide) rfl (shp_n (s65 g0) 0 rfl) (shp_t (s65 g0) 0 rfl) rfl (Nat.le_of_ble_eq_true rfl) (tX5_isFull n (q0 + 2) (s65 g0)  z6.2 z8 hz8) rfl ?_
    refine ev_if_eq (tgt := 34) dX7_readLine_25 (by decide) (fun c9 => ?_) (fun c9 => ?_)
    · have h := ev_ifT h c9
      refine ev_aload_n dX7_readLine_34 rfl (fun _ e => by cases e) ?_
      obtain ⟨z10, hz10, h⟩ := ev_bnE h
      refine ec_Vv (Y := mX7_step) (ci := 6) (As := []) (rest := []) dX7_readLine_35 kX7_38 oX7_step ⟨Nat.le_of_ble_eq_true rfl, Nat.le_of_ble_eq_true rfl⟩ (by decide) rfl (shp_n g0 0 rfl) (shp_t g0 0 rfl) rfl (Nat.le_of_ble_eq_true rfl) (tX7_step n q0 g0  z6.2 z10 hz10) rfl ?_
      refine ev_aload_n dX7_readLine_38 rfl (fun _ e => by cases e) ?_
      refine ev_iload_n dX7_readLine_39 rfl ?_
      refine ev_iconst (v := (0 : Int32)) dX7_readLine_40 (by decide) ?_
      obtain ⟨z11, hz11, h⟩ := ev_bnE h
      refine ec_Vi (Y := mX7_readNumber) (ci := 6) (As := [.int z6.1, .int (0 : Int32)]) (rest := []) dX7_readLine_41 kX7_59 oX7_readNumber ⟨Nat.le_of_ble_eq_true rfl, Nat.le_of_ble_eq_true rfl⟩ (by decide) rfl (shp_n g0 0 rfl) (shp_t g0 0 rfl) rfl (Nat.le_of_ble_eq_true rfl) (tX7_readNumber n q0 g0 z6.1 (0 : Int32) z10 z11 hz11) rfl ?_
      refine ew_istn (L' := [some (.ref q0), some (.int z6.1), some (.int z11.1), none, none]) dX7_readLine_44 (Nat.le_of_ble_eq_true rfl) rfl ?_
      refine ev_iload_n dX7_readLine_45 rfl ?_
      refine ev_bipush (v := (8 : Int32)) dX7_readLine_46 (by decide) ?_
      refine ev_icmp_ne (tgt := 63) dX7_readLine_48 (by decide) (fun c12 => ?_) (fun c12 => ?_)
      · have h := ev_ifF h c12
        exact ev_weak (sb_s (sb_s (sb_s (sb_n (sb_n sb_0))))) (tX7_readLine_63 q0 g0 n z6.1 z11.1 z11.2 _ h)
      · have h := ev_ifT h c12
        refine ev_aload_n dX7_readLine_51 rfl (fun _ e => by cases e) ?_
        refine ew_get0 dX7_readLine_52 fX7_29 g0 rfl rfl rfl ?_
        refine ev_if_ne (tgt := 63) dX7_readLine_55 (by decide) (fun c13 => ?_) (fun c13 => ?_)
        · have h := ev_ifF h c13
          exact ev_weak (sb_s (sb_s (sb_s (sb_n (sb_n sb_0))))) (tX7_readLine_63 q0 g0 n z6.1 z11.1 z11.2 _ h)
        · have h := ev_ifT h c13
          refine ev_aload_n dX7_readLine_58 rfl (fun _ e => by cases e) ?_
          obtain ⟨z14, hz14, h⟩ := ev_bnE h
          refine ec_Vi (Y := mX7_readLie) (ci := 6) (As := []) (rest := []) dX7_readLine_59 kX7_62 oX7_readLie ⟨Nat.le_of_ble_eq_true rfl, Nat.le_of_ble_eq_true rfl⟩ (by decide) rfl (shp_n g0 0 rfl) (shp_t g0 0 rfl) rfl (Nat.le_of_ble_eq_true rfl) (tX7_readLie n q0 g0  z11.2 z14 hz14) rfl ?_
          refine ew_istn (L' := [some (.ref q0), some (.int z14.1), some (.int z11.1), none, none]) dX7_readLine_62 (Nat.le_of_ble_eq_true rfl) rfl ?_
          exact ev_weak (sb_s (sb_s (sb_s (sb_n (sb_n sb_0))))) (tX7_readLine_63 q0 g0 n z14.1 z11.1 z14.2 _ h)
    · have h := ev_ifF h c9
      refine ev_aload_n dX7_readLine_28 rfl (fun _ e => by cases e) ?_
      refine ev_iconst (v := (3 : Int32)) dX7_readLine_29 (by decide) ?_
      obtain ⟨z15, hz15, h⟩ := ev_bnE h
      refine ec_Vv (Y := mX7_fail) (ci := 6) (As := [.int (3 : Int32)]) (rest := []) dX7_readLine_30 kX7_51 oX7_fail ⟨Nat.le_of_ble_eq_true rfl, Nat.le_of_ble_eq_true rfl⟩ (by decide) rfl (shp_n g0 0 rfl) (shp_t g0 0 rfl) rfl (Nat.le_of_ble_eq_true rfl) (tX7_fail n q0 g0 (3 : Int32) z6.2 z15 hz15) rfl ?_
      cases h
      exact er_v dX7_readLine_33 rfl
  · have h := ev_ifT h c7
    refine ev_aload_n dX7_readLine_12 rfl (fun _ e => by cases e) ?_
    refine ev_iconst (v := (1 : Int32)) dX7_readLine_13 (by decide) ?_
    obtain ⟨z16, hz16, h⟩ := ev_bnE h
    refine ec_Vv (Y := mX7_fail) (ci := 6) (As := [.int (1 : Int32)]) (rest := []) dX7_readLine_14 kX7_51 oX7_fail ⟨Nat.le_of_ble_eq_true rfl, Nat.le_of_ble_eq_true rfl⟩ (by decide) rfl (shp_n g0 0 rfl) (shp_t g0 0 rfl) rfl (Nat.le_of_ble_eq_true rfl) (tX7_fail n q0 g0 (1 : Int32) z6.2 z16 hz16) rfl ?_
    cases h
    exact er_v dX7_readLine_17 rfl
-- ChainVotes$Tape read()Z
def cX7_read_58 (q0 : Nat) (n : Nat) (I : ev_I) : Option (Int32 × ev_I) :=
  ev_lt (ev_u2 I q0 1 (0 : Int32)) fun I1 =>
  if (I1 q0 2) = 0 then
    some ((1 : Int32), I1)
  else
    some ((0 : Int32), I1)
def cX7_read_28 (q0 : Nat) (K28 : Int32 → ev_I → Option (Int32 × ev_I)) (n : Nat) (y1 : Int32) (I : ev_I) : Option (Int32 × ev_I) :=
  if (24 : Int32) < y1 then
    cX7_read_58 q0 n  I
  else
    if (I q0 2) = 0 then
      if (I q0 7) = 0 then
        cX7_read_58 q0 n  I
      else
        (pX7_readLine n q0  I).bind fun z6 =>
        ev_lt (y1 + (1 : Int32)) fun v7 =>
        K28 v7 z6
    else
      cX7_read_58 q0 n  I
def lX7_read_28 (q0 : Nat) : Nat → Int32 → ev_I → Option (Int32 × ev_I)
  | 0, _, _ => none
  | n + 1, y1, I => cX7_read_28 q0 (lX7_read_28 q0 n) n y1 I
def pX7_read (n : Nat) (q0 : Nat) (I : ev_I) : Option (Int32 × ev_I) :=
  ev_lt (ev_u2 I q0 2 (0 : Int32)) fun I8 =>
  ev_lt (ev_u2 I8 q0 3 (-1 : Int32)) fun I9 =>
  ev_lt (ev_u2 I9 q0 6 (0 : Int32)) fun I10 =>
  (pX5_clear n (q0 + 2)  I10).bind fun z11 =>
  (pX7_step n q0  z11).bind fun z12 =>
  lX7_read_28 q0 n (0 : Int32) z12
set_option maxRecDepth 100000 in
set_option maxHeartbeats 4000000 in
theorem tX7_read_58 {E : ev_N} {σ : ev_H} (q0 : Nat) (g0 : shp tb6 σ q0) (n : Nat) (I : ev_I) (o : Int32 × ev_I) : cX7_read_58 q0 n  I = some o → EV E mX7_read 58 [some (.ref q0), none] [] (h_w σ I) (Option.some (Value.int o.1), h_w σ o.2) := by
  intro h
  unfold cX7_read_58 at h
  refine ev_aload_n dX7_read_58 rfl (fun _ e => by cases e) ?_
  refine ev_iconst (v := (0 : Int32)) dX7_read_59 (by decide) ?_
  obtain ⟨I1, eI1, h⟩ := ev_ltE h
  refine ew_put0 dX7_read_60 fX7_26 g0 rfl rfl rfl rfl rfl rfl (ew_nh eI1 ?_)
  refine ev_aload_n dX7_read_63 rfl (fun _ e => by cases e) ?_
  refine ew_get0 dX7_read_64 fX7_29 g0 rfl rfl rfl ?_
  refine ev_if_ne (tgt := 74) dX7_read_67 (by decide) (fun c2 => ?_) (fun c2 => ?_)
  · have h := ev_ifF h c2
    refine ev_iconst (v := (0 : Int32)) dX7_read_74 (by decide) ?_
    cases h
    exact er_i dX7_read_75 rfl rfl
  · have h := ev_ifT h c2
    refine ev_iconst (v := (1 : Int32)) dX7_read_70 (by decide) ?_
    refine ev_goto (tgt := 75) dX7_read_71 (by decide) ?_
    cases h
    exact er_i dX7_read_75 rfl rfl
set_option maxRecDepth 100000 in
set_option maxHeartbeats 4000000 in
theorem tX7_read_28 {E : ev_N} {σ : ev_H} (q0 : Nat) (g0 : shp tb6 σ q0) (K28 : Int32 → ev_I → Option (Int32 × ev_I)) (k28 : ∀ (y1 : Int32) (I : ev_I) (o : Int32 × ev_I), K28 y1 I = some o → EV E mX7_read 28 [some (.ref q0), some (.int y1)] [] (h_w σ I) (Option.some (Value.int o.1), h_w σ o.2)) (n : Nat) (y1 : Int32) (I : ev_I) (o : Int32 × ev_I) : cX7_read_28 q0 K28 n y1 I = some o → EV E mX7_read 28 [some (.ref q0), some (.int y1)] [] (h_w σ I) (Option.some (Value.int o.1), h_w σ o.2) := by
  intro h
  unfold cX7_read_28 at h
  refine ev_iload_n dX7_read_28 rfl ?_
  refine ev_bipush (v := (24 : Int32)) dX7_read_29 (by decide) ?_
  refine ev_icmp_gt (tgt := 58) dX7_read_31 (by decide) (fun c3 => ?_) (fun c3 => ?_)
  · have h := ev_ifT h c3
    exact ev_weak (sb_s (sb_n sb_0)) (tX7_read_58 q0 g0 n  I _ h)
  · have h := ev_ifF h c3
    refine ev_aload_n dX7_read_34 rfl (fun _ e => by cases e) ?_
    refine ew_get0 dX7_read_35 fX7_29 g0 rfl rfl rfl ?_
    refine ev_if_ne (tgt := 58) dX7_read_38 (by decide) (fun c4 => ?_) (fun c4 => ?_)
    · have h := ev_ifF h c4
      exact ev_weak (sb_s (sb_n sb_0)) (tX7_read_58 q0 g0 n  I _ h)
    · have h := ev_ifT h c4
      refine ev_aload_n dX7_read_41 rfl (fun _ e => by cases e) ?_
      refine ew_get0 dX7_read_42 fX7_41 g0 rfl rfl rfl ?_
      refine ev_if_eq (tgt := 58) dX7_read_45 (by decide) (fun c5 => ?_) (fun c5 => ?_)
      · have h := ev_ifT h c5
        exact ev_weak (sb_s (sb_n sb_0)) (tX7_read_58 q0 g0 n  I _ h)
      · have h := ev_ifF h c5
        refine ev_aload_n dX7_read_48 rfl (fun _ e => by cases e) ?_
        obtain ⟨z6, hz6, h⟩ := ev_bnE h
        refine ec_Vv (Y := mX7_readLine) (ci := 6) (As := []) (rest := []) dX7_read_49 kX7_44 oX7_readLine ⟨Nat.le_of_ble_eq_true rfl, Nat.le_of_ble_eq_true rfl⟩ (by decide) rfl (shp_n g0 0 rfl) (shp_t g0 0 rfl) rfl (Nat.le_of_ble_eq_true rfl) (tX7_readLine n q0 g0  I z6 hz6) rfl ?_
        obtain ⟨v7, ev7, h⟩ := ev_ltE h
        refine ew_iinc (L' := [some (.ref q0), some (.int v7)]) dX7_read_52 (Nat.le_of_ble_eq_true rfl) rfl (by decide) ev7 rfl ?_
        refine ev_goto (tgt := 28) dX7_read_55 (by decide) ?_
        exact ev_weak (sb_s (sb_s sb_0)) (k28 v7 z6 _ h)
theorem tlX7_read_28 {E : ev_N} {σ : ev_H} (q0 : Nat) (g0 : shp tb6 σ q0) : ∀ (n : Nat) (y1 : Int32) (I : ev_I) (o : Int32 × ev_I), lX7_read_28 q0 n y1 I = some o → EV E mX7_read 28 [some (.ref q0), some (.int y1)] [] (h_w σ I) (Option.some (Value.int o.1), h_w σ o.2)
  | 0, _, _, _, h => by cases h
  | n + 1, y1, I, o, h => tX7_read_28 q0 g0 (lX7_read_28 q0 n) (tlX7_read_28 q0 g0 n) n y1 I o h
set_option maxRecDepth 100000 in
set_option maxHeartbeats 4000000 in
theorem tX7_read {E : ev_N} {σ : ev_H} (n : Nat) (q0 : Nat) (g0 : shp tb6 σ q0) (I : ev_I) (o : Int32 × ev_I) (h : pX7_read n q0  I = some o) : ev_T E mX7_read [.ref q0] (h_w σ I) (Option.some (Value.int o.1), h_w σ o.2) := by
  unfold pX7_read at h
  refine ev_met rfl rfl (Nat.le_of_ble_eq_true rfl) (ev_L0 (L' := [some (.ref q0), none]) rfl ?_)
  refine ev_aload_n dX7_read_0 rfl (fun _ e => by cases e) ?_
  refine ev_iconst (v := (0 : Int32)) dX7_read_1 (by decide) ?_
  obtain ⟨I8, eI8, h⟩ := ev_ltE h
  refine ew_put0 dX7_read_2 fX7_29 g0 rfl rfl rfl rfl rfl rfl (ew_nh eI8 ?_)
  refine ev_aload_n dX7_read_5 rfl (fun _ e => by cases e) ?_
  refine ev_iconst (v := (-1 : Int32)) dX7_read_6 (by decide) ?_
  obtain ⟨I9, eI9, h⟩ := ev_ltE h
  refine ew_put0 dX7_read_7 fX7_22 g0 rfl rfl rfl rfl rfl rfl (ew_nh eI9 ?_)
  refine ev_aload_n dX7_read_10 rfl (fun _ e => by cases e) ?_
  refine ev_iconst (v := (0 : Int32)) dX7_read_11 (by decide) ?_
  obtain ⟨I10, eI10, h⟩ := ev_ltE h
  refine ew_put0 dX7_read_12 fX7_32 g0 rfl rfl rfl rfl rfl rfl (ew_nh eI10 ?_)
  refine ev_aload_n dX7_read_15 rfl (fun _ e => by cases e) ?_
  refine ew_getr0 dX7_read_16 fX7_18 g0 rfl rfl rfl rfl ?_
  obtain ⟨z11, hz11, h⟩ := ev_bnE h
  refine ec_Vv (Y := mX5_clear) (ci := 5) (As := []) (rest := []) dX7_read_19 kX7_35 oX5_clear ⟨Nat.le_of_ble_eq_true rfl, Nat.le_of_ble_eq_true rfl⟩ (by decide) rfl (shp_n (s65 g0) 0 rfl) (shp_t (s65 g0) 0 rfl) rfl (Nat.le_of_ble_eq_true rfl) (tX5_clear n (q0 + 2) (s65 g0)  I10 z11 hz11) rfl ?_
  refine ev_aload_n dX7_read_22 rfl (fun _ e => by cases e) ?_
  obtain ⟨z12, hz12, h⟩ := ev_bnE h
  refine ec_Vv (Y := mX7_step) (ci := 6) (As := []) (rest := []) dX7_read_23 kX7_38 oX7_step ⟨Nat.le_of_ble_eq_true rfl, Nat.le_of_ble_eq_true rfl⟩ (by decide) rfl (shp_n g0 0 rfl) (shp_t g0 0 rfl) rfl (Nat.le_of_ble_eq_true rfl) (tX7_step n q0 g0  z11 z12 hz12) rfl ?_
  refine ev_iconst (v := (0 : Int32)) dX7_read_26 (by decide) ?_
  refine ew_istn (L' := [some (.ref q0), some (.int (0 : Int32))]) dX7_read_27 (Nat.le_of_ble_eq_true rfl) rfl ?_
  exact ev_weak (sb_s (sb_s sb_0)) (tlX7_read_28 q0 g0 n (0 : Int32) z12 _ h)
-- ChainVotes plan()I
def pX9_plan (n : Nat) (q0 : Nat) (I : ev_I) : Option (Int32 × ev_I) :=
  (pX7_read n (q0 + 59)  I).bind fun z1 =>
  if z1.1 = 0 then
    some ((-1 : Int32), z1.2)
  else
    (pX5_copyFrom n ((q0 + 1) + 18) ((q0 + 59) + 2)  z1.2).bind fun z3 =>
    some ((z3 ((q0 + 1) + 18) 0), z3)
set_option maxRecDepth 100000 in
set_option maxHeartbeats 4000000 in
theorem tX9_plan {E : ev_N} {σ : ev_H} (n : Nat) (q0 : Nat) (g0 : shp tb8 σ q0) (I : ev_I) (o : Int32 × ev_I) (h : pX9_plan n q0  I = some o) : ev_T E mX9_plan [.ref q0] (h_w σ I) (Option.some (Value.int o.1), h_w σ o.2) := by
  unfold pX9_plan at h
  refine ev_met rfl rfl (Nat.le_of_ble_eq_true rfl) (ev_L0 (L' := [some (.ref q0)]) rfl ?_)
  refine ev_aload_n dX9_plan_0 rfl (fun _ e => by cases e) ?_
  refine ew_getr0 dX9_plan_1 fX9_19 g0 rfl rfl rfl rfl ?_
  obtain ⟨z1, hz1, h⟩ := ev_bnE h
  refine ec_Vi (Y := mX7_read) (ci := 6) (As := []) (rest := []) dX9_plan_4 kX9_141 oX7_read ⟨Nat.le_of_ble_eq_true rfl, Nat.le_of_ble_eq_true rfl⟩ (by decide) rfl (shp_n (s86 g0) 0 rfl) (shp_t (s86 g0) 0 rfl) rfl (Nat.le_of_ble_eq_true rfl) (tX7_read n (q0 + 59) (s86 g0)  I z1 hz1) rfl ?_
  refine ev_if_ne (tgt := 12) dX9_plan_7 (by decide) (fun c2 => ?_) (fun c2 => ?_)
  · have h := ev_ifF h c2
    refine ev_aload_n dX9_plan_12 rfl (fun _ e => by cases e) ?_
    refine ew_getr0 dX9_plan_13 fX9_12 g0 rfl rfl rfl rfl ?_
    refine ew_getr0 dX9_plan_16 fX9_144 (s87 g0) rfl rfl rfl rfl ?_
    refine ev_aload_n dX9_plan_19 rfl (fun _ e => by cases e) ?_
    refine ew_getr0 dX9_plan_20 fX9_19 g0 rfl rfl rfl rfl ?_
    refine ew_getr0 dX9_plan_23 fX9_148 (s86 g0) rfl rfl rfl rfl ?_
    obtain ⟨z3, hz3, h⟩ := ev_bnE h
    refine ec_Vv (Y := mX5_copyFrom) (ci := 5) (As := [.ref ((q0 + 59) + 2)]) (rest := []) dX9_plan_26 kX9_151 oX5_copyFrom ⟨Nat.le_of_ble_eq_true rfl, Nat.le_of_ble_eq_true rfl⟩ (by decide) rfl (shp_n (s75 (s87 g0)) 0 rfl) (shp_t (s75 (s87 g0)) 0 rfl) rfl (Nat.le_of_ble_eq_true rfl) (tX5_copyFrom n ((q0 + 1) + 18) ((q0 + 59) + 2) (s75 (s87 g0)) (s65 (s86 g0))  z1.2 z3 hz3) rfl ?_
    refine ev_aload_n dX9_plan_29 rfl (fun _ e => by cases e) ?_
    refine ew_getr0 dX9_plan_30 fX9_12 g0 rfl rfl rfl rfl ?_
    refine ew_getr0 dX9_plan_33 fX9_144 (s87 g0) rfl rfl rfl rfl ?_
    refine ew_get0 dX9_plan_36 fX9_157 (s75 (s87 g0)) rfl rfl rfl ?_
    cases h
    exact er_i dX9_plan_39 rfl rfl
  · have h := ev_ifT h c2
    refine ev_iconst (v := (-1 : Int32)) dX9_plan_10 (by decide) ?_
    cases h
    exact er_i dX9_plan_11 rfl rfl
