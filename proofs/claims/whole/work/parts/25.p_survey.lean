-- ChainVotes$Survey flag(Z)I
def pX6_flag (n : Nat)  (x0 : Int32) (I : ev_I) : Option (Int32) :=
  if x0 = 0 then
    some (0 : Int32)
  else
    some (1 : Int32)
set_option maxRecDepth 100000 in
set_option maxHeartbeats 4000000 in
theorem tX6_flag {E : ev_N} {σ : ev_H} (n : Nat)   (x0 : Int32) (I : ev_I) (o : Int32) (h : pX6_flag n  x0 I = some o) : ev_T E mX6_flag [.int x0] (h_w σ I) (Option.some (Value.int o), h_w σ I) := by
  unfold pX6_flag at h
  refine ev_met rfl rfl (Nat.le_of_ble_eq_true rfl) (ev_L0 (L' := [some (.int x0)]) rfl ?_)
  refine ev_iload_n dX6_flag_0 rfl ?_
  refine ev_if_eq (tgt := 8) dX6_flag_1 (by decide) (fun c1 => ?_) (fun c1 => ?_)
  · have h := ev_ifT h c1
    refine ev_iconst (v := (0 : Int32)) dX6_flag_8 (by decide) ?_
    cases h
    exact er_i dX6_flag_9 rfl rfl
  · have h := ev_ifF h c1
    refine ev_iconst (v := (1 : Int32)) dX6_flag_4 (by decide) ?_
    refine ev_goto (tgt := 9) dX6_flag_5 (by decide) ?_
    cases h
    exact er_i dX6_flag_9 rfl rfl
-- ChainVotes$Survey ofNode(LChainVotes$World;II)I
def pX6_ofNode (n : Nat) (q0 : Nat) (x1 : Int32) (x2 : Int32) (I : ev_I) : Option (Int32) :=
  ev_ck (ev_in x1 7) <|
  if x2 = (0 : Int32) then
    some (I (q0 + (23 + 5 * x1.toNatClampNeg)) 0)
  else
  if x2 = (1 : Int32) then
    some (I (q0 + (23 + 5 * x1.toNatClampNeg)) 1)
  else
  if x2 = (2 : Int32) then
    some (I (q0 + (23 + 5 * x1.toNatClampNeg)) 2)
  else
  if x2 = (3 : Int32) then
    some (I (q0 + (23 + 5 * x1.toNatClampNeg)) 3)
  else
  if x2 = (4 : Int32) then
    some (I (q0 + (23 + 5 * x1.toNatClampNeg)) 4)
  else
  if x2 = (5 : Int32) then
    some (I (q0 + (23 + 5 * x1.toNatClampNeg)) 5)
  else
  if x2 = (6 : Int32) then
    some (I (q0 + (23 + 5 * x1.toNatClampNeg)) 6)
  else
  if x2 = (7 : Int32) then
    some (I (q0 + (23 + 5 * x1.toNatClampNeg)) 7)
  else
  if x2 = (8 : Int32) then
    some (I (q0 + (23 + 5 * x1.toNatClampNeg)) 9)
  else
  if x2 = (9 : Int32) then
    (pX3_lastLogged n (q0 + (23 + 5 * x1.toNatClampNeg))  I).bind fun z12 =>
    some z12
  else
  if x2 = (10 : Int32) then
    some (I (q0 + (23 + 5 * x1.toNatClampNeg)) 8)
  else
  if x2 = (11 : Int32) then
    (pX8_canPropose n q0 x1 I).bind fun z15 =>
    (pX6_flag n  z15 I).bind fun z16 =>
    some z16
  else
  if x2 = (12 : Int32) then
    (pX8_canTimeOut n q0 x1 I).bind fun z18 =>
    (pX6_flag n  z18 I).bind fun z19 =>
    some z19
  else
  some (-1 : Int32)
set_option maxRecDepth 100000 in
set_option maxHeartbeats 4000000 in
theorem tX6_ofNode {E : ev_N} {σ : ev_H} (n : Nat) (q0 : Nat) (g0 : shp tb7 σ q0) (x1 : Int32) (x2 : Int32) (I : ev_I) (o : Int32) (h : pX6_ofNode n q0 x1 x2 I = some o) : ev_T E mX6_ofNode [.ref q0, .int x1, .int x2] (h_w σ I) (Option.some (Value.int o), h_w σ I) := by
  unfold pX6_ofNode at h
  refine ev_met rfl rfl (Nat.le_of_ble_eq_true rfl) (ev_L0 (L' := [some (.ref q0), some (.int x1), some (.int x2), none]) rfl ?_)
  refine ev_aload_n dX6_ofNode_0 rfl (fun _ e => by cases e) ?_
  refine ew_getr0 dX6_ofNode_1 fX6_9 g0 rfl rfl rfl rfl ?_
  refine ev_iload_n dX6_ofNode_4 rfl ?_
  obtain ⟨c1, h⟩ := ev_ckE h
  refine ew_memb dX6_ofNode_5 g0 c1 ?_
  refine ew_astn (L' := [some (.ref q0), some (.int x1), some (.int x2), some (.ref (q0 + (23 + 5 * x1.toNatClampNeg)))]) dX6_ofNode_6 (Nat.le_of_ble_eq_true rfl) (fun _ e => by cases e) rfl ?_
  refine ev_iload_n dX6_ofNode_7 rfl ?_
  by_cases c2 : x2 = (0 : Int32)
  · have h := ev_ifT h c2
    refine ev_table (tgt := 76) dX6_ofNode_8 (by rw [c2]; decide) (by decide) ?_
    refine ev_aload_n dX6_ofNode_76 rfl (fun _ e => by cases e) ?_
    refine ew_get0 dX6_ofNode_77 fX6_15 (s73 g0 (ev_inL c1)) rfl rfl rfl ?_
    cases h
    exact er_i dX6_ofNode_80 rfl rfl
  have h := ev_ifF h c2
  by_cases c3 : x2 = (1 : Int32)
  · have h := ev_ifT h c3
    refine ev_table (tgt := 81) dX6_ofNode_8 (by rw [c3]; decide) (by decide) ?_
    refine ev_aload_n dX6_ofNode_81 rfl (fun _ e => by cases e) ?_
    refine ew_get0 dX6_ofNode_82 fX6_21 (s73 g0 (ev_inL c1)) rfl rfl rfl ?_
    cases h
    exact er_i dX6_ofNode_85 rfl rfl
  have h := ev_ifF h c3
  by_cases c4 : x2 = (2 : Int32)
  · have h := ev_ifT h c4
    refine ev_table (tgt := 86) dX6_ofNode_8 (by rw [c4]; decide) (by decide) ?_
    refine ev_aload_n dX6_ofNode_86 rfl (fun _ e => by cases e) ?_
    refine ew_get0 dX6_ofNode_87 fX6_24 (s73 g0 (ev_inL c1)) rfl rfl rfl ?_
    cases h
    exact er_i dX6_ofNode_90 rfl rfl
  have h := ev_ifF h c4
  by_cases c5 : x2 = (3 : Int32)
  · have h := ev_ifT h c5
    refine ev_table (tgt := 91) dX6_ofNode_8 (by rw [c5]; decide) (by decide) ?_
    refine ev_aload_n dX6_ofNode_91 rfl (fun _ e => by cases e) ?_
    refine ew_get0 dX6_ofNode_92 fX6_27 (s73 g0 (ev_inL c1)) rfl rfl rfl ?_
    cases h
    exact er_i dX6_ofNode_95 rfl rfl
  have h := ev_ifF h c5
  by_cases c6 : x2 = (4 : Int32)
  · have h := ev_ifT h c6
    refine ev_table (tgt := 96) dX6_ofNode_8 (by rw [c6]; decide) (by decide) ?_
    refine ev_aload_n dX6_ofNode_96 rfl (fun _ e => by cases e) ?_
    refine ew_get0 dX6_ofNode_97 fX6_30 (s73 g0 (ev_inL c1)) rfl rfl rfl ?_
    cases h
    exact er_i dX6_ofNode_100 rfl rfl
  have h := ev_ifF h c6
  by_cases c7 : x2 = (5 : Int32)
  · have h := ev_ifT h c7
    refine ev_table (tgt := 101) dX6_ofNode_8 (by rw [c7]; decide) (by decide) ?_
    refine ev_aload_n dX6_ofNode_101 rfl (fun _ e => by cases e) ?_
    refine ew_get0 dX6_ofNode_102 fX6_33 (s73 g0 (ev_inL c1)) rfl rfl rfl ?_
    cases h
    exact er_i dX6_ofNode_105 rfl rfl
  have h := ev_ifF h c7
  by_cases c8 : x2 = (6 : Int32)
  · have h := ev_ifT h c8
    refine ev_table (tgt := 106) dX6_ofNode_8 (by rw [c8]; decide) (by decide) ?_
    refine ev_aload_n dX6_ofNode_106 rfl (fun _ e => by cases e) ?_
    refine ew_get0 dX6_ofNode_107 fX6_36 (s73 g0 (ev_inL c1)) rfl rfl rfl ?_
    cases h
    exact er_i dX6_ofNode_110 rfl rfl
  have h := ev_ifF h c8
  by_cases c9 : x2 = (7 : Int32)
  · have h := ev_ifT h c9
    refine ev_table (tgt := 111) dX6_ofNode_8 (by rw [c9]; decide) (by decide) ?_
    refine ev_aload_n dX6_ofNode_111 rfl (fun _ e => by cases e) ?_
    refine ew_get0 dX6_ofNode_112 fX6_39 (s73 g0 (ev_inL c1)) rfl rfl rfl ?_
    cases h
    exact er_i dX6_ofNode_115 rfl rfl
  have h := ev_ifF h c9
  by_cases c10 : x2 = (8 : Int32)
  · have h := ev_ifT h c10
    refine ev_table (tgt := 116) dX6_ofNode_8 (by rw [c10]; decide) (by decide) ?_
    refine ev_aload_n dX6_ofNode_116 rfl (fun _ e => by cases e) ?_
    refine ew_get0 dX6_ofNode_117 fX6_42 (s73 g0 (ev_inL c1)) rfl rfl rfl ?_
    cases h
    exact er_i dX6_ofNode_120 rfl rfl
  have h := ev_ifF h c10
  by_cases c11 : x2 = (9 : Int32)
  · have h := ev_ifT h c11
    refine ev_table (tgt := 121) dX6_ofNode_8 (by rw [c11]; decide) (by decide) ?_
    refine ev_aload_n dX6_ofNode_121 rfl (fun _ e => by cases e) ?_
    obtain ⟨z12, hz12, h⟩ := ev_bnE h
    refine ec_Vi (Y := mX3_lastLogged) (ci := 3) (As := []) (rest := []) dX6_ofNode_122 kX6_45 oX3_lastLogged ⟨Nat.le_of_ble_eq_true rfl, Nat.le_of_ble_eq_true rfl⟩ (by decide) rfl (shp_n (s73 g0 (ev_inL c1)) 0 rfl) (shp_t (s73 g0 (ev_inL c1)) 0 rfl) rfl (Nat.le_of_ble_eq_true rfl) (tX3_lastLogged n (q0 + (23 + 5 * x1.toNatClampNeg)) (s73 g0 (ev_inL c1))  I z12 hz12) rfl ?_
    cases h
    exact er_i dX6_ofNode_125 rfl rfl
  have h := ev_ifF h c11
  by_cases c13 : x2 = (10 : Int32)
  · have h := ev_ifT h c13
    refine ev_table (tgt := 126) dX6_ofNode_8 (by rw [c13]; decide) (by decide) ?_
    refine ev_aload_n dX6_ofNode_126 rfl (fun _ e => by cases e) ?_
    refine ew_get0 dX6_ofNode_127 fX6_49 (s73 g0 (ev_inL c1)) rfl rfl rfl ?_
    cases h
    exact er_i dX6_ofNode_130 rfl rfl
  have h := ev_ifF h c13
  by_cases c14 : x2 = (11 : Int32)
  · have h := ev_ifT h c14
    refine ev_table (tgt := 131) dX6_ofNode_8 (by rw [c14]; decide) (by decide) ?_
    refine ev_aload_n dX6_ofNode_131 rfl (fun _ e => by cases e) ?_
    refine ev_iload_n dX6_ofNode_132 rfl ?_
    obtain ⟨z15, hz15, h⟩ := ev_bnE h
    refine ec_Vi (Y := mX8_canPropose) (ci := 7) (As := [.int x1]) (rest := []) dX6_ofNode_133 kX6_52 oX8_canPropose ⟨Nat.le_of_ble_eq_true rfl, Nat.le_of_ble_eq_true rfl⟩ (by decide) rfl (shp_n g0 0 rfl) (shp_t g0 0 rfl) rfl (Nat.le_of_ble_eq_true rfl) (tX8_canPropose n q0 g0 x1 I z15 hz15) rfl ?_
    obtain ⟨z16, hz16, h⟩ := ev_bnE h
    refine ec_Si (Y := mX6_flag) (As := [.int z15]) (rest := []) dX6_ofNode_136 kX6_56 oX6_flag ⟨Nat.le_of_ble_eq_true rfl, Nat.le_of_ble_eq_true rfl⟩ rfl (Nat.le_of_ble_eq_true rfl) (tX6_flag n   z15 I z16 hz16) rfl ?_
    cases h
    exact er_i dX6_ofNode_139 rfl rfl
  have h := ev_ifF h c14
  by_cases c17 : x2 = (12 : Int32)
  · have h := ev_ifT h c17
    refine ev_table (tgt := 140) dX6_ofNode_8 (by rw [c17]; decide) (by decide) ?_
    refine ev_aload_n dX6_ofNode_140 rfl (fun _ e => by cases e) ?_
    refine ev_iload_n dX6_ofNode_141 rfl ?_
    obtain ⟨z18, hz18, h⟩ := ev_bnE h
    refine ec_Vi (Y := mX8_canTimeOut) (ci := 7) (As := [.int x1]) (rest := []) dX6_ofNode_142 kX6_62 oX8_canTimeOut ⟨Nat.le_of_ble_eq_true rfl, Nat.le_of_ble_eq_true rfl⟩ (by decide) rfl (shp_n g0 0 rfl) (shp_t g0 0 rfl) rfl (Nat.le_of_ble_eq_true rfl) (tX8_canTimeOut n q0 g0 x1 I z18 hz18) rfl ?_
    obtain ⟨z19, hz19, h⟩ := ev_bnE h
    refine ec_Si (Y := mX6_flag) (As := [.int z18]) (rest := []) dX6_ofNode_145 kX6_56 oX6_flag ⟨Nat.le_of_ble_eq_true rfl, Nat.le_of_ble_eq_true rfl⟩ rfl (Nat.le_of_ble_eq_true rfl) (tX6_flag n   z18 I z19 hz19) rfl ?_
    cases h
    exact er_i dX6_ofNode_148 rfl rfl
  have h := ev_ifF h c17
  refine ev_table (tgt := 149) dX6_ofNode_8 (by rw [if_pos (sw_out _ _ x2 (by intro i h1 h2; rcases (show i = 0 ∨ i = 1 ∨ i = 2 ∨ i = 3 ∨ i = 4 ∨ i = 5 ∨ i = 6 ∨ i = 7 ∨ i = 8 ∨ i = 9 ∨ i = 10 ∨ i = 11 ∨ i = 12 by omega) with rfl | rfl | rfl | rfl | rfl | rfl | rfl | rfl | rfl | rfl | rfl | rfl | rfl <;> first | exact ⟨_, by decide, c2⟩ | exact ⟨_, by decide, c3⟩ | exact ⟨_, by decide, c4⟩ | exact ⟨_, by decide, c5⟩ | exact ⟨_, by decide, c6⟩ | exact ⟨_, by decide, c7⟩ | exact ⟨_, by decide, c8⟩ | exact ⟨_, by decide, c9⟩ | exact ⟨_, by decide, c10⟩ | exact ⟨_, by decide, c11⟩ | exact ⟨_, by decide, c13⟩ | exact ⟨_, by decide, c14⟩ | exact ⟨_, by decide, c17⟩))]; rfl) (by decide) ?_
  refine ev_iconst (v := (-1 : Int32)) dX6_ofNode_149 (by decide) ?_
  cases h
  exact er_i dX6_ofNode_150 rfl rfl
-- ChainVotes$Survey ofBlock(LChainVotes$Blocks;II)I
def pX6_ofBlock (n : Nat) (q0 : Nat) (x1 : Int32) (x2 : Int32) (I : ev_I) : Option (Int32) :=
  if x2 = (0 : Int32) then
    ev_ck (ev_in x1 100) <|
    some (I (q0 + 1) x1.toNatClampNeg)
  else
  if x2 = (1 : Int32) then
    ev_ck (ev_in x1 100) <|
    some (I (q0 + 2) x1.toNatClampNeg)
  else
  if x2 = (2 : Int32) then
    ev_ck (ev_in x1 100) <|
    some (I (q0 + 3) x1.toNatClampNeg)
  else
  if x2 = (3 : Int32) then
    ev_ck (ev_in x1 100) <|
    some (I (q0 + 4) x1.toNatClampNeg)
  else
  if x2 = (4 : Int32) then
    ev_ck (ev_in x1 100) <|
    some (I (q0 + 5) x1.toNatClampNeg)
  else
  if x2 = (5 : Int32) then
    ev_ck (ev_in x1 100) <|
    some (I (q0 + 6) x1.toNatClampNeg)
  else
  if x2 = (6 : Int32) then
    ev_ck (ev_in x1 100) <|
    some (I (q0 + 7) x1.toNatClampNeg)
  else
  if x2 = (7 : Int32) then
    ev_ck (ev_in x1 100) <|
    some (I (q0 + 8) x1.toNatClampNeg)
  else
  some (-1 : Int32)
set_option maxRecDepth 100000 in
set_option maxHeartbeats 4000000 in
theorem tX6_ofBlock {E : ev_N} {σ : ev_H} (n : Nat) (q0 : Nat) (g0 : shp tb1 σ q0) (x1 : Int32) (x2 : Int32) (I : ev_I) (o : Int32) (h : pX6_ofBlock n q0 x1 x2 I = some o) : ev_T E mX6_ofBlock [.ref q0, .int x1, .int x2] (h_w σ I) (Option.some (Value.int o), h_w σ I) := by
  unfold pX6_ofBlock at h
  refine ev_met rfl rfl (Nat.le_of_ble_eq_true rfl) (ev_L0 (L' := [some (.ref q0), some (.int x1), some (.int x2)]) rfl ?_)
  refine ev_iload_n dX6_ofBlock_0 rfl ?_
  by_cases c1 : x2 = (0 : Int32)
  · have h := ev_ifT h c1
    refine ev_table (tgt := 48) dX6_ofBlock_1 (by rw [c1]; decide) (by decide) ?_
    refine ev_aload_n dX6_ofBlock_48 rfl (fun _ e => by cases e) ?_
    refine ew_getr0 dX6_ofBlock_49 fX6_65 g0 rfl rfl rfl rfl ?_
    refine ev_iload_n dX6_ofBlock_52 rfl ?_
    obtain ⟨c2, h⟩ := ev_ckE h
    refine ew_iald dX6_ofBlock_53 (shp_a g0 1 rfl) c2 ?_
    cases h
    exact er_i dX6_ofBlock_54 rfl rfl
  have h := ev_ifF h c1
  by_cases c3 : x2 = (1 : Int32)
  · have h := ev_ifT h c3
    refine ev_table (tgt := 55) dX6_ofBlock_1 (by rw [c3]; decide) (by decide) ?_
    refine ev_aload_n dX6_ofBlock_55 rfl (fun _ e => by cases e) ?_
    refine ew_getr0 dX6_ofBlock_56 fX6_70 g0 rfl rfl rfl rfl ?_
    refine ev_iload_n dX6_ofBlock_59 rfl ?_
    obtain ⟨c4, h⟩ := ev_ckE h
    refine ew_iald dX6_ofBlock_60 (shp_a g0 2 rfl) c4 ?_
    cases h
    exact er_i dX6_ofBlock_61 rfl rfl
  have h := ev_ifF h c3
  by_cases c5 : x2 = (2 : Int32)
  · have h := ev_ifT h c5
    refine ev_table (tgt := 62) dX6_ofBlock_1 (by rw [c5]; decide) (by decide) ?_
    refine ev_aload_n dX6_ofBlock_62 rfl (fun _ e => by cases e) ?_
    refine ew_getr0 dX6_ofBlock_63 fX6_73 g0 rfl rfl rfl rfl ?_
    refine ev_iload_n dX6_ofBlock_66 rfl ?_
    obtain ⟨c6, h⟩ := ev_ckE h
    refine ew_iald dX6_ofBlock_67 (shp_a g0 3 rfl) c6 ?_
    cases h
    exact er_i dX6_ofBlock_68 rfl rfl
  have h := ev_ifF h c5
  by_cases c7 : x2 = (3 : Int32)
  · have h := ev_ifT h c7
    refine ev_table (tgt := 69) dX6_ofBlock_1 (by rw [c7]; decide) (by decide) ?_
    refine ev_aload_n dX6_ofBlock_69 rfl (fun _ e => by cases e) ?_
    refine ew_getr0 dX6_ofBlock_70 fX6_76 g0 rfl rfl rfl rfl ?_
    refine ev_iload_n dX6_ofBlock_73 rfl ?_
    obtain ⟨c8, h⟩ := ev_ckE h
    refine ew_iald dX6_ofBlock_74 (shp_a g0 4 rfl) c8 ?_
    cases h
    exact er_i dX6_ofBlock_75 rfl rfl
  have h := ev_ifF h c7
  by_cases c9 : x2 = (4 : Int32)
  · have h := ev_ifT h c9
    refine ev_table (tgt := 76) dX6_ofBlock_1 (by rw [c9]; decide) (by decide) ?_
    refine ev_aload_n dX6_ofBlock_76 rfl (fun _ e => by cases e) ?_
    refine ew_getr0 dX6_ofBlock_77 fX6_79 g0 rfl rfl rfl rfl ?_
    refine ev_iload_n dX6_ofBlock_80 rfl ?_
    obtain ⟨c10, h⟩ := ev_ckE h
    refine ew_iald dX6_ofBlock_81 (shp_a g0 5 rfl) c10 ?_
    cases h
    exact er_i dX6_ofBlock_82 rfl rfl
  have h := ev_ifF h c9
  by_cases c11 : x2 = (5 : Int32)
  · have h := ev_ifT h c11
    refine ev_table (tgt := 83) dX6_ofBlock_1 (by rw [c11]; decide) (by decide) ?_
    refine ev_aload_n dX6_ofBlock_83 rfl (fun _ e => by cases e) ?_
    refine ew_getr0 dX6_ofBlock_84 fX6_82 g0 rfl rfl rfl rfl ?_
    refine ev_iload_n dX6_ofBlock_87 rfl ?_
    obtain ⟨c12, h⟩ := ev_ckE h
    refine ew_iald dX6_ofBlock_88 (shp_a g0 6 rfl) c12 ?_
    cases h
    exact er_i dX6_ofBlock_89 rfl rfl
  have h := ev_ifF h c11
  by_cases c13 : x2 = (6 : Int32)
  · have h := ev_ifT h c13
    refine ev_table (tgt := 90) dX6_ofBlock_1 (by rw [c13]; decide) (by decide) ?_
    refine ev_aload_n dX6_ofBlock_90 rfl (fun _ e => by cases e) ?_
    refine ew_getr0 dX6_ofBlock_91 fX6_85 g0 rfl rfl rfl rfl ?_
    refine ev_iload_n dX6_ofBlock_94 rfl ?_
    obtain ⟨c14, h⟩ := ev_ckE h
    refine ew_iald dX6_ofBlock_95 (shp_a g0 7 rfl) c14 ?_
    cases h
    exact er_i dX6_ofBlock_96 rfl rfl
  have h := ev_ifF h c13
  by_cases c15 : x2 = (7 : Int32)
  · have h := ev_ifT h c15
    refine ev_table (tgt := 97) dX6_ofBlock_1 (by rw [c15]; decide) (by decide) ?_
    refine ev_aload_n dX6_ofBlock_97 rfl (fun _ e => by cases e) ?_
    refine ew_getr0 dX6_ofBlock_98 fX6_88 g0 rfl rfl rfl rfl ?_
    refine ev_iload_n dX6_ofBlock_101 rfl ?_
    obtain ⟨c16, h⟩ := ev_ckE h
    refine ew_iald dX6_ofBlock_102 (shp_a g0 8 rfl) c16 ?_
    cases h
    exact er_i dX6_ofBlock_103 rfl rfl
  have h := ev_ifF h c15
  refine ev_table (tgt := 104) dX6_ofBlock_1 (by rw [if_pos (sw_out _ _ x2 (by intro i h1 h2; rcases (show i = 0 ∨ i = 1 ∨ i = 2 ∨ i = 3 ∨ i = 4 ∨ i = 5 ∨ i = 6 ∨ i = 7 by omega) with rfl | rfl | rfl | rfl | rfl | rfl | rfl | rfl <;> first | exact ⟨_, by decide, c1⟩ | exact ⟨_, by decide, c3⟩ | exact ⟨_, by decide, c5⟩ | exact ⟨_, by decide, c7⟩ | exact ⟨_, by decide, c9⟩ | exact ⟨_, by decide, c11⟩ | exact ⟨_, by decide, c13⟩ | exact ⟨_, by decide, c15⟩))]; rfl) (by decide) ?_
  refine ev_iconst (v := (-1 : Int32)) dX6_ofBlock_104 (by decide) ?_
  cases h
  exact er_i dX6_ofBlock_105 rfl rfl
-- ChainVotes$Survey ofMessage(II)I
def pX6_ofMessage (n : Nat)  (x0 : Int32) (x1 : Int32) (I : ev_I) : Option (Int32) :=
  if x1 = (0 : Int32) then
    (pX4_senderOf n  x0 I).bind fun z2 =>
    some z2
  else
  if x1 = (1 : Int32) then
    (pX4_targetOf n  x0 I).bind fun z4 =>
    some z4
  else
  if x1 = (2 : Int32) then
    (pX4_kindOf n  x0 I).bind fun z6 =>
    some z6
  else
  if x1 = (3 : Int32) then
    (pX4_subjectOf n  x0 I).bind fun z8 =>
    some z8
  else
  if x1 = (4 : Int32) then
    (pX4_highOf n  x0 I).bind fun z10 =>
    some z10
  else
  some (-2 : Int32)
set_option maxRecDepth 100000 in
set_option maxHeartbeats 4000000 in
theorem tX6_ofMessage {E : ev_N} {σ : ev_H} (n : Nat)   (x0 : Int32) (x1 : Int32) (I : ev_I) (o : Int32) (h : pX6_ofMessage n  x0 x1 I = some o) : ev_T E mX6_ofMessage [.int x0, .int x1] (h_w σ I) (Option.some (Value.int o), h_w σ I) := by
  unfold pX6_ofMessage at h
  refine ev_met rfl rfl (Nat.le_of_ble_eq_true rfl) (ev_L0 (L' := [some (.int x0), some (.int x1)]) rfl ?_)
  refine ev_iload_n dX6_ofMessage_0 rfl ?_
  by_cases c1 : x1 = (0 : Int32)
  · have h := ev_ifT h c1
    refine ev_table (tgt := 36) dX6_ofMessage_1 (by rw [c1]; decide) (by decide) ?_
    refine ev_iload_n dX6_ofMessage_36 rfl ?_
    obtain ⟨z2, hz2, h⟩ := ev_bnE h
    refine ec_Si (Y := mX4_senderOf) (As := [.int x0]) (rest := []) dX6_ofMessage_37 kX6_91 oX4_senderOf ⟨Nat.le_of_ble_eq_true rfl, Nat.le_of_ble_eq_true rfl⟩ rfl (Nat.le_of_ble_eq_true rfl) (tX4_senderOf n   x0 I z2 hz2) rfl ?_
    cases h
    exact er_i dX6_ofMessage_40 rfl rfl
  have h := ev_ifF h c1
  by_cases c3 : x1 = (1 : Int32)
  · have h := ev_ifT h c3
    refine ev_table (tgt := 41) dX6_ofMessage_1 (by rw [c3]; decide) (by decide) ?_
    refine ev_iload_n dX6_ofMessage_41 rfl ?_
    obtain ⟨z4, hz4, h⟩ := ev_bnE h
    refine ec_Si (Y := mX4_targetOf) (As := [.int x0]) (rest := []) dX6_ofMessage_42 kX6_97 oX4_targetOf ⟨Nat.le_of_ble_eq_true rfl, Nat.le_of_ble_eq_true rfl⟩ rfl (Nat.le_of_ble_eq_true rfl) (tX4_targetOf n   x0 I z4 hz4) rfl ?_
    cases h
    exact er_i dX6_ofMessage_45 rfl rfl
  have h := ev_ifF h c3
  by_cases c5 : x1 = (2 : Int32)
  · have h := ev_ifT h c5
    refine ev_table (tgt := 46) dX6_ofMessage_1 (by rw [c5]; decide) (by decide) ?_
    refine ev_iload_n dX6_ofMessage_46 rfl ?_
    obtain ⟨z6, hz6, h⟩ := ev_bnE h
    refine ec_Si (Y := mX4_kindOf) (As := [.int x0]) (rest := []) dX6_ofMessage_47 kX6_100 oX4_kindOf ⟨Nat.le_of_ble_eq_true rfl, Nat.le_of_ble_eq_true rfl⟩ rfl (Nat.le_of_ble_eq_true rfl) (tX4_kindOf n   x0 I z6 hz6) rfl ?_
    cases h
    exact er_i dX6_ofMessage_50 rfl rfl
  have h := ev_ifF h c5
  by_cases c7 : x1 = (3 : Int32)
  · have h := ev_ifT h c7
    refine ev_table (tgt := 51) dX6_ofMessage_1 (by rw [c7]; decide) (by decide) ?_
    refine ev_iload_n dX6_ofMessage_51 rfl ?_
    obtain ⟨z8, hz8, h⟩ := ev_bnE h
    refine ec_Si (Y := mX4_subjectOf) (As := [.int x0]) (rest := []) dX6_ofMessage_52 kX6_103 oX4_subjectOf ⟨Nat.le_of_ble_eq_true rfl, Nat.le_of_ble_eq_true rfl⟩ rfl (Nat.le_of_ble_eq_true rfl) (tX4_subjectOf n   x0 I z8 hz8) rfl ?_
    cases h
    exact er_i dX6_ofMessage_55 rfl rfl
  have h := ev_ifF h c7
  by_cases c9 : x1 = (4 : Int32)
  · have h := ev_ifT h c9
    refine ev_table (tgt := 56) dX6_ofMessage_1 (by rw [c9]; decide) (by decide) ?_
    refine ev_iload_n dX6_ofMessage_56 rfl ?_
    obtain ⟨z10, hz10, h⟩ := ev_bnE h
    refine ec_Si (Y := mX4_highOf) (As := [.int x0]) (rest := []) dX6_ofMessage_57 kX6_106 oX4_highOf ⟨Nat.le_of_ble_eq_true rfl, Nat.le_of_ble_eq_true rfl⟩ rfl (Nat.le_of_ble_eq_true rfl) (tX4_highOf n   x0 I z10 hz10) rfl ?_
    cases h
    exact er_i dX6_ofMessage_60 rfl rfl
  have h := ev_ifF h c9
  refine ev_table (tgt := 61) dX6_ofMessage_1 (by rw [if_pos (sw_out _ _ x1 (by intro i h1 h2; rcases (show i = 0 ∨ i = 1 ∨ i = 2 ∨ i = 3 ∨ i = 4 by omega) with rfl | rfl | rfl | rfl | rfl <;> first | exact ⟨_, by decide, c1⟩ | exact ⟨_, by decide, c3⟩ | exact ⟨_, by decide, c5⟩ | exact ⟨_, by decide, c7⟩ | exact ⟨_, by decide, c9⟩))]; rfl) (by decide) ?_
  refine ev_bipush (v := (-2 : Int32)) dX6_ofMessage_61 (by decide) ?_
  cases h
  exact er_i dX6_ofMessage_63 rfl rfl
-- ChainVotes$Survey countFilled([II)I
def cX6_countFilled_27 (q0 z0 : Nat) (K4 : Int32 → Int32 → Int32 → ev_I → Option (Int32)) (n : Nat) (y1 : Int32) (y3 : Int32) (s0 : Int32) (s1 : Int32) (I : ev_I) : Option (Int32) :=
  (pX6_flag n  s1 I).bind fun z1 =>
  ev_lt (s0 + z1) fun v2 =>
  ev_lt (y3 + (1 : Int32)) fun v3 =>
  K4 y1 v2 v3 I
def cX6_countFilled_4 (q0 z0 : Nat) (K4 : Int32 → Int32 → Int32 → ev_I → Option (Int32)) (n : Nat) (y1 : Int32) (y2 : Int32) (y3 : Int32) (I : ev_I) : Option (Int32) :=
  if y1 ≤ y3 then
    some y2
  else
    if (Int32.ofNat z0) ≤ y3 then
      some y2
    else
      ev_ck (ev_in y3 z0) <|
      if (I q0 y3.toNatClampNeg) = 0 then
        cX6_countFilled_27 q0 z0 K4 n y1 y3 y2 (0 : Int32) I
      else
        cX6_countFilled_27 q0 z0 K4 n y1 y3 y2 (1 : Int32) I
def lX6_countFilled_4 (q0 z0 : Nat) : Nat → Int32 → Int32 → Int32 → ev_I → Option (Int32)
  | 0, _, _, _, _ => none
  | n + 1, y1, y2, y3, I => cX6_countFilled_4 q0 z0 (lX6_countFilled_4 q0 z0 n) n y1 y2 y3 I
def pX6_countFilled (n : Nat) (q0 z0 : Nat) (x1 : Int32) (I : ev_I) : Option (Int32) :=
  lX6_countFilled_4 q0 z0 n x1 (0 : Int32) (0 : Int32) I
set_option maxRecDepth 100000 in
set_option maxHeartbeats 4000000 in
theorem tX6_countFilled_27 {E : ev_N} {σ : ev_H} (q0 z0 : Nat) (g0 : sar 100 σ q0 z0) (K4 : Int32 → Int32 → Int32 → ev_I → Option (Int32)) (k4 : ∀ (y1 : Int32) (y2 : Int32) (y3 : Int32) (I : ev_I) (o : Int32), K4 y1 y2 y3 I = some o → EV E mX6_countFilled 4 [some (.ref q0), some (.int y1), some (.int y2), some (.int y3)] [] (h_w σ I) (Option.some (Value.int o), h_w σ I)) (n : Nat) (y1 : Int32) (y3 : Int32) (s0 : Int32) (s1 : Int32) (I : ev_I) (o : Int32) : cX6_countFilled_27 q0 z0 K4 n y1 y3 s0 s1 I = some o → EV E mX6_countFilled 27 [some (.ref q0), some (.int y1), none, some (.int y3)] [(.int s1), (.int s0)] (h_w σ I) (Option.some (Value.int o), h_w σ I) := by
  intro h
  unfold cX6_countFilled_27 at h
  obtain ⟨z1, hz1, h⟩ := ev_bnE h
  refine ec_Si (Y := mX6_flag) (As := [.int s1]) (rest := [(.int s0)]) dX6_countFilled_27 kX6_56 oX6_flag ⟨Nat.le_of_ble_eq_true rfl, Nat.le_of_ble_eq_true rfl⟩ rfl (Nat.le_of_ble_eq_true rfl) (tX6_flag n   s1 I z1 hz1) rfl ?_
  refine ev_iadd dX6_countFilled_30 ?_
  obtain ⟨v2, ev2, h⟩ := ev_ltE h
  refine ew_nm ev2 ?_
  refine ew_istn (L' := [some (.ref q0), some (.int y1), some (.int v2), some (.int y3)]) dX6_countFilled_31 (Nat.le_of_ble_eq_true rfl) rfl ?_
  obtain ⟨v3, ev3, h⟩ := ev_ltE h
  refine ew_iinc (L' := [some (.ref q0), some (.int y1), some (.int v2), some (.int v3)]) dX6_countFilled_32 (Nat.le_of_ble_eq_true rfl) rfl (by decide) ev3 rfl ?_
  refine ev_goto (tgt := 4) dX6_countFilled_35 (by decide) ?_
  exact ev_weak (sb_s (sb_s (sb_s (sb_s sb_0)))) (k4 y1 v2 v3 I _ h)
set_option maxRecDepth 100000 in
set_option maxHeartbeats 4000000 in
theorem tX6_countFilled_4 {E : ev_N} {σ : ev_H} (q0 z0 : Nat) (g0 : sar 100 σ q0 z0) (K4 : Int32 → Int32 → Int32 → ev_I → Option (Int32)) (k4 : ∀ (y1 : Int32) (y2 : Int32) (y3 : Int32) (I : ev_I) (o : Int32), K4 y1 y2 y3 I = some o → EV E mX6_countFilled 4 [some (.ref q0), some (.int y1), some (.int y2), some (.int y3)] [] (h_w σ I) (Option.some (Value.int o), h_w σ I)) (n : Nat) (y1 : Int32) (y2 : Int32) (y3 : Int32) (I : ev_I) (o : Int32) : cX6_countFilled_4 q0 z0 K4 n y1 y2 y3 I = some o → EV E mX6_countFilled 4 [some (.ref q0), some (.int y1), some (.int y2), some (.int y3)] [] (h_w σ I) (Option.some (Value.int o), h_w σ I) := by
  intro h
  unfold cX6_countFilled_4 at h
  refine ev_iload_n dX6_countFilled_4 rfl ?_
  refine ev_iload_n dX6_countFilled_5 rfl ?_
  refine ev_icmp_ge (tgt := 38) dX6_countFilled_6 (by decide) (fun c4 => ?_) (fun c4 => ?_)
  · have h := ev_ifT h c4
    refine ev_iload_n dX6_countFilled_38 rfl ?_
    cases h
    exact er_i dX6_countFilled_39 rfl rfl
  · have h := ev_ifF h c4
    refine ev_iload_n dX6_countFilled_9 rfl ?_
    refine ev_aload_n dX6_countFilled_10 rfl (fun _ e => by cases e) ?_
    refine ew_alen dX6_countFilled_11 g0 ?_
    refine ev_icmp_ge (tgt := 38) dX6_countFilled_12 (by decide) (fun c5 => ?_) (fun c5 => ?_)
    · have h := ev_ifT h c5
      refine ev_iload_n dX6_countFilled_38 rfl ?_
      cases h
      exact er_i dX6_countFilled_39 rfl rfl
    · have h := ev_ifF h c5
      refine ev_iload_n dX6_countFilled_15 rfl ?_
      refine ev_aload_n dX6_countFilled_16 rfl (fun _ e => by cases e) ?_
      refine ev_iload_n dX6_countFilled_17 rfl ?_
      obtain ⟨c6, h⟩ := ev_ckE h
      refine ew_iald dX6_countFilled_18 g0 c6 ?_
      refine ev_if_eq (tgt := 26) dX6_countFilled_19 (by decide) (fun c7 => ?_) (fun c7 => ?_)
      · have h := ev_ifT h c7
        refine ev_iconst (v := (0 : Int32)) dX6_countFilled_26 (by decide) ?_
        exact ev_weak (sb_s (sb_s (sb_n (sb_s sb_0)))) (tX6_countFilled_27 q0 z0 g0 K4 k4 n y1 y3 y2 (0 : Int32) I _ h)
      · have h := ev_ifF h c7
        refine ev_iconst (v := (1 : Int32)) dX6_countFilled_22 (by decide) ?_
        refine ev_goto (tgt := 27) dX6_countFilled_23 (by decide) ?_
        exact ev_weak (sb_s (sb_s (sb_n (sb_s sb_0)))) (tX6_countFilled_27 q0 z0 g0 K4 k4 n y1 y3 y2 (1 : Int32) I _ h)
theorem tlX6_countFilled_4 {E : ev_N} {σ : ev_H} (q0 z0 : Nat) (g0 : sar 100 σ q0 z0) : ∀ (n : Nat) (y1 : Int32) (y2 : Int32) (y3 : Int32) (I : ev_I) (o : Int32), lX6_countFilled_4 q0 z0 n y1 y2 y3 I = some o → EV E mX6_countFilled 4 [some (.ref q0), some (.int y1), some (.int y2), some (.int y3)] [] (h_w σ I) (Option.some (Value.int o), h_w σ I)
  | 0, _, _, _, _, _, h => by cases h
  | n + 1, y1, y2, y3, I, o, h => tX6_countFilled_4 q0 z0 g0 (lX6_countFilled_4 q0 z0 n) (tlX6_countFilled_4 q0 z0 g0 n) n y1 y2 y3 I o h
set_option maxRecDepth 100000 in
set_option maxHeartbeats 4000000 in
theorem tX6_countFilled {E : ev_N} {σ : ev_H} (n : Nat) (q0 z0 : Nat) (g0 : sar 100 σ q0 z0) (x1 : Int32) (I : ev_I) (o : Int32) (h : pX6_countFilled n q0 z0 x1 I = some o) : ev_T E mX6_countFilled [.ref q0, .int x1] (h_w σ I) (Option.some (Value.int o), h_w σ I) := by
  unfold pX6_countFilled at h
  refine ev_met rfl rfl (Nat.le_of_ble_eq_true rfl) (ev_L0 (L' := [some (.ref q0), some (.int x1), none, none]) rfl ?_)
  refine ev_iconst (v := (0 : Int32)) dX6_countFilled_0 (by decide) ?_
  refine ew_istn (L' := [some (.ref q0), some (.int x1), some (.int (0 : Int32)), none]) dX6_countFilled_1 (Nat.le_of_ble_eq_true rfl) rfl ?_
  refine ev_iconst (v := (0 : Int32)) dX6_countFilled_2 (by decide) ?_
  refine ew_istn (L' := [some (.ref q0), some (.int x1), some (.int (0 : Int32)), some (.int (0 : Int32))]) dX6_countFilled_3 (Nat.le_of_ble_eq_true rfl) rfl ?_
  exact ev_weak (sb_s (sb_s (sb_s (sb_s sb_0)))) (tlX6_countFilled_4 q0 z0 g0 n x1 (0 : Int32) (0 : Int32) I _ h)
-- ChainVotes$Survey payloadsOf(LChainVotes$Blocks;I)I
def cX6_payloadsOf_12 (q0 : Nat) (K12 : Int32 → Int32 → Int32 → ev_I → Option (Int32)) (n : Nat) (y2 : Int32) (y3 : Int32) (y4 : Int32) (I : ev_I) : Option (Int32) :=
  if (100 : Int32) ≤ y4 then
    some y2
  else
    if y3 ≤ 0 then
      some y2
    else
      ev_ck (ev_in y3 100) <|
      ev_lt (I (q0 + 2) y3.toNatClampNeg) fun v4 =>
      ev_ck (ev_in v4 100) <|
      ev_lt (y2 + (I (q0 + 4) v4.toNatClampNeg)) fun v6 =>
      ev_lt (y4 + (1 : Int32)) fun v7 =>
      K12 v6 v4 v7 I
def lX6_payloadsOf_12 (q0 : Nat) : Nat → Int32 → Int32 → Int32 → ev_I → Option (Int32)
  | 0, _, _, _, _ => none
  | n + 1, y2, y3, y4, I => cX6_payloadsOf_12 q0 (lX6_payloadsOf_12 q0 n) n y2 y3 y4 I
def pX6_payloadsOf (n : Nat) (q0 : Nat) (x1 : Int32) (I : ev_I) : Option (Int32) :=
  ev_ck (ev_in x1 100) <|
  ev_lt (I (q0 + 4) x1.toNatClampNeg) fun v9 =>
  lX6_payloadsOf_12 q0 n v9 x1 (0 : Int32) I
set_option maxRecDepth 100000 in
set_option maxHeartbeats 4000000 in
theorem tX6_payloadsOf_12 {E : ev_N} {σ : ev_H} (q0 : Nat) (g0 : shp tb1 σ q0) (K12 : Int32 → Int32 → Int32 → ev_I → Option (Int32)) (k12 : ∀ (y2 : Int32) (y3 : Int32) (y4 : Int32) (I : ev_I) (o : Int32), K12 y2 y3 y4 I = some o → EV E mX6_payloadsOf 12 [some (.ref q0), none, some (.int y2), some (.int y3), some (.int y4)] [] (h_w σ I) (Option.some (Value.int o), h_w σ I)) (n : Nat) (y2 : Int32) (y3 : Int32) (y4 : Int32) (I : ev_I) (o : Int32) : cX6_payloadsOf_12 q0 K12 n y2 y3 y4 I = some o → EV E mX6_payloadsOf 12 [some (.ref q0), none, some (.int y2), some (.int y3), some (.int y4)] [] (h_w σ I) (Option.some (Value.int o), h_w σ I) := by
  intro h
  unfold cX6_payloadsOf_12 at h
  refine ev_iload dX6_payloadsOf_12 rfl ?_
  refine ev_bipush (v := (100 : Int32)) dX6_payloadsOf_14 (by decide) ?_
  refine ev_icmp_ge (tgt := 45) dX6_payloadsOf_16 (by decide) (fun c1 => ?_) (fun c1 => ?_)
  · have h := ev_ifT h c1
    refine ev_iload_n dX6_payloadsOf_45 rfl ?_
    cases h
    exact er_i dX6_payloadsOf_46 rfl rfl
  · have h := ev_ifF h c1
    refine ev_iload_n dX6_payloadsOf_19 rfl ?_
    refine ev_if_le (tgt := 45) dX6_payloadsOf_20 (by decide) (fun c2 => ?_) (fun c2 => ?_)
    · have h := ev_ifT h c2
      refine ev_iload_n dX6_payloadsOf_45 rfl ?_
      cases h
      exact er_i dX6_payloadsOf_46 rfl rfl
    · have h := ev_ifF h c2
      refine ev_aload_n dX6_payloadsOf_23 rfl (fun _ e => by cases e) ?_
      refine ew_getr0 dX6_payloadsOf_24 fX6_70 g0 rfl rfl rfl rfl ?_
      refine ev_iload_n dX6_payloadsOf_27 rfl ?_
      obtain ⟨c3, h⟩ := ev_ckE h
      refine ew_iald dX6_payloadsOf_28 (shp_a g0 2 rfl) c3 ?_
      obtain ⟨v4, ev4, h⟩ := ev_ltE h
      refine ew_nm ev4 ?_
      refine ew_istn (L' := [some (.ref q0), none, some (.int y2), some (.int v4), some (.int y4)]) dX6_payloadsOf_29 (Nat.le_of_ble_eq_true rfl) rfl ?_
      refine ev_iload_n dX6_payloadsOf_30 rfl ?_
      refine ev_aload_n dX6_payloadsOf_31 rfl (fun _ e => by cases e) ?_
      refine ew_getr0 dX6_payloadsOf_32 fX6_76 g0 rfl rfl rfl rfl ?_
      refine ev_iload_n dX6_payloadsOf_35 rfl ?_
      obtain ⟨c5, h⟩ := ev_ckE h
      refine ew_iald dX6_payloadsOf_36 (shp_a g0 4 rfl) c5 ?_
      refine ev_iadd dX6_payloadsOf_37 ?_
      obtain ⟨v6, ev6, h⟩ := ev_ltE h
      refine ew_nm ev6 ?_
      refine ew_istn (L' := [some (.ref q0), none, some (.int v6), some (.int v4), some (.int y4)]) dX6_payloadsOf_38 (Nat.le_of_ble_eq_true rfl) rfl ?_
      obtain ⟨v7, ev7, h⟩ := ev_ltE h
      refine ew_iinc (L' := [some (.ref q0), none, some (.int v6), some (.int v4), some (.int v7)]) dX6_payloadsOf_39 (Nat.le_of_ble_eq_true rfl) rfl (by decide) ev7 rfl ?_
      refine ev_goto (tgt := 12) dX6_payloadsOf_42 (by decide) ?_
      exact ev_weak (sb_s (sb_n (sb_s (sb_s (sb_s sb_0))))) (k12 v6 v4 v7 I _ h)
theorem tlX6_payloadsOf_12 {E : ev_N} {σ : ev_H} (q0 : Nat) (g0 : shp tb1 σ q0) : ∀ (n : Nat) (y2 : Int32) (y3 : Int32) (y4 : Int32) (I : ev_I) (o : Int32), lX6_payloadsOf_12 q0 n y2 y3 y4 I = some o → EV E mX6_payloadsOf 12 [some (.ref q0), none, some (.int y2), some (.int y3), some (.int y4)] [] (h_w σ I) (Option.some (Value.int o), h_w σ I)
  | 0, _, _, _, _, _, h => by cases h
  | n + 1, y2, y3, y4, I, o, h => tX6_payloadsOf_12 q0 g0 (lX6_payloadsOf_12 q0 n) (tlX6_payloadsOf_12 q0 g0 n) n y2 y3 y4 I o h
set_option maxRecDepth 100000 in
set_option maxHeartbeats 4000000 in
theorem tX6_payloadsOf {E : ev_N} {σ : ev_H} (n : Nat) (q0 : Nat) (g0 : shp tb1 σ q0) (x1 : Int32) (I : ev_I) (o : Int32) (h : pX6_payloadsOf n q0 x1 I = some o) : ev_T E mX6_payloadsOf [.ref q0, .int x1] (h_w σ I) (Option.some (Value.int o), h_w σ I) := by
  unfold pX6_payloadsOf at h
  refine ev_met rfl rfl (Nat.le_of_ble_eq_true rfl) (ev_L0 (L' := [some (.ref q0), some (.int x1), none, none, none]) rfl ?_)
  refine ev_aload_n dX6_payloadsOf_0 rfl (fun _ e => by cases e) ?_
  refine ew_getr0 dX6_payloadsOf_1 fX6_76 g0 rfl rfl rfl rfl ?_
  refine ev_iload_n dX6_payloadsOf_4 rfl ?_
  obtain ⟨c8, h⟩ := ev_ckE h
  refine ew_iald dX6_payloadsOf_5 (shp_a g0 4 rfl) c8 ?_
  obtain ⟨v9, ev9, h⟩ := ev_ltE h
  refine ew_nm ev9 ?_
  refine ew_istn (L' := [some (.ref q0), some (.int x1), some (.int v9), none, none]) dX6_payloadsOf_6 (Nat.le_of_ble_eq_true rfl) rfl ?_
  refine ev_iload_n dX6_payloadsOf_7 rfl ?_
  refine ew_istn (L' := [some (.ref q0), some (.int x1), some (.int v9), some (.int x1), none]) dX6_payloadsOf_8 (Nat.le_of_ble_eq_true rfl) rfl ?_
  refine ev_iconst (v := (0 : Int32)) dX6_payloadsOf_9 (by decide) ?_
  refine ew_ist (L' := [some (.ref q0), some (.int x1), some (.int v9), some (.int x1), some (.int (0 : Int32))]) dX6_payloadsOf_10 (Nat.le_of_ble_eq_true rfl) rfl ?_
  exact ev_weak (sb_s (sb_n (sb_s (sb_s (sb_s sb_0))))) (tlX6_payloadsOf_12 q0 g0 n v9 x1 (0 : Int32) I _ h)
-- ChainVotes$Survey childrenOf(LChainVotes$Blocks;IZ)I
def cX6_childrenOf_44 (q0 : Nat) (K8 : Int32 → Int32 → Int32 → Int32 → Int32 → ev_I → Option (Int32)) (n : Nat) (y1 : Int32) (y2 : Int32) (y3 : Int32) (y4 : Int32) (y5 : Int32) (I : ev_I) : Option (Int32) :=
  ev_lt (y5 + (1 : Int32)) fun v1 =>
  K8 y1 y2 y3 y4 v1 I
def cX6_childrenOf_8 (q0 : Nat) (K8 : Int32 → Int32 → Int32 → Int32 → Int32 → ev_I → Option (Int32)) (n : Nat) (y1 : Int32) (y2 : Int32) (y3 : Int32) (y4 : Int32) (y5 : Int32) (I : ev_I) : Option (Int32) :=
  if (I q0 0) ≤ y5 then
    if y2 = 0 then
      some y3
    else
      some y4
  else
    (pX1_reaches n q0 y5 y1 I).bind fun z4 =>
    if z4 = 0 then
      cX6_childrenOf_44 q0 K8 n y1 y2 y3 y4 y5 I
    else
      ev_lt (y3 + (1 : Int32)) fun v6 =>
      ev_ck (ev_in y5 100) <|
      ev_lt (if y4 < (I (q0 + 6) y5.toNatClampNeg) then (I (q0 + 6) y5.toNatClampNeg) else y4) fun v8 =>
      cX6_childrenOf_44 q0 K8 n y1 y2 v6 v8 y5 I
def lX6_childrenOf_8 (q0 : Nat) : Nat → Int32 → Int32 → Int32 → Int32 → Int32 → ev_I → Option (Int32)
  | 0, _, _, _, _, _, _ => none
  | n + 1, y1, y2, y3, y4, y5, I => cX6_childrenOf_8 q0 (lX6_childrenOf_8 q0 n) n y1 y2 y3 y4 y5 I
def pX6_childrenOf (n : Nat) (q0 : Nat) (x1 : Int32) (x2 : Int32) (I : ev_I) : Option (Int32) :=
  lX6_childrenOf_8 q0 n x1 x2 (0 : Int32) (0 : Int32) x1 I
set_option maxRecDepth 100000 in
set_option maxHeartbeats 4000000 in
theorem tX6_childrenOf_44 {E : ev_N} {σ : ev_H} (q0 : Nat) (g0 : shp tb1 σ q0) (K8 : Int32 → Int32 → Int32 → Int32 → Int32 → ev_I → Option (Int32)) (k8 : ∀ (y1 : Int32) (y2 : Int32) (y3 : Int32) (y4 : Int32) (y5 : Int32) (I : ev_I) (o : Int32), K8 y1 y2 y3 y4 y5 I = some o → EV E mX6_childrenOf 8 [some (.ref q0), some (.int y1), some (.int y2), some (.int y3), some (.int y4), some (.int y5)] [] (h_w σ I) (Option.some (Value.int o), h_w σ I)) (n : Nat) (y1 : Int32) (y2 : Int32) (y3 : Int32) (y4 : Int32) (y5 : Int32) (I : ev_I) (o : Int32) : cX6_childrenOf_44 q0 K8 n y1 y2 y3 y4 y5 I = some o → EV E mX6_childrenOf 44 [some (.ref q0), some (.int y1), some (.int y2), some (.int y3), some (.int y4), some (.int y5)] [] (h_w σ I) (Option.some (Value.int o), h_w σ I) := by
  intro h
  unfold cX6_childrenOf_44 at h
  obtain ⟨v1, ev1, h⟩ := ev_ltE h
  refine ew_iinc (L' := [some (.ref q0), some (.int y1), some (.int y2), some (.int y3), some (.int y4), some (.int v1)]) dX6_childrenOf_44 (Nat.le_of_ble_eq_true rfl) rfl (by decide) ev1 rfl ?_
  refine ev_goto (tgt := 8) dX6_childrenOf_47 (by decide) ?_
  exact ev_weak (sb_s (sb_s (sb_s (sb_s (sb_s (sb_s sb_0)))))) (k8 y1 y2 y3 y4 v1 I _ h)
set_option maxRecDepth 100000 in
set_option maxHeartbeats 4000000 in
theorem tX6_childrenOf_8 {E : ev_N} {σ : ev_H} (q0 : Nat) (g0 : shp tb1 σ q0) (K8 : Int32 → Int32 → Int32 → Int32 → Int32 → ev_I → Option (Int32)) (k8 : ∀ (y1 : Int32) (y2 : Int32) (y3 : Int32) (y4 : Int32) (y5 : Int32) (I : ev_I) (o : Int32), K8 y1 y2 y3 y4 y5 I = some o → EV E mX6_childrenOf 8 [some (.ref q0), some (.int y1), some (.int y2), some (.int y3), some (.int y4), some (.int y5)] [] (h_w σ I) (Option.some (Value.int o), h_w σ I)) (n : Nat) (y1 : Int32) (y2 : Int32) (y3 : Int32) (y4 : Int32) (y5 : Int32) (I : ev_I) (o : Int32) : cX6_childrenOf_8 q0 K8 n y1 y2 y3 y4 y5 I = some o → EV E mX6_childrenOf 8 [some (.ref q0), some (.int y1), some (.int y2), some (.int y3), some (.int y4), some (.int y5)] [] (h_w σ I) (Option.some (Value.int o), h_w σ I) := by
  intro h
  unfold cX6_childrenOf_8 at h
  refine ev_iload dX6_childrenOf_8 rfl ?_
  refine ev_aload_n dX6_childrenOf_10 rfl (fun _ e => by cases e) ?_
  refine ew_get0 dX6_childrenOf_11 fX6_130 g0 rfl rfl rfl ?_
  refine ev_icmp_ge (tgt := 50) dX6_childrenOf_14 (by decide) (fun c2 => ?_) (fun c2 => ?_)
  · have h := ev_ifT h c2
    refine ev_iload_n dX6_childrenOf_50 rfl ?_
    refine ev_if_eq (tgt := 59) dX6_childrenOf_51 (by decide) (fun c3 => ?_) (fun c3 => ?_)
    · have h := ev_ifT h c3
      refine ev_iload_n dX6_childrenOf_59 rfl ?_
      cases h
      exact er_i dX6_childrenOf_60 rfl rfl
    · have h := ev_ifF h c3
      refine ev_iload dX6_childrenOf_54 rfl ?_
      refine ev_goto (tgt := 60) dX6_childrenOf_56 (by decide) ?_
      cases h
      exact er_i dX6_childrenOf_60 rfl rfl
  · have h := ev_ifF h c2
    refine ev_aload_n dX6_childrenOf_17 rfl (fun _ e => by cases e) ?_
    refine ev_iload dX6_childrenOf_18 rfl ?_
    refine ev_iload_n dX6_childrenOf_20 rfl ?_
    obtain ⟨z4, hz4, h⟩ := ev_bnE h
    refine ec_Vi (Y := mX1_reaches) (ci := 1) (As := [.int y5, .int y1]) (rest := []) dX6_childrenOf_21 kX6_113 oX1_reaches ⟨Nat.le_of_ble_eq_true rfl, Nat.le_of_ble_eq_true rfl⟩ (by decide) rfl (shp_n g0 0 rfl) (shp_t g0 0 rfl) rfl (Nat.le_of_ble_eq_true rfl) (tX1_reaches n q0 g0 y5 y1 I z4 hz4) rfl ?_
    refine ev_if_eq (tgt := 44) dX6_childrenOf_24 (by decide) (fun c5 => ?_) (fun c5 => ?_)
    · have h := ev_ifT h c5
      exact ev_weak (sb_s (sb_s (sb_s (sb_s (sb_s (sb_s sb_0)))))) (tX6_childrenOf_44 q0 g0 K8 k8 n y1 y2 y3 y4 y5 I _ h)
    · have h := ev_ifF h c5
      obtain ⟨v6, ev6, h⟩ := ev_ltE h
      refine ew_iinc (L' := [some (.ref q0), some (.int y1), some (.int y2), some (.int v6), some (.int y4), some (.int y5)]) dX6_childrenOf_27 (Nat.le_of_ble_eq_true rfl) rfl (by decide) ev6 rfl ?_
      refine ev_iload dX6_childrenOf_30 rfl ?_
      refine ev_aload_n dX6_childrenOf_32 rfl (fun _ e => by cases e) ?_
      refine ew_getr0 dX6_childrenOf_33 fX6_82 g0 rfl rfl rfl rfl ?_
      refine ev_iload dX6_childrenOf_36 rfl ?_
      obtain ⟨c7, h⟩ := ev_ckE h
      refine ew_iald dX6_childrenOf_38 (shp_a g0 6 rfl) c7 ?_
      refine ev_max dX6_childrenOf_39 kX6_152 zM_max.1 zM_max.2.1 zM_max.2.2 (Nat.le_of_ble_eq_true rfl) (Nat.le_of_ble_eq_true rfl) ?_
      obtain ⟨v8, ev8, h⟩ := ev_ltE h
      refine ew_nm ev8 ?_
      refine ew_ist (L' := [some (.ref q0), some (.int y1), some (.int y2), some (.int v6), some (.int v8), some (.int y5)]) dX6_childrenOf_42 (Nat.le_of_ble_eq_true rfl) rfl ?_
      exact ev_weak (sb_s (sb_s (sb_s (sb_s (sb_s (sb_s sb_0)))))) (tX6_childrenOf_44 q0 g0 K8 k8 n y1 y2 v6 v8 y5 I _ h)
theorem tlX6_childrenOf_8 {E : ev_N} {σ : ev_H} (q0 : Nat) (g0 : shp tb1 σ q0) : ∀ (n : Nat) (y1 : Int32) (y2 : Int32) (y3 : Int32) (y4 : Int32) (y5 : Int32) (I : ev_I) (o : Int32), lX6_childrenOf_8 q0 n y1 y2 y3 y4 y5 I = some o → EV E mX6_childrenOf 8 [some (.ref q0), some (.int y1), some (.int y2), some (.int y3), some (.int y4), some (.int y5)] [] (h_w σ I) (Option.some (Value.int o), h_w σ I)
  | 0, _, _, _, _, _, _, _, h => by cases h
  | n + 1, y1, y2, y3, y4, y5, I, o, h => tX6_childrenOf_8 q0 g0 (lX6_childrenOf_8 q0 n) (tlX6_childrenOf_8 q0 g0 n) n y1 y2 y3 y4 y5 I o h
set_option maxRecDepth 100000 in
set_option maxHeartbeats 4000000 in
theorem tX6_childrenOf {E : ev_N} {σ : ev_H} (n : Nat) (q0 : Nat) (g0 : shp tb1 σ q0) (x1 : Int32) (x2 : Int32) (I : ev_I) (o : Int32) (h : pX6_childrenOf n q0 x1 x2 I = some o) : ev_T E mX6_childrenOf [.ref q0, .int x1, .int x2] (h_w σ I) (Option.some (Value.int o), h_w σ I) := by
  unfold pX6_childrenOf at h
  refine ev_met rfl rfl (Nat.le_of_ble_eq_true rfl) (ev_L0 (L' := [some (.ref q0), some (.int x1), some (.int x2), none, none, none]) rfl ?_)
  refine ev_iconst (v := (0 : Int32)) dX6_childrenOf_0 (by decide) ?_
  refine ew_istn (L' := [some (.ref q0), some (.int x1), some (.int x2), some (.int (0 : Int32)), none, none]) dX6_childrenOf_1 (Nat.le_of_ble_eq_true rfl) rfl ?_
  refine ev_iconst (v := (0 : Int32)) dX6_childrenOf_2 (by decide) ?_
  refine ew_ist (L' := [some (.ref q0), some (.int x1), some (.int x2), some (.int (0 : Int32)), some (.int (0 : Int32)), none]) dX6_childrenOf_3 (Nat.le_of_ble_eq_true rfl) rfl ?_
  refine ev_iload_n dX6_childrenOf_5 rfl ?_
  refine ew_ist (L' := [some (.ref q0), some (.int x1), some (.int x2), some (.int (0 : Int32)), some (.int (0 : Int32)), some (.int x1)]) dX6_childrenOf_6 (Nat.le_of_ble_eq_true rfl) rfl ?_
  exact ev_weak (sb_s (sb_s (sb_s (sb_s (sb_s (sb_s sb_0)))))) (tlX6_childrenOf_8 q0 g0 n x1 x2 (0 : Int32) (0 : Int32) x1 I _ h)
-- ChainVotes$Survey committersOf(LChainVotes$World;I)I
def cX6_committersOf_4 (q0 : Nat) (K4 : Int32 → Int32 → Int32 → ev_I → Option (Int32)) (n : Nat) (y1 : Int32) (y2 : Int32) (y3 : Int32) (I : ev_I) : Option (Int32) :=
  if (I q0 0) ≤ y3 then
    some y2
  else
    ev_ck (ev_in y3 7) <|
    (pX3_hasLogged n (q0 + (23 + 5 * y3.toNatClampNeg)) (q0 + 1) y1 I).bind fun z3 =>
    (pX6_flag n  z3 I).bind fun z4 =>
    ev_lt (y2 + z4) fun v5 =>
    ev_lt (y3 + (1 : Int32)) fun v6 =>
    K4 y1 v5 v6 I
def lX6_committersOf_4 (q0 : Nat) : Nat → Int32 → Int32 → Int32 → ev_I → Option (Int32)
  | 0, _, _, _, _ => none
  | n + 1, y1, y2, y3, I => cX6_committersOf_4 q0 (lX6_committersOf_4 q0 n) n y1 y2 y3 I
def pX6_committersOf (n : Nat) (q0 : Nat) (x1 : Int32) (I : ev_I) : Option (Int32) :=
  lX6_committersOf_4 q0 n x1 (0 : Int32) (0 : Int32) I
set_option maxRecDepth 100000 in
set_option maxHeartbeats 4000000 in
theorem tX6_committersOf_4 {E : ev_N} {σ : ev_H} (q0 : Nat) (g0 : shp tb7 σ q0) (K4 : Int32 → Int32 → Int32 → ev_I → Option (Int32)) (k4 : ∀ (y1 : Int32) (y2 : Int32) (y3 : Int32) (I : ev_I) (o : Int32), K4 y1 y2 y3 I = some o → EV E mX6_committersOf 4 [some (.ref q0), some (.int y1), some (.int y2), some (.int y3)] [] (h_w σ I) (Option.some (Value.int o), h_w σ I)) (n : Nat) (y1 : Int32) (y2 : Int32) (y3 : Int32) (I : ev_I) (o : Int32) : cX6_committersOf_4 q0 K4 n y1 y2 y3 I = some o → EV E mX6_committersOf 4 [some (.ref q0), some (.int y1), some (.int y2), some (.int y3)] [] (h_w σ I) (Option.some (Value.int o), h_w σ I) := by
  intro h
  unfold cX6_committersOf_4 at h
  refine ev_iload_n dX6_committersOf_4 rfl ?_
  refine ev_aload_n dX6_committersOf_5 rfl (fun _ e => by cases e) ?_
  refine ew_get0 dX6_committersOf_6 fX6_158 g0 rfl rfl rfl ?_
  refine ev_icmp_ge (tgt := 38) dX6_committersOf_9 (by decide) (fun c1 => ?_) (fun c1 => ?_)
  · have h := ev_ifT h c1
    refine ev_iload_n dX6_committersOf_38 rfl ?_
    cases h
    exact er_i dX6_committersOf_39 rfl rfl
  · have h := ev_ifF h c1
    refine ev_iload_n dX6_committersOf_12 rfl ?_
    refine ev_aload_n dX6_committersOf_13 rfl (fun _ e => by cases e) ?_
    refine ew_getr0 dX6_committersOf_14 fX6_9 g0 rfl rfl rfl rfl ?_
    refine ev_iload_n dX6_committersOf_17 rfl ?_
    obtain ⟨c2, h⟩ := ev_ckE h
    refine ew_memb dX6_committersOf_18 g0 c2 ?_
    refine ev_aload_n dX6_committersOf_19 rfl (fun _ e => by cases e) ?_
    refine ew_getr0 dX6_committersOf_20 fX6_109 g0 rfl rfl rfl rfl ?_
    refine ev_iload_n dX6_committersOf_23 rfl ?_
    obtain ⟨z3, hz3, h⟩ := ev_bnE h
    refine ec_Vi (Y := mX3_hasLogged) (ci := 3) (As := [.ref (q0 + 1), .int y1]) (rest := [(.int y2)]) dX6_committersOf_24 kX6_161 oX3_hasLogged ⟨Nat.le_of_ble_eq_true rfl, Nat.le_of_ble_eq_true rfl⟩ (by decide) rfl (shp_n (s73 g0 (ev_inL c2)) 0 rfl) (shp_t (s73 g0 (ev_inL c2)) 0 rfl) rfl (Nat.le_of_ble_eq_true rfl) (tX3_hasLogged n (q0 + (23 + 5 * y3.toNatClampNeg)) (q0 + 1) (s73 g0 (ev_inL c2)) (s71 g0) y1 I z3 hz3) rfl ?_
    obtain ⟨z4, hz4, h⟩ := ev_bnE h
    refine ec_Si (Y := mX6_flag) (As := [.int z3]) (rest := [(.int y2)]) dX6_committersOf_27 kX6_56 oX6_flag ⟨Nat.le_of_ble_eq_true rfl, Nat.le_of_ble_eq_true rfl⟩ rfl (Nat.le_of_ble_eq_true rfl) (tX6_flag n   z3 I z4 hz4) rfl ?_
    refine ev_iadd dX6_committersOf_30 ?_
    obtain ⟨v5, ev5, h⟩ := ev_ltE h
    refine ew_nm ev5 ?_
    refine ew_istn (L' := [some (.ref q0), some (.int y1), some (.int v5), some (.int y3)]) dX6_committersOf_31 (Nat.le_of_ble_eq_true rfl) rfl ?_
    obtain ⟨v6, ev6, h⟩ := ev_ltE h
    refine ew_iinc (L' := [some (.ref q0), some (.int y1), some (.int v5), some (.int v6)]) dX6_committersOf_32 (Nat.le_of_ble_eq_true rfl) rfl (by decide) ev6 rfl ?_
    refine ev_goto (tgt := 4) dX6_committersOf_35 (by decide) ?_
    exact ev_weak (sb_s (sb_s (sb_s (sb_s sb_0)))) (k4 y1 v5 v6 I _ h)
theorem tlX6_committersOf_4 {E : ev_N} {σ : ev_H} (q0 : Nat) (g0 : shp tb7 σ q0) : ∀ (n : Nat) (y1 : Int32) (y2 : Int32) (y3 : Int32) (I : ev_I) (o : Int32), lX6_committersOf_4 q0 n y1 y2 y3 I = some o → EV E mX6_committersOf 4 [some (.ref q0), some (.int y1), some (.int y2), some (.int y3)] [] (h_w σ I) (Option.some (Value.int o), h_w σ I)
  | 0, _, _, _, _, _, h => by cases h
  | n + 1, y1, y2, y3, I, o, h => tX6_committersOf_4 q0 g0 (lX6_committersOf_4 q0 n) (tlX6_committersOf_4 q0 g0 n) n y1 y2 y3 I o h
set_option maxRecDepth 100000 in
set_option maxHeartbeats 4000000 in
theorem tX6_committersOf {E : ev_N} {σ : ev_H} (n : Nat) (q0 : Nat) (g0 : shp tb7 σ q0) (x1 : Int32) (I : ev_I) (o : Int32) (h : pX6_committersOf n q0 x1 I = some o) : ev_T E mX6_committersOf [.ref q0, .int x1] (h_w σ I) (Option.some (Value.int o), h_w σ I) := by
  unfold pX6_committersOf at h
  refine ev_met rfl rfl (Nat.le_of_ble_eq_true rfl) (ev_L0 (L' := [some (.ref q0), some (.int x1), none, none]) rfl ?_)
  refine ev_iconst (v := (0 : Int32)) dX6_committersOf_0 (by decide) ?_
  refine ew_istn (L' := [some (.ref q0), some (.int x1), some (.int (0 : Int32)), none]) dX6_committersOf_1 (Nat.le_of_ble_eq_true rfl) rfl ?_
  refine ev_iconst (v := (0 : Int32)) dX6_committersOf_2 (by decide) ?_
  refine ew_istn (L' := [some (.ref q0), some (.int x1), some (.int (0 : Int32)), some (.int (0 : Int32))]) dX6_committersOf_3 (Nat.le_of_ble_eq_true rfl) rfl ?_
  exact ev_weak (sb_s (sb_s (sb_s (sb_s sb_0)))) (tlX6_committersOf_4 q0 g0 n x1 (0 : Int32) (0 : Int32) I _ h)
-- ChainVotes$Survey holdersOf(LChainVotes$World;I)I
def cX6_holdersOf_46 (q0 : Nat) (K4 : Int32 → Int32 → Int32 → ev_I → Option (Int32)) (n : Nat) (y1 : Int32) (y3 : Int32) (s0 : Int32) (s1 : Int32) (I : ev_I) : Option (Int32) :=
  (pX6_flag n  s1 I).bind fun z1 =>
  ev_lt (s0 + z1) fun v2 =>
  ev_lt (y3 + (1 : Int32)) fun v3 =>
  K4 y1 v2 v3 I
def cX6_holdersOf_45 (q0 : Nat) (K4 : Int32 → Int32 → Int32 → ev_I → Option (Int32)) (n : Nat) (y1 : Int32) (y3 : Int32) (s0 : Int32) (I : ev_I) : Option (Int32) :=
  cX6_holdersOf_46 q0 K4 n y1 y3 s0 (0 : Int32) I
def cX6_holdersOf_4 (q0 : Nat) (K4 : Int32 → Int32 → Int32 → ev_I → Option (Int32)) (n : Nat) (y1 : Int32) (y2 : Int32) (y3 : Int32) (I : ev_I) : Option (Int32) :=
  if (I q0 0) ≤ y3 then
    some y2
  else
    (pX8_isAwake n q0 y3 I).bind fun z5 =>
    if z5 = 0 then
      cX6_holdersOf_45 q0 K4 n y1 y3 y2 I
    else
      ev_ck (ev_in y3 7) <|
      (pX1_reaches n (q0 + 1) (I (q0 + (23 + 5 * y3.toNatClampNeg)) 6) y1 I).bind fun z8 =>
      if z8 = 0 then
        cX6_holdersOf_45 q0 K4 n y1 y3 y2 I
      else
        cX6_holdersOf_46 q0 K4 n y1 y3 y2 (1 : Int32) I
def lX6_holdersOf_4 (q0 : Nat) : Nat → Int32 → Int32 → Int32 → ev_I → Option (Int32)
  | 0, _, _, _, _ => none
  | n + 1, y1, y2, y3, I => cX6_holdersOf_4 q0 (lX6_holdersOf_4 q0 n) n y1 y2 y3 I
def pX6_holdersOf (n : Nat) (q0 : Nat) (x1 : Int32) (I : ev_I) : Option (Int32) :=
  lX6_holdersOf_4 q0 n x1 (0 : Int32) (0 : Int32) I
set_option maxRecDepth 100000 in
set_option maxHeartbeats 4000000 in
theorem tX6_holdersOf_46 {E : ev_N} {σ : ev_H} (q0 : Nat) (g0 : shp tb7 σ q0) (K4 : Int32 → Int32 → Int32 → ev_I → Option (Int32)) (k4 : ∀ (y1 : Int32) (y2 : Int32) (y3 : Int32) (I : ev_I) (o : Int32), K4 y1 y2 y3 I = some o → EV E mX6_holdersOf 4 [some (.ref q0), some (.int y1), some (.int y2), some (.int y3)] [] (h_w σ I) (Option.some (Value.int o), h_w σ I)) (n : Nat) (y1 : Int32) (y3 : Int32) (s0 : Int32) (s1 : Int32) (I : ev_I) (o : Int32) : cX6_holdersOf_46 q0 K4 n y1 y3 s0 s1 I = some o → EV E mX6_holdersOf 46 [some (.ref q0), some (.int y1), none, some (.int y3)] [(.int s1), (.int s0)] (h_w σ I) (Option.some (Value.int o), h_w σ I) := by
  intro h
  unfold cX6_holdersOf_46 at h
  obtain ⟨z1, hz1, h⟩ := ev_bnE h
  refine ec_Si (Y := mX6_flag) (As := [.int s1]) (rest := [(.int s0)]) dX6_holdersOf_46 kX6_56 oX6_flag ⟨Nat.le_of_ble_eq_true rfl, Nat.le_of_ble_eq_true rfl⟩ rfl (Nat.le_of_ble_eq_true rfl) (tX6_flag n   s1 I z1 hz1) rfl ?_
  refine ev_iadd dX6_holdersOf_49 ?_
  obtain ⟨v2, ev2, h⟩ := ev_ltE h
  refine ew_nm ev2 ?_
  refine ew_istn (L' := [some (.ref q0), some (.int y1), some (.int v2), some (.int y3)]) dX6_holdersOf_50 (Nat.le_of_ble_eq_true rfl) rfl ?_
  obtain ⟨v3, ev3, h⟩ := ev_ltE h
  refine ew_iinc (L' := [some (.ref q0), some (.int y1), some (.int v2), some (.int v3)]) dX6_holdersOf_51 (Nat.le_of_ble_eq_true rfl) rfl (by decide) ev3 rfl ?_
  refine ev_goto (tgt := 4) dX6_holdersOf_54 (by decide) ?_
  exact ev_weak (sb_s (sb_s (sb_s (sb_s sb_0)))) (k4 y1 v2 v3 I _ h)
set_option maxRecDepth 100000 in
set_option maxHeartbeats 4000000 in
theorem tX6_holdersOf_45 {E : ev_N} {σ : ev_H} (q0 : Nat) (g0 : shp tb7 σ q0) (K4 : Int32 → Int32 → Int32 → ev_I → Option (Int32)) (k4 : ∀ (y1 : Int32) (y2 : Int32) (y3 : Int32) (I : ev_I) (o : Int32), K4 y1 y2 y3 I = some o → EV E mX6_holdersOf 4 [some (.ref q0), some (.int y1), some (.int y2), some (.int y3)] [] (h_w σ I) (Option.some (Value.int o), h_w σ I)) (n : Nat) (y1 : Int32) (y3 : Int32) (s0 : Int32) (I : ev_I) (o : Int32) : cX6_holdersOf_45 q0 K4 n y1 y3 s0 I = some o → EV E mX6_holdersOf 45 [some (.ref q0), some (.int y1), none, some (.int y3)] [(.int s0)] (h_w σ I) (Option.some (Value.int o), h_w σ I) := by
  intro h
  unfold cX6_holdersOf_45 at h
  refine ev_iconst (v := (0 : Int32)) dX6_holdersOf_45 (by decide) ?_
  exact ev_weak (sb_s (sb_s (sb_n (sb_s sb_0)))) (tX6_holdersOf_46 q0 g0 K4 k4 n y1 y3 s0 (0 : Int32) I _ h)
set_option maxRecDepth 100000 in
set_option maxHeartbeats 4000000 in
theorem tX6_holdersOf_4 {E : ev_N} {σ : ev_H} (q0 : Nat) (g0 : shp tb7 σ q0) (K4 : Int32 → Int32 → Int32 → ev_I → Option (Int32)) (k4 : ∀ (y1 : Int32) (y2 : Int32) (y3 : Int32) (I : ev_I) (o : Int32), K4 y1 y2 y3 I = some o → EV E mX6_holdersOf 4 [some (.ref q0), some (.int y1), some (.int y2), some (.int y3)] [] (h_w σ I) (Option.some (Value.int o), h_w σ I)) (n : Nat) (y1 : Int32) (y2 : Int32) (y3 : Int32) (I : ev_I) (o : Int32) : cX6_holdersOf_4 q0 K4 n y1 y2 y3 I = some o → EV E mX6_holdersOf 4 [some (.ref q0), some (.int y1), some (.int y2), some (.int y3)] [] (h_w σ I) (Option.some (Value.int o), h_w σ I) := by
  intro h
  unfold cX6_holdersOf_4 at h
  refine ev_iload_n dX6_holdersOf_4 rfl ?_
  refine ev_aload_n dX6_holdersOf_5 rfl (fun _ e => by cases e) ?_
  refine ew_get0 dX6_holdersOf_6 fX6_158 g0 rfl rfl rfl ?_
  refine ev_icmp_ge (tgt := 57) dX6_holdersOf_9 (by decide) (fun c4 => ?_) (fun c4 => ?_)
  · have h := ev_ifT h c4
    refine ev_iload_n dX6_holdersOf_57 rfl ?_
    cases h
    exact er_i dX6_holdersOf_58 rfl rfl
  · have h := ev_ifF h c4
    refine ev_iload_n dX6_holdersOf_12 rfl ?_
    refine ev_aload_n dX6_holdersOf_13 rfl (fun _ e => by cases e) ?_
    refine ev_iload_n dX6_holdersOf_14 rfl ?_
    obtain ⟨z5, hz5, h⟩ := ev_bnE h
    refine ec_Vi (Y := mX8_isAwake) (ci := 7) (As := [.int y3]) (rest := [(.int y2)]) dX6_holdersOf_15 kX6_165 oX8_isAwake ⟨Nat.le_of_ble_eq_true rfl, Nat.le_of_ble_eq_true rfl⟩ (by decide) rfl (shp_n g0 0 rfl) (shp_t g0 0 rfl) rfl (Nat.le_of_ble_eq_true rfl) (tX8_isAwake n q0 g0 y3 I z5 hz5) rfl ?_
    refine ev_if_eq (tgt := 45) dX6_holdersOf_18 (by decide) (fun c6 => ?_) (fun c6 => ?_)
    · have h := ev_ifT h c6
      exact ev_weak (sb_s (sb_s (sb_n (sb_s sb_0)))) (tX6_holdersOf_45 q0 g0 K4 k4 n y1 y3 y2 I _ h)
    · have h := ev_ifF h c6
      refine ev_aload_n dX6_holdersOf_21 rfl (fun _ e => by cases e) ?_
      refine ew_getr0 dX6_holdersOf_22 fX6_109 g0 rfl rfl rfl rfl ?_
      refine ev_aload_n dX6_holdersOf_25 rfl (fun _ e => by cases e) ?_
      refine ew_getr0 dX6_holdersOf_26 fX6_9 g0 rfl rfl rfl rfl ?_
      refine ev_iload_n dX6_holdersOf_29 rfl ?_
      obtain ⟨c7, h⟩ := ev_ckE h
      refine ew_memb dX6_holdersOf_30 g0 c7 ?_
      refine ew_get0 dX6_holdersOf_31 fX6_36 (s73 g0 (ev_inL c7)) rfl rfl rfl ?_
      refine ev_iload_n dX6_holdersOf_34 rfl ?_
      obtain ⟨z8, hz8, h⟩ := ev_bnE h
      refine ec_Vi (Y := mX1_reaches) (ci := 1) (As := [.int (I (q0 + (23 + 5 * y3.toNatClampNeg)) 6), .int y1]) (rest := [(.int y2)]) dX6_holdersOf_35 kX6_113 oX1_reaches ⟨Nat.le_of_ble_eq_true rfl, Nat.le_of_ble_eq_true rfl⟩ (by decide) rfl (shp_n (s71 g0) 0 rfl) (shp_t (s71 g0) 0 rfl) rfl (Nat.le_of_ble_eq_true rfl) (tX1_reaches n (q0 + 1) (s71 g0) (I (q0 + (23 + 5 * y3.toNatClampNeg)) 6) y1 I z8 hz8) rfl ?_
      refine ev_if_eq (tgt := 45) dX6_holdersOf_38 (by decide) (fun c9 => ?_) (fun c9 => ?_)
      · have h := ev_ifT h c9
        exact ev_weak (sb_s (sb_s (sb_n (sb_s sb_0)))) (tX6_holdersOf_45 q0 g0 K4 k4 n y1 y3 y2 I _ h)
      · have h := ev_ifF h c9
        refine ev_iconst (v := (1 : Int32)) dX6_holdersOf_41 (by decide) ?_
        refine ev_goto (tgt := 46) dX6_holdersOf_42 (by decide) ?_
        exact ev_weak (sb_s (sb_s (sb_n (sb_s sb_0)))) (tX6_holdersOf_46 q0 g0 K4 k4 n y1 y3 y2 (1 : Int32) I _ h)
theorem tlX6_holdersOf_4 {E : ev_N} {σ : ev_H} (q0 : Nat) (g0 : shp tb7 σ q0) : ∀ (n : Nat) (y1 : Int32) (y2 : Int32) (y3 : Int32) (I : ev_I) (o : Int32), lX6_holdersOf_4 q0 n y1 y2 y3 I = some o → EV E mX6_holdersOf 4 [some (.ref q0), some (.int y1), some (.int y2), some (.int y3)] [] (h_w σ I) (Option.some (Value.int o), h_w σ I)
  | 0, _, _, _, _, _, h => by cases h
  | n + 1, y1, y2, y3, I, o, h => tX6_holdersOf_4 q0 g0 (lX6_holdersOf_4 q0 n) (tlX6_holdersOf_4 q0 g0 n) n y1 y2 y3 I o h
set_option maxRecDepth 100000 in
set_option maxHeartbeats 4000000 in
theorem tX6_holdersOf {E : ev_N} {σ : ev_H} (n : Nat) (q0 : Nat) (g0 : shp tb7 σ q0) (x1 : Int32) (I : ev_I) (o : Int32) (h : pX6_holdersOf n q0 x1 I = some o) : ev_T E mX6_holdersOf [.ref q0, .int x1] (h_w σ I) (Option.some (Value.int o), h_w σ I) := by
  unfold pX6_holdersOf at h
  refine ev_met rfl rfl (Nat.le_of_ble_eq_true rfl) (ev_L0 (L' := [some (.ref q0), some (.int x1), none, none]) rfl ?_)
  refine ev_iconst (v := (0 : Int32)) dX6_holdersOf_0 (by decide) ?_
  refine ew_istn (L' := [some (.ref q0), some (.int x1), some (.int (0 : Int32)), none]) dX6_holdersOf_1 (Nat.le_of_ble_eq_true rfl) rfl ?_
  refine ev_iconst (v := (0 : Int32)) dX6_holdersOf_2 (by decide) ?_
  refine ew_istn (L' := [some (.ref q0), some (.int x1), some (.int (0 : Int32)), some (.int (0 : Int32))]) dX6_holdersOf_3 (Nat.le_of_ble_eq_true rfl) rfl ?_
  exact ev_weak (sb_s (sb_s (sb_s (sb_s sb_0)))) (tlX6_holdersOf_4 q0 g0 n x1 (0 : Int32) (0 : Int32) I _ h)
-- ChainVotes$Survey rivalCertificates(LChainVotes$Blocks;)I
def cX6_rivalCertificates_65 (q0 : Nat) (K4 : Int32 → Int32 → ev_I → Option (Int32)) (K16 : Int32 → Int32 → Int32 → ev_I → Option (Int32)) (n : Nat) (y2 : Int32) (y3 : Int32) (s0 : Int32) (s1 : Int32) (I : ev_I) : Option (Int32) :=
  (pX6_flag n  s1 I).bind fun z1 =>
  ev_lt (s0 + z1) fun v2 =>
  ev_lt (y3 + (1 : Int32)) fun v3 =>
  K16 v2 y2 v3 I
def cX6_rivalCertificates_64 (q0 : Nat) (K4 : Int32 → Int32 → ev_I → Option (Int32)) (K16 : Int32 → Int32 → Int32 → ev_I → Option (Int32)) (n : Nat) (y2 : Int32) (y3 : Int32) (s0 : Int32) (I : ev_I) : Option (Int32) :=
  cX6_rivalCertificates_65 q0 K4 K16 n y2 y3 s0 (0 : Int32) I
def cX6_rivalCertificates_76 (q0 : Nat) (K4 : Int32 → Int32 → ev_I → Option (Int32)) (K16 : Int32 → Int32 → Int32 → ev_I → Option (Int32)) (n : Nat) (y1 : Int32) (y2 : Int32) (I : ev_I) : Option (Int32) :=
  ev_lt (y2 + (1 : Int32)) fun v4 =>
  K4 y1 v4 I
def cX6_rivalCertificates_16 (q0 : Nat) (K4 : Int32 → Int32 → ev_I → Option (Int32)) (K16 : Int32 → Int32 → Int32 → ev_I → Option (Int32)) (n : Nat) (y1 : Int32) (y2 : Int32) (y3 : Int32) (I : ev_I) : Option (Int32) :=
  if (I q0 0) ≤ y3 then
    cX6_rivalCertificates_76 q0 K4 K16 n y1 y2 I
  else
    ev_ck (ev_in y2 100) <|
    if (I (q0 + 8) y2.toNatClampNeg) = (1 : Int32) then
      ev_ck (ev_in y3 100) <|
      if (I (q0 + 8) y3.toNatClampNeg) = (1 : Int32) then
        ev_ck (ev_in y2 100) <|
        ev_ck (ev_in y3 100) <|
        if (I (q0 + 1) y2.toNatClampNeg) = (I (q0 + 1) y3.toNatClampNeg) then
          cX6_rivalCertificates_65 q0 K4 K16 n y2 y3 y1 (1 : Int32) I
        else
          cX6_rivalCertificates_64 q0 K4 K16 n y2 y3 y1 I
      else
        cX6_rivalCertificates_64 q0 K4 K16 n y2 y3 y1 I
    else
      cX6_rivalCertificates_76 q0 K4 K16 n y1 y2 I
def lX6_rivalCertificates_16 (q0 : Nat) (K4 : Int32 → Int32 → ev_I → Option (Int32)) : Nat → Int32 → Int32 → Int32 → ev_I → Option (Int32)
  | 0, _, _, _, _ => none
  | n + 1, y1, y2, y3, I => cX6_rivalCertificates_16 q0 K4 (lX6_rivalCertificates_16 q0 K4 n) n y1 y2 y3 I
def cX6_rivalCertificates_4 (q0 : Nat) (K4 : Int32 → Int32 → ev_I → Option (Int32)) (n : Nat) (y1 : Int32) (y2 : Int32) (I : ev_I) : Option (Int32) :=
  if (I q0 0) ≤ y2 then
    some y1
  else
    ev_lt (y2 + (1 : Int32)) fun v14 =>
    lX6_rivalCertificates_16 q0 K4 n y1 y2 v14 I
def lX6_rivalCertificates_4 (q0 : Nat) : Nat → Int32 → Int32 → ev_I → Option (Int32)
  | 0, _, _, _ => none
  | n + 1, y1, y2, I => cX6_rivalCertificates_4 q0 (lX6_rivalCertificates_4 q0 n) n y1 y2 I
def pX6_rivalCertificates (n : Nat) (q0 : Nat) (I : ev_I) : Option (Int32) :=
  lX6_rivalCertificates_4 q0 n (0 : Int32) (0 : Int32) I
set_option maxRecDepth 100000 in
set_option maxHeartbeats 4000000 in
theorem tX6_rivalCertificates_65 {E : ev_N} {σ : ev_H} (q0 : Nat) (g0 : shp tb1 σ q0) (K4 : Int32 → Int32 → ev_I → Option (Int32)) (K16 : Int32 → Int32 → Int32 → ev_I → Option (Int32)) (k4 : ∀ (y1 : Int32) (y2 : Int32) (I : ev_I) (o : Int32), K4 y1 y2 I = some o → EV E mX6_rivalCertificates 4 [some (.ref q0), some (.int y1), some (.int y2), none] [] (h_w σ I) (Option.some (Value.int o), h_w σ I)) (k16 : ∀ (y1 : Int32) (y2 : Int32) (y3 : Int32) (I : ev_I) (o : Int32), K16 y1 y2 y3 I = some o → EV E mX6_rivalCertificates 16 [some (.ref q0), some (.int y1), some (.int y2), some (.int y3)] [] (h_w σ I) (Option.some (Value.int o), h_w σ I)) (n : Nat) (y2 : Int32) (y3 : Int32) (s0 : Int32) (s1 : Int32) (I : ev_I) (o : Int32) : cX6_rivalCertificates_65 q0 K4 K16 n y2 y3 s0 s1 I = some o → EV E mX6_rivalCertificates 65 [some (.ref q0), none, some (.int y2), some (.int y3)] [(.int s1), (.int s0)] (h_w σ I) (Option.some (Value.int o), h_w σ I) := by
  intro h
  unfold cX6_rivalCertificates_65 at h
  obtain ⟨z1, hz1, h⟩ := ev_bnE h
  refine ec_Si (Y := mX6_flag) (As := [.int s1]) (rest := [(.int s0)]) dX6_rivalCertificates_65 kX6_56 oX6_flag ⟨Nat.le_of_ble_eq_true rfl, Nat.le_of_ble_eq_true rfl⟩ rfl (Nat.le_of_ble_eq_true rfl) (tX6_flag n   s1 I z1 hz1) rfl ?_
  refine ev_iadd dX6_rivalCertificates_68 ?_
  obtain ⟨v2, ev2, h⟩ := ev_ltE h
  refine ew_nm ev2 ?_
  refine ew_istn (L' := [some (.ref q0), some (.int v2), some (.int y2), some (.int y3)]) dX6_rivalCertificates_69 (Nat.le_of_ble_eq_true rfl) rfl ?_
  obtain ⟨v3, ev3, h⟩ := ev_ltE h
  refine ew_iinc (L' := [some (.ref q0), some (.int v2), some (.int y2), some (.int v3)]) dX6_rivalCertificates_70 (Nat.le_of_ble_eq_true rfl) rfl (by decide) ev3 rfl ?_
  refine ev_goto (tgt := 16) dX6_rivalCertificates_73 (by decide) ?_
  exact ev_weak (sb_s (sb_s (sb_s (sb_s sb_0)))) (k16 v2 y2 v3 I _ h)
set_option maxRecDepth 100000 in
set_option maxHeartbeats 4000000 in
theorem tX6_rivalCertificates_64 {E : ev_N} {σ : ev_H} (q0 : Nat) (g0 : shp tb1 σ q0) (K4 : Int32 → Int32 → ev_I → Option (Int32)) (K16 : Int32 → Int32 → Int32 → ev_I → Option (Int32)) (k4 : ∀ (y1 : Int32) (y2 : Int32) (I : ev_I) (o : Int32), K4 y1 y2 I = some o → EV E mX6_rivalCertificates 4 [some (.ref q0), some (.int y1), some (.int y2), none] [] (h_w σ I) (Option.some (Value.int o), h_w σ I)) (k16 : ∀ (y1 : Int32) (y2 : Int32) (y3 : Int32) (I : ev_I) (o : Int32), K16 y1 y2 y3 I = some o → EV E mX6_rivalCertificates 16 [some (.ref q0), some (.int y1), some (.int y2), some (.int y3)] [] (h_w σ I) (Option.some (Value.int o), h_w σ I)) (n : Nat) (y2 : Int32) (y3 : Int32) (s0 : Int32) (I : ev_I) (o : Int32) : cX6_rivalCertificates_64 q0 K4 K16 n y2 y3 s0 I = some o → EV E mX6_rivalCertificates 64 [some (.ref q0), none, some (.int y2), some (.int y3)] [(.int s0)] (h_w σ I) (Option.some (Value.int o), h_w σ I) := by
  intro h
  unfold cX6_rivalCertificates_64 at h
  refine ev_iconst (v := (0 : Int32)) dX6_rivalCertificates_64 (by decide) ?_
  exact ev_weak (sb_s (sb_n (sb_s (sb_s sb_0)))) (tX6_rivalCertificates_65 q0 g0 K4 K16 k4 k16 n y2 y3 s0 (0 : Int32) I _ h)
set_option maxRecDepth 100000 in
set_option maxHeartbeats 4000000 in
theorem tX6_rivalCertificates_76 {E : ev_N} {σ : ev_H} (q0 : Nat) (g0 : shp tb1 σ q0) (K4 : Int32 → Int32 → ev_I → Option (Int32)) (K16 : Int32 → Int32 → Int32 → ev_I → Option (Int32)) (k4 : ∀ (y1 : Int32) (y2 : Int32) (I : ev_I) (o : Int32), K4 y1 y2 I = some o → EV E mX6_rivalCertificates 4 [some (.ref q0), some (.int y1), some (.int y2), none] [] (h_w σ I) (Option.some (Value.int o), h_w σ I)) (k16 : ∀ (y1 : Int32) (y2 : Int32) (y3 : Int32) (I : ev_I) (o : Int32), K16 y1 y2 y3 I = some o → EV E mX6_rivalCertificates 16 [some (.ref q0), some (.int y1), some (.int y2), some (.int y3)] [] (h_w σ I) (Option.some (Value.int o), h_w σ I)) (n : Nat) (y1 : Int32) (y2 : Int32) (I : ev_I) (o : Int32) : cX6_rivalCertificates_76 q0 K4 K16 n y1 y2 I = some o → EV E mX6_rivalCertificates 76 [some (.ref q0), some (.int y1), some (.int y2), none] [] (h_w σ I) (Option.some (Value.int o), h_w σ I) := by
  intro h
  unfold cX6_rivalCertificates_76 at h
  obtain ⟨v4, ev4, h⟩ := ev_ltE h
  refine ew_iinc (L' := [some (.ref q0), some (.int y1), some (.int v4), none]) dX6_rivalCertificates_76 (Nat.le_of_ble_eq_true rfl) rfl (by decide) ev4 rfl ?_
  refine ev_goto (tgt := 4) dX6_rivalCertificates_79 (by decide) ?_
  exact ev_weak (sb_s (sb_s (sb_s (sb_n sb_0)))) (k4 y1 v4 I _ h)
set_option maxRecDepth 100000 in
set_option maxHeartbeats 4000000 in
theorem tX6_rivalCertificates_16 {E : ev_N} {σ : ev_H} (q0 : Nat) (g0 : shp tb1 σ q0) (K4 : Int32 → Int32 → ev_I → Option (Int32)) (K16 : Int32 → Int32 → Int32 → ev_I → Option (Int32)) (k4 : ∀ (y1 : Int32) (y2 : Int32) (I : ev_I) (o : Int32), K4 y1 y2 I = some o → EV E mX6_rivalCertificates 4 [some (.ref q0), some (.int y1), some (.int y2), none] [] (h_w σ I) (Option.some (Value.int o), h_w σ I)) (k16 : ∀ (y1 : Int32) (y2 : Int32) (y3 : Int32) (I : ev_I) (o : Int32), K16 y1 y2 y3 I = some o → EV E mX6_rivalCertificates 16 [some (.ref q0), some (.int y1), some (.int y2), some (.int y3)] [] (h_w σ I) (Option.some (Value.int o), h_w σ I)) (n : Nat) (y1 : Int32) (y2 : Int32) (y3 : Int32) (I : ev_I) (o : Int32) : cX6_rivalCertificates_16 q0 K4 K16 n y1 y2 y3 I = some o → EV E mX6_rivalCertificates 16 [some (.ref q0), some (.int y1), some (.int y2), some (.int y3)] [] (h_w σ I) (Option.some (Value.int o), h_w σ I) := by
  intro h
  unfold cX6_rivalCertificates_16 at h
  refine ev_iload_n dX6_rivalCertificates_16 rfl ?_
  refine ev_aload_n dX6_rivalCertificates_17 rfl (fun _ e => by cases e) ?_
  refine ew_get0 dX6_rivalCertificates_18 fX6_130 g0 rfl rfl rfl ?_
  refine ev_icmp_ge (tgt := 76) dX6_rivalCertificates_21 (by decide) (fun c5 => ?_) (fun c5 => ?_)
  · have h := ev_ifT h c5
    exact ev_weak (sb_s (sb_s (sb_s (sb_n sb_0)))) (tX6_rivalCertificates_76 q0 g0 K4 K16 k4 k16 n y1 y2 I _ h)
  · have h := ev_ifF h c5
    refine ev_aload_n dX6_rivalCertificates_24 rfl (fun _ e => by cases e) ?_
    refine ew_getr0 dX6_rivalCertificates_25 fX6_88 g0 rfl rfl rfl rfl ?_
    refine ev_iload_n dX6_rivalCertificates_28 rfl ?_
    obtain ⟨c6, h⟩ := ev_ckE h
    refine ew_iald dX6_rivalCertificates_29 (shp_a g0 8 rfl) c6 ?_
    refine ev_iconst (v := (1 : Int32)) dX6_rivalCertificates_30 (by decide) ?_
    refine ev_icmp_ne (tgt := 76) dX6_rivalCertificates_31 (by decide) (fun c7 => ?_) (fun c7 => ?_)
    · have h := ev_ifF h c7
      exact ev_weak (sb_s (sb_s (sb_s (sb_n sb_0)))) (tX6_rivalCertificates_76 q0 g0 K4 K16 k4 k16 n y1 y2 I _ h)
    · have h := ev_ifT h c7
      refine ev_iload_n dX6_rivalCertificates_34 rfl ?_
      refine ev_aload_n dX6_rivalCertificates_35 rfl (fun _ e => by cases e) ?_
      refine ew_getr0 dX6_rivalCertificates_36 fX6_88 g0 rfl rfl rfl rfl ?_
      refine ev_iload_n dX6_rivalCertificates_39 rfl ?_
      obtain ⟨c8, h⟩ := ev_ckE h
      refine ew_iald dX6_rivalCertificates_40 (shp_a g0 8 rfl) c8 ?_
      refine ev_iconst (v := (1 : Int32)) dX6_rivalCertificates_41 (by decide) ?_
      refine ev_icmp_ne (tgt := 64) dX6_rivalCertificates_42 (by decide) (fun c9 => ?_) (fun c9 => ?_)
      · have h := ev_ifF h c9
        exact ev_weak (sb_s (sb_n (sb_s (sb_s sb_0)))) (tX6_rivalCertificates_64 q0 g0 K4 K16 k4 k16 n y2 y3 y1 I _ h)
      · have h := ev_ifT h c9
        refine ev_aload_n dX6_rivalCertificates_45 rfl (fun _ e => by cases e) ?_
        refine ew_getr0 dX6_rivalCertificates_46 fX6_65 g0 rfl rfl rfl rfl ?_
        refine ev_iload_n dX6_rivalCertificates_49 rfl ?_
        obtain ⟨c10, h⟩ := ev_ckE h
        refine ew_iald dX6_rivalCertificates_50 (shp_a g0 1 rfl) c10 ?_
        refine ev_aload_n dX6_rivalCertificates_51 rfl (fun _ e => by cases e) ?_
        refine ew_getr0 dX6_rivalCertificates_52 fX6_65 g0 rfl rfl rfl rfl ?_
        refine ev_iload_n dX6_rivalCertificates_55 rfl ?_
        obtain ⟨c11, h⟩ := ev_ckE h
        refine ew_iald dX6_rivalCertificates_56 (shp_a g0 1 rfl) c11 ?_
        refine ev_icmp_ne (tgt := 64) dX6_rivalCertificates_57 (by decide) (fun c12 => ?_) (fun c12 => ?_)
        · have h := ev_ifF h c12
          exact ev_weak (sb_s (sb_n (sb_s (sb_s sb_0)))) (tX6_rivalCertificates_64 q0 g0 K4 K16 k4 k16 n y2 y3 y1 I _ h)
        · have h := ev_ifT h c12
          refine ev_iconst (v := (1 : Int32)) dX6_rivalCertificates_60 (by decide) ?_
          refine ev_goto (tgt := 65) dX6_rivalCertificates_61 (by decide) ?_
          exact ev_weak (sb_s (sb_n (sb_s (sb_s sb_0)))) (tX6_rivalCertificates_65 q0 g0 K4 K16 k4 k16 n y2 y3 y1 (1 : Int32) I _ h)
theorem tlX6_rivalCertificates_16 {E : ev_N} {σ : ev_H} (q0 : Nat) (g0 : shp tb1 σ q0) (K4 : Int32 → Int32 → ev_I → Option (Int32)) (k4 : ∀ (y1 : Int32) (y2 : Int32) (I : ev_I) (o : Int32), K4 y1 y2 I = some o → EV E mX6_rivalCertificates 4 [some (.ref q0), some (.int y1), some (.int y2), none] [] (h_w σ I) (Option.some (Value.int o), h_w σ I)) : ∀ (n : Nat) (y1 : Int32) (y2 : Int32) (y3 : Int32) (I : ev_I) (o : Int32), lX6_rivalCertificates_16 q0 K4 n y1 y2 y3 I = some o → EV E mX6_rivalCertificates 16 [some (.ref q0), some (.int y1), some (.int y2), some (.int y3)] [] (h_w σ I) (Option.some (Value.int o), h_w σ I)
  | 0, _, _, _, _, _, h => by cases h
  | n + 1, y1, y2, y3, I, o, h => tX6_rivalCertificates_16 q0 g0 K4 (lX6_rivalCertificates_16 q0 K4 n) k4 (tlX6_rivalCertificates_16 q0 g0 K4 k4 n) n y1 y2 y3 I o h
set_option maxRecDepth 100000 in
set_option maxHeartbeats 4000000 in
theorem tX6_rivalCertificates_4 {E : ev_N} {σ : ev_H} (q0 : Nat) (g0 : shp tb1 σ q0) (K4 : Int32 → Int32 → ev_I → Option (Int32)) (k4 : ∀ (y1 : Int32) (y2 : Int32) (I : ev_I) (o : Int32), K4 y1 y2 I = some o → EV E mX6_rivalCertificates 4 [some (.ref q0), some (.int y1), some (.int y2), none] [] (h_w σ I) (Option.some (Value.int o), h_w σ I)) (n : Nat) (y1 : Int32) (y2 : Int32) (I : ev_I) (o : Int32) : cX6_rivalCertificates_4 q0 K4 n y1 y2 I = some o → EV E mX6_rivalCertificates 4 [some (.ref q0), some (.int y1), some (.int y2), none] [] (h_w σ I) (Option.some (Value.int o), h_w σ I) := by
  intro h
  unfold cX6_rivalCertificates_4 at h
  refine ev_iload_n dX6_rivalCertificates_4 rfl ?_
  refine ev_aload_n dX6_rivalCertificates_5 rfl (fun _ e => by cases e) ?_
  refine ew_get0 dX6_rivalCertificates_6 fX6_130 g0 rfl rfl rfl ?_
  refine ev_icmp_ge (tgt := 82) dX6_rivalCertificates_9 (by decide) (fun c13 => ?_) (fun c13 => ?_)
  · have h := ev_ifT h c13
    refine ev_iload_n dX6_rivalCertificates_82 rfl ?_
    cases h
    exact er_i dX6_rivalCertificates_83 rfl rfl
  · have h := ev_ifF h c13
    refine ev_iload_n dX6_rivalCertificates_12 rfl ?_
    refine ev_iconst (v := (1 : Int32)) dX6_rivalCertificates_13 (by decide) ?_
    refine ev_iadd dX6_rivalCertificates_14 ?_
    obtain ⟨v14, ev14, h⟩ := ev_ltE h
    refine ew_nm ev14 ?_
    refine ew_istn (L' := [some (.ref q0), some (.int y1), some (.int y2), some (.int v14)]) dX6_rivalCertificates_15 (Nat.le_of_ble_eq_true rfl) rfl ?_
    exact ev_weak (sb_s (sb_s (sb_s (sb_s sb_0)))) (tlX6_rivalCertificates_16 q0 g0 K4 k4 n y1 y2 v14 I _ h)
theorem tlX6_rivalCertificates_4 {E : ev_N} {σ : ev_H} (q0 : Nat) (g0 : shp tb1 σ q0) : ∀ (n : Nat) (y1 : Int32) (y2 : Int32) (I : ev_I) (o : Int32), lX6_rivalCertificates_4 q0 n y1 y2 I = some o → EV E mX6_rivalCertificates 4 [some (.ref q0), some (.int y1), some (.int y2), none] [] (h_w σ I) (Option.some (Value.int o), h_w σ I)
  | 0, _, _, _, _, h => by cases h
  | n + 1, y1, y2, I, o, h => tX6_rivalCertificates_4 q0 g0 (lX6_rivalCertificates_4 q0 n) (tlX6_rivalCertificates_4 q0 g0 n) n y1 y2 I o h
set_option maxRecDepth 100000 in
set_option maxHeartbeats 4000000 in
theorem tX6_rivalCertificates {E : ev_N} {σ : ev_H} (n : Nat) (q0 : Nat) (g0 : shp tb1 σ q0) (I : ev_I) (o : Int32) (h : pX6_rivalCertificates n q0  I = some o) : ev_T E mX6_rivalCertificates [.ref q0] (h_w σ I) (Option.some (Value.int o), h_w σ I) := by
  unfold pX6_rivalCertificates at h
  refine ev_met rfl rfl (Nat.le_of_ble_eq_true rfl) (ev_L0 (L' := [some (.ref q0), none, none, none]) rfl ?_)
  refine ev_iconst (v := (0 : Int32)) dX6_rivalCertificates_0 (by decide) ?_
  refine ew_istn (L' := [some (.ref q0), some (.int (0 : Int32)), none, none]) dX6_rivalCertificates_1 (Nat.le_of_ble_eq_true rfl) rfl ?_
  refine ev_iconst (v := (0 : Int32)) dX6_rivalCertificates_2 (by decide) ?_
  refine ew_istn (L' := [some (.ref q0), some (.int (0 : Int32)), some (.int (0 : Int32)), none]) dX6_rivalCertificates_3 (Nat.le_of_ble_eq_true rfl) rfl ?_
  exact ev_weak (sb_s (sb_s (sb_s (sb_n sb_0)))) (tlX6_rivalCertificates_4 q0 g0 n (0 : Int32) (0 : Int32) I _ h)
-- ChainVotes$Survey accusedNodes(LChainVotes$World;)I
def cX6_accusedNodes_4 (q0 : Nat) (K4 : Int32 → Int32 → ev_I → Option (Int32)) (n : Nat) (y1 : Int32) (y2 : Int32) (I : ev_I) : Option (Int32) :=
  if (I (q0 + 14) 1) ≤ y2 then
    (pJ6_bitCount_0f7a4 n  y1 I).bind fun z2 =>
    some z2
  else
    (pX2_at n (q0 + 14) 300 y2 (1 : Int32) (5 : Int32) I).bind fun z3 =>
    ev_lt (y1 ||| ((1 : Int32) <<< (z3 &&& 31))) fun v4 =>
    ev_lt (y2 + (1 : Int32)) fun v5 =>
    K4 v4 v5 I
def lX6_accusedNodes_4 (q0 : Nat) : Nat → Int32 → Int32 → ev_I → Option (Int32)
  | 0, _, _, _ => none
  | n + 1, y1, y2, I => cX6_accusedNodes_4 q0 (lX6_accusedNodes_4 q0 n) n y1 y2 I
def pX6_accusedNodes (n : Nat) (q0 : Nat) (I : ev_I) : Option (Int32) :=
  lX6_accusedNodes_4 q0 n (0 : Int32) (0 : Int32) I
set_option maxRecDepth 100000 in
set_option maxHeartbeats 4000000 in
theorem tX6_accusedNodes_4 {E : ev_N} {σ : ev_H} (q0 : Nat) (g0 : shp tb7 σ q0) (K4 : Int32 → Int32 → ev_I → Option (Int32)) (k4 : ∀ (y1 : Int32) (y2 : Int32) (I : ev_I) (o : Int32), K4 y1 y2 I = some o → EV E mX6_accusedNodes 4 [some (.ref q0), some (.int y1), some (.int y2)] [] (h_w σ I) (Option.some (Value.int o), h_w σ I)) (n : Nat) (y1 : Int32) (y2 : Int32) (I : ev_I) (o : Int32) : cX6_accusedNodes_4 q0 K4 n y1 y2 I = some o → EV E mX6_accusedNodes 4 [some (.ref q0), some (.int y1), some (.int y2)] [] (h_w σ I) (Option.some (Value.int o), h_w σ I) := by
  intro h
  unfold cX6_accusedNodes_4 at h
  refine ev_iload_n dX6_accusedNodes_4 rfl ?_
  refine ev_aload_n dX6_accusedNodes_5 rfl (fun _ e => by cases e) ?_
  refine ew_getr0 dX6_accusedNodes_6 fX6_168 g0 rfl rfl rfl rfl ?_
  refine ew_get0 dX6_accusedNodes_9 fX6_172 (s72e g0) rfl rfl rfl ?_
  refine ev_icmp_ge (tgt := 36) dX6_accusedNodes_12 (by decide) (fun c1 => ?_) (fun c1 => ?_)
  · have h := ev_ifT h c1
    refine ev_iload_n dX6_accusedNodes_36 rfl ?_
    obtain ⟨z2, hz2, h⟩ := ev_bnE h
    refine ec_Si (Y := mJ6_bitCount_0f7a4) (As := [.int y1]) (rest := []) dX6_accusedNodes_37 kX6_179 oJ6_bitCount_0f7a4 ⟨Nat.le_of_ble_eq_true rfl, Nat.le_of_ble_eq_true rfl⟩ rfl (Nat.le_of_ble_eq_true rfl) (tJ6_bitCount_0f7a4 n   y1 I z2 hz2) rfl ?_
    cases h
    exact er_i dX6_accusedNodes_40 rfl rfl
  · have h := ev_ifF h c1
    refine ev_iload_n dX6_accusedNodes_15 rfl ?_
    refine ev_iconst (v := (1 : Int32)) dX6_accusedNodes_16 (by decide) ?_
    refine ev_aload_n dX6_accusedNodes_17 rfl (fun _ e => by cases e) ?_
    refine ew_getr0 dX6_accusedNodes_18 fX6_168 g0 rfl rfl rfl rfl ?_
    refine ev_iload_n dX6_accusedNodes_21 rfl ?_
    refine ev_iconst (v := (1 : Int32)) dX6_accusedNodes_22 (by decide) ?_
    refine ev_iconst (v := (5 : Int32)) dX6_accusedNodes_23 (by decide) ?_
    obtain ⟨z3, hz3, h⟩ := ev_bnE h
    refine ec_Vi (Y := mX2_at) (ci := 2) (As := [.int y2, .int (1 : Int32), .int (5 : Int32)]) (rest := [(.int (1 : Int32)), (.int y1)]) dX6_accusedNodes_24 kX6_175 oX2_at ⟨Nat.le_of_ble_eq_true rfl, Nat.le_of_ble_eq_true rfl⟩ (by decide) rfl (shp_n (s72e g0) 0 rfl) (shp_t (s72e g0) 0 rfl) rfl (Nat.le_of_ble_eq_true rfl) (tX2_at n (q0 + 14) 300 (s72e g0) y2 (1 : Int32) (5 : Int32) I z3 hz3) rfl ?_
    refine ev_ishl dX6_accusedNodes_27 ?_
    refine ev_ior dX6_accusedNodes_28 ?_
    obtain ⟨v4, ev4, h⟩ := ev_ltE h
    refine ew_nm ev4 ?_
    refine ew_istn (L' := [some (.ref q0), some (.int v4), some (.int y2)]) dX6_accusedNodes_29 (Nat.le_of_ble_eq_true rfl) rfl ?_
    obtain ⟨v5, ev5, h⟩ := ev_ltE h
    refine ew_iinc (L' := [some (.ref q0), some (.int v4), some (.int v5)]) dX6_accusedNodes_30 (Nat.le_of_ble_eq_true rfl) rfl (by decide) ev5 rfl ?_
    refine ev_goto (tgt := 4) dX6_accusedNodes_33 (by decide) ?_
    exact ev_weak (sb_s (sb_s (sb_s sb_0))) (k4 v4 v5 I _ h)
theorem tlX6_accusedNodes_4 {E : ev_N} {σ : ev_H} (q0 : Nat) (g0 : shp tb7 σ q0) : ∀ (n : Nat) (y1 : Int32) (y2 : Int32) (I : ev_I) (o : Int32), lX6_accusedNodes_4 q0 n y1 y2 I = some o → EV E mX6_accusedNodes 4 [some (.ref q0), some (.int y1), some (.int y2)] [] (h_w σ I) (Option.some (Value.int o), h_w σ I)
  | 0, _, _, _, _, h => by cases h
  | n + 1, y1, y2, I, o, h => tX6_accusedNodes_4 q0 g0 (lX6_accusedNodes_4 q0 n) (tlX6_accusedNodes_4 q0 g0 n) n y1 y2 I o h
set_option maxRecDepth 100000 in
set_option maxHeartbeats 4000000 in
theorem tX6_accusedNodes {E : ev_N} {σ : ev_H} (n : Nat) (q0 : Nat) (g0 : shp tb7 σ q0) (I : ev_I) (o : Int32) (h : pX6_accusedNodes n q0  I = some o) : ev_T E mX6_accusedNodes [.ref q0] (h_w σ I) (Option.some (Value.int o), h_w σ I) := by
  unfold pX6_accusedNodes at h
  refine ev_met rfl rfl (Nat.le_of_ble_eq_true rfl) (ev_L0 (L' := [some (.ref q0), none, none]) rfl ?_)
  refine ev_iconst (v := (0 : Int32)) dX6_accusedNodes_0 (by decide) ?_
  refine ew_istn (L' := [some (.ref q0), some (.int (0 : Int32)), none]) dX6_accusedNodes_1 (Nat.le_of_ble_eq_true rfl) rfl ?_
  refine ev_iconst (v := (0 : Int32)) dX6_accusedNodes_2 (by decide) ?_
  refine ew_istn (L' := [some (.ref q0), some (.int (0 : Int32)), some (.int (0 : Int32))]) dX6_accusedNodes_3 (Nat.le_of_ble_eq_true rfl) rfl ?_
  exact ev_weak (sb_s (sb_s (sb_s sb_0))) (tlX6_accusedNodes_4 q0 g0 n (0 : Int32) (0 : Int32) I _ h)
-- ChainVotes$Survey sharedLog(LChainVotes$Member;LChainVotes$Member;I)I
def cX6_sharedLog_19 (q0 : Nat) (q1 : Nat) (K19 : Int32 → Int32 → ev_I → Option (Int32)) (n : Nat) (y3 : Int32) (y4 : Int32) (I : ev_I) : Option (Int32) :=
  if y3 ≤ y4 then
    some y3
  else
    ev_ck (ev_in y4 100) <|
    ev_ck (ev_in y4 100) <|
    if (I (q0 + 1) y4.toNatClampNeg) = (I (q1 + 1) y4.toNatClampNeg) then
      ev_lt (y4 + (1 : Int32)) fun v5 =>
      K19 y3 v5 I
    else
      some y4
def lX6_sharedLog_19 (q0 : Nat) (q1 : Nat) : Nat → Int32 → Int32 → ev_I → Option (Int32)
  | 0, _, _, _ => none
  | n + 1, y3, y4, I => cX6_sharedLog_19 q0 q1 (lX6_sharedLog_19 q0 q1 n) n y3 y4 I
def pX6_sharedLog (n : Nat) (q0 : Nat) (q1 : Nat) (x2 : Int32) (I : ev_I) : Option (Int32) :=
  ev_lt (if (if (I q1 9) < (I q0 9) then (I q1 9) else (I q0 9)) < x2 then (if (I q1 9) < (I q0 9) then (I q1 9) else (I q0 9)) else x2) fun v6 =>
  lX6_sharedLog_19 q0 q1 n v6 (0 : Int32) I
set_option maxRecDepth 100000 in
set_option maxHeartbeats 4000000 in
theorem tX6_sharedLog_19 {E : ev_N} {σ : ev_H} (q0 : Nat) (q1 : Nat) (g0 : shp tb3 σ q0) (g1 : shp tb3 σ q1) (K19 : Int32 → Int32 → ev_I → Option (Int32)) (k19 : ∀ (y3 : Int32) (y4 : Int32) (I : ev_I) (o : Int32), K19 y3 y4 I = some o → EV E mX6_sharedLog 19 [some (.ref q0), some (.ref q1), none, some (.int y3), some (.int y4)] [] (h_w σ I) (Option.some (Value.int o), h_w σ I)) (n : Nat) (y3 : Int32) (y4 : Int32) (I : ev_I) (o : Int32) : cX6_sharedLog_19 q0 q1 K19 n y3 y4 I = some o → EV E mX6_sharedLog 19 [some (.ref q0), some (.ref q1), none, some (.int y3), some (.int y4)] [] (h_w σ I) (Option.some (Value.int o), h_w σ I) := by
  intro h
  unfold cX6_sharedLog_19 at h
  refine ev_iload dX6_sharedLog_19 rfl ?_
  refine ev_iload_n dX6_sharedLog_21 rfl ?_
  refine ev_icmp_ge (tgt := 51) dX6_sharedLog_22 (by decide) (fun c1 => ?_) (fun c1 => ?_)
  · have h := ev_ifT h c1
    refine ev_iload_n dX6_sharedLog_51 rfl ?_
    cases h
    exact er_i dX6_sharedLog_52 rfl rfl
  · have h := ev_ifF h c1
    refine ev_aload_n dX6_sharedLog_25 rfl (fun _ e => by cases e) ?_
    refine ew_getr0 dX6_sharedLog_26 fX6_191 g0 rfl rfl rfl rfl ?_
    refine ev_iload dX6_sharedLog_29 rfl ?_
    obtain ⟨c2, h⟩ := ev_ckE h
    refine ew_iald dX6_sharedLog_31 (shp_a g0 1 rfl) c2 ?_
    refine ev_aload_n dX6_sharedLog_32 rfl (fun _ e => by cases e) ?_
    refine ew_getr0 dX6_sharedLog_33 fX6_191 g1 rfl rfl rfl rfl ?_
    refine ev_iload dX6_sharedLog_36 rfl ?_
    obtain ⟨c3, h⟩ := ev_ckE h
    refine ew_iald dX6_sharedLog_38 (shp_a g1 1 rfl) c3 ?_
    refine ev_icmp_eq (tgt := 45) dX6_sharedLog_39 (by decide) (fun c4 => ?_) (fun c4 => ?_)
    · have h := ev_ifT h c4
      obtain ⟨v5, ev5, h⟩ := ev_ltE h
      refine ew_iinc (L' := [some (.ref q0), some (.ref q1), none, some (.int y3), some (.int v5)]) dX6_sharedLog_45 (Nat.le_of_ble_eq_true rfl) rfl (by decide) ev5 rfl ?_
      refine ev_goto (tgt := 19) dX6_sharedLog_48 (by decide) ?_
      exact ev_weak (sb_s (sb_s (sb_n (sb_s (sb_s sb_0))))) (k19 y3 v5 I _ h)
    · have h := ev_ifF h c4
      refine ev_iload dX6_sharedLog_42 rfl ?_
      cases h
      exact er_i dX6_sharedLog_44 rfl rfl
theorem tlX6_sharedLog_19 {E : ev_N} {σ : ev_H} (q0 : Nat) (q1 : Nat) (g0 : shp tb3 σ q0) (g1 : shp tb3 σ q1) : ∀ (n : Nat) (y3 : Int32) (y4 : Int32) (I : ev_I) (o : Int32), lX6_sharedLog_19 q0 q1 n y3 y4 I = some o → EV E mX6_sharedLog 19 [some (.ref q0), some (.ref q1), none, some (.int y3), some (.int y4)] [] (h_w σ I) (Option.some (Value.int o), h_w σ I)
  | 0, _, _, _, _, h => by cases h
  | n + 1, y3, y4, I, o, h => tX6_sharedLog_19 q0 q1 g0 g1 (lX6_sharedLog_19 q0 q1 n) (tlX6_sharedLog_19 q0 q1 g0 g1 n) n y3 y4 I o h
set_option maxRecDepth 100000 in
set_option maxHeartbeats 4000000 in
theorem tX6_sharedLog {E : ev_N} {σ : ev_H} (n : Nat) (q0 : Nat) (q1 : Nat) (g0 : shp tb3 σ q0) (g1 : shp tb3 σ q1) (x2 : Int32) (I : ev_I) (o : Int32) (h : pX6_sharedLog n q0 q1 x2 I = some o) : ev_T E mX6_sharedLog [.ref q0, .ref q1, .int x2] (h_w σ I) (Option.some (Value.int o), h_w σ I) := by
  unfold pX6_sharedLog at h
  refine ev_met rfl rfl (Nat.le_of_ble_eq_true rfl) (ev_L0 (L' := [some (.ref q0), some (.ref q1), some (.int x2), none, none]) rfl ?_)
  refine ev_iload_n dX6_sharedLog_0 rfl ?_
  refine ev_aload_n dX6_sharedLog_1 rfl (fun _ e => by cases e) ?_
  refine ew_get0 dX6_sharedLog_2 fX6_42 g0 rfl rfl rfl ?_
  refine ev_aload_n dX6_sharedLog_5 rfl (fun _ e => by cases e) ?_
  refine ew_get0 dX6_sharedLog_6 fX6_42 g1 rfl rfl rfl ?_
  refine ev_min dX6_sharedLog_9 kX6_188 zM_min.1 zM_min.2.1 zM_min.2.2 (Nat.le_of_ble_eq_true rfl) (Nat.le_of_ble_eq_true rfl) ?_
  refine ev_min dX6_sharedLog_12 kX6_188 zM_min.1 zM_min.2.1 zM_min.2.2 (Nat.le_of_ble_eq_true rfl) (Nat.le_of_ble_eq_true rfl) ?_
  obtain ⟨v6, ev6, h⟩ := ev_ltE h
  refine ew_nm ev6 ?_
  refine ew_istn (L' := [some (.ref q0), some (.ref q1), some (.int x2), some (.int v6), none]) dX6_sharedLog_15 (Nat.le_of_ble_eq_true rfl) rfl ?_
  refine ev_iconst (v := (0 : Int32)) dX6_sharedLog_16 (by decide) ?_
  refine ew_ist (L' := [some (.ref q0), some (.ref q1), some (.int x2), some (.int v6), some (.int (0 : Int32))]) dX6_sharedLog_17 (Nat.le_of_ble_eq_true rfl) rfl ?_
  exact ev_weak (sb_s (sb_s (sb_n (sb_s (sb_s sb_0))))) (tlX6_sharedLog_19 q0 q1 g0 g1 n v6 (0 : Int32) I _ h)
-- ChainVotes$Survey longestLog(LChainVotes$World;)I
def cX6_longestLog_4 (q0 : Nat) (K4 : Int32 → Int32 → ev_I → Option (Int32)) (n : Nat) (y1 : Int32) (y2 : Int32) (I : ev_I) : Option (Int32) :=
  if (I q0 0) ≤ y2 then
    some y1
  else
    ev_ck (ev_in y2 7) <|
    ev_lt (if y1 < (I (q0 + (23 + 5 * y2.toNatClampNeg)) 9) then (I (q0 + (23 + 5 * y2.toNatClampNeg)) 9) else y1) fun v3 =>
    ev_lt (y2 + (1 : Int32)) fun v4 =>
    K4 v3 v4 I
def lX6_longestLog_4 (q0 : Nat) : Nat → Int32 → Int32 → ev_I → Option (Int32)
  | 0, _, _, _ => none
  | n + 1, y1, y2, I => cX6_longestLog_4 q0 (lX6_longestLog_4 q0 n) n y1 y2 I
def pX6_longestLog (n : Nat) (q0 : Nat) (I : ev_I) : Option (Int32) :=
  lX6_longestLog_4 q0 n (0 : Int32) (0 : Int32) I
set_option maxRecDepth 100000 in
set_option maxHeartbeats 4000000 in
theorem tX6_longestLog_4 {E : ev_N} {σ : ev_H} (q0 : Nat) (g0 : shp tb7 σ q0) (K4 : Int32 → Int32 → ev_I → Option (Int32)) (k4 : ∀ (y1 : Int32) (y2 : Int32) (I : ev_I) (o : Int32), K4 y1 y2 I = some o → EV E mX6_longestLog 4 [some (.ref q0), some (.int y1), some (.int y2)] [] (h_w σ I) (Option.some (Value.int o), h_w σ I)) (n : Nat) (y1 : Int32) (y2 : Int32) (I : ev_I) (o : Int32) : cX6_longestLog_4 q0 K4 n y1 y2 I = some o → EV E mX6_longestLog 4 [some (.ref q0), some (.int y1), some (.int y2)] [] (h_w σ I) (Option.some (Value.int o), h_w σ I) := by
  intro h
  unfold cX6_longestLog_4 at h
  refine ev_iload_n dX6_longestLog_4 rfl ?_
  refine ev_aload_n dX6_longestLog_5 rfl (fun _ e => by cases e) ?_
  refine ew_get0 dX6_longestLog_6 fX6_158 g0 rfl rfl rfl ?_
  refine ev_icmp_ge (tgt := 32) dX6_longestLog_9 (by decide) (fun c1 => ?_) (fun c1 => ?_)
  · have h := ev_ifT h c1
    refine ev_iload_n dX6_longestLog_32 rfl ?_
    cases h
    exact er_i dX6_longestLog_33 rfl rfl
  · have h := ev_ifF h c1
    refine ev_iload_n dX6_longestLog_12 rfl ?_
    refine ev_aload_n dX6_longestLog_13 rfl (fun _ e => by cases e) ?_
    refine ew_getr0 dX6_longestLog_14 fX6_9 g0 rfl rfl rfl rfl ?_
    refine ev_iload_n dX6_longestLog_17 rfl ?_
    obtain ⟨c2, h⟩ := ev_ckE h
    refine ew_memb dX6_longestLog_18 g0 c2 ?_
    refine ew_get0 dX6_longestLog_19 fX6_42 (s73 g0 (ev_inL c2)) rfl rfl rfl ?_
    refine ev_max dX6_longestLog_22 kX6_152 zM_max.1 zM_max.2.1 zM_max.2.2 (Nat.le_of_ble_eq_true rfl) (Nat.le_of_ble_eq_true rfl) ?_
    obtain ⟨v3, ev3, h⟩ := ev_ltE h
    refine ew_nm ev3 ?_
    refine ew_istn (L' := [some (.ref q0), some (.int v3), some (.int y2)]) dX6_longestLog_25 (Nat.le_of_ble_eq_true rfl) rfl ?_
    obtain ⟨v4, ev4, h⟩ := ev_ltE h
    refine ew_iinc (L' := [some (.ref q0), some (.int v3), some (.int v4)]) dX6_longestLog_26 (Nat.le_of_ble_eq_true rfl) rfl (by decide) ev4 rfl ?_
    refine ev_goto (tgt := 4) dX6_longestLog_29 (by decide) ?_
    exact ev_weak (sb_s (sb_s (sb_s sb_0))) (k4 v3 v4 I _ h)
theorem tlX6_longestLog_4 {E : ev_N} {σ : ev_H} (q0 : Nat) (g0 : shp tb7 σ q0) : ∀ (n : Nat) (y1 : Int32) (y2 : Int32) (I : ev_I) (o : Int32), lX6_longestLog_4 q0 n y1 y2 I = some o → EV E mX6_longestLog 4 [some (.ref q0), some (.int y1), some (.int y2)] [] (h_w σ I) (Option.some (Value.int o), h_w σ I)
  | 0, _, _, _, _, h => by cases h
  | n + 1, y1, y2, I, o, h => tX6_longestLog_4 q0 g0 (lX6_longestLog_4 q0 n) (tlX6_longestLog_4 q0 g0 n) n y1 y2 I o h
set_option maxRecDepth 100000 in
set_option maxHeartbeats 4000000 in
theorem tX6_longestLog {E : ev_N} {σ : ev_H} (n : Nat) (q0 : Nat) (g0 : shp tb7 σ q0) (I : ev_I) (o : Int32) (h : pX6_longestLog n q0  I = some o) : ev_T E mX6_longestLog [.ref q0] (h_w σ I) (Option.some (Value.int o), h_w σ I) := by
  unfold pX6_longestLog at h
  refine ev_met rfl rfl (Nat.le_of_ble_eq_true rfl) (ev_L0 (L' := [some (.ref q0), none, none]) rfl ?_)
  refine ev_iconst (v := (0 : Int32)) dX6_longestLog_0 (by decide) ?_
  refine ew_istn (L' := [some (.ref q0), some (.int (0 : Int32)), none]) dX6_longestLog_1 (Nat.le_of_ble_eq_true rfl) rfl ?_
  refine ev_iconst (v := (0 : Int32)) dX6_longestLog_2 (by decide) ?_
  refine ew_istn (L' := [some (.ref q0), some (.int (0 : Int32)), some (.int (0 : Int32))]) dX6_longestLog_3 (Nat.le_of_ble_eq_true rfl) rfl ?_
  exact ev_weak (sb_s (sb_s (sb_s sb_0))) (tlX6_longestLog_4 q0 g0 n (0 : Int32) (0 : Int32) I _ h)
-- ChainVotes$Survey isStray(LChainVotes$World;I)Z
def cX6_isStray_2 (q0 : Nat) (K2 : Int32 → Int32 → ev_I → Option (Int32)) (n : Nat) (y1 : Int32) (y2 : Int32) (I : ev_I) : Option (Int32) :=
  if (I q0 0) ≤ y2 then
    some (1 : Int32)
  else
    ev_ck (ev_in y2 7) <|
    (pX3_hasLogged n (q0 + (23 + 5 * y2.toNatClampNeg)) (q0 + 1) y1 I).bind fun z3 =>
    if z3 = 0 then
      (pX3_lastLogged n (q0 + (23 + 5 * y2.toNatClampNeg))  I).bind fun z5 =>
      (pX1_reaches n (q0 + 1) y1 z5 I).bind fun z6 =>
      if z6 = 0 then
        ev_lt (y2 + (1 : Int32)) fun v8 =>
        K2 y1 v8 I
      else
        some (0 : Int32)
    else
      some (0 : Int32)
def lX6_isStray_2 (q0 : Nat) : Nat → Int32 → Int32 → ev_I → Option (Int32)
  | 0, _, _, _ => none
  | n + 1, y1, y2, I => cX6_isStray_2 q0 (lX6_isStray_2 q0 n) n y1 y2 I
def pX6_isStray (n : Nat) (q0 : Nat) (x1 : Int32) (I : ev_I) : Option (Int32) :=
  lX6_isStray_2 q0 n x1 (0 : Int32) I
set_option maxRecDepth 100000 in
set_option maxHeartbeats 4000000 in
theorem tX6_isStray_2 {E : ev_N} {σ : ev_H} (q0 : Nat) (g0 : shp tb7 σ q0) (K2 : Int32 → Int32 → ev_I → Option (Int32)) (k2 : ∀ (y1 : Int32) (y2 : Int32) (I : ev_I) (o : Int32), K2 y1 y2 I = some o → EV E mX6_isStray 2 [some (.ref q0), some (.int y1), some (.int y2), none] [] (h_w σ I) (Option.some (Value.int o), h_w σ I)) (n : Nat) (y1 : Int32) (y2 : Int32) (I : ev_I) (o : Int32) : cX6_isStray_2 q0 K2 n y1 y2 I = some o → EV E mX6_isStray 2 [some (.ref q0), some (.int y1), some (.int y2), none] [] (h_w σ I) (Option.some (Value.int o), h_w σ I) := by
  intro h
  unfold cX6_isStray_2 at h
  refine ev_iload_n dX6_isStray_2 rfl ?_
  refine ev_aload_n dX6_isStray_3 rfl (fun _ e => by cases e) ?_
  refine ew_get0 dX6_isStray_4 fX6_158 g0 rfl rfl rfl ?_
  refine ev_icmp_ge (tgt := 52) dX6_isStray_7 (by decide) (fun c1 => ?_) (fun c1 => ?_)
  · have h := ev_ifT h c1
    refine ev_iconst (v := (1 : Int32)) dX6_isStray_52 (by decide) ?_
    cases h
    exact er_i dX6_isStray_53 rfl rfl
  · have h := ev_ifF h c1
    refine ev_aload_n dX6_isStray_10 rfl (fun _ e => by cases e) ?_
    refine ew_getr0 dX6_isStray_11 fX6_9 g0 rfl rfl rfl rfl ?_
    refine ev_iload_n dX6_isStray_14 rfl ?_
    obtain ⟨c2, h⟩ := ev_ckE h
    refine ew_memb dX6_isStray_15 g0 c2 ?_
    refine ew_astn (L' := [some (.ref q0), some (.int y1), some (.int y2), some (.ref (q0 + (23 + 5 * y2.toNatClampNeg)))]) dX6_isStray_16 (Nat.le_of_ble_eq_true rfl) (fun _ e => by cases e) rfl ?_
    refine ev_aload_n dX6_isStray_17 rfl (fun _ e => by cases e) ?_
    refine ev_aload_n dX6_isStray_18 rfl (fun _ e => by cases e) ?_
    refine ew_getr0 dX6_isStray_19 fX6_109 g0 rfl rfl rfl rfl ?_
    refine ev_iload_n dX6_isStray_22 rfl ?_
    obtain ⟨z3, hz3, h⟩ := ev_bnE h
    refine ec_Vi (Y := mX3_hasLogged) (ci := 3) (As := [.ref (q0 + 1), .int y1]) (rest := []) dX6_isStray_23 kX6_161 oX3_hasLogged ⟨Nat.le_of_ble_eq_true rfl, Nat.le_of_ble_eq_true rfl⟩ (by decide) rfl (shp_n (s73 g0 (ev_inL c2)) 0 rfl) (shp_t (s73 g0 (ev_inL c2)) 0 rfl) rfl (Nat.le_of_ble_eq_true rfl) (tX3_hasLogged n (q0 + (23 + 5 * y2.toNatClampNeg)) (q0 + 1) (s73 g0 (ev_inL c2)) (s71 g0) y1 I z3 hz3) rfl ?_
    refine ev_if_ne (tgt := 44) dX6_isStray_26 (by decide) (fun c4 => ?_) (fun c4 => ?_)
    · have h := ev_ifF h c4
      refine ev_iconst (v := (0 : Int32)) dX6_isStray_44 (by decide) ?_
      cases h
      exact er_i dX6_isStray_45 rfl rfl
    · have h := ev_ifT h c4
      refine ev_aload_n dX6_isStray_29 rfl (fun _ e => by cases e) ?_
      refine ew_getr0 dX6_isStray_30 fX6_109 g0 rfl rfl rfl rfl ?_
      refine ev_iload_n dX6_isStray_33 rfl ?_
      refine ev_aload_n dX6_isStray_34 rfl (fun _ e => by cases e) ?_
      obtain ⟨z5, hz5, h⟩ := ev_bnE h
      refine ec_Vi (Y := mX3_lastLogged) (ci := 3) (As := []) (rest := [(.int y1), (.ref (q0 + 1))]) dX6_isStray_35 kX6_45 oX3_lastLogged ⟨Nat.le_of_ble_eq_true rfl, Nat.le_of_ble_eq_true rfl⟩ (by decide) rfl (shp_n (s73 g0 (ev_inL c2)) 0 rfl) (shp_t (s73 g0 (ev_inL c2)) 0 rfl) rfl (Nat.le_of_ble_eq_true rfl) (tX3_lastLogged n (q0 + (23 + 5 * y2.toNatClampNeg)) (s73 g0 (ev_inL c2))  I z5 hz5) rfl ?_
      obtain ⟨z6, hz6, h⟩ := ev_bnE h
      refine ec_Vi (Y := mX1_reaches) (ci := 1) (As := [.int y1, .int z5]) (rest := []) dX6_isStray_38 kX6_113 oX1_reaches ⟨Nat.le_of_ble_eq_true rfl, Nat.le_of_ble_eq_true rfl⟩ (by decide) rfl (shp_n (s71 g0) 0 rfl) (shp_t (s71 g0) 0 rfl) rfl (Nat.le_of_ble_eq_true rfl) (tX1_reaches n (q0 + 1) (s71 g0) y1 z5 I z6 hz6) rfl ?_
      refine ev_if_eq (tgt := 46) dX6_isStray_41 (by decide) (fun c7 => ?_) (fun c7 => ?_)
      · have h := ev_ifT h c7
        obtain ⟨v8, ev8, h⟩ := ev_ltE h
        refine ew_iinc (L' := [some (.ref q0), some (.int y1), some (.int v8), some (.ref (q0 + (23 + 5 * y2.toNatClampNeg)))]) dX6_isStray_46 (Nat.le_of_ble_eq_true rfl) rfl (by decide) ev8 rfl ?_
        refine ev_goto (tgt := 2) dX6_isStray_49 (by decide) ?_
        exact ev_weak (sb_s (sb_s (sb_s (sb_n sb_0)))) (k2 y1 v8 I _ h)
      · have h := ev_ifF h c7
        refine ev_iconst (v := (0 : Int32)) dX6_isStray_44 (by decide) ?_
        cases h
        exact er_i dX6_isStray_45 rfl rfl
theorem tlX6_isStray_2 {E : ev_N} {σ : ev_H} (q0 : Nat) (g0 : shp tb7 σ q0) : ∀ (n : Nat) (y1 : Int32) (y2 : Int32) (I : ev_I) (o : Int32), lX6_isStray_2 q0 n y1 y2 I = some o → EV E mX6_isStray 2 [some (.ref q0), some (.int y1), some (.int y2), none] [] (h_w σ I) (Option.some (Value.int o), h_w σ I)
  | 0, _, _, _, _, h => by cases h
  | n + 1, y1, y2, I, o, h => tX6_isStray_2 q0 g0 (lX6_isStray_2 q0 n) (tlX6_isStray_2 q0 g0 n) n y1 y2 I o h
set_option maxRecDepth 100000 in
set_option maxHeartbeats 4000000 in
theorem tX6_isStray {E : ev_N} {σ : ev_H} (n : Nat) (q0 : Nat) (g0 : shp tb7 σ q0) (x1 : Int32) (I : ev_I) (o : Int32) (h : pX6_isStray n q0 x1 I = some o) : ev_T E mX6_isStray [.ref q0, .int x1] (h_w σ I) (Option.some (Value.int o), h_w σ I) := by
  unfold pX6_isStray at h
  refine ev_met rfl rfl (Nat.le_of_ble_eq_true rfl) (ev_L0 (L' := [some (.ref q0), some (.int x1), none, none]) rfl ?_)
  refine ev_iconst (v := (0 : Int32)) dX6_isStray_0 (by decide) ?_
  refine ew_istn (L' := [some (.ref q0), some (.int x1), some (.int (0 : Int32)), none]) dX6_isStray_1 (Nat.le_of_ble_eq_true rfl) rfl ?_
  exact ev_weak (sb_s (sb_s (sb_s (sb_n sb_0)))) (tlX6_isStray_2 q0 g0 n x1 (0 : Int32) I _ h)
-- ChainVotes$Survey highestCertified(LChainVotes$Blocks;)I
def cX6_highestCertified_37 (q0 : Nat) (K4 : Int32 → Int32 → ev_I → Option (Int32)) (n : Nat) (y1 : Int32) (y2 : Int32) (I : ev_I) : Option (Int32) :=
  ev_lt (y2 + (1 : Int32)) fun v1 =>
  K4 y1 v1 I
def cX6_highestCertified_4 (q0 : Nat) (K4 : Int32 → Int32 → ev_I → Option (Int32)) (n : Nat) (y1 : Int32) (y2 : Int32) (I : ev_I) : Option (Int32) :=
  if (I q0 0) ≤ y2 then
    some y1
  else
    (pX1_isCertified n q0 y2 I).bind fun z3 =>
    if z3 = 0 then
      cX6_highestCertified_37 q0 K4 n y1 y2 I
    else
      ev_ck (ev_in y2 100) <|
      ev_ck (ev_in y1 100) <|
      if (I (q0 + 1) y2.toNatClampNeg) ≤ (I (q0 + 1) y1.toNatClampNeg) then
        cX6_highestCertified_37 q0 K4 n y1 y2 I
      else
        cX6_highestCertified_37 q0 K4 n y2 y2 I
def lX6_highestCertified_4 (q0 : Nat) : Nat → Int32 → Int32 → ev_I → Option (Int32)
  | 0, _, _, _ => none
  | n + 1, y1, y2, I => cX6_highestCertified_4 q0 (lX6_highestCertified_4 q0 n) n y1 y2 I
def pX6_highestCertified (n : Nat) (q0 : Nat) (I : ev_I) : Option (Int32) :=
  lX6_highestCertified_4 q0 n (0 : Int32) (1 : Int32) I
set_option maxRecDepth 100000 in
set_option maxHeartbeats 4000000 in
theorem tX6_highestCertified_37 {E : ev_N} {σ : ev_H} (q0 : Nat) (g0 : shp tb1 σ q0) (K4 : Int32 → Int32 → ev_I → Option (Int32)) (k4 : ∀ (y1 : Int32) (y2 : Int32) (I : ev_I) (o : Int32), K4 y1 y2 I = some o → EV E mX6_highestCertified 4 [some (.ref q0), some (.int y1), some (.int y2)] [] (h_w σ I) (Option.some (Value.int o), h_w σ I)) (n : Nat) (y1 : Int32) (y2 : Int32) (I : ev_I) (o : Int32) : cX6_highestCertified_37 q0 K4 n y1 y2 I = some o → EV E mX6_highestCertified 37 [some (.ref q0), some (.int y1), some (.int y2)] [] (h_w σ I) (Option.some (Value.int o), h_w σ I) := by
  intro h
  unfold cX6_highestCertified_37 at h
  obtain ⟨v1, ev1, h⟩ := ev_ltE h
  refine ew_iinc (L' := [some (.ref q0), some (.int y1), some (.int v1)]) dX6_highestCertified_37 (Nat.le_of_ble_eq_true rfl) rfl (by decide) ev1 rfl ?_
  refine ev_goto (tgt := 4) dX6_highestCertified_40 (by decide) ?_
  exact ev_weak (sb_s (sb_s (sb_s sb_0))) (k4 y1 v1 I _ h)
set_option maxRecDepth 100000 in
set_option maxHeartbeats 4000000 in
theorem tX6_highestCertified_4 {E : ev_N} {σ : ev_H} (q0 : Nat) (g0 : shp tb1 σ q0) (K4 : Int32 → Int32 → ev_I → Option (Int32)) (k4 : ∀ (y1 : Int32) (y2 : Int32) (I : ev_I) (o : Int32), K4 y1 y2 I = some o → EV E mX6_highestCertified 4 [some (.ref q0), some (.int y1), some (.int y2)] [] (h_w σ I) (Option.some (Value.int o), h_w σ I)) (n : Nat) (y1 : Int32) (y2 : Int32) (I : ev_I) (o : Int32) : cX6_highestCertified_4 q0 K4 n y1 y2 I = some o → EV E mX6_highestCertified 4 [some (.ref q0), some (.int y1), some (.int y2)] [] (h_w σ I) (Option.some (Value.int o), h_w σ I) := by
  intro h
  unfold cX6_highestCertified_4 at h
  refine ev_iload_n dX6_highestCertified_4 rfl ?_
  refine ev_aload_n dX6_highestCertified_5 rfl (fun _ e => by cases e) ?_
  refine ew_get0 dX6_highestCertified_6 fX6_130 g0 rfl rfl rfl ?_
  refine ev_icmp_ge (tgt := 43) dX6_highestCertified_9 (by decide) (fun c2 => ?_) (fun c2 => ?_)
  · have h := ev_ifT h c2
    refine ev_iload_n dX6_highestCertified_43 rfl ?_
    cases h
    exact er_i dX6_highestCertified_44 rfl rfl
  · have h := ev_ifF h c2
    refine ev_aload_n dX6_highestCertified_12 rfl (fun _ e => by cases e) ?_
    refine ev_iload_n dX6_highestCertified_13 rfl ?_
    obtain ⟨z3, hz3, h⟩ := ev_bnE h
    refine ec_Vi (Y := mX1_isCertified) (ci := 1) (As := [.int y2]) (rest := []) dX6_highestCertified_14 kX6_198 oX1_isCertified ⟨Nat.le_of_ble_eq_true rfl, Nat.le_of_ble_eq_true rfl⟩ (by decide) rfl (shp_n g0 0 rfl) (shp_t g0 0 rfl) rfl (Nat.le_of_ble_eq_true rfl) (tX1_isCertified n q0 g0 y2 I z3 hz3) rfl ?_
    refine ev_if_eq (tgt := 37) dX6_highestCertified_17 (by decide) (fun c4 => ?_) (fun c4 => ?_)
    · have h := ev_ifT h c4
      exact ev_weak (sb_s (sb_s (sb_s sb_0))) (tX6_highestCertified_37 q0 g0 K4 k4 n y1 y2 I _ h)
    · have h := ev_ifF h c4
      refine ev_aload_n dX6_highestCertified_20 rfl (fun _ e => by cases e) ?_
      refine ew_getr0 dX6_highestCertified_21 fX6_65 g0 rfl rfl rfl rfl ?_
      refine ev_iload_n dX6_highestCertified_24 rfl ?_
      obtain ⟨c5, h⟩ := ev_ckE h
      refine ew_iald dX6_highestCertified_25 (shp_a g0 1 rfl) c5 ?_
      refine ev_aload_n dX6_highestCertified_26 rfl (fun _ e => by cases e) ?_
      refine ew_getr0 dX6_highestCertified_27 fX6_65 g0 rfl rfl rfl rfl ?_
      refine ev_iload_n dX6_highestCertified_30 rfl ?_
      obtain ⟨c6, h⟩ := ev_ckE h
      refine ew_iald dX6_highestCertified_31 (shp_a g0 1 rfl) c6 ?_
      refine ev_icmp_le (tgt := 37) dX6_highestCertified_32 (by decide) (fun c7 => ?_) (fun c7 => ?_)
      · have h := ev_ifT h c7
        exact ev_weak (sb_s (sb_s (sb_s sb_0))) (tX6_highestCertified_37 q0 g0 K4 k4 n y1 y2 I _ h)
      · have h := ev_ifF h c7
        refine ev_iload_n dX6_highestCertified_35 rfl ?_
        refine ew_istn (L' := [some (.ref q0), some (.int y2), some (.int y2)]) dX6_highestCertified_36 (Nat.le_of_ble_eq_true rfl) rfl ?_
        exact ev_weak (sb_s (sb_s (sb_s sb_0))) (tX6_highestCertified_37 q0 g0 K4 k4 n y2 y2 I _ h)
theorem tlX6_highestCertified_4 {E : ev_N} {σ : ev_H} (q0 : Nat) (g0 : shp tb1 σ q0) : ∀ (n : Nat) (y1 : Int32) (y2 : Int32) (I : ev_I) (o : Int32), lX6_highestCertified_4 q0 n y1 y2 I = some o → EV E mX6_highestCertified 4 [some (.ref q0), some (.int y1), some (.int y2)] [] (h_w σ I) (Option.some (Value.int o), h_w σ I)
  | 0, _, _, _, _, h => by cases h
  | n + 1, y1, y2, I, o, h => tX6_highestCertified_4 q0 g0 (lX6_highestCertified_4 q0 n) (tlX6_highestCertified_4 q0 g0 n) n y1 y2 I o h
set_option maxRecDepth 100000 in
set_option maxHeartbeats 4000000 in
theorem tX6_highestCertified {E : ev_N} {σ : ev_H} (n : Nat) (q0 : Nat) (g0 : shp tb1 σ q0) (I : ev_I) (o : Int32) (h : pX6_highestCertified n q0  I = some o) : ev_T E mX6_highestCertified [.ref q0] (h_w σ I) (Option.some (Value.int o), h_w σ I) := by
  unfold pX6_highestCertified at h
  refine ev_met rfl rfl (Nat.le_of_ble_eq_true rfl) (ev_L0 (L' := [some (.ref q0), none, none]) rfl ?_)
  refine ev_iconst (v := (0 : Int32)) dX6_highestCertified_0 (by decide) ?_
  refine ew_istn (L' := [some (.ref q0), some (.int (0 : Int32)), none]) dX6_highestCertified_1 (Nat.le_of_ble_eq_true rfl) rfl ?_
  refine ev_iconst (v := (1 : Int32)) dX6_highestCertified_2 (by decide) ?_
  refine ew_istn (L' := [some (.ref q0), some (.int (0 : Int32)), some (.int (1 : Int32))]) dX6_highestCertified_3 (Nat.le_of_ble_eq_true rfl) rfl ?_
  exact ev_weak (sb_s (sb_s (sb_s sb_0))) (tlX6_highestCertified_4 q0 g0 n (0 : Int32) (1 : Int32) I _ h)
-- ChainVotes$Survey better([IIII)I
def pX6_better (n : Nat) (q0 z0 : Nat) (x1 : Int32) (x2 : Int32) (x3 : Int32) (I : ev_I) : Option (Int32) :=
  if x1 = (-1 : Int32) then
    some x2
  else
    ev_ck (ev_in x2 z0) <|
    ev_ck (ev_in x1 z0) <|
    ev_lt (x3 * ((I q0 x2.toNatClampNeg) - (I q0 x1.toNatClampNeg))) fun v4 =>
    if 0 < v4 then
      some x2
    else
      if v4 = 0 then
        if x1 ≤ x2 then
          some x1
        else
          some x2
      else
        some x1
set_option maxRecDepth 100000 in
set_option maxHeartbeats 4000000 in
theorem tX6_better {E : ev_N} {σ : ev_H} (n : Nat) (q0 z0 : Nat) (g0 : sar 100 σ q0 z0) (x1 : Int32) (x2 : Int32) (x3 : Int32) (I : ev_I) (o : Int32) (h : pX6_better n q0 z0 x1 x2 x3 I = some o) : ev_T E mX6_better [.ref q0, .int x1, .int x2, .int x3] (h_w σ I) (Option.some (Value.int o), h_w σ I) := by
  unfold pX6_better at h
  refine ev_met rfl rfl (Nat.le_of_ble_eq_true rfl) (ev_L0 (L' := [some (.ref q0), some (.int x1), some (.int x2), some (.int x3), none]) rfl ?_)
  refine ev_iload_n dX6_better_0 rfl ?_
  refine ev_iconst (v := (-1 : Int32)) dX6_better_1 (by decide) ?_
  refine ev_icmp_ne (tgt := 7) dX6_better_2 (by decide) (fun c1 => ?_) (fun c1 => ?_)
  · have h := ev_ifF h c1
    refine ev_iload_n dX6_better_7 rfl ?_
    refine ev_aload_n dX6_better_8 rfl (fun _ e => by cases e) ?_
    refine ev_iload_n dX6_better_9 rfl ?_
    obtain ⟨c2, h⟩ := ev_ckE h
    refine ew_iald dX6_better_10 g0 c2 ?_
    refine ev_aload_n dX6_better_11 rfl (fun _ e => by cases e) ?_
    refine ev_iload_n dX6_better_12 rfl ?_
    obtain ⟨c3, h⟩ := ev_ckE h
    refine ew_iald dX6_better_13 g0 c3 ?_
    refine ev_isub dX6_better_14 ?_
    refine ev_imul dX6_better_15 ?_
    obtain ⟨v4, ev4, h⟩ := ev_ltE h
    refine ew_nm ev4 ?_
    refine ew_ist (L' := [some (.ref q0), some (.int x1), some (.int x2), some (.int x3), some (.int v4)]) dX6_better_16 (Nat.le_of_ble_eq_true rfl) rfl ?_
    refine ev_iload dX6_better_18 rfl ?_
    refine ev_if_gt (tgt := 33) dX6_better_20 (by decide) (fun c5 => ?_) (fun c5 => ?_)
    · have h := ev_ifT h c5
      refine ev_iload_n dX6_better_33 rfl ?_
      refine ev_goto (tgt := 38) dX6_better_34 (by decide) ?_
      cases h
      exact er_i dX6_better_38 rfl rfl
    · have h := ev_ifF h c5
      refine ev_iload dX6_better_23 rfl ?_
      refine ev_if_ne (tgt := 37) dX6_better_25 (by decide) (fun c6 => ?_) (fun c6 => ?_)
      · have h := ev_ifF h c6
        refine ev_iload_n dX6_better_37 rfl ?_
        cases h
        exact er_i dX6_better_38 rfl rfl
      · have h := ev_ifT h c6
        refine ev_iload_n dX6_better_28 rfl ?_
        refine ev_iload_n dX6_better_29 rfl ?_
        refine ev_icmp_ge (tgt := 37) dX6_better_30 (by decide) (fun c7 => ?_) (fun c7 => ?_)
        · have h := ev_ifT h c7
          refine ev_iload_n dX6_better_37 rfl ?_
          cases h
          exact er_i dX6_better_38 rfl rfl
        · have h := ev_ifF h c7
          refine ev_iload_n dX6_better_33 rfl ?_
          refine ev_goto (tgt := 38) dX6_better_34 (by decide) ?_
          cases h
          exact er_i dX6_better_38 rfl rfl
  · have h := ev_ifT h c1
    refine ev_iload_n dX6_better_5 rfl ?_
    cases h
    exact er_i dX6_better_6 rfl rfl
-- ChainVotes$Survey areUnlike(LChainVotes$World;II)Z
def pX6_areUnlike (n : Nat) (q0 : Nat) (x1 : Int32) (x2 : Int32) (I : ev_I) : Option (Int32) :=
  ev_ck (ev_in x1 7) <|
  (pX3_lastLogged n (q0 + (23 + 5 * x1.toNatClampNeg))  I).bind fun z2 =>
  ev_ck (ev_in x2 7) <|
  (pX3_lastLogged n (q0 + (23 + 5 * x2.toNatClampNeg))  I).bind fun z4 =>
  (pX1_reaches n (q0 + 1) z2 z4 I).bind fun z5 =>
  if z5 = 0 then
    (pX1_reaches n (q0 + 1) z4 z2 I).bind fun z7 =>
    if z7 = 0 then
      some (1 : Int32)
    else
      some (0 : Int32)
  else
    some (0 : Int32)
set_option maxRecDepth 100000 in
set_option maxHeartbeats 4000000 in
theorem tX6_areUnlike {E : ev_N} {σ : ev_H} (n : Nat) (q0 : Nat) (g0 : shp tb7 σ q0) (x1 : Int32) (x2 : Int32) (I : ev_I) (o : Int32) (h : pX6_areUnlike n q0 x1 x2 I = some o) : ev_T E mX6_areUnlike [.ref q0, .int x1, .int x2] (h_w σ I) (Option.some (Value.int o), h_w σ I) := by
  unfold pX6_areUnlike at h
  refine ev_met rfl rfl (Nat.le_of_ble_eq_true rfl) (ev_L0 (L' := [some (.ref q0), some (.int x1), some (.int x2), none, none]) rfl ?_)
  refine ev_aload_n dX6_areUnlike_0 rfl (fun _ e => by cases e) ?_
  refine ew_getr0 dX6_areUnlike_1 fX6_9 g0 rfl rfl rfl rfl ?_
  refine ev_iload_n dX6_areUnlike_4 rfl ?_
  obtain ⟨c1, h⟩ := ev_ckE h
  refine ew_memb dX6_areUnlike_5 g0 c1 ?_
  obtain ⟨z2, hz2, h⟩ := ev_bnE h
  refine ec_Vi (Y := mX3_lastLogged) (ci := 3) (As := []) (rest := []) dX6_areUnlike_6 kX6_45 oX3_lastLogged ⟨Nat.le_of_ble_eq_true rfl, Nat.le_of_ble_eq_true rfl⟩ (by decide) rfl (shp_n (s73 g0 (ev_inL c1)) 0 rfl) (shp_t (s73 g0 (ev_inL c1)) 0 rfl) rfl (Nat.le_of_ble_eq_true rfl) (tX3_lastLogged n (q0 + (23 + 5 * x1.toNatClampNeg)) (s73 g0 (ev_inL c1))  I z2 hz2) rfl ?_
  refine ew_istn (L' := [some (.ref q0), some (.int x1), some (.int x2), some (.int z2), none]) dX6_areUnlike_9 (Nat.le_of_ble_eq_true rfl) rfl ?_
  refine ev_aload_n dX6_areUnlike_10 rfl (fun _ e => by cases e) ?_
  refine ew_getr0 dX6_areUnlike_11 fX6_9 g0 rfl rfl rfl rfl ?_
  refine ev_iload_n dX6_areUnlike_14 rfl ?_
  obtain ⟨c3, h⟩ := ev_ckE h
  refine ew_memb dX6_areUnlike_15 g0 c3 ?_
  obtain ⟨z4, hz4, h⟩ := ev_bnE h
  refine ec_Vi (Y := mX3_lastLogged) (ci := 3) (As := []) (rest := []) dX6_areUnlike_16 kX6_45 oX3_lastLogged ⟨Nat.le_of_ble_eq_true rfl, Nat.le_of_ble_eq_true rfl⟩ (by decide) rfl (shp_n (s73 g0 (ev_inL c3)) 0 rfl) (shp_t (s73 g0 (ev_inL c3)) 0 rfl) rfl (Nat.le_of_ble_eq_true rfl) (tX3_lastLogged n (q0 + (23 + 5 * x2.toNatClampNeg)) (s73 g0 (ev_inL c3))  I z4 hz4) rfl ?_
  refine ew_ist (L' := [some (.ref q0), some (.int x1), some (.int x2), some (.int z2), some (.int z4)]) dX6_areUnlike_19 (Nat.le_of_ble_eq_true rfl) rfl ?_
  refine ev_aload_n dX6_areUnlike_21 rfl (fun _ e => by cases e) ?_
  refine ew_getr0 dX6_areUnlike_22 fX6_109 g0 rfl rfl rfl rfl ?_
  refine ev_iload_n dX6_areUnlike_25 rfl ?_
  refine ev_iload dX6_areUnlike_26 rfl ?_
  obtain ⟨z5, hz5, h⟩ := ev_bnE h
  refine ec_Vi (Y := mX1_reaches) (ci := 1) (As := [.int z2, .int z4]) (rest := []) dX6_areUnlike_28 kX6_113 oX1_reaches ⟨Nat.le_of_ble_eq_true rfl, Nat.le_of_ble_eq_true rfl⟩ (by decide) rfl (shp_n (s71 g0) 0 rfl) (shp_t (s71 g0) 0 rfl) rfl (Nat.le_of_ble_eq_true rfl) (tX1_reaches n (q0 + 1) (s71 g0) z2 z4 I z5 hz5) rfl ?_
  refine ev_if_ne (tgt := 51) dX6_areUnlike_31 (by decide) (fun c6 => ?_) (fun c6 => ?_)
  · have h := ev_ifF h c6
    refine ev_iconst (v := (0 : Int32)) dX6_areUnlike_51 (by decide) ?_
    cases h
    exact er_i dX6_areUnlike_52 rfl rfl
  · have h := ev_ifT h c6
    refine ev_aload_n dX6_areUnlike_34 rfl (fun _ e => by cases e) ?_
    refine ew_getr0 dX6_areUnlike_35 fX6_109 g0 rfl rfl rfl rfl ?_
    refine ev_iload dX6_areUnlike_38 rfl ?_
    refine ev_iload_n dX6_areUnlike_40 rfl ?_
    obtain ⟨z7, hz7, h⟩ := ev_bnE h
    refine ec_Vi (Y := mX1_reaches) (ci := 1) (As := [.int z4, .int z2]) (rest := []) dX6_areUnlike_41 kX6_113 oX1_reaches ⟨Nat.le_of_ble_eq_true rfl, Nat.le_of_ble_eq_true rfl⟩ (by decide) rfl (shp_n (s71 g0) 0 rfl) (shp_t (s71 g0) 0 rfl) rfl (Nat.le_of_ble_eq_true rfl) (tX1_reaches n (q0 + 1) (s71 g0) z4 z2 I z7 hz7) rfl ?_
    refine ev_if_ne (tgt := 51) dX6_areUnlike_44 (by decide) (fun c8 => ?_) (fun c8 => ?_)
    · have h := ev_ifF h c8
      refine ev_iconst (v := (0 : Int32)) dX6_areUnlike_51 (by decide) ?_
      cases h
      exact er_i dX6_areUnlike_52 rfl rfl
    · have h := ev_ifT h c8
      refine ev_iconst (v := (1 : Int32)) dX6_areUnlike_47 (by decide) ?_
      refine ev_goto (tgt := 52) dX6_areUnlike_48 (by decide) ?_
      cases h
      exact er_i dX6_areUnlike_52 rfl rfl
-- ChainVotes$Survey forksOfAll(LChainVotes$World;)I
def cX6_forksOfAll_4 (q0 : Nat) (K4 : Int32 → Int32 → ev_I → Option (Int32)) (n : Nat) (y1 : Int32) (y2 : Int32) (I : ev_I) : Option (Int32) :=
  if (I q0 0) ≤ y2 then
    some y1
  else
    ev_ck (ev_in y2 7) <|
    ev_lt (y1 + (I (q0 + (23 + 5 * y2.toNatClampNeg)) 8)) fun v3 =>
    ev_lt (y2 + (1 : Int32)) fun v4 =>
    K4 v3 v4 I
def lX6_forksOfAll_4 (q0 : Nat) : Nat → Int32 → Int32 → ev_I → Option (Int32)
  | 0, _, _, _ => none
  | n + 1, y1, y2, I => cX6_forksOfAll_4 q0 (lX6_forksOfAll_4 q0 n) n y1 y2 I
def pX6_forksOfAll (n : Nat) (q0 : Nat) (I : ev_I) : Option (Int32) :=
  lX6_forksOfAll_4 q0 n (0 : Int32) (0 : Int32) I
set_option maxRecDepth 100000 in
set_option maxHeartbeats 4000000 in
theorem tX6_forksOfAll_4 {E : ev_N} {σ : ev_H} (q0 : Nat) (g0 : shp tb7 σ q0) (K4 : Int32 → Int32 → ev_I → Option (Int32)) (k4 : ∀ (y1 : Int32) (y2 : Int32) (I : ev_I) (o : Int32), K4 y1 y2 I = some o → EV E mX6_forksOfAll 4 [some (.ref q0), some (.int y1), some (.int y2)] [] (h_w σ I) (Option.some (Value.int o), h_w σ I)) (n : Nat) (y1 : Int32) (y2 : Int32) (I : ev_I) (o : Int32) : cX6_forksOfAll_4 q0 K4 n y1 y2 I = some o → EV E mX6_forksOfAll 4 [some (.ref q0), some (.int y1), some (.int y2)] [] (h_w σ I) (Option.some (Value.int o), h_w σ I) := by
  intro h
  unfold cX6_forksOfAll_4 at h
  refine ev_iload_n dX6_forksOfAll_4 rfl ?_
  refine ev_aload_n dX6_forksOfAll_5 rfl (fun _ e => by cases e) ?_
  refine ew_get0 dX6_forksOfAll_6 fX6_158 g0 rfl rfl rfl ?_
  refine ev_icmp_ge (tgt := 30) dX6_forksOfAll_9 (by decide) (fun c1 => ?_) (fun c1 => ?_)
  · have h := ev_ifT h c1
    refine ev_iload_n dX6_forksOfAll_30 rfl ?_
    cases h
    exact er_i dX6_forksOfAll_31 rfl rfl
  · have h := ev_ifF h c1
    refine ev_iload_n dX6_forksOfAll_12 rfl ?_
    refine ev_aload_n dX6_forksOfAll_13 rfl (fun _ e => by cases e) ?_
    refine ew_getr0 dX6_forksOfAll_14 fX6_9 g0 rfl rfl rfl rfl ?_
    refine ev_iload_n dX6_forksOfAll_17 rfl ?_
    obtain ⟨c2, h⟩ := ev_ckE h
    refine ew_memb dX6_forksOfAll_18 g0 c2 ?_
    refine ew_get0 dX6_forksOfAll_19 fX6_49 (s73 g0 (ev_inL c2)) rfl rfl rfl ?_
    refine ev_iadd dX6_forksOfAll_22 ?_
    obtain ⟨v3, ev3, h⟩ := ev_ltE h
    refine ew_nm ev3 ?_
    refine ew_istn (L' := [some (.ref q0), some (.int v3), some (.int y2)]) dX6_forksOfAll_23 (Nat.le_of_ble_eq_true rfl) rfl ?_
    obtain ⟨v4, ev4, h⟩ := ev_ltE h
    refine ew_iinc (L' := [some (.ref q0), some (.int v3), some (.int v4)]) dX6_forksOfAll_24 (Nat.le_of_ble_eq_true rfl) rfl (by decide) ev4 rfl ?_
    refine ev_goto (tgt := 4) dX6_forksOfAll_27 (by decide) ?_
    exact ev_weak (sb_s (sb_s (sb_s sb_0))) (k4 v3 v4 I _ h)
theorem tlX6_forksOfAll_4 {E : ev_N} {σ : ev_H} (q0 : Nat) (g0 : shp tb7 σ q0) : ∀ (n : Nat) (y1 : Int32) (y2 : Int32) (I : ev_I) (o : Int32), lX6_forksOfAll_4 q0 n y1 y2 I = some o → EV E mX6_forksOfAll 4 [some (.ref q0), some (.int y1), some (.int y2)] [] (h_w σ I) (Option.some (Value.int o), h_w σ I)
  | 0, _, _, _, _, h => by cases h
  | n + 1, y1, y2, I, o, h => tX6_forksOfAll_4 q0 g0 (lX6_forksOfAll_4 q0 n) (tlX6_forksOfAll_4 q0 g0 n) n y1 y2 I o h
set_option maxRecDepth 100000 in
set_option maxHeartbeats 4000000 in
theorem tX6_forksOfAll {E : ev_N} {σ : ev_H} (n : Nat) (q0 : Nat) (g0 : shp tb7 σ q0) (I : ev_I) (o : Int32) (h : pX6_forksOfAll n q0  I = some o) : ev_T E mX6_forksOfAll [.ref q0] (h_w σ I) (Option.some (Value.int o), h_w σ I) := by
  unfold pX6_forksOfAll at h
  refine ev_met rfl rfl (Nat.le_of_ble_eq_true rfl) (ev_L0 (L' := [some (.ref q0), none, none]) rfl ?_)
  refine ev_iconst (v := (0 : Int32)) dX6_forksOfAll_0 (by decide) ?_
  refine ew_istn (L' := [some (.ref q0), some (.int (0 : Int32)), none]) dX6_forksOfAll_1 (Nat.le_of_ble_eq_true rfl) rfl ?_
  refine ev_iconst (v := (0 : Int32)) dX6_forksOfAll_2 (by decide) ?_
  refine ew_istn (L' := [some (.ref q0), some (.int (0 : Int32)), some (.int (0 : Int32))]) dX6_forksOfAll_3 (Nat.le_of_ble_eq_true rfl) rfl ?_
  exact ev_weak (sb_s (sb_s (sb_s sb_0))) (tlX6_forksOfAll_4 q0 g0 n (0 : Int32) (0 : Int32) I _ h)
-- ChainVotes$Survey greatestView(LChainVotes$World;)I
def cX6_greatestView_34 (q0 : Nat) (K4 : Int32 → Int32 → ev_I → Option (Int32)) (n : Nat) (y1 : Int32) (y2 : Int32) (I : ev_I) : Option (Int32) :=
  ev_lt (y2 + (1 : Int32)) fun v1 =>
  K4 y1 v1 I
def cX6_greatestView_4 (q0 : Nat) (K4 : Int32 → Int32 → ev_I → Option (Int32)) (n : Nat) (y1 : Int32) (y2 : Int32) (I : ev_I) : Option (Int32) :=
  if (I q0 0) ≤ y2 then
    some y1
  else
    (pX8_isAwake n q0 y2 I).bind fun z3 =>
    if z3 = 0 then
      cX6_greatestView_34 q0 K4 n y1 y2 I
    else
      ev_ck (ev_in y2 7) <|
      ev_lt (if y1 < (I (q0 + (23 + 5 * y2.toNatClampNeg)) 1) then (I (q0 + (23 + 5 * y2.toNatClampNeg)) 1) else y1) fun v6 =>
      cX6_greatestView_34 q0 K4 n v6 y2 I
def lX6_greatestView_4 (q0 : Nat) : Nat → Int32 → Int32 → ev_I → Option (Int32)
  | 0, _, _, _ => none
  | n + 1, y1, y2, I => cX6_greatestView_4 q0 (lX6_greatestView_4 q0 n) n y1 y2 I
def pX6_greatestView (n : Nat) (q0 : Nat) (I : ev_I) : Option (Int32) :=
  lX6_greatestView_4 q0 n (0 : Int32) (0 : Int32) I
set_option maxRecDepth 100000 in
set_option maxHeartbeats 4000000 in
theorem tX6_greatestView_34 {E : ev_N} {σ : ev_H} (q0 : Nat) (g0 : shp tb7 σ q0) (K4 : Int32 → Int32 → ev_I → Option (Int32)) (k4 : ∀ (y1 : Int32) (y2 : Int32) (I : ev_I) (o : Int32), K4 y1 y2 I = some o → EV E mX6_greatestView 4 [some (.ref q0), some (.int y1), some (.int y2)] [] (h_w σ I) (Option.some (Value.int o), h_w σ I)) (n : Nat) (y1 : Int32) (y2 : Int32) (I : ev_I) (o : Int32) : cX6_greatestView_34 q0 K4 n y1 y2 I = some o → EV E mX6_greatestView 34 [some (.ref q0), some (.int y1), some (.int y2)] [] (h_w σ I) (Option.some (Value.int o), h_w σ I) := by
  intro h
  unfold cX6_greatestView_34 at h
  obtain ⟨v1, ev1, h⟩ := ev_ltE h
  refine ew_iinc (L' := [some (.ref q0), some (.int y1), some (.int v1)]) dX6_greatestView_34 (Nat.le_of_ble_eq_true rfl) rfl (by decide) ev1 rfl ?_
  refine ev_goto (tgt := 4) dX6_greatestView_37 (by decide) ?_
  exact ev_weak (sb_s (sb_s (sb_s sb_0))) (k4 y1 v1 I _ h)
set_option maxRecDepth 100000 in
set_option maxHeartbeats 4000000 in
theorem tX6_greatestView_4 {E : ev_N} {σ : ev_H} (q0 : Nat) (g0 : shp tb7 σ q0) (K4 : Int32 → Int32 → ev_I → Option (Int32)) (k4 : ∀ (y1 : Int32) (y2 : Int32) (I : ev_I) (o : Int32), K4 y1 y2 I = some o → EV E mX6_greatestView 4 [some (.ref q0), some (.int y1), some (.int y2)] [] (h_w σ I) (Option.some (Value.int o), h_w σ I)) (n : Nat) (y1 : Int32) (y2 : Int32) (I : ev_I) (o : Int32) : cX6_greatestView_4 q0 K4 n y1 y2 I = some o → EV E mX6_greatestView 4 [some (.ref q0), some (.int y1), some (.int y2)] [] (h_w σ I) (Option.some (Value.int o), h_w σ I) := by
  intro h
  unfold cX6_greatestView_4 at h
  refine ev_iload_n dX6_greatestView_4 rfl ?_
  refine ev_aload_n dX6_greatestView_5 rfl (fun _ e => by cases e) ?_
  refine ew_get0 dX6_greatestView_6 fX6_158 g0 rfl rfl rfl ?_
  refine ev_icmp_ge (tgt := 40) dX6_greatestView_9 (by decide) (fun c2 => ?_) (fun c2 => ?_)
  · have h := ev_ifT h c2
    refine ev_iload_n dX6_greatestView_40 rfl ?_
    cases h
    exact er_i dX6_greatestView_41 rfl rfl
  · have h := ev_ifF h c2
    refine ev_aload_n dX6_greatestView_12 rfl (fun _ e => by cases e) ?_
    refine ev_iload_n dX6_greatestView_13 rfl ?_
    obtain ⟨z3, hz3, h⟩ := ev_bnE h
    refine ec_Vi (Y := mX8_isAwake) (ci := 7) (As := [.int y2]) (rest := []) dX6_greatestView_14 kX6_165 oX8_isAwake ⟨Nat.le_of_ble_eq_true rfl, Nat.le_of_ble_eq_true rfl⟩ (by decide) rfl (shp_n g0 0 rfl) (shp_t g0 0 rfl) rfl (Nat.le_of_ble_eq_true rfl) (tX8_isAwake n q0 g0 y2 I z3 hz3) rfl ?_
    refine ev_if_eq (tgt := 34) dX6_greatestView_17 (by decide) (fun c4 => ?_) (fun c4 => ?_)
    · have h := ev_ifT h c4
      exact ev_weak (sb_s (sb_s (sb_s sb_0))) (tX6_greatestView_34 q0 g0 K4 k4 n y1 y2 I _ h)
    · have h := ev_ifF h c4
      refine ev_iload_n dX6_greatestView_20 rfl ?_
      refine ev_aload_n dX6_greatestView_21 rfl (fun _ e => by cases e) ?_
      refine ew_getr0 dX6_greatestView_22 fX6_9 g0 rfl rfl rfl rfl ?_
      refine ev_iload_n dX6_greatestView_25 rfl ?_
      obtain ⟨c5, h⟩ := ev_ckE h
      refine ew_memb dX6_greatestView_26 g0 c5 ?_
      refine ew_get0 dX6_greatestView_27 fX6_21 (s73 g0 (ev_inL c5)) rfl rfl rfl ?_
      refine ev_max dX6_greatestView_30 kX6_152 zM_max.1 zM_max.2.1 zM_max.2.2 (Nat.le_of_ble_eq_true rfl) (Nat.le_of_ble_eq_true rfl) ?_
      obtain ⟨v6, ev6, h⟩ := ev_ltE h
      refine ew_nm ev6 ?_
      refine ew_istn (L' := [some (.ref q0), some (.int v6), some (.int y2)]) dX6_greatestView_33 (Nat.le_of_ble_eq_true rfl) rfl ?_
      exact ev_weak (sb_s (sb_s (sb_s sb_0))) (tX6_greatestView_34 q0 g0 K4 k4 n v6 y2 I _ h)
theorem tlX6_greatestView_4 {E : ev_N} {σ : ev_H} (q0 : Nat) (g0 : shp tb7 σ q0) : ∀ (n : Nat) (y1 : Int32) (y2 : Int32) (I : ev_I) (o : Int32), lX6_greatestView_4 q0 n y1 y2 I = some o → EV E mX6_greatestView 4 [some (.ref q0), some (.int y1), some (.int y2)] [] (h_w σ I) (Option.some (Value.int o), h_w σ I)
  | 0, _, _, _, _, h => by cases h
  | n + 1, y1, y2, I, o, h => tX6_greatestView_4 q0 g0 (lX6_greatestView_4 q0 n) (tlX6_greatestView_4 q0 g0 n) n y1 y2 I o h
set_option maxRecDepth 100000 in
set_option maxHeartbeats 4000000 in
theorem tX6_greatestView {E : ev_N} {σ : ev_H} (n : Nat) (q0 : Nat) (g0 : shp tb7 σ q0) (I : ev_I) (o : Int32) (h : pX6_greatestView n q0  I = some o) : ev_T E mX6_greatestView [.ref q0] (h_w σ I) (Option.some (Value.int o), h_w σ I) := by
  unfold pX6_greatestView at h
  refine ev_met rfl rfl (Nat.le_of_ble_eq_true rfl) (ev_L0 (L' := [some (.ref q0), none, none]) rfl ?_)
  refine ev_iconst (v := (0 : Int32)) dX6_greatestView_0 (by decide) ?_
  refine ew_istn (L' := [some (.ref q0), some (.int (0 : Int32)), none]) dX6_greatestView_1 (Nat.le_of_ble_eq_true rfl) rfl ?_
  refine ev_iconst (v := (0 : Int32)) dX6_greatestView_2 (by decide) ?_
  refine ew_istn (L' := [some (.ref q0), some (.int (0 : Int32)), some (.int (0 : Int32))]) dX6_greatestView_3 (Nat.le_of_ble_eq_true rfl) rfl ?_
  exact ev_weak (sb_s (sb_s (sb_s sb_0))) (tlX6_greatestView_4 q0 g0 n (0 : Int32) (0 : Int32) I _ h)
-- ChainVotes$Survey certifiedBlocks(LChainVotes$Blocks;)I
def cX6_certifiedBlocks_4 (q0 : Nat) (K4 : Int32 → Int32 → ev_I → Option (Int32)) (n : Nat) (y1 : Int32) (y2 : Int32) (I : ev_I) : Option (Int32) :=
  if (I q0 0) ≤ y2 then
    some y1
  else
    ev_ck (ev_in y2 100) <|
    ev_lt (y1 + (I (q0 + 8) y2.toNatClampNeg)) fun v3 =>
    ev_lt (y2 + (1 : Int32)) fun v4 =>
    K4 v3 v4 I
def lX6_certifiedBlocks_4 (q0 : Nat) : Nat → Int32 → Int32 → ev_I → Option (Int32)
  | 0, _, _, _ => none
  | n + 1, y1, y2, I => cX6_certifiedBlocks_4 q0 (lX6_certifiedBlocks_4 q0 n) n y1 y2 I
def pX6_certifiedBlocks (n : Nat) (q0 : Nat) (I : ev_I) : Option (Int32) :=
  lX6_certifiedBlocks_4 q0 n (0 : Int32) (0 : Int32) I
set_option maxRecDepth 100000 in
set_option maxHeartbeats 4000000 in
theorem tX6_certifiedBlocks_4 {E : ev_N} {σ : ev_H} (q0 : Nat) (g0 : shp tb1 σ q0) (K4 : Int32 → Int32 → ev_I → Option (Int32)) (k4 : ∀ (y1 : Int32) (y2 : Int32) (I : ev_I) (o : Int32), K4 y1 y2 I = some o → EV E mX6_certifiedBlocks 4 [some (.ref q0), some (.int y1), some (.int y2)] [] (h_w σ I) (Option.some (Value.int o), h_w σ I)) (n : Nat) (y1 : Int32) (y2 : Int32) (I : ev_I) (o : Int32) : cX6_certifiedBlocks_4 q0 K4 n y1 y2 I = some o → EV E mX6_certifiedBlocks 4 [some (.ref q0), some (.int y1), some (.int y2)] [] (h_w σ I) (Option.some (Value.int o), h_w σ I) := by
  intro h
  unfold cX6_certifiedBlocks_4 at h
  refine ev_iload_n dX6_certifiedBlocks_4 rfl ?_
  refine ev_aload_n dX6_certifiedBlocks_5 rfl (fun _ e => by cases e) ?_
  refine ew_get0 dX6_certifiedBlocks_6 fX6_130 g0 rfl rfl rfl ?_
  refine ev_icmp_ge (tgt := 27) dX6_certifiedBlocks_9 (by decide) (fun c1 => ?_) (fun c1 => ?_)
  · have h := ev_ifT h c1
    refine ev_iload_n dX6_certifiedBlocks_27 rfl ?_
    cases h
    exact er_i dX6_certifiedBlocks_28 rfl rfl
  · have h := ev_ifF h c1
    refine ev_iload_n dX6_certifiedBlocks_12 rfl ?_
    refine ev_aload_n dX6_certifiedBlocks_13 rfl (fun _ e => by cases e) ?_
    refine ew_getr0 dX6_certifiedBlocks_14 fX6_88 g0 rfl rfl rfl rfl ?_
    refine ev_iload_n dX6_certifiedBlocks_17 rfl ?_
    obtain ⟨c2, h⟩ := ev_ckE h
    refine ew_iald dX6_certifiedBlocks_18 (shp_a g0 8 rfl) c2 ?_
    refine ev_iadd dX6_certifiedBlocks_19 ?_
    obtain ⟨v3, ev3, h⟩ := ev_ltE h
    refine ew_nm ev3 ?_
    refine ew_istn (L' := [some (.ref q0), some (.int v3), some (.int y2)]) dX6_certifiedBlocks_20 (Nat.le_of_ble_eq_true rfl) rfl ?_
    obtain ⟨v4, ev4, h⟩ := ev_ltE h
    refine ew_iinc (L' := [some (.ref q0), some (.int v3), some (.int v4)]) dX6_certifiedBlocks_21 (Nat.le_of_ble_eq_true rfl) rfl (by decide) ev4 rfl ?_
    refine ev_goto (tgt := 4) dX6_certifiedBlocks_24 (by decide) ?_
    exact ev_weak (sb_s (sb_s (sb_s sb_0))) (k4 v3 v4 I _ h)
theorem tlX6_certifiedBlocks_4 {E : ev_N} {σ : ev_H} (q0 : Nat) (g0 : shp tb1 σ q0) : ∀ (n : Nat) (y1 : Int32) (y2 : Int32) (I : ev_I) (o : Int32), lX6_certifiedBlocks_4 q0 n y1 y2 I = some o → EV E mX6_certifiedBlocks 4 [some (.ref q0), some (.int y1), some (.int y2)] [] (h_w σ I) (Option.some (Value.int o), h_w σ I)
  | 0, _, _, _, _, h => by cases h
  | n + 1, y1, y2, I, o, h => tX6_certifiedBlocks_4 q0 g0 (lX6_certifiedBlocks_4 q0 n) (tlX6_certifiedBlocks_4 q0 g0 n) n y1 y2 I o h
set_option maxRecDepth 100000 in
set_option maxHeartbeats 4000000 in
theorem tX6_certifiedBlocks {E : ev_N} {σ : ev_H} (n : Nat) (q0 : Nat) (g0 : shp tb1 σ q0) (I : ev_I) (o : Int32) (h : pX6_certifiedBlocks n q0  I = some o) : ev_T E mX6_certifiedBlocks [.ref q0] (h_w σ I) (Option.some (Value.int o), h_w σ I) := by
  unfold pX6_certifiedBlocks at h
  refine ev_met rfl rfl (Nat.le_of_ble_eq_true rfl) (ev_L0 (L' := [some (.ref q0), none, none]) rfl ?_)
  refine ev_iconst (v := (0 : Int32)) dX6_certifiedBlocks_0 (by decide) ?_
  refine ew_istn (L' := [some (.ref q0), some (.int (0 : Int32)), none]) dX6_certifiedBlocks_1 (Nat.le_of_ble_eq_true rfl) rfl ?_
  refine ev_iconst (v := (0 : Int32)) dX6_certifiedBlocks_2 (by decide) ?_
  refine ew_istn (L' := [some (.ref q0), some (.int (0 : Int32)), some (.int (0 : Int32))]) dX6_certifiedBlocks_3 (Nat.le_of_ble_eq_true rfl) rfl ?_
  exact ev_weak (sb_s (sb_s (sb_s sb_0))) (tlX6_certifiedBlocks_4 q0 g0 n (0 : Int32) (0 : Int32) I _ h)
-- ChainVotes$Survey nodesOfMode(LChainVotes$World;I)I
def cX6_nodesOfMode_31 (q0 : Nat) (K4 : Int32 → Int32 → Int32 → ev_I → Option (Int32)) (n : Nat) (y1 : Int32) (y3 : Int32) (s0 : Int32) (s1 : Int32) (I : ev_I) : Option (Int32) :=
  (pX6_flag n  s1 I).bind fun z1 =>
  ev_lt (s0 ||| (z1 <<< (y3 &&& 31))) fun v2 =>
  ev_lt (y3 + (1 : Int32)) fun v3 =>
  K4 y1 v2 v3 I
def cX6_nodesOfMode_4 (q0 : Nat) (K4 : Int32 → Int32 → Int32 → ev_I → Option (Int32)) (n : Nat) (y1 : Int32) (y2 : Int32) (y3 : Int32) (I : ev_I) : Option (Int32) :=
  if (I q0 0) ≤ y3 then
    some y2
  else
    ev_ck (ev_in y3 7) <|
    if (I (q0 + (23 + 5 * y3.toNatClampNeg)) 0) = y1 then
      cX6_nodesOfMode_31 q0 K4 n y1 y3 y2 (1 : Int32) I
    else
      cX6_nodesOfMode_31 q0 K4 n y1 y3 y2 (0 : Int32) I
def lX6_nodesOfMode_4 (q0 : Nat) : Nat → Int32 → Int32 → Int32 → ev_I → Option (Int32)
  | 0, _, _, _, _ => none
  | n + 1, y1, y2, y3, I => cX6_nodesOfMode_4 q0 (lX6_nodesOfMode_4 q0 n) n y1 y2 y3 I
def pX6_nodesOfMode (n : Nat) (q0 : Nat) (x1 : Int32) (I : ev_I) : Option (Int32) :=
  lX6_nodesOfMode_4 q0 n x1 (0 : Int32) (0 : Int32) I
set_option maxRecDepth 100000 in
set_option maxHeartbeats 4000000 in
theorem tX6_nodesOfMode_31 {E : ev_N} {σ : ev_H} (q0 : Nat) (g0 : shp tb7 σ q0) (K4 : Int32 → Int32 → Int32 → ev_I → Option (Int32)) (k4 : ∀ (y1 : Int32) (y2 : Int32) (y3 : Int32) (I : ev_I) (o : Int32), K4 y1 y2 y3 I = some o → EV E mX6_nodesOfMode 4 [some (.ref q0), some (.int y1), some (.int y2), some (.int y3)] [] (h_w σ I) (Option.some (Value.int o), h_w σ I)) (n : Nat) (y1 : Int32) (y3 : Int32) (s0 : Int32) (s1 : Int32) (I : ev_I) (o : Int32) : cX6_nodesOfMode_31 q0 K4 n y1 y3 s0 s1 I = some o → EV E mX6_nodesOfMode 31 [some (.ref q0), some (.int y1), none, some (.int y3)] [(.int s1), (.int s0)] (h_w σ I) (Option.some (Value.int o), h_w σ I) := by
  intro h
  unfold cX6_nodesOfMode_31 at h
  obtain ⟨z1, hz1, h⟩ := ev_bnE h
  refine ec_Si (Y := mX6_flag) (As := [.int s1]) (rest := [(.int s0)]) dX6_nodesOfMode_31 kX6_56 oX6_flag ⟨Nat.le_of_ble_eq_true rfl, Nat.le_of_ble_eq_true rfl⟩ rfl (Nat.le_of_ble_eq_true rfl) (tX6_flag n   s1 I z1 hz1) rfl ?_
  refine ev_iload_n dX6_nodesOfMode_34 rfl ?_
  refine ev_ishl dX6_nodesOfMode_35 ?_
  refine ev_ior dX6_nodesOfMode_36 ?_
  obtain ⟨v2, ev2, h⟩ := ev_ltE h
  refine ew_nm ev2 ?_
  refine ew_istn (L' := [some (.ref q0), some (.int y1), some (.int v2), some (.int y3)]) dX6_nodesOfMode_37 (Nat.le_of_ble_eq_true rfl) rfl ?_
  obtain ⟨v3, ev3, h⟩ := ev_ltE h
  refine ew_iinc (L' := [some (.ref q0), some (.int y1), some (.int v2), some (.int v3)]) dX6_nodesOfMode_38 (Nat.le_of_ble_eq_true rfl) rfl (by decide) ev3 rfl ?_
  refine ev_goto (tgt := 4) dX6_nodesOfMode_41 (by decide) ?_
  exact ev_weak (sb_s (sb_s (sb_s (sb_s sb_0)))) (k4 y1 v2 v3 I _ h)
set_option maxRecDepth 100000 in
set_option maxHeartbeats 4000000 in
theorem tX6_nodesOfMode_4 {E : ev_N} {σ : ev_H} (q0 : Nat) (g0 : shp tb7 σ q0) (K4 : Int32 → Int32 → Int32 → ev_I → Option (Int32)) (k4 : ∀ (y1 : Int32) (y2 : Int32) (y3 : Int32) (I : ev_I) (o : Int32), K4 y1 y2 y3 I = some o → EV E mX6_nodesOfMode 4 [some (.ref q0), some (.int y1), some (.int y2), some (.int y3)] [] (h_w σ I) (Option.some (Value.int o), h_w σ I)) (n : Nat) (y1 : Int32) (y2 : Int32) (y3 : Int32) (I : ev_I) (o : Int32) : cX6_nodesOfMode_4 q0 K4 n y1 y2 y3 I = some o → EV E mX6_nodesOfMode 4 [some (.ref q0), some (.int y1), some (.int y2), some (.int y3)] [] (h_w σ I) (Option.some (Value.int o), h_w σ I) := by
  intro h
  unfold cX6_nodesOfMode_4 at h
  refine ev_iload_n dX6_nodesOfMode_4 rfl ?_
  refine ev_aload_n dX6_nodesOfMode_5 rfl (fun _ e => by cases e) ?_
  refine ew_get0 dX6_nodesOfMode_6 fX6_158 g0 rfl rfl rfl ?_
  refine ev_icmp_ge (tgt := 44) dX6_nodesOfMode_9 (by decide) (fun c4 => ?_) (fun c4 => ?_)
  · have h := ev_ifT h c4
    refine ev_iload_n dX6_nodesOfMode_44 rfl ?_
    cases h
    exact er_i dX6_nodesOfMode_45 rfl rfl
  · have h := ev_ifF h c4
    refine ev_iload_n dX6_nodesOfMode_12 rfl ?_
    refine ev_aload_n dX6_nodesOfMode_13 rfl (fun _ e => by cases e) ?_
    refine ew_getr0 dX6_nodesOfMode_14 fX6_9 g0 rfl rfl rfl rfl ?_
    refine ev_iload_n dX6_nodesOfMode_17 rfl ?_
    obtain ⟨c5, h⟩ := ev_ckE h
    refine ew_memb dX6_nodesOfMode_18 g0 c5 ?_
    refine ew_get0 dX6_nodesOfMode_19 fX6_15 (s73 g0 (ev_inL c5)) rfl rfl rfl ?_
    refine ev_iload_n dX6_nodesOfMode_22 rfl ?_
    refine ev_icmp_ne (tgt := 30) dX6_nodesOfMode_23 (by decide) (fun c6 => ?_) (fun c6 => ?_)
    · have h := ev_ifF h c6
      refine ev_iconst (v := (0 : Int32)) dX6_nodesOfMode_30 (by decide) ?_
      exact ev_weak (sb_s (sb_s (sb_n (sb_s sb_0)))) (tX6_nodesOfMode_31 q0 g0 K4 k4 n y1 y3 y2 (0 : Int32) I _ h)
    · have h := ev_ifT h c6
      refine ev_iconst (v := (1 : Int32)) dX6_nodesOfMode_26 (by decide) ?_
      refine ev_goto (tgt := 31) dX6_nodesOfMode_27 (by decide) ?_
      exact ev_weak (sb_s (sb_s (sb_n (sb_s sb_0)))) (tX6_nodesOfMode_31 q0 g0 K4 k4 n y1 y3 y2 (1 : Int32) I _ h)
theorem tlX6_nodesOfMode_4 {E : ev_N} {σ : ev_H} (q0 : Nat) (g0 : shp tb7 σ q0) : ∀ (n : Nat) (y1 : Int32) (y2 : Int32) (y3 : Int32) (I : ev_I) (o : Int32), lX6_nodesOfMode_4 q0 n y1 y2 y3 I = some o → EV E mX6_nodesOfMode 4 [some (.ref q0), some (.int y1), some (.int y2), some (.int y3)] [] (h_w σ I) (Option.some (Value.int o), h_w σ I)
  | 0, _, _, _, _, _, h => by cases h
  | n + 1, y1, y2, y3, I, o, h => tX6_nodesOfMode_4 q0 g0 (lX6_nodesOfMode_4 q0 n) (tlX6_nodesOfMode_4 q0 g0 n) n y1 y2 y3 I o h
set_option maxRecDepth 100000 in
set_option maxHeartbeats 4000000 in
theorem tX6_nodesOfMode {E : ev_N} {σ : ev_H} (n : Nat) (q0 : Nat) (g0 : shp tb7 σ q0) (x1 : Int32) (I : ev_I) (o : Int32) (h : pX6_nodesOfMode n q0 x1 I = some o) : ev_T E mX6_nodesOfMode [.ref q0, .int x1] (h_w σ I) (Option.some (Value.int o), h_w σ I) := by
  unfold pX6_nodesOfMode at h
  refine ev_met rfl rfl (Nat.le_of_ble_eq_true rfl) (ev_L0 (L' := [some (.ref q0), some (.int x1), none, none]) rfl ?_)
  refine ev_iconst (v := (0 : Int32)) dX6_nodesOfMode_0 (by decide) ?_
  refine ew_istn (L' := [some (.ref q0), some (.int x1), some (.int (0 : Int32)), none]) dX6_nodesOfMode_1 (Nat.le_of_ble_eq_true rfl) rfl ?_
  refine ev_iconst (v := (0 : Int32)) dX6_nodesOfMode_2 (by decide) ?_
  refine ew_istn (L' := [some (.ref q0), some (.int x1), some (.int (0 : Int32)), some (.int (0 : Int32))]) dX6_nodesOfMode_3 (Nat.le_of_ble_eq_true rfl) rfl ?_
  exact ev_weak (sb_s (sb_s (sb_s (sb_s sb_0)))) (tlX6_nodesOfMode_4 q0 g0 n x1 (0 : Int32) (0 : Int32) I _ h)
-- ChainVotes$Survey cutCouples(LChainVotes$World;)I
def cX6_cutCouples_4 (q0 : Nat) (K4 : Int32 → Int32 → ev_I → Option (Int32)) (n : Nat) (y1 : Int32) (y2 : Int32) (I : ev_I) : Option (Int32) :=
  if (I q0 0) ≤ y2 then
    some (y1 / (2 : Int32))
  else
    ev_ck (ev_in y2 7) <|
    (pJ6_bitCount_0f7a4 n  (I ((q0 + 11) + 2) y2.toNatClampNeg) I).bind fun z3 =>
    ev_lt (y1 + z3) fun v4 =>
    ev_lt (y2 + (1 : Int32)) fun v5 =>
    K4 v4 v5 I
def lX6_cutCouples_4 (q0 : Nat) : Nat → Int32 → Int32 → ev_I → Option (Int32)
  | 0, _, _, _ => none
  | n + 1, y1, y2, I => cX6_cutCouples_4 q0 (lX6_cutCouples_4 q0 n) n y1 y2 I
def pX6_cutCouples (n : Nat) (q0 : Nat) (I : ev_I) : Option (Int32) :=
  lX6_cutCouples_4 q0 n (0 : Int32) (0 : Int32) I
set_option maxRecDepth 100000 in
set_option maxHeartbeats 4000000 in
theorem tX6_cutCouples_4 {E : ev_N} {σ : ev_H} (q0 : Nat) (g0 : shp tb7 σ q0) (K4 : Int32 → Int32 → ev_I → Option (Int32)) (k4 : ∀ (y1 : Int32) (y2 : Int32) (I : ev_I) (o : Int32), K4 y1 y2 I = some o → EV E mX6_cutCouples 4 [some (.ref q0), some (.int y1), some (.int y2)] [] (h_w σ I) (Option.some (Value.int o), h_w σ I)) (n : Nat) (y1 : Int32) (y2 : Int32) (I : ev_I) (o : Int32) : cX6_cutCouples_4 q0 K4 n y1 y2 I = some o → EV E mX6_cutCouples 4 [some (.ref q0), some (.int y1), some (.int y2)] [] (h_w σ I) (Option.some (Value.int o), h_w σ I) := by
  intro h
  unfold cX6_cutCouples_4 at h
  refine ev_iload_n dX6_cutCouples_4 rfl ?_
  refine ev_aload_n dX6_cutCouples_5 rfl (fun _ e => by cases e) ?_
  refine ew_get0 dX6_cutCouples_6 fX6_158 g0 rfl rfl rfl ?_
  refine ev_icmp_ge (tgt := 33) dX6_cutCouples_9 (by decide) (fun c1 => ?_) (fun c1 => ?_)
  · have h := ev_ifT h c1
    refine ev_iload_n dX6_cutCouples_33 rfl ?_
    refine ev_iconst (v := (2 : Int32)) dX6_cutCouples_34 (by decide) ?_
    refine ev_idiv dX6_cutCouples_35 (by decide) ?_
    cases h
    exact er_i dX6_cutCouples_36 rfl rfl
  · have h := ev_ifF h c1
    refine ev_iload_n dX6_cutCouples_12 rfl ?_
    refine ev_aload_n dX6_cutCouples_13 rfl (fun _ e => by cases e) ?_
    refine ew_getr0 dX6_cutCouples_14 fX6_211 g0 rfl rfl rfl rfl ?_
    refine ew_getr0 dX6_cutCouples_17 fX6_271 (s74 g0) rfl rfl rfl rfl ?_
    refine ev_iload_n dX6_cutCouples_20 rfl ?_
    obtain ⟨c2, h⟩ := ev_ckE h
    refine ew_iald dX6_cutCouples_21 (shp_a (s74 g0) 2 rfl) c2 ?_
    obtain ⟨z3, hz3, h⟩ := ev_bnE h
    refine ec_Si (Y := mJ6_bitCount_0f7a4) (As := [.int (I ((q0 + 11) + 2) y2.toNatClampNeg)]) (rest := [(.int y1)]) dX6_cutCouples_22 kX6_179 oJ6_bitCount_0f7a4 ⟨Nat.le_of_ble_eq_true rfl, Nat.le_of_ble_eq_true rfl⟩ rfl (Nat.le_of_ble_eq_true rfl) (tJ6_bitCount_0f7a4 n   (I ((q0 + 11) + 2) y2.toNatClampNeg) I z3 hz3) rfl ?_
    refine ev_iadd dX6_cutCouples_25 ?_
    obtain ⟨v4, ev4, h⟩ := ev_ltE h
    refine ew_nm ev4 ?_
    refine ew_istn (L' := [some (.ref q0), some (.int v4), some (.int y2)]) dX6_cutCouples_26 (Nat.le_of_ble_eq_true rfl) rfl ?_
    obtain ⟨v5, ev5, h⟩ := ev_ltE h
    refine ew_iinc (L' := [some (.ref q0), some (.int v4), some (.int v5)]) dX6_cutCouples_27 (Nat.le_of_ble_eq_true rfl) rfl (by decide) ev5 rfl ?_
    refine ev_goto (tgt := 4) dX6_cutCouples_30 (by decide) ?_
    exact ev_weak (sb_s (sb_s (sb_s sb_0))) (k4 v4 v5 I _ h)
theorem tlX6_cutCouples_4 {E : ev_N} {σ : ev_H} (q0 : Nat) (g0 : shp tb7 σ q0) : ∀ (n : Nat) (y1 : Int32) (y2 : Int32) (I : ev_I) (o : Int32), lX6_cutCouples_4 q0 n y1 y2 I = some o → EV E mX6_cutCouples 4 [some (.ref q0), some (.int y1), some (.int y2)] [] (h_w σ I) (Option.some (Value.int o), h_w σ I)
  | 0, _, _, _, _, h => by cases h
  | n + 1, y1, y2, I, o, h => tX6_cutCouples_4 q0 g0 (lX6_cutCouples_4 q0 n) (tlX6_cutCouples_4 q0 g0 n) n y1 y2 I o h
set_option maxRecDepth 100000 in
set_option maxHeartbeats 4000000 in
theorem tX6_cutCouples {E : ev_N} {σ : ev_H} (n : Nat) (q0 : Nat) (g0 : shp tb7 σ q0) (I : ev_I) (o : Int32) (h : pX6_cutCouples n q0  I = some o) : ev_T E mX6_cutCouples [.ref q0] (h_w σ I) (Option.some (Value.int o), h_w σ I) := by
  unfold pX6_cutCouples at h
  refine ev_met rfl rfl (Nat.le_of_ble_eq_true rfl) (ev_L0 (L' := [some (.ref q0), none, none]) rfl ?_)
  refine ev_iconst (v := (0 : Int32)) dX6_cutCouples_0 (by decide) ?_
  refine ew_istn (L' := [some (.ref q0), some (.int (0 : Int32)), none]) dX6_cutCouples_1 (Nat.le_of_ble_eq_true rfl) rfl ?_
  refine ev_iconst (v := (0 : Int32)) dX6_cutCouples_2 (by decide) ?_
  refine ew_istn (L' := [some (.ref q0), some (.int (0 : Int32)), some (.int (0 : Int32))]) dX6_cutCouples_3 (Nat.le_of_ble_eq_true rfl) rfl ?_
  exact ev_weak (sb_s (sb_s (sb_s sb_0))) (tlX6_cutCouples_4 q0 g0 n (0 : Int32) (0 : Int32) I _ h)
-- ChainVotes$Survey distance(LChainVotes$World;LChainVotes$Member;I)I
def pX6_distance (n : Nat) (q0 : Nat) (q1 : Nat) (x2 : Int32) (I : ev_I) : Option (Int32) :=
  (pX3_lastLogged n q1  I).bind fun z1 =>
  if x2 = (0 : Int32) then
    ev_ck (ev_in z1 100) <|
    some ((I q1 1) - (I ((q0 + 1) + 1) z1.toNatClampNeg))
  else
  if x2 = (1 : Int32) then
    ev_ck (ev_in (I q1 5) 100) <|
    ev_ck (ev_in z1 100) <|
    some ((I ((q0 + 1) + 6) (I q1 5).toNatClampNeg) - (I ((q0 + 1) + 6) z1.toNatClampNeg))
  else
  if x2 = (2 : Int32) then
    (pX1_reaches n (q0 + 1) (I q1 5) (I q1 6) I).bind fun z8 =>
    (pX6_flag n  z8 I).bind fun z9 =>
    some z9
  else
  if x2 = (3 : Int32) then
    (pX1_reaches n (q0 + 1) (I q1 6) z1 I).bind fun z11 =>
    (pX6_flag n  z11 I).bind fun z12 =>
    some z12
  else
  if x2 = (4 : Int32) then
    some (I q1 10)
  else
  if x2 = (5 : Int32) then
    (pX6_countFilled n (q1 + 4) 201 (201 : Int32) I).bind fun z15 =>
    some z15
  else
  if x2 = (6 : Int32) then
    (pX6_countFilled n (q1 + 3) 100 (I (q0 + 1) 0) I).bind fun z17 =>
    some z17
  else
  some (-100000 : Int32)
set_option maxRecDepth 100000 in
set_option maxHeartbeats 4000000 in
theorem tX6_distance {E : ev_N} {σ : ev_H} (n : Nat) (q0 : Nat) (q1 : Nat) (g0 : shp tb7 σ q0) (g1 : shp tb3 σ q1) (x2 : Int32) (I : ev_I) (o : Int32) (h : pX6_distance n q0 q1 x2 I = some o) : ev_T E mX6_distance [.ref q0, .ref q1, .int x2] (h_w σ I) (Option.some (Value.int o), h_w σ I) := by
  unfold pX6_distance at h
  refine ev_met rfl rfl (Nat.le_of_ble_eq_true rfl) (ev_L0 (L' := [some (.ref q0), some (.ref q1), some (.int x2), none, none]) rfl ?_)
  refine ev_aload_n dX6_distance_0 rfl (fun _ e => by cases e) ?_
  refine ew_getr0 dX6_distance_1 fX6_109 g0 rfl rfl rfl rfl ?_
  refine ew_astn (L' := [some (.ref q0), some (.ref q1), some (.int x2), some (.ref (q0 + 1)), none]) dX6_distance_4 (Nat.le_of_ble_eq_true rfl) (fun _ e => by cases e) rfl ?_
  refine ev_aload_n dX6_distance_5 rfl (fun _ e => by cases e) ?_
  obtain ⟨z1, hz1, h⟩ := ev_bnE h
  refine ec_Vi (Y := mX3_lastLogged) (ci := 3) (As := []) (rest := []) dX6_distance_6 kX6_45 oX3_lastLogged ⟨Nat.le_of_ble_eq_true rfl, Nat.le_of_ble_eq_true rfl⟩ (by decide) rfl (shp_n g1 0 rfl) (shp_t g1 0 rfl) rfl (Nat.le_of_ble_eq_true rfl) (tX3_lastLogged n q1 g1  I z1 hz1) rfl ?_
  refine ew_ist (L' := [some (.ref q0), some (.ref q1), some (.int x2), some (.ref (q0 + 1)), some (.int z1)]) dX6_distance_9 (Nat.le_of_ble_eq_true rfl) rfl ?_
  refine ev_iload_n dX6_distance_11 rfl ?_
  by_cases c2 : x2 = (0 : Int32)
  · have h := ev_ifT h c2
    refine ev_table (tgt := 56) dX6_distance_12 (by rw [c2]; decide) (by decide) ?_
    refine ev_aload_n dX6_distance_56 rfl (fun _ e => by cases e) ?_
    refine ew_get0 dX6_distance_57 fX6_21 g1 rfl rfl rfl ?_
    refine ev_aload_n dX6_distance_60 rfl (fun _ e => by cases e) ?_
    refine ew_getr0 dX6_distance_61 fX6_65 (s71 g0) rfl rfl rfl rfl ?_
    refine ev_iload dX6_distance_64 rfl ?_
    obtain ⟨c3, h⟩ := ev_ckE h
    refine ew_iald dX6_distance_66 (shp_a (s71 g0) 1 rfl) c3 ?_
    refine ev_isub dX6_distance_67 ?_
    cases h
    exact er_i dX6_distance_68 rfl rfl
  have h := ev_ifF h c2
  by_cases c4 : x2 = (1 : Int32)
  · have h := ev_ifT h c4
    refine ev_table (tgt := 69) dX6_distance_12 (by rw [c4]; decide) (by decide) ?_
    refine ev_aload_n dX6_distance_69 rfl (fun _ e => by cases e) ?_
    refine ew_getr0 dX6_distance_70 fX6_82 (s71 g0) rfl rfl rfl rfl ?_
    refine ev_aload_n dX6_distance_73 rfl (fun _ e => by cases e) ?_
    refine ew_get0 dX6_distance_74 fX6_33 g1 rfl rfl rfl ?_
    obtain ⟨c5, h⟩ := ev_ckE h
    refine ew_iald dX6_distance_77 (shp_a (s71 g0) 6 rfl) c5 ?_
    refine ev_aload_n dX6_distance_78 rfl (fun _ e => by cases e) ?_
    refine ew_getr0 dX6_distance_79 fX6_82 (s71 g0) rfl rfl rfl rfl ?_
    refine ev_iload dX6_distance_82 rfl ?_
    obtain ⟨c6, h⟩ := ev_ckE h
    refine ew_iald dX6_distance_84 (shp_a (s71 g0) 6 rfl) c6 ?_
    refine ev_isub dX6_distance_85 ?_
    cases h
    exact er_i dX6_distance_86 rfl rfl
  have h := ev_ifF h c4
  by_cases c7 : x2 = (2 : Int32)
  · have h := ev_ifT h c7
    refine ev_table (tgt := 87) dX6_distance_12 (by rw [c7]; decide) (by decide) ?_
    refine ev_aload_n dX6_distance_87 rfl (fun _ e => by cases e) ?_
    refine ev_aload_n dX6_distance_88 rfl (fun _ e => by cases e) ?_
    refine ew_get0 dX6_distance_89 fX6_33 g1 rfl rfl rfl ?_
    refine ev_aload_n dX6_distance_92 rfl (fun _ e => by cases e) ?_
    refine ew_get0 dX6_distance_93 fX6_36 g1 rfl rfl rfl ?_
    obtain ⟨z8, hz8, h⟩ := ev_bnE h
    refine ec_Vi (Y := mX1_reaches) (ci := 1) (As := [.int (I q1 5), .int (I q1 6)]) (rest := []) dX6_distance_96 kX6_113 oX1_reaches ⟨Nat.le_of_ble_eq_true rfl, Nat.le_of_ble_eq_true rfl⟩ (by decide) rfl (shp_n (s71 g0) 0 rfl) (shp_t (s71 g0) 0 rfl) rfl (Nat.le_of_ble_eq_true rfl) (tX1_reaches n (q0 + 1) (s71 g0) (I q1 5) (I q1 6) I z8 hz8) rfl ?_
    obtain ⟨z9, hz9, h⟩ := ev_bnE h
    refine ec_Si (Y := mX6_flag) (As := [.int z8]) (rest := []) dX6_distance_99 kX6_56 oX6_flag ⟨Nat.le_of_ble_eq_true rfl, Nat.le_of_ble_eq_true rfl⟩ rfl (Nat.le_of_ble_eq_true rfl) (tX6_flag n   z8 I z9 hz9) rfl ?_
    cases h
    exact er_i dX6_distance_102 rfl rfl
  have h := ev_ifF h c7
  by_cases c10 : x2 = (3 : Int32)
  · have h := ev_ifT h c10
    refine ev_table (tgt := 103) dX6_distance_12 (by rw [c10]; decide) (by decide) ?_
    refine ev_aload_n dX6_distance_103 rfl (fun _ e => by cases e) ?_
    refine ev_aload_n dX6_distance_104 rfl (fun _ e => by cases e) ?_
    refine ew_get0 dX6_distance_105 fX6_36 g1 rfl rfl rfl ?_
    refine ev_iload dX6_distance_108 rfl ?_
    obtain ⟨z11, hz11, h⟩ := ev_bnE h
    refine ec_Vi (Y := mX1_reaches) (ci := 1) (As := [.int (I q1 6), .int z1]) (rest := []) dX6_distance_110 kX6_113 oX1_reaches ⟨Nat.le_of_ble_eq_true rfl, Nat.le_of_ble_eq_true rfl⟩ (by decide) rfl (shp_n (s71 g0) 0 rfl) (shp_t (s71 g0) 0 rfl) rfl (Nat.le_of_ble_eq_true rfl) (tX1_reaches n (q0 + 1) (s71 g0) (I q1 6) z1 I z11 hz11) rfl ?_
    obtain ⟨z12, hz12, h⟩ := ev_bnE h
    refine ec_Si (Y := mX6_flag) (As := [.int z11]) (rest := []) dX6_distance_113 kX6_56 oX6_flag ⟨Nat.le_of_ble_eq_true rfl, Nat.le_of_ble_eq_true rfl⟩ rfl (Nat.le_of_ble_eq_true rfl) (tX6_flag n   z11 I z12 hz12) rfl ?_
    cases h
    exact er_i dX6_distance_116 rfl rfl
  have h := ev_ifF h c10
  by_cases c13 : x2 = (4 : Int32)
  · have h := ev_ifT h c13
    refine ev_table (tgt := 117) dX6_distance_12 (by rw [c13]; decide) (by decide) ?_
    refine ev_aload_n dX6_distance_117 rfl (fun _ e => by cases e) ?_
    refine ew_get0 dX6_distance_118 fX6_117 g1 rfl rfl rfl ?_
    cases h
    exact er_i dX6_distance_121 rfl rfl
  have h := ev_ifF h c13
  by_cases c14 : x2 = (5 : Int32)
  · have h := ev_ifT h c14
    refine ev_table (tgt := 122) dX6_distance_12 (by rw [c14]; decide) (by decide) ?_
    refine ev_aload_n dX6_distance_122 rfl (fun _ e => by cases e) ?_
    refine ew_getr0 dX6_distance_123 fX6_120 g1 rfl rfl rfl rfl ?_
    refine ev_sipush (v := (201 : Int32)) dX6_distance_126 (by decide) ?_
    obtain ⟨z15, hz15, h⟩ := ev_bnE h
    refine ec_Si (Y := mX6_countFilled) (As := [.ref (q1 + 4), .int (201 : Int32)]) (rest := []) dX6_distance_129 kX6_123 oX6_countFilled ⟨Nat.le_of_ble_eq_true rfl, Nat.le_of_ble_eq_true rfl⟩ rfl (Nat.le_of_ble_eq_true rfl) (tX6_countFilled n (q1 + 4) 201 (shp_a g1 4 rfl) (201 : Int32) I z15 hz15) rfl ?_
    cases h
    exact er_i dX6_distance_132 rfl rfl
  have h := ev_ifF h c14
  by_cases c16 : x2 = (6 : Int32)
  · have h := ev_ifT h c16
    refine ev_table (tgt := 133) dX6_distance_12 (by rw [c16]; decide) (by decide) ?_
    refine ev_aload_n dX6_distance_133 rfl (fun _ e => by cases e) ?_
    refine ew_getr0 dX6_distance_134 fX6_127 g1 rfl rfl rfl rfl ?_
    refine ev_aload_n dX6_distance_137 rfl (fun _ e => by cases e) ?_
    refine ew_get0 dX6_distance_138 fX6_130 (s71 g0) rfl rfl rfl ?_
    obtain ⟨z17, hz17, h⟩ := ev_bnE h
    refine ec_Si (Y := mX6_countFilled) (As := [.ref (q1 + 3), .int (I (q0 + 1) 0)]) (rest := []) dX6_distance_141 kX6_123 oX6_countFilled ⟨Nat.le_of_ble_eq_true rfl, Nat.le_of_ble_eq_true rfl⟩ rfl (Nat.le_of_ble_eq_true rfl) (tX6_countFilled n (q1 + 3) 100 (shp_a g1 3 rfl) (I (q0 + 1) 0) I z17 hz17) rfl ?_
    cases h
    exact er_i dX6_distance_144 rfl rfl
  have h := ev_ifF h c16
  refine ev_table (tgt := 145) dX6_distance_12 (by rw [if_pos (sw_out _ _ x2 (by intro i h1 h2; rcases (show i = 0 ∨ i = 1 ∨ i = 2 ∨ i = 3 ∨ i = 4 ∨ i = 5 ∨ i = 6 by omega) with rfl | rfl | rfl | rfl | rfl | rfl | rfl <;> first | exact ⟨_, by decide, c2⟩ | exact ⟨_, by decide, c4⟩ | exact ⟨_, by decide, c7⟩ | exact ⟨_, by decide, c10⟩ | exact ⟨_, by decide, c13⟩ | exact ⟨_, by decide, c14⟩ | exact ⟨_, by decide, c16⟩))]; rfl) (by decide) ?_
  refine ev_ldc (v := (-100000 : Int32)) dX6_distance_145 vX6_133 ?_
  cases h
  exact er_i dX6_distance_147 rfl rfl
-- ChainVotes$Survey ofChain(LChainVotes$World;II)I
def pX6_ofChain (n : Nat) (q0 : Nat) (x1 : Int32) (x2 : Int32) (I : ev_I) : Option (Int32) :=
  if x2 = (0 : Int32) then
    ev_ck (ev_in x1 100) <|
    some ((I ((q0 + 1) + 6) x1.toNatClampNeg) + (1 : Int32))
  else
  if x2 = (1 : Int32) then
    (pX6_payloadsOf n (q0 + 1) x1 I).bind fun z4 =>
    some z4
  else
  if x2 = (2 : Int32) then
    (pX6_childrenOf n (q0 + 1) x1 (0 : Int32) I).bind fun z6 =>
    some z6
  else
  if x2 = (3 : Int32) then
    (pX6_childrenOf n (q0 + 1) x1 (1 : Int32) I).bind fun z8 =>
    some z8
  else
  if x2 = (4 : Int32) then
    (pX6_committersOf n q0 x1 I).bind fun z10 =>
    some z10
  else
  if x2 = (5 : Int32) then
    (pX1_viewsInARow n (q0 + 1) x1 I).bind fun z12 =>
    some z12
  else
  if x2 = (6 : Int32) then
    (pX6_holdersOf n q0 x1 I).bind fun z14 =>
    some z14
  else
  some (-1 : Int32)
set_option maxRecDepth 100000 in
set_option maxHeartbeats 4000000 in
theorem tX6_ofChain {E : ev_N} {σ : ev_H} (n : Nat) (q0 : Nat) (g0 : shp tb7 σ q0) (x1 : Int32) (x2 : Int32) (I : ev_I) (o : Int32) (h : pX6_ofChain n q0 x1 x2 I = some o) : ev_T E mX6_ofChain [.ref q0, .int x1, .int x2] (h_w σ I) (Option.some (Value.int o), h_w σ I) := by
  unfold pX6_ofChain at h
  refine ev_met rfl rfl (Nat.le_of_ble_eq_true rfl) (ev_L0 (L' := [some (.ref q0), some (.int x1), some (.int x2)]) rfl ?_)
  refine ev_iload_n dX6_ofChain_0 rfl ?_
  by_cases c1 : x2 = (0 : Int32)
  · have h := ev_ifT h c1
    refine ev_table (tgt := 44) dX6_ofChain_1 (by rw [c1]; decide) (by decide) ?_
    refine ev_aload_n dX6_ofChain_44 rfl (fun _ e => by cases e) ?_
    refine ew_getr0 dX6_ofChain_45 fX6_109 g0 rfl rfl rfl rfl ?_
    refine ew_getr0 dX6_ofChain_48 fX6_82 (s71 g0) rfl rfl rfl rfl ?_
    refine ev_iload_n dX6_ofChain_51 rfl ?_
    obtain ⟨c2, h⟩ := ev_ckE h
    refine ew_iald dX6_ofChain_52 (shp_a (s71 g0) 6 rfl) c2 ?_
    refine ev_iconst (v := (1 : Int32)) dX6_ofChain_53 (by decide) ?_
    refine ev_iadd dX6_ofChain_54 ?_
    cases h
    exact er_i dX6_ofChain_55 rfl rfl
  have h := ev_ifF h c1
  by_cases c3 : x2 = (1 : Int32)
  · have h := ev_ifT h c3
    refine ev_table (tgt := 56) dX6_ofChain_1 (by rw [c3]; decide) (by decide) ?_
    refine ev_aload_n dX6_ofChain_56 rfl (fun _ e => by cases e) ?_
    refine ew_getr0 dX6_ofChain_57 fX6_109 g0 rfl rfl rfl rfl ?_
    refine ev_iload_n dX6_ofChain_60 rfl ?_
    obtain ⟨z4, hz4, h⟩ := ev_bnE h
    refine ec_Si (Y := mX6_payloadsOf) (As := [.ref (q0 + 1), .int x1]) (rest := []) dX6_ofChain_61 kX6_134 oX6_payloadsOf ⟨Nat.le_of_ble_eq_true rfl, Nat.le_of_ble_eq_true rfl⟩ rfl (Nat.le_of_ble_eq_true rfl) (tX6_payloadsOf n (q0 + 1) (s71 g0) x1 I z4 hz4) rfl ?_
    cases h
    exact er_i dX6_ofChain_64 rfl rfl
  have h := ev_ifF h c3
  by_cases c5 : x2 = (2 : Int32)
  · have h := ev_ifT h c5
    refine ev_table (tgt := 65) dX6_ofChain_1 (by rw [c5]; decide) (by decide) ?_
    refine ev_aload_n dX6_ofChain_65 rfl (fun _ e => by cases e) ?_
    refine ew_getr0 dX6_ofChain_66 fX6_109 g0 rfl rfl rfl rfl ?_
    refine ev_iload_n dX6_ofChain_69 rfl ?_
    refine ev_iconst (v := (0 : Int32)) dX6_ofChain_70 (by decide) ?_
    obtain ⟨z6, hz6, h⟩ := ev_bnE h
    refine ec_Si (Y := mX6_childrenOf) (As := [.ref (q0 + 1), .int x1, .int (0 : Int32)]) (rest := []) dX6_ofChain_71 kX6_138 oX6_childrenOf ⟨Nat.le_of_ble_eq_true rfl, Nat.le_of_ble_eq_true rfl⟩ rfl (Nat.le_of_ble_eq_true rfl) (tX6_childrenOf n (q0 + 1) (s71 g0) x1 (0 : Int32) I z6 hz6) rfl ?_
    cases h
    exact er_i dX6_ofChain_74 rfl rfl
  have h := ev_ifF h c5
  by_cases c7 : x2 = (3 : Int32)
  · have h := ev_ifT h c7
    refine ev_table (tgt := 75) dX6_ofChain_1 (by rw [c7]; decide) (by decide) ?_
    refine ev_aload_n dX6_ofChain_75 rfl (fun _ e => by cases e) ?_
    refine ew_getr0 dX6_ofChain_76 fX6_109 g0 rfl rfl rfl rfl ?_
    refine ev_iload_n dX6_ofChain_79 rfl ?_
    refine ev_iconst (v := (1 : Int32)) dX6_ofChain_80 (by decide) ?_
    obtain ⟨z8, hz8, h⟩ := ev_bnE h
    refine ec_Si (Y := mX6_childrenOf) (As := [.ref (q0 + 1), .int x1, .int (1 : Int32)]) (rest := []) dX6_ofChain_81 kX6_138 oX6_childrenOf ⟨Nat.le_of_ble_eq_true rfl, Nat.le_of_ble_eq_true rfl⟩ rfl (Nat.le_of_ble_eq_true rfl) (tX6_childrenOf n (q0 + 1) (s71 g0) x1 (1 : Int32) I z8 hz8) rfl ?_
    cases h
    exact er_i dX6_ofChain_84 rfl rfl
  have h := ev_ifF h c7
  by_cases c9 : x2 = (4 : Int32)
  · have h := ev_ifT h c9
    refine ev_table (tgt := 85) dX6_ofChain_1 (by rw [c9]; decide) (by decide) ?_
    refine ev_aload_n dX6_ofChain_85 rfl (fun _ e => by cases e) ?_
    refine ev_iload_n dX6_ofChain_86 rfl ?_
    obtain ⟨z10, hz10, h⟩ := ev_bnE h
    refine ec_Si (Y := mX6_committersOf) (As := [.ref q0, .int x1]) (rest := []) dX6_ofChain_87 kX6_142 oX6_committersOf ⟨Nat.le_of_ble_eq_true rfl, Nat.le_of_ble_eq_true rfl⟩ rfl (Nat.le_of_ble_eq_true rfl) (tX6_committersOf n q0 g0 x1 I z10 hz10) rfl ?_
    cases h
    exact er_i dX6_ofChain_90 rfl rfl
  have h := ev_ifF h c9
  by_cases c11 : x2 = (5 : Int32)
  · have h := ev_ifT h c11
    refine ev_table (tgt := 91) dX6_ofChain_1 (by rw [c11]; decide) (by decide) ?_
    refine ev_aload_n dX6_ofChain_91 rfl (fun _ e => by cases e) ?_
    refine ew_getr0 dX6_ofChain_92 fX6_109 g0 rfl rfl rfl rfl ?_
    refine ev_iload_n dX6_ofChain_95 rfl ?_
    obtain ⟨z12, hz12, h⟩ := ev_bnE h
    refine ec_Vi (Y := mX1_viewsInARow) (ci := 1) (As := [.int x1]) (rest := []) dX6_ofChain_96 kX6_146 oX1_viewsInARow ⟨Nat.le_of_ble_eq_true rfl, Nat.le_of_ble_eq_true rfl⟩ (by decide) rfl (shp_n (s71 g0) 0 rfl) (shp_t (s71 g0) 0 rfl) rfl (Nat.le_of_ble_eq_true rfl) (tX1_viewsInARow n (q0 + 1) (s71 g0) x1 I z12 hz12) rfl ?_
    cases h
    exact er_i dX6_ofChain_99 rfl rfl
  have h := ev_ifF h c11
  by_cases c13 : x2 = (6 : Int32)
  · have h := ev_ifT h c13
    refine ev_table (tgt := 100) dX6_ofChain_1 (by rw [c13]; decide) (by decide) ?_
    refine ev_aload_n dX6_ofChain_100 rfl (fun _ e => by cases e) ?_
    refine ev_iload_n dX6_ofChain_101 rfl ?_
    obtain ⟨z14, hz14, h⟩ := ev_bnE h
    refine ec_Si (Y := mX6_holdersOf) (As := [.ref q0, .int x1]) (rest := []) dX6_ofChain_102 kX6_149 oX6_holdersOf ⟨Nat.le_of_ble_eq_true rfl, Nat.le_of_ble_eq_true rfl⟩ rfl (Nat.le_of_ble_eq_true rfl) (tX6_holdersOf n q0 g0 x1 I z14 hz14) rfl ?_
    cases h
    exact er_i dX6_ofChain_105 rfl rfl
  have h := ev_ifF h c13
  refine ev_table (tgt := 106) dX6_ofChain_1 (by rw [if_pos (sw_out _ _ x2 (by intro i h1 h2; rcases (show i = 0 ∨ i = 1 ∨ i = 2 ∨ i = 3 ∨ i = 4 ∨ i = 5 ∨ i = 6 by omega) with rfl | rfl | rfl | rfl | rfl | rfl | rfl <;> first | exact ⟨_, by decide, c1⟩ | exact ⟨_, by decide, c3⟩ | exact ⟨_, by decide, c5⟩ | exact ⟨_, by decide, c7⟩ | exact ⟨_, by decide, c9⟩ | exact ⟨_, by decide, c11⟩ | exact ⟨_, by decide, c13⟩))]; rfl) (by decide) ?_
  refine ev_iconst (v := (-1 : Int32)) dX6_ofChain_106 (by decide) ?_
  cases h
  exact er_i dX6_ofChain_107 rfl rfl
-- ChainVotes$Survey commonLog(LChainVotes$World;)I
def cX6_commonLog_58 (q0 : Nat) (K6 : Int32 → Int32 → Int32 → ev_I → Option (Int32)) (n : Nat) (y1 : Int32) (y2 : Int32) (y3 : Int32) (I : ev_I) : Option (Int32) :=
  ev_lt (y3 + (1 : Int32)) fun v1 =>
  K6 y1 y2 v1 I
def cX6_commonLog_55 (q0 : Nat) (K6 : Int32 → Int32 → Int32 → ev_I → Option (Int32)) (n : Nat) (y3 : Int32) (s0 : Int32) (I : ev_I) : Option (Int32) :=
  cX6_commonLog_58 q0 K6 n y3 s0 y3 I
def cX6_commonLog_6 (q0 : Nat) (K6 : Int32 → Int32 → Int32 → ev_I → Option (Int32)) (n : Nat) (y1 : Int32) (y2 : Int32) (y3 : Int32) (I : ev_I) : Option (Int32) :=
  if (I q0 0) ≤ y3 then
    some y2
  else
    (pX8_isAwake n q0 y3 I).bind fun z3 =>
    if z3 = 0 then
      cX6_commonLog_58 q0 K6 n y1 y2 y3 I
    else
      if y1 = (-1 : Int32) then
        ev_ck (ev_in y3 7) <|
        cX6_commonLog_55 q0 K6 n y3 (I (q0 + (23 + 5 * y3.toNatClampNeg)) 9) I
      else
        ev_ck (ev_in y1 7) <|
        ev_ck (ev_in y3 7) <|
        (pX6_sharedLog n (q0 + (23 + 5 * y1.toNatClampNeg)) (q0 + (23 + 5 * y3.toNatClampNeg)) y2 I).bind fun z8 =>
        cX6_commonLog_55 q0 K6 n y3 z8 I
def lX6_commonLog_6 (q0 : Nat) : Nat → Int32 → Int32 → Int32 → ev_I → Option (Int32)
  | 0, _, _, _, _ => none
  | n + 1, y1, y2, y3, I => cX6_commonLog_6 q0 (lX6_commonLog_6 q0 n) n y1 y2 y3 I
def pX6_commonLog (n : Nat) (q0 : Nat) (I : ev_I) : Option (Int32) :=
  lX6_commonLog_6 q0 n (-1 : Int32) (0 : Int32) (0 : Int32) I
set_option maxRecDepth 100000 in
set_option maxHeartbeats 4000000 in
theorem tX6_commonLog_58 {E : ev_N} {σ : ev_H} (q0 : Nat) (g0 : shp tb7 σ q0) (K6 : Int32 → Int32 → Int32 → ev_I → Option (Int32)) (k6 : ∀ (y1 : Int32) (y2 : Int32) (y3 : Int32) (I : ev_I) (o : Int32), K6 y1 y2 y3 I = some o → EV E mX6_commonLog 6 [some (.ref q0), some (.int y1), some (.int y2), some (.int y3)] [] (h_w σ I) (Option.some (Value.int o), h_w σ I)) (n : Nat) (y1 : Int32) (y2 : Int32) (y3 : Int32) (I : ev_I) (o : Int32) : cX6_commonLog_58 q0 K6 n y1 y2 y3 I = some o → EV E mX6_commonLog 58 [some (.ref q0), some (.int y1), some (.int y2), some (.int y3)] [] (h_w σ I) (Option.some (Value.int o), h_w σ I) := by
  intro h
  unfold cX6_commonLog_58 at h
  obtain ⟨v1, ev1, h⟩ := ev_ltE h
  refine ew_iinc (L' := [some (.ref q0), some (.int y1), some (.int y2), some (.int v1)]) dX6_commonLog_58 (Nat.le_of_ble_eq_true rfl) rfl (by decide) ev1 rfl ?_
  refine ev_goto (tgt := 6) dX6_commonLog_61 (by decide) ?_
  exact ev_weak (sb_s (sb_s (sb_s (sb_s sb_0)))) (k6 y1 y2 v1 I _ h)
set_option maxRecDepth 100000 in
set_option maxHeartbeats 4000000 in
theorem tX6_commonLog_55 {E : ev_N} {σ : ev_H} (q0 : Nat) (g0 : shp tb7 σ q0) (K6 : Int32 → Int32 → Int32 → ev_I → Option (Int32)) (k6 : ∀ (y1 : Int32) (y2 : Int32) (y3 : Int32) (I : ev_I) (o : Int32), K6 y1 y2 y3 I = some o → EV E mX6_commonLog 6 [some (.ref q0), some (.int y1), some (.int y2), some (.int y3)] [] (h_w σ I) (Option.some (Value.int o), h_w σ I)) (n : Nat) (y3 : Int32) (s0 : Int32) (I : ev_I) (o : Int32) : cX6_commonLog_55 q0 K6 n y3 s0 I = some o → EV E mX6_commonLog 55 [some (.ref q0), none, none, some (.int y3)] [(.int s0)] (h_w σ I) (Option.some (Value.int o), h_w σ I) := by
  intro h
  unfold cX6_commonLog_55 at h
  refine ew_istn (L' := [some (.ref q0), none, some (.int s0), some (.int y3)]) dX6_commonLog_55 (Nat.le_of_ble_eq_true rfl) rfl ?_
  refine ev_iload_n dX6_commonLog_56 rfl ?_
  refine ew_istn (L' := [some (.ref q0), some (.int y3), some (.int s0), some (.int y3)]) dX6_commonLog_57 (Nat.le_of_ble_eq_true rfl) rfl ?_
  exact ev_weak (sb_s (sb_s (sb_s (sb_s sb_0)))) (tX6_commonLog_58 q0 g0 K6 k6 n y3 s0 y3 I _ h)
set_option maxRecDepth 100000 in
set_option maxHeartbeats 4000000 in
theorem tX6_commonLog_6 {E : ev_N} {σ : ev_H} (q0 : Nat) (g0 : shp tb7 σ q0) (K6 : Int32 → Int32 → Int32 → ev_I → Option (Int32)) (k6 : ∀ (y1 : Int32) (y2 : Int32) (y3 : Int32) (I : ev_I) (o : Int32), K6 y1 y2 y3 I = some o → EV E mX6_commonLog 6 [some (.ref q0), some (.int y1), some (.int y2), some (.int y3)] [] (h_w σ I) (Option.some (Value.int o), h_w σ I)) (n : Nat) (y1 : Int32) (y2 : Int32) (y3 : Int32) (I : ev_I) (o : Int32) : cX6_commonLog_6 q0 K6 n y1 y2 y3 I = some o → EV E mX6_commonLog 6 [some (.ref q0), some (.int y1), some (.int y2), some (.int y3)] [] (h_w σ I) (Option.some (Value.int o), h_w σ I) := by
  intro h
  unfold cX6_commonLog_6 at h
  refine ev_iload_n dX6_commonLog_6 rfl ?_
  refine ev_aload_n dX6_commonLog_7 rfl (fun _ e => by cases e) ?_
  refine ew_get0 dX6_commonLog_8 fX6_158 g0 rfl rfl rfl ?_
  refine ev_icmp_ge (tgt := 64) dX6_commonLog_11 (by decide) (fun c2 => ?_) (fun c2 => ?_)
  · have h := ev_ifT h c2
    refine ev_iload_n dX6_commonLog_64 rfl ?_
    cases h
    exact er_i dX6_commonLog_65 rfl rfl
  · have h := ev_ifF h c2
    refine ev_aload_n dX6_commonLog_14 rfl (fun _ e => by cases e) ?_
    refine ev_iload_n dX6_commonLog_15 rfl ?_
    obtain ⟨z3, hz3, h⟩ := ev_bnE h
    refine ec_Vi (Y := mX8_isAwake) (ci := 7) (As := [.int y3]) (rest := []) dX6_commonLog_16 kX6_165 oX8_isAwake ⟨Nat.le_of_ble_eq_true rfl, Nat.le_of_ble_eq_true rfl⟩ (by decide) rfl (shp_n g0 0 rfl) (shp_t g0 0 rfl) rfl (Nat.le_of_ble_eq_true rfl) (tX8_isAwake n q0 g0 y3 I z3 hz3) rfl ?_
    refine ev_if_eq (tgt := 58) dX6_commonLog_19 (by decide) (fun c4 => ?_) (fun c4 => ?_)
    · have h := ev_ifT h c4
      exact ev_weak (sb_s (sb_s (sb_s (sb_s sb_0)))) (tX6_commonLog_58 q0 g0 K6 k6 n y1 y2 y3 I _ h)
    · have h := ev_ifF h c4
      refine ev_iload_n dX6_commonLog_22 rfl ?_
      refine ev_iconst (v := (-1 : Int32)) dX6_commonLog_23 (by decide) ?_
      refine ev_icmp_ne (tgt := 39) dX6_commonLog_24 (by decide) (fun c5 => ?_) (fun c5 => ?_)
      · have h := ev_ifF h c5
        refine ev_aload_n dX6_commonLog_39 rfl (fun _ e => by cases e) ?_
        refine ew_getr0 dX6_commonLog_40 fX6_9 g0 rfl rfl rfl rfl ?_
        refine ev_iload_n dX6_commonLog_43 rfl ?_
        obtain ⟨c6, h⟩ := ev_ckE h
        refine ew_memb dX6_commonLog_44 g0 c6 ?_
        refine ev_aload_n dX6_commonLog_45 rfl (fun _ e => by cases e) ?_
        refine ew_getr0 dX6_commonLog_46 fX6_9 g0 rfl rfl rfl rfl ?_
        refine ev_iload_n dX6_commonLog_49 rfl ?_
        obtain ⟨c7, h⟩ := ev_ckE h
        refine ew_memb dX6_commonLog_50 g0 c7 ?_
        refine ev_iload_n dX6_commonLog_51 rfl ?_
        obtain ⟨z8, hz8, h⟩ := ev_bnE h
        refine ec_Si (Y := mX6_sharedLog) (As := [.ref (q0 + (23 + 5 * y1.toNatClampNeg)), .ref (q0 + (23 + 5 * y3.toNatClampNeg)), .int y2]) (rest := []) dX6_commonLog_52 kX6_184 oX6_sharedLog ⟨Nat.le_of_ble_eq_true rfl, Nat.le_of_ble_eq_true rfl⟩ rfl (Nat.le_of_ble_eq_true rfl) (tX6_sharedLog n (q0 + (23 + 5 * y1.toNatClampNeg)) (q0 + (23 + 5 * y3.toNatClampNeg)) (s73 g0 (ev_inL c6)) (s73 g0 (ev_inL c7)) y2 I z8 hz8) rfl ?_
        exact ev_weak (sb_s (sb_n (sb_n (sb_s sb_0)))) (tX6_commonLog_55 q0 g0 K6 k6 n y3 z8 I _ h)
      · have h := ev_ifT h c5
        refine ev_aload_n dX6_commonLog_27 rfl (fun _ e => by cases e) ?_
        refine ew_getr0 dX6_commonLog_28 fX6_9 g0 rfl rfl rfl rfl ?_
        refine ev_iload_n dX6_commonLog_31 rfl ?_
        obtain ⟨c9, h⟩ := ev_ckE h
        refine ew_memb dX6_commonLog_32 g0 c9 ?_
        refine ew_get0 dX6_commonLog_33 fX6_42 (s73 g0 (ev_inL c9)) rfl rfl rfl ?_
        refine ev_goto (tgt := 55) dX6_commonLog_36 (by decide) ?_
        exact ev_weak (sb_s (sb_n (sb_n (sb_s sb_0)))) (tX6_commonLog_55 q0 g0 K6 k6 n y3 (I (q0 + (23 + 5 * y3.toNatClampNeg)) 9) I _ h)
theorem tlX6_commonLog_6 {E : ev_N} {σ : ev_H} (q0 : Nat) (g0 : shp tb7 σ q0) : ∀ (n : Nat) (y1 : Int32) (y2 : Int32) (y3 : Int32) (I : ev_I) (o : Int32), lX6_commonLog_6 q0 n y1 y2 y3 I = some o → EV E mX6_commonLog 6 [some (.ref q0), some (.int y1), some (.int y2), some (.int y3)] [] (h_w σ I) (Option.some (Value.int o), h_w σ I)
  | 0, _, _, _, _, _, h => by cases h
  | n + 1, y1, y2, y3, I, o, h => tX6_commonLog_6 q0 g0 (lX6_commonLog_6 q0 n) (tlX6_commonLog_6 q0 g0 n) n y1 y2 y3 I o h
set_option maxRecDepth 100000 in
set_option maxHeartbeats 4000000 in
theorem tX6_commonLog {E : ev_N} {σ : ev_H} (n : Nat) (q0 : Nat) (g0 : shp tb7 σ q0) (I : ev_I) (o : Int32) (h : pX6_commonLog n q0  I = some o) : ev_T E mX6_commonLog [.ref q0] (h_w σ I) (Option.some (Value.int o), h_w σ I) := by
  unfold pX6_commonLog at h
  refine ev_met rfl rfl (Nat.le_of_ble_eq_true rfl) (ev_L0 (L' := [some (.ref q0), none, none, none]) rfl ?_)
  refine ev_iconst (v := (-1 : Int32)) dX6_commonLog_0 (by decide) ?_
  refine ew_istn (L' := [some (.ref q0), some (.int (-1 : Int32)), none, none]) dX6_commonLog_1 (Nat.le_of_ble_eq_true rfl) rfl ?_
  refine ev_iconst (v := (0 : Int32)) dX6_commonLog_2 (by decide) ?_
  refine ew_istn (L' := [some (.ref q0), some (.int (-1 : Int32)), some (.int (0 : Int32)), none]) dX6_commonLog_3 (Nat.le_of_ble_eq_true rfl) rfl ?_
  refine ev_iconst (v := (0 : Int32)) dX6_commonLog_4 (by decide) ?_
  refine ew_istn (L' := [some (.ref q0), some (.int (-1 : Int32)), some (.int (0 : Int32)), some (.int (0 : Int32))]) dX6_commonLog_5 (Nat.le_of_ble_eq_true rfl) rfl ?_
  exact ev_weak (sb_s (sb_s (sb_s (sb_s sb_0)))) (tlX6_commonLog_6 q0 g0 n (-1 : Int32) (0 : Int32) (0 : Int32) I _ h)
-- ChainVotes$Survey strayBlocks(LChainVotes$World;)I
def cX6_strayBlocks_4 (q0 : Nat) (K4 : Int32 → Int32 → ev_I → Option (Int32)) (n : Nat) (y1 : Int32) (y2 : Int32) (I : ev_I) : Option (Int32) :=
  if (I (q0 + 1) 0) ≤ y2 then
    some y1
  else
    (pX6_isStray n q0 y2 I).bind fun z2 =>
    (pX6_flag n  z2 I).bind fun z3 =>
    ev_lt (y1 + z3) fun v4 =>
    ev_lt (y2 + (1 : Int32)) fun v5 =>
    K4 v4 v5 I
def lX6_strayBlocks_4 (q0 : Nat) : Nat → Int32 → Int32 → ev_I → Option (Int32)
  | 0, _, _, _ => none
  | n + 1, y1, y2, I => cX6_strayBlocks_4 q0 (lX6_strayBlocks_4 q0 n) n y1 y2 I
def pX6_strayBlocks (n : Nat) (q0 : Nat) (I : ev_I) : Option (Int32) :=
  lX6_strayBlocks_4 q0 n (0 : Int32) (0 : Int32) I
set_option maxRecDepth 100000 in
set_option maxHeartbeats 4000000 in
theorem tX6_strayBlocks_4 {E : ev_N} {σ : ev_H} (q0 : Nat) (g0 : shp tb7 σ q0) (K4 : Int32 → Int32 → ev_I → Option (Int32)) (k4 : ∀ (y1 : Int32) (y2 : Int32) (I : ev_I) (o : Int32), K4 y1 y2 I = some o → EV E mX6_strayBlocks 4 [some (.ref q0), some (.int y1), some (.int y2)] [] (h_w σ I) (Option.some (Value.int o), h_w σ I)) (n : Nat) (y1 : Int32) (y2 : Int32) (I : ev_I) (o : Int32) : cX6_strayBlocks_4 q0 K4 n y1 y2 I = some o → EV E mX6_strayBlocks 4 [some (.ref q0), some (.int y1), some (.int y2)] [] (h_w σ I) (Option.some (Value.int o), h_w σ I) := by
  intro h
  unfold cX6_strayBlocks_4 at h
  refine ev_iload_n dX6_strayBlocks_4 rfl ?_
  refine ev_aload_n dX6_strayBlocks_5 rfl (fun _ e => by cases e) ?_
  refine ew_getr0 dX6_strayBlocks_6 fX6_109 g0 rfl rfl rfl rfl ?_
  refine ew_get0 dX6_strayBlocks_9 fX6_130 (s71 g0) rfl rfl rfl ?_
  refine ev_icmp_ge (tgt := 32) dX6_strayBlocks_12 (by decide) (fun c1 => ?_) (fun c1 => ?_)
  · have h := ev_ifT h c1
    refine ev_iload_n dX6_strayBlocks_32 rfl ?_
    cases h
    exact er_i dX6_strayBlocks_33 rfl rfl
  · have h := ev_ifF h c1
    refine ev_iload_n dX6_strayBlocks_15 rfl ?_
    refine ev_aload_n dX6_strayBlocks_16 rfl (fun _ e => by cases e) ?_
    refine ev_iload_n dX6_strayBlocks_17 rfl ?_
    obtain ⟨z2, hz2, h⟩ := ev_bnE h
    refine ec_Si (Y := mX6_isStray) (As := [.ref q0, .int y2]) (rest := [(.int y1)]) dX6_strayBlocks_18 kX6_194 oX6_isStray ⟨Nat.le_of_ble_eq_true rfl, Nat.le_of_ble_eq_true rfl⟩ rfl (Nat.le_of_ble_eq_true rfl) (tX6_isStray n q0 g0 y2 I z2 hz2) rfl ?_
    obtain ⟨z3, hz3, h⟩ := ev_bnE h
    refine ec_Si (Y := mX6_flag) (As := [.int z2]) (rest := [(.int y1)]) dX6_strayBlocks_21 kX6_56 oX6_flag ⟨Nat.le_of_ble_eq_true rfl, Nat.le_of_ble_eq_true rfl⟩ rfl (Nat.le_of_ble_eq_true rfl) (tX6_flag n   z2 I z3 hz3) rfl ?_
    refine ev_iadd dX6_strayBlocks_24 ?_
    obtain ⟨v4, ev4, h⟩ := ev_ltE h
    refine ew_nm ev4 ?_
    refine ew_istn (L' := [some (.ref q0), some (.int v4), some (.int y2)]) dX6_strayBlocks_25 (Nat.le_of_ble_eq_true rfl) rfl ?_
    obtain ⟨v5, ev5, h⟩ := ev_ltE h
    refine ew_iinc (L' := [some (.ref q0), some (.int v4), some (.int v5)]) dX6_strayBlocks_26 (Nat.le_of_ble_eq_true rfl) rfl (by decide) ev5 rfl ?_
    refine ev_goto (tgt := 4) dX6_strayBlocks_29 (by decide) ?_
    exact ev_weak (sb_s (sb_s (sb_s sb_0))) (k4 v4 v5 I _ h)
theorem tlX6_strayBlocks_4 {E : ev_N} {σ : ev_H} (q0 : Nat) (g0 : shp tb7 σ q0) : ∀ (n : Nat) (y1 : Int32) (y2 : Int32) (I : ev_I) (o : Int32), lX6_strayBlocks_4 q0 n y1 y2 I = some o → EV E mX6_strayBlocks 4 [some (.ref q0), some (.int y1), some (.int y2)] [] (h_w σ I) (Option.some (Value.int o), h_w σ I)
  | 0, _, _, _, _, h => by cases h
  | n + 1, y1, y2, I, o, h => tX6_strayBlocks_4 q0 g0 (lX6_strayBlocks_4 q0 n) (tlX6_strayBlocks_4 q0 g0 n) n y1 y2 I o h
set_option maxRecDepth 100000 in
set_option maxHeartbeats 4000000 in
theorem tX6_strayBlocks {E : ev_N} {σ : ev_H} (n : Nat) (q0 : Nat) (g0 : shp tb7 σ q0) (I : ev_I) (o : Int32) (h : pX6_strayBlocks n q0  I = some o) : ev_T E mX6_strayBlocks [.ref q0] (h_w σ I) (Option.some (Value.int o), h_w σ I) := by
  unfold pX6_strayBlocks at h
  refine ev_met rfl rfl (Nat.le_of_ble_eq_true rfl) (ev_L0 (L' := [some (.ref q0), none, none]) rfl ?_)
  refine ev_iconst (v := (0 : Int32)) dX6_strayBlocks_0 (by decide) ?_
  refine ew_istn (L' := [some (.ref q0), some (.int (0 : Int32)), none]) dX6_strayBlocks_1 (Nat.le_of_ble_eq_true rfl) rfl ?_
  refine ev_iconst (v := (0 : Int32)) dX6_strayBlocks_2 (by decide) ?_
  refine ew_istn (L' := [some (.ref q0), some (.int (0 : Int32)), some (.int (0 : Int32))]) dX6_strayBlocks_3 (Nat.le_of_ble_eq_true rfl) rfl ?_
  exact ev_weak (sb_s (sb_s (sb_s sb_0))) (tlX6_strayBlocks_4 q0 g0 n (0 : Int32) (0 : Int32) I _ h)
-- ChainVotes$Survey highestLock(LChainVotes$World;)I
def cX6_highestLock_42 (q0 : Nat) (K4 : Int32 → Int32 → ev_I → Option (Int32)) (n : Nat) (y1 : Int32) (y2 : Int32) (I : ev_I) : Option (Int32) :=
  ev_lt (y2 + (1 : Int32)) fun v1 =>
  K4 y1 v1 I
def cX6_highestLock_4 (q0 : Nat) (K4 : Int32 → Int32 → ev_I → Option (Int32)) (n : Nat) (y1 : Int32) (y2 : Int32) (I : ev_I) : Option (Int32) :=
  if (I q0 0) ≤ y2 then
    some y1
  else
    (pX8_isAwake n q0 y2 I).bind fun z3 =>
    if z3 = 0 then
      cX6_highestLock_42 q0 K4 n y1 y2 I
    else
      ev_ck (ev_in y2 7) <|
      (pX6_better n ((q0 + 1) + 1) 100 y1 (I (q0 + (23 + 5 * y2.toNatClampNeg)) 6) (1 : Int32) I).bind fun z6 =>
      cX6_highestLock_42 q0 K4 n z6 y2 I
def lX6_highestLock_4 (q0 : Nat) : Nat → Int32 → Int32 → ev_I → Option (Int32)
  | 0, _, _, _ => none
  | n + 1, y1, y2, I => cX6_highestLock_4 q0 (lX6_highestLock_4 q0 n) n y1 y2 I
def pX6_highestLock (n : Nat) (q0 : Nat) (I : ev_I) : Option (Int32) :=
  lX6_highestLock_4 q0 n (-1 : Int32) (0 : Int32) I
set_option maxRecDepth 100000 in
set_option maxHeartbeats 4000000 in
theorem tX6_highestLock_42 {E : ev_N} {σ : ev_H} (q0 : Nat) (g0 : shp tb7 σ q0) (K4 : Int32 → Int32 → ev_I → Option (Int32)) (k4 : ∀ (y1 : Int32) (y2 : Int32) (I : ev_I) (o : Int32), K4 y1 y2 I = some o → EV E mX6_highestLock 4 [some (.ref q0), some (.int y1), some (.int y2)] [] (h_w σ I) (Option.some (Value.int o), h_w σ I)) (n : Nat) (y1 : Int32) (y2 : Int32) (I : ev_I) (o : Int32) : cX6_highestLock_42 q0 K4 n y1 y2 I = some o → EV E mX6_highestLock 42 [some (.ref q0), some (.int y1), some (.int y2)] [] (h_w σ I) (Option.some (Value.int o), h_w σ I) := by
  intro h
  unfold cX6_highestLock_42 at h
  obtain ⟨v1, ev1, h⟩ := ev_ltE h
  refine ew_iinc (L' := [some (.ref q0), some (.int y1), some (.int v1)]) dX6_highestLock_42 (Nat.le_of_ble_eq_true rfl) rfl (by decide) ev1 rfl ?_
  refine ev_goto (tgt := 4) dX6_highestLock_45 (by decide) ?_
  exact ev_weak (sb_s (sb_s (sb_s sb_0))) (k4 y1 v1 I _ h)
set_option maxRecDepth 100000 in
set_option maxHeartbeats 4000000 in
theorem tX6_highestLock_4 {E : ev_N} {σ : ev_H} (q0 : Nat) (g0 : shp tb7 σ q0) (K4 : Int32 → Int32 → ev_I → Option (Int32)) (k4 : ∀ (y1 : Int32) (y2 : Int32) (I : ev_I) (o : Int32), K4 y1 y2 I = some o → EV E mX6_highestLock 4 [some (.ref q0), some (.int y1), some (.int y2)] [] (h_w σ I) (Option.some (Value.int o), h_w σ I)) (n : Nat) (y1 : Int32) (y2 : Int32) (I : ev_I) (o : Int32) : cX6_highestLock_4 q0 K4 n y1 y2 I = some o → EV E mX6_highestLock 4 [some (.ref q0), some (.int y1), some (.int y2)] [] (h_w σ I) (Option.some (Value.int o), h_w σ I) := by
  intro h
  unfold cX6_highestLock_4 at h
  refine ev_iload_n dX6_highestLock_4 rfl ?_
  refine ev_aload_n dX6_highestLock_5 rfl (fun _ e => by cases e) ?_
  refine ew_get0 dX6_highestLock_6 fX6_158 g0 rfl rfl rfl ?_
  refine ev_icmp_ge (tgt := 48) dX6_highestLock_9 (by decide) (fun c2 => ?_) (fun c2 => ?_)
  · have h := ev_ifT h c2
    refine ev_iload_n dX6_highestLock_48 rfl ?_
    cases h
    exact er_i dX6_highestLock_49 rfl rfl
  · have h := ev_ifF h c2
    refine ev_aload_n dX6_highestLock_12 rfl (fun _ e => by cases e) ?_
    refine ev_iload_n dX6_highestLock_13 rfl ?_
    obtain ⟨z3, hz3, h⟩ := ev_bnE h
    refine ec_Vi (Y := mX8_isAwake) (ci := 7) (As := [.int y2]) (rest := []) dX6_highestLock_14 kX6_165 oX8_isAwake ⟨Nat.le_of_ble_eq_true rfl, Nat.le_of_ble_eq_true rfl⟩ (by decide) rfl (shp_n g0 0 rfl) (shp_t g0 0 rfl) rfl (Nat.le_of_ble_eq_true rfl) (tX8_isAwake n q0 g0 y2 I z3 hz3) rfl ?_
    refine ev_if_eq (tgt := 42) dX6_highestLock_17 (by decide) (fun c4 => ?_) (fun c4 => ?_)
    · have h := ev_ifT h c4
      exact ev_weak (sb_s (sb_s (sb_s sb_0))) (tX6_highestLock_42 q0 g0 K4 k4 n y1 y2 I _ h)
    · have h := ev_ifF h c4
      refine ev_aload_n dX6_highestLock_20 rfl (fun _ e => by cases e) ?_
      refine ew_getr0 dX6_highestLock_21 fX6_109 g0 rfl rfl rfl rfl ?_
      refine ew_getr0 dX6_highestLock_24 fX6_65 (s71 g0) rfl rfl rfl rfl ?_
      refine ev_iload_n dX6_highestLock_27 rfl ?_
      refine ev_aload_n dX6_highestLock_28 rfl (fun _ e => by cases e) ?_
      refine ew_getr0 dX6_highestLock_29 fX6_9 g0 rfl rfl rfl rfl ?_
      refine ev_iload_n dX6_highestLock_32 rfl ?_
      obtain ⟨c5, h⟩ := ev_ckE h
      refine ew_memb dX6_highestLock_33 g0 c5 ?_
      refine ew_get0 dX6_highestLock_34 fX6_36 (s73 g0 (ev_inL c5)) rfl rfl rfl ?_
      refine ev_iconst (v := (1 : Int32)) dX6_highestLock_37 (by decide) ?_
      obtain ⟨z6, hz6, h⟩ := ev_bnE h
      refine ec_Si (Y := mX6_better) (As := [.ref ((q0 + 1) + 1), .int y1, .int (I (q0 + (23 + 5 * y2.toNatClampNeg)) 6), .int (1 : Int32)]) (rest := []) dX6_highestLock_38 kX6_201 oX6_better ⟨Nat.le_of_ble_eq_true rfl, Nat.le_of_ble_eq_true rfl⟩ rfl (Nat.le_of_ble_eq_true rfl) (tX6_better n ((q0 + 1) + 1) 100 (shp_a (s71 g0) 1 rfl) y1 (I (q0 + (23 + 5 * y2.toNatClampNeg)) 6) (1 : Int32) I z6 hz6) rfl ?_
      refine ew_istn (L' := [some (.ref q0), some (.int z6), some (.int y2)]) dX6_highestLock_41 (Nat.le_of_ble_eq_true rfl) rfl ?_
      exact ev_weak (sb_s (sb_s (sb_s sb_0))) (tX6_highestLock_42 q0 g0 K4 k4 n z6 y2 I _ h)
theorem tlX6_highestLock_4 {E : ev_N} {σ : ev_H} (q0 : Nat) (g0 : shp tb7 σ q0) : ∀ (n : Nat) (y1 : Int32) (y2 : Int32) (I : ev_I) (o : Int32), lX6_highestLock_4 q0 n y1 y2 I = some o → EV E mX6_highestLock 4 [some (.ref q0), some (.int y1), some (.int y2)] [] (h_w σ I) (Option.some (Value.int o), h_w σ I)
  | 0, _, _, _, _, h => by cases h
  | n + 1, y1, y2, I, o, h => tX6_highestLock_4 q0 g0 (lX6_highestLock_4 q0 n) (tlX6_highestLock_4 q0 g0 n) n y1 y2 I o h
set_option maxRecDepth 100000 in
set_option maxHeartbeats 4000000 in
theorem tX6_highestLock {E : ev_N} {σ : ev_H} (n : Nat) (q0 : Nat) (g0 : shp tb7 σ q0) (I : ev_I) (o : Int32) (h : pX6_highestLock n q0  I = some o) : ev_T E mX6_highestLock [.ref q0] (h_w σ I) (Option.some (Value.int o), h_w σ I) := by
  unfold pX6_highestLock at h
  refine ev_met rfl rfl (Nat.le_of_ble_eq_true rfl) (ev_L0 (L' := [some (.ref q0), none, none]) rfl ?_)
  refine ev_iconst (v := (-1 : Int32)) dX6_highestLock_0 (by decide) ?_
  refine ew_istn (L' := [some (.ref q0), some (.int (-1 : Int32)), none]) dX6_highestLock_1 (Nat.le_of_ble_eq_true rfl) rfl ?_
  refine ev_iconst (v := (0 : Int32)) dX6_highestLock_2 (by decide) ?_
  refine ew_istn (L' := [some (.ref q0), some (.int (-1 : Int32)), some (.int (0 : Int32))]) dX6_highestLock_3 (Nat.le_of_ble_eq_true rfl) rfl ?_
  exact ev_weak (sb_s (sb_s (sb_s sb_0))) (tlX6_highestLock_4 q0 g0 n (-1 : Int32) (0 : Int32) I _ h)
-- ChainVotes$Survey lowestHigh(LChainVotes$World;)I
def cX6_lowestHigh_42 (q0 : Nat) (K4 : Int32 → Int32 → ev_I → Option (Int32)) (n : Nat) (y1 : Int32) (y2 : Int32) (I : ev_I) : Option (Int32) :=
  ev_lt (y2 + (1 : Int32)) fun v1 =>
  K4 y1 v1 I
def cX6_lowestHigh_4 (q0 : Nat) (K4 : Int32 → Int32 → ev_I → Option (Int32)) (n : Nat) (y1 : Int32) (y2 : Int32) (I : ev_I) : Option (Int32) :=
  if (I q0 0) ≤ y2 then
    some y1
  else
    (pX8_isAwake n q0 y2 I).bind fun z3 =>
    if z3 = 0 then
      cX6_lowestHigh_42 q0 K4 n y1 y2 I
    else
      ev_ck (ev_in y2 7) <|
      (pX6_better n ((q0 + 1) + 1) 100 y1 (I (q0 + (23 + 5 * y2.toNatClampNeg)) 5) (-1 : Int32) I).bind fun z6 =>
      cX6_lowestHigh_42 q0 K4 n z6 y2 I
def lX6_lowestHigh_4 (q0 : Nat) : Nat → Int32 → Int32 → ev_I → Option (Int32)
  | 0, _, _, _ => none
  | n + 1, y1, y2, I => cX6_lowestHigh_4 q0 (lX6_lowestHigh_4 q0 n) n y1 y2 I
def pX6_lowestHigh (n : Nat) (q0 : Nat) (I : ev_I) : Option (Int32) :=
  lX6_lowestHigh_4 q0 n (-1 : Int32) (0 : Int32) I
set_option maxRecDepth 100000 in
set_option maxHeartbeats 4000000 in
theorem tX6_lowestHigh_42 {E : ev_N} {σ : ev_H} (q0 : Nat) (g0 : shp tb7 σ q0) (K4 : Int32 → Int32 → ev_I → Option (Int32)) (k4 : ∀ (y1 : Int32) (y2 : Int32) (I : ev_I) (o : Int32), K4 y1 y2 I = some o → EV E mX6_lowestHigh 4 [some (.ref q0), some (.int y1), some (.int y2)] [] (h_w σ I) (Option.some (Value.int o), h_w σ I)) (n : Nat) (y1 : Int32) (y2 : Int32) (I : ev_I) (o : Int32) : cX6_lowestHigh_42 q0 K4 n y1 y2 I = some o → EV E mX6_lowestHigh 42 [some (.ref q0), some (.int y1), some (.int y2)] [] (h_w σ I) (Option.some (Value.int o), h_w σ I) := by
  intro h
  unfold cX6_lowestHigh_42 at h
  obtain ⟨v1, ev1, h⟩ := ev_ltE h
  refine ew_iinc (L' := [some (.ref q0), some (.int y1), some (.int v1)]) dX6_lowestHigh_42 (Nat.le_of_ble_eq_true rfl) rfl (by decide) ev1 rfl ?_
  refine ev_goto (tgt := 4) dX6_lowestHigh_45 (by decide) ?_
  exact ev_weak (sb_s (sb_s (sb_s sb_0))) (k4 y1 v1 I _ h)
set_option maxRecDepth 100000 in
set_option maxHeartbeats 4000000 in
theorem tX6_lowestHigh_4 {E : ev_N} {σ : ev_H} (q0 : Nat) (g0 : shp tb7 σ q0) (K4 : Int32 → Int32 → ev_I → Option (Int32)) (k4 : ∀ (y1 : Int32) (y2 : Int32) (I : ev_I) (o : Int32), K4 y1 y2 I = some o → EV E mX6_lowestHigh 4 [some (.ref q0), some (.int y1), some (.int y2)] [] (h_w σ I) (Option.some (Value.int o), h_w σ I)) (n : Nat) (y1 : Int32) (y2 : Int32) (I : ev_I) (o : Int32) : cX6_lowestHigh_4 q0 K4 n y1 y2 I = some o → EV E mX6_lowestHigh 4 [some (.ref q0), some (.int y1), some (.int y2)] [] (h_w σ I) (Option.some (Value.int o), h_w σ I) := by
  intro h
  unfold cX6_lowestHigh_4 at h
  refine ev_iload_n dX6_lowestHigh_4 rfl ?_
  refine ev_aload_n dX6_lowestHigh_5 rfl (fun _ e => by cases e) ?_
  refine ew_get0 dX6_lowestHigh_6 fX6_158 g0 rfl rfl rfl ?_
  refine ev_icmp_ge (tgt := 48) dX6_lowestHigh_9 (by decide) (fun c2 => ?_) (fun c2 => ?_)
  · have h := ev_ifT h c2
    refine ev_iload_n dX6_lowestHigh_48 rfl ?_
    cases h
    exact er_i dX6_lowestHigh_49 rfl rfl
  · have h := ev_ifF h c2
    refine ev_aload_n dX6_lowestHigh_12 rfl (fun _ e => by cases e) ?_
    refine ev_iload_n dX6_lowestHigh_13 rfl ?_
    obtain ⟨z3, hz3, h⟩ := ev_bnE h
    refine ec_Vi (Y := mX8_isAwake) (ci := 7) (As := [.int y2]) (rest := []) dX6_lowestHigh_14 kX6_165 oX8_isAwake ⟨Nat.le_of_ble_eq_true rfl, Nat.le_of_ble_eq_true rfl⟩ (by decide) rfl (shp_n g0 0 rfl) (shp_t g0 0 rfl) rfl (Nat.le_of_ble_eq_true rfl) (tX8_isAwake n q0 g0 y2 I z3 hz3) rfl ?_
    refine ev_if_eq (tgt := 42) dX6_lowestHigh_17 (by decide) (fun c4 => ?_) (fun c4 => ?_)
    · have h := ev_ifT h c4
      exact ev_weak (sb_s (sb_s (sb_s sb_0))) (tX6_lowestHigh_42 q0 g0 K4 k4 n y1 y2 I _ h)
    · have h := ev_ifF h c4
      refine ev_aload_n dX6_lowestHigh_20 rfl (fun _ e => by cases e) ?_
      refine ew_getr0 dX6_lowestHigh_21 fX6_109 g0 rfl rfl rfl rfl ?_
      refine ew_getr0 dX6_lowestHigh_24 fX6_65 (s71 g0) rfl rfl rfl rfl ?_
      refine ev_iload_n dX6_lowestHigh_27 rfl ?_
      refine ev_aload_n dX6_lowestHigh_28 rfl (fun _ e => by cases e) ?_
      refine ew_getr0 dX6_lowestHigh_29 fX6_9 g0 rfl rfl rfl rfl ?_
      refine ev_iload_n dX6_lowestHigh_32 rfl ?_
      obtain ⟨c5, h⟩ := ev_ckE h
      refine ew_memb dX6_lowestHigh_33 g0 c5 ?_
      refine ew_get0 dX6_lowestHigh_34 fX6_33 (s73 g0 (ev_inL c5)) rfl rfl rfl ?_
      refine ev_iconst (v := (-1 : Int32)) dX6_lowestHigh_37 (by decide) ?_
      obtain ⟨z6, hz6, h⟩ := ev_bnE h
      refine ec_Si (Y := mX6_better) (As := [.ref ((q0 + 1) + 1), .int y1, .int (I (q0 + (23 + 5 * y2.toNatClampNeg)) 5), .int (-1 : Int32)]) (rest := []) dX6_lowestHigh_38 kX6_201 oX6_better ⟨Nat.le_of_ble_eq_true rfl, Nat.le_of_ble_eq_true rfl⟩ rfl (Nat.le_of_ble_eq_true rfl) (tX6_better n ((q0 + 1) + 1) 100 (shp_a (s71 g0) 1 rfl) y1 (I (q0 + (23 + 5 * y2.toNatClampNeg)) 5) (-1 : Int32) I z6 hz6) rfl ?_
      refine ew_istn (L' := [some (.ref q0), some (.int z6), some (.int y2)]) dX6_lowestHigh_41 (Nat.le_of_ble_eq_true rfl) rfl ?_
      exact ev_weak (sb_s (sb_s (sb_s sb_0))) (tX6_lowestHigh_42 q0 g0 K4 k4 n z6 y2 I _ h)
theorem tlX6_lowestHigh_4 {E : ev_N} {σ : ev_H} (q0 : Nat) (g0 : shp tb7 σ q0) : ∀ (n : Nat) (y1 : Int32) (y2 : Int32) (I : ev_I) (o : Int32), lX6_lowestHigh_4 q0 n y1 y2 I = some o → EV E mX6_lowestHigh 4 [some (.ref q0), some (.int y1), some (.int y2)] [] (h_w σ I) (Option.some (Value.int o), h_w σ I)
  | 0, _, _, _, _, h => by cases h
  | n + 1, y1, y2, I, o, h => tX6_lowestHigh_4 q0 g0 (lX6_lowestHigh_4 q0 n) (tlX6_lowestHigh_4 q0 g0 n) n y1 y2 I o h
set_option maxRecDepth 100000 in
set_option maxHeartbeats 4000000 in
theorem tX6_lowestHigh {E : ev_N} {σ : ev_H} (n : Nat) (q0 : Nat) (g0 : shp tb7 σ q0) (I : ev_I) (o : Int32) (h : pX6_lowestHigh n q0  I = some o) : ev_T E mX6_lowestHigh [.ref q0] (h_w σ I) (Option.some (Value.int o), h_w σ I) := by
  unfold pX6_lowestHigh at h
  refine ev_met rfl rfl (Nat.le_of_ble_eq_true rfl) (ev_L0 (L' := [some (.ref q0), none, none]) rfl ?_)
  refine ev_iconst (v := (-1 : Int32)) dX6_lowestHigh_0 (by decide) ?_
  refine ew_istn (L' := [some (.ref q0), some (.int (-1 : Int32)), none]) dX6_lowestHigh_1 (Nat.le_of_ble_eq_true rfl) rfl ?_
  refine ev_iconst (v := (0 : Int32)) dX6_lowestHigh_2 (by decide) ?_
  refine ew_istn (L' := [some (.ref q0), some (.int (-1 : Int32)), some (.int (0 : Int32))]) dX6_lowestHigh_3 (Nat.le_of_ble_eq_true rfl) rfl ?_
  exact ev_weak (sb_s (sb_s (sb_s sb_0))) (tlX6_lowestHigh_4 q0 g0 n (-1 : Int32) (0 : Int32) I _ h)
-- ChainVotes$Survey highestLogged(LChainVotes$World;)I
def cX6_highestLogged_42 (q0 : Nat) (K4 : Int32 → Int32 → ev_I → Option (Int32)) (n : Nat) (y1 : Int32) (y2 : Int32) (I : ev_I) : Option (Int32) :=
  ev_lt (y2 + (1 : Int32)) fun v1 =>
  K4 y1 v1 I
def cX6_highestLogged_4 (q0 : Nat) (K4 : Int32 → Int32 → ev_I → Option (Int32)) (n : Nat) (y1 : Int32) (y2 : Int32) (I : ev_I) : Option (Int32) :=
  if (I q0 0) ≤ y2 then
    some y1
  else
    (pX8_isAwake n q0 y2 I).bind fun z3 =>
    if z3 = 0 then
      cX6_highestLogged_42 q0 K4 n y1 y2 I
    else
      ev_ck (ev_in y2 7) <|
      (pX3_lastLogged n (q0 + (23 + 5 * y2.toNatClampNeg))  I).bind fun z6 =>
      (pX6_better n ((q0 + 1) + 6) 100 y1 z6 (1 : Int32) I).bind fun z7 =>
      cX6_highestLogged_42 q0 K4 n z7 y2 I
def lX6_highestLogged_4 (q0 : Nat) : Nat → Int32 → Int32 → ev_I → Option (Int32)
  | 0, _, _, _ => none
  | n + 1, y1, y2, I => cX6_highestLogged_4 q0 (lX6_highestLogged_4 q0 n) n y1 y2 I
def pX6_highestLogged (n : Nat) (q0 : Nat) (I : ev_I) : Option (Int32) :=
  lX6_highestLogged_4 q0 n (-1 : Int32) (0 : Int32) I
set_option maxRecDepth 100000 in
set_option maxHeartbeats 4000000 in
theorem tX6_highestLogged_42 {E : ev_N} {σ : ev_H} (q0 : Nat) (g0 : shp tb7 σ q0) (K4 : Int32 → Int32 → ev_I → Option (Int32)) (k4 : ∀ (y1 : Int32) (y2 : Int32) (I : ev_I) (o : Int32), K4 y1 y2 I = some o → EV E mX6_highestLogged 4 [some (.ref q0), some (.int y1), some (.int y2)] [] (h_w σ I) (Option.some (Value.int o), h_w σ I)) (n : Nat) (y1 : Int32) (y2 : Int32) (I : ev_I) (o : Int32) : cX6_highestLogged_42 q0 K4 n y1 y2 I = some o → EV E mX6_highestLogged 42 [some (.ref q0), some (.int y1), some (.int y2)] [] (h_w σ I) (Option.some (Value.int o), h_w σ I) := by
  intro h
  unfold cX6_highestLogged_42 at h
  obtain ⟨v1, ev1, h⟩ := ev_ltE h
  refine ew_iinc (L' := [some (.ref q0), some (.int y1), some (.int v1)]) dX6_highestLogged_42 (Nat.le_of_ble_eq_true rfl) rfl (by decide) ev1 rfl ?_
  refine ev_goto (tgt := 4) dX6_highestLogged_45 (by decide) ?_
  exact ev_weak (sb_s (sb_s (sb_s sb_0))) (k4 y1 v1 I _ h)
set_option maxRecDepth 100000 in
set_option maxHeartbeats 4000000 in
theorem tX6_highestLogged_4 {E : ev_N} {σ : ev_H} (q0 : Nat) (g0 : shp tb7 σ q0) (K4 : Int32 → Int32 → ev_I → Option (Int32)) (k4 : ∀ (y1 : Int32) (y2 : Int32) (I : ev_I) (o : Int32), K4 y1 y2 I = some o → EV E mX6_highestLogged 4 [some (.ref q0), some (.int y1), some (.int y2)] [] (h_w σ I) (Option.some (Value.int o), h_w σ I)) (n : Nat) (y1 : Int32) (y2 : Int32) (I : ev_I) (o : Int32) : cX6_highestLogged_4 q0 K4 n y1 y2 I = some o → EV E mX6_highestLogged 4 [some (.ref q0), some (.int y1), some (.int y2)] [] (h_w σ I) (Option.some (Value.int o), h_w σ I) := by
  intro h
  unfold cX6_highestLogged_4 at h
  refine ev_iload_n dX6_highestLogged_4 rfl ?_
  refine ev_aload_n dX6_highestLogged_5 rfl (fun _ e => by cases e) ?_
  refine ew_get0 dX6_highestLogged_6 fX6_158 g0 rfl rfl rfl ?_
  refine ev_icmp_ge (tgt := 48) dX6_highestLogged_9 (by decide) (fun c2 => ?_) (fun c2 => ?_)
  · have h := ev_ifT h c2
    refine ev_iload_n dX6_highestLogged_48 rfl ?_
    cases h
    exact er_i dX6_highestLogged_49 rfl rfl
  · have h := ev_ifF h c2
    refine ev_aload_n dX6_highestLogged_12 rfl (fun _ e => by cases e) ?_
    refine ev_iload_n dX6_highestLogged_13 rfl ?_
    obtain ⟨z3, hz3, h⟩ := ev_bnE h
    refine ec_Vi (Y := mX8_isAwake) (ci := 7) (As := [.int y2]) (rest := []) dX6_highestLogged_14 kX6_165 oX8_isAwake ⟨Nat.le_of_ble_eq_true rfl, Nat.le_of_ble_eq_true rfl⟩ (by decide) rfl (shp_n g0 0 rfl) (shp_t g0 0 rfl) rfl (Nat.le_of_ble_eq_true rfl) (tX8_isAwake n q0 g0 y2 I z3 hz3) rfl ?_
    refine ev_if_eq (tgt := 42) dX6_highestLogged_17 (by decide) (fun c4 => ?_) (fun c4 => ?_)
    · have h := ev_ifT h c4
      exact ev_weak (sb_s (sb_s (sb_s sb_0))) (tX6_highestLogged_42 q0 g0 K4 k4 n y1 y2 I _ h)
    · have h := ev_ifF h c4
      refine ev_aload_n dX6_highestLogged_20 rfl (fun _ e => by cases e) ?_
      refine ew_getr0 dX6_highestLogged_21 fX6_109 g0 rfl rfl rfl rfl ?_
      refine ew_getr0 dX6_highestLogged_24 fX6_82 (s71 g0) rfl rfl rfl rfl ?_
      refine ev_iload_n dX6_highestLogged_27 rfl ?_
      refine ev_aload_n dX6_highestLogged_28 rfl (fun _ e => by cases e) ?_
      refine ew_getr0 dX6_highestLogged_29 fX6_9 g0 rfl rfl rfl rfl ?_
      refine ev_iload_n dX6_highestLogged_32 rfl ?_
      obtain ⟨c5, h⟩ := ev_ckE h
      refine ew_memb dX6_highestLogged_33 g0 c5 ?_
      obtain ⟨z6, hz6, h⟩ := ev_bnE h
      refine ec_Vi (Y := mX3_lastLogged) (ci := 3) (As := []) (rest := [(.int y1), (.ref ((q0 + 1) + 6))]) dX6_highestLogged_34 kX6_45 oX3_lastLogged ⟨Nat.le_of_ble_eq_true rfl, Nat.le_of_ble_eq_true rfl⟩ (by decide) rfl (shp_n (s73 g0 (ev_inL c5)) 0 rfl) (shp_t (s73 g0 (ev_inL c5)) 0 rfl) rfl (Nat.le_of_ble_eq_true rfl) (tX3_lastLogged n (q0 + (23 + 5 * y2.toNatClampNeg)) (s73 g0 (ev_inL c5))  I z6 hz6) rfl ?_
      refine ev_iconst (v := (1 : Int32)) dX6_highestLogged_37 (by decide) ?_
      obtain ⟨z7, hz7, h⟩ := ev_bnE h
      refine ec_Si (Y := mX6_better) (As := [.ref ((q0 + 1) + 6), .int y1, .int z6, .int (1 : Int32)]) (rest := []) dX6_highestLogged_38 kX6_201 oX6_better ⟨Nat.le_of_ble_eq_true rfl, Nat.le_of_ble_eq_true rfl⟩ rfl (Nat.le_of_ble_eq_true rfl) (tX6_better n ((q0 + 1) + 6) 100 (shp_a (s71 g0) 6 rfl) y1 z6 (1 : Int32) I z7 hz7) rfl ?_
      refine ew_istn (L' := [some (.ref q0), some (.int z7), some (.int y2)]) dX6_highestLogged_41 (Nat.le_of_ble_eq_true rfl) rfl ?_
      exact ev_weak (sb_s (sb_s (sb_s sb_0))) (tX6_highestLogged_42 q0 g0 K4 k4 n z7 y2 I _ h)
theorem tlX6_highestLogged_4 {E : ev_N} {σ : ev_H} (q0 : Nat) (g0 : shp tb7 σ q0) : ∀ (n : Nat) (y1 : Int32) (y2 : Int32) (I : ev_I) (o : Int32), lX6_highestLogged_4 q0 n y1 y2 I = some o → EV E mX6_highestLogged 4 [some (.ref q0), some (.int y1), some (.int y2)] [] (h_w σ I) (Option.some (Value.int o), h_w σ I)
  | 0, _, _, _, _, h => by cases h
  | n + 1, y1, y2, I, o, h => tX6_highestLogged_4 q0 g0 (lX6_highestLogged_4 q0 n) (tlX6_highestLogged_4 q0 g0 n) n y1 y2 I o h
set_option maxRecDepth 100000 in
set_option maxHeartbeats 4000000 in
theorem tX6_highestLogged {E : ev_N} {σ : ev_H} (n : Nat) (q0 : Nat) (g0 : shp tb7 σ q0) (I : ev_I) (o : Int32) (h : pX6_highestLogged n q0  I = some o) : ev_T E mX6_highestLogged [.ref q0] (h_w σ I) (Option.some (Value.int o), h_w σ I) := by
  unfold pX6_highestLogged at h
  refine ev_met rfl rfl (Nat.le_of_ble_eq_true rfl) (ev_L0 (L' := [some (.ref q0), none, none]) rfl ?_)
  refine ev_iconst (v := (-1 : Int32)) dX6_highestLogged_0 (by decide) ?_
  refine ew_istn (L' := [some (.ref q0), some (.int (-1 : Int32)), none]) dX6_highestLogged_1 (Nat.le_of_ble_eq_true rfl) rfl ?_
  refine ev_iconst (v := (0 : Int32)) dX6_highestLogged_2 (by decide) ?_
  refine ew_istn (L' := [some (.ref q0), some (.int (-1 : Int32)), some (.int (0 : Int32))]) dX6_highestLogged_3 (Nat.le_of_ble_eq_true rfl) rfl ?_
  exact ev_weak (sb_s (sb_s (sb_s sb_0))) (tlX6_highestLogged_4 q0 g0 n (-1 : Int32) (0 : Int32) I _ h)
-- ChainVotes$Survey hasUnlikeLogs(LChainVotes$World;)Z
def cX6_hasUnlikeLogs_49 (q0 : Nat) (K2 : Int32 → ev_I → Option (Int32)) (K14 : Int32 → Int32 → ev_I → Option (Int32)) (n : Nat) (y1 : Int32) (y2 : Int32) (I : ev_I) : Option (Int32) :=
  ev_lt (y2 + (1 : Int32)) fun v1 =>
  K14 y1 v1 I
def cX6_hasUnlikeLogs_14 (q0 : Nat) (K2 : Int32 → ev_I → Option (Int32)) (K14 : Int32 → Int32 → ev_I → Option (Int32)) (n : Nat) (y1 : Int32) (y2 : Int32) (I : ev_I) : Option (Int32) :=
  if (I q0 0) ≤ y2 then
    ev_lt (y1 + (1 : Int32)) fun v3 =>
    K2 v3 I
  else
    (pX8_isAwake n q0 y1 I).bind fun z4 =>
    if z4 = 0 then
      cX6_hasUnlikeLogs_49 q0 K2 K14 n y1 y2 I
    else
      (pX8_isAwake n q0 y2 I).bind fun z6 =>
      if z6 = 0 then
        cX6_hasUnlikeLogs_49 q0 K2 K14 n y1 y2 I
      else
        (pX6_areUnlike n q0 y1 y2 I).bind fun z8 =>
        if z8 = 0 then
          cX6_hasUnlikeLogs_49 q0 K2 K14 n y1 y2 I
        else
          some (1 : Int32)
def lX6_hasUnlikeLogs_14 (q0 : Nat) (K2 : Int32 → ev_I → Option (Int32)) : Nat → Int32 → Int32 → ev_I → Option (Int32)
  | 0, _, _, _ => none
  | n + 1, y1, y2, I => cX6_hasUnlikeLogs_14 q0 K2 (lX6_hasUnlikeLogs_14 q0 K2 n) n y1 y2 I
def cX6_hasUnlikeLogs_2 (q0 : Nat) (K2 : Int32 → ev_I → Option (Int32)) (n : Nat) (y1 : Int32) (I : ev_I) : Option (Int32) :=
  if (I q0 0) ≤ y1 then
    some (0 : Int32)
  else
    ev_lt (y1 + (1 : Int32)) fun v11 =>
    lX6_hasUnlikeLogs_14 q0 K2 n y1 v11 I
def lX6_hasUnlikeLogs_2 (q0 : Nat) : Nat → Int32 → ev_I → Option (Int32)
  | 0, _, _ => none
  | n + 1, y1, I => cX6_hasUnlikeLogs_2 q0 (lX6_hasUnlikeLogs_2 q0 n) n y1 I
def pX6_hasUnlikeLogs (n : Nat) (q0 : Nat) (I : ev_I) : Option (Int32) :=
  lX6_hasUnlikeLogs_2 q0 n (0 : Int32) I
set_option maxRecDepth 100000 in
set_option maxHeartbeats 4000000 in
theorem tX6_hasUnlikeLogs_49 {E : ev_N} {σ : ev_H} (q0 : Nat) (g0 : shp tb7 σ q0) (K2 : Int32 → ev_I → Option (Int32)) (K14 : Int32 → Int32 → ev_I → Option (Int32)) (k2 : ∀ (y1 : Int32) (I : ev_I) (o : Int32), K2 y1 I = some o → EV E mX6_hasUnlikeLogs 2 [some (.ref q0), some (.int y1), none] [] (h_w σ I) (Option.some (Value.int o), h_w σ I)) (k14 : ∀ (y1 : Int32) (y2 : Int32) (I : ev_I) (o : Int32), K14 y1 y2 I = some o → EV E mX6_hasUnlikeLogs 14 [some (.ref q0), some (.int y1), some (.int y2)] [] (h_w σ I) (Option.some (Value.int o), h_w σ I)) (n : Nat) (y1 : Int32) (y2 : Int32) (I : ev_I) (o : Int32) : cX6_hasUnlikeLogs_49 q0 K2 K14 n y1 y2 I = some o → EV E mX6_hasUnlikeLogs 49 [some (.ref q0), some (.int y1), some (.int y2)] [] (h_w σ I) (Option.some (Value.int o), h_w σ I) := by
  intro h
  unfold cX6_hasUnlikeLogs_49 at h
  obtain ⟨v1, ev1, h⟩ := ev_ltE h
  refine ew_iinc (L' := [some (.ref q0), some (.int y1), some (.int v1)]) dX6_hasUnlikeLogs_49 (Nat.le_of_ble_eq_true rfl) rfl (by decide) ev1 rfl ?_
  refine ev_goto (tgt := 14) dX6_hasUnlikeLogs_52 (by decide) ?_
  exact ev_weak (sb_s (sb_s (sb_s sb_0))) (k14 y1 v1 I _ h)
set_option maxRecDepth 100000 in
set_option maxHeartbeats 4000000 in
theorem tX6_hasUnlikeLogs_14 {E : ev_N} {σ : ev_H} (q0 : Nat) (g0 : shp tb7 σ q0) (K2 : Int32 → ev_I → Option (Int32)) (K14 : Int32 → Int32 → ev_I → Option (Int32)) (k2 : ∀ (y1 : Int32) (I : ev_I) (o : Int32), K2 y1 I = some o → EV E mX6_hasUnlikeLogs 2 [some (.ref q0), some (.int y1), none] [] (h_w σ I) (Option.some (Value.int o), h_w σ I)) (k14 : ∀ (y1 : Int32) (y2 : Int32) (I : ev_I) (o : Int32), K14 y1 y2 I = some o → EV E mX6_hasUnlikeLogs 14 [some (.ref q0), some (.int y1), some (.int y2)] [] (h_w σ I) (Option.some (Value.int o), h_w σ I)) (n : Nat) (y1 : Int32) (y2 : Int32) (I : ev_I) (o : Int32) : cX6_hasUnlikeLogs_14 q0 K2 K14 n y1 y2 I = some o → EV E mX6_hasUnlikeLogs 14 [some (.ref q0), some (.int y1), some (.int y2)] [] (h_w σ I) (Option.some (Value.int o), h_w σ I) := by
  intro h
  unfold cX6_hasUnlikeLogs_14 at h
  refine ev_iload_n dX6_hasUnlikeLogs_14 rfl ?_
  refine ev_aload_n dX6_hasUnlikeLogs_15 rfl (fun _ e => by cases e) ?_
  refine ew_get0 dX6_hasUnlikeLogs_16 fX6_158 g0 rfl rfl rfl ?_
  refine ev_icmp_ge (tgt := 55) dX6_hasUnlikeLogs_19 (by decide) (fun c2 => ?_) (fun c2 => ?_)
  · have h := ev_ifT h c2
    obtain ⟨v3, ev3, h⟩ := ev_ltE h
    refine ew_iinc (L' := [some (.ref q0), some (.int v3), some (.int y2)]) dX6_hasUnlikeLogs_55 (Nat.le_of_ble_eq_true rfl) rfl (by decide) ev3 rfl ?_
    refine ev_goto (tgt := 2) dX6_hasUnlikeLogs_58 (by decide) ?_
    exact ev_weak (sb_s (sb_s (sb_n sb_0))) (k2 v3 I _ h)
  · have h := ev_ifF h c2
    refine ev_aload_n dX6_hasUnlikeLogs_22 rfl (fun _ e => by cases e) ?_
    refine ev_iload_n dX6_hasUnlikeLogs_23 rfl ?_
    obtain ⟨z4, hz4, h⟩ := ev_bnE h
    refine ec_Vi (Y := mX8_isAwake) (ci := 7) (As := [.int y1]) (rest := []) dX6_hasUnlikeLogs_24 kX6_165 oX8_isAwake ⟨Nat.le_of_ble_eq_true rfl, Nat.le_of_ble_eq_true rfl⟩ (by decide) rfl (shp_n g0 0 rfl) (shp_t g0 0 rfl) rfl (Nat.le_of_ble_eq_true rfl) (tX8_isAwake n q0 g0 y1 I z4 hz4) rfl ?_
    refine ev_if_eq (tgt := 49) dX6_hasUnlikeLogs_27 (by decide) (fun c5 => ?_) (fun c5 => ?_)
    · have h := ev_ifT h c5
      exact ev_weak (sb_s (sb_s (sb_s sb_0))) (tX6_hasUnlikeLogs_49 q0 g0 K2 K14 k2 k14 n y1 y2 I _ h)
    · have h := ev_ifF h c5
      refine ev_aload_n dX6_hasUnlikeLogs_30 rfl (fun _ e => by cases e) ?_
      refine ev_iload_n dX6_hasUnlikeLogs_31 rfl ?_
      obtain ⟨z6, hz6, h⟩ := ev_bnE h
      refine ec_Vi (Y := mX8_isAwake) (ci := 7) (As := [.int y2]) (rest := []) dX6_hasUnlikeLogs_32 kX6_165 oX8_isAwake ⟨Nat.le_of_ble_eq_true rfl, Nat.le_of_ble_eq_true rfl⟩ (by decide) rfl (shp_n g0 0 rfl) (shp_t g0 0 rfl) rfl (Nat.le_of_ble_eq_true rfl) (tX8_isAwake n q0 g0 y2 I z6 hz6) rfl ?_
      refine ev_if_eq (tgt := 49) dX6_hasUnlikeLogs_35 (by decide) (fun c7 => ?_) (fun c7 => ?_)
      · have h := ev_ifT h c7
        exact ev_weak (sb_s (sb_s (sb_s sb_0))) (tX6_hasUnlikeLogs_49 q0 g0 K2 K14 k2 k14 n y1 y2 I _ h)
      · have h := ev_ifF h c7
        refine ev_aload_n dX6_hasUnlikeLogs_38 rfl (fun _ e => by cases e) ?_
        refine ev_iload_n dX6_hasUnlikeLogs_39 rfl ?_
        refine ev_iload_n dX6_hasUnlikeLogs_40 rfl ?_
        obtain ⟨z8, hz8, h⟩ := ev_bnE h
        refine ec_Si (Y := mX6_areUnlike) (As := [.ref q0, .int y1, .int y2]) (rest := []) dX6_hasUnlikeLogs_41 kX6_267 oX6_areUnlike ⟨Nat.le_of_ble_eq_true rfl, Nat.le_of_ble_eq_true rfl⟩ rfl (Nat.le_of_ble_eq_true rfl) (tX6_areUnlike n q0 g0 y1 y2 I z8 hz8) rfl ?_
        refine ev_if_eq (tgt := 49) dX6_hasUnlikeLogs_44 (by decide) (fun c9 => ?_) (fun c9 => ?_)
        · have h := ev_ifT h c9
          exact ev_weak (sb_s (sb_s (sb_s sb_0))) (tX6_hasUnlikeLogs_49 q0 g0 K2 K14 k2 k14 n y1 y2 I _ h)
        · have h := ev_ifF h c9
          refine ev_iconst (v := (1 : Int32)) dX6_hasUnlikeLogs_47 (by decide) ?_
          cases h
          exact er_i dX6_hasUnlikeLogs_48 rfl rfl
theorem tlX6_hasUnlikeLogs_14 {E : ev_N} {σ : ev_H} (q0 : Nat) (g0 : shp tb7 σ q0) (K2 : Int32 → ev_I → Option (Int32)) (k2 : ∀ (y1 : Int32) (I : ev_I) (o : Int32), K2 y1 I = some o → EV E mX6_hasUnlikeLogs 2 [some (.ref q0), some (.int y1), none] [] (h_w σ I) (Option.some (Value.int o), h_w σ I)) : ∀ (n : Nat) (y1 : Int32) (y2 : Int32) (I : ev_I) (o : Int32), lX6_hasUnlikeLogs_14 q0 K2 n y1 y2 I = some o → EV E mX6_hasUnlikeLogs 14 [some (.ref q0), some (.int y1), some (.int y2)] [] (h_w σ I) (Option.some (Value.int o), h_w σ I)
  | 0, _, _, _, _, h => by cases h
  | n + 1, y1, y2, I, o, h => tX6_hasUnlikeLogs_14 q0 g0 K2 (lX6_hasUnlikeLogs_14 q0 K2 n) k2 (tlX6_hasUnlikeLogs_14 q0 g0 K2 k2 n) n y1 y2 I o h
set_option maxRecDepth 100000 in
set_option maxHeartbeats 4000000 in
theorem tX6_hasUnlikeLogs_2 {E : ev_N} {σ : ev_H} (q0 : Nat) (g0 : shp tb7 σ q0) (K2 : Int32 → ev_I → Option (Int32)) (k2 : ∀ (y1 : Int32) (I : ev_I) (o : Int32), K2 y1 I = some o → EV E mX6_hasUnlikeLogs 2 [some (.ref q0), some (.int y1), none] [] (h_w σ I) (Option.some (Value.int o), h_w σ I)) (n : Nat) (y1 : Int32) (I : ev_I) (o : Int32) : cX6_hasUnlikeLogs_2 q0 K2 n y1 I = some o → EV E mX6_hasUnlikeLogs 2 [some (.ref q0), some (.int y1), none] [] (h_w σ I) (Option.some (Value.int o), h_w σ I) := by
  intro h
  unfold cX6_hasUnlikeLogs_2 at h
  refine ev_iload_n dX6_hasUnlikeLogs_2 rfl ?_
  refine ev_aload_n dX6_hasUnlikeLogs_3 rfl (fun _ e => by cases e) ?_
  refine ew_get0 dX6_hasUnlikeLogs_4 fX6_158 g0 rfl rfl rfl ?_
  refine ev_icmp_ge (tgt := 61) dX6_hasUnlikeLogs_7 (by decide) (fun c10 => ?_) (fun c10 => ?_)
  · have h := ev_ifT h c10
    refine ev_iconst (v := (0 : Int32)) dX6_hasUnlikeLogs_61 (by decide) ?_
    cases h
    exact er_i dX6_hasUnlikeLogs_62 rfl rfl
  · have h := ev_ifF h c10
    refine ev_iload_n dX6_hasUnlikeLogs_10 rfl ?_
    refine ev_iconst (v := (1 : Int32)) dX6_hasUnlikeLogs_11 (by decide) ?_
    refine ev_iadd dX6_hasUnlikeLogs_12 ?_
    obtain ⟨v11, ev11, h⟩ := ev_ltE h
    refine ew_nm ev11 ?_
    refine ew_istn (L' := [some (.ref q0), some (.int y1), some (.int v11)]) dX6_hasUnlikeLogs_13 (Nat.le_of_ble_eq_true rfl) rfl ?_
    exact ev_weak (sb_s (sb_s (sb_s sb_0))) (tlX6_hasUnlikeLogs_14 q0 g0 K2 k2 n y1 v11 I _ h)
theorem tlX6_hasUnlikeLogs_2 {E : ev_N} {σ : ev_H} (q0 : Nat) (g0 : shp tb7 σ q0) : ∀ (n : Nat) (y1 : Int32) (I : ev_I) (o : Int32), lX6_hasUnlikeLogs_2 q0 n y1 I = some o → EV E mX6_hasUnlikeLogs 2 [some (.ref q0), some (.int y1), none] [] (h_w σ I) (Option.some (Value.int o), h_w σ I)
  | 0, _, _, _, h => by cases h
  | n + 1, y1, I, o, h => tX6_hasUnlikeLogs_2 q0 g0 (lX6_hasUnlikeLogs_2 q0 n) (tlX6_hasUnlikeLogs_2 q0 g0 n) n y1 I o h
set_option maxRecDepth 100000 in
set_option maxHeartbeats 4000000 in
theorem tX6_hasUnlikeLogs {E : ev_N} {σ : ev_H} (n : Nat) (q0 : Nat) (g0 : shp tb7 σ q0) (I : ev_I) (o : Int32) (h : pX6_hasUnlikeLogs n q0  I = some o) : ev_T E mX6_hasUnlikeLogs [.ref q0] (h_w σ I) (Option.some (Value.int o), h_w σ I) := by
  unfold pX6_hasUnlikeLogs at h
  refine ev_met rfl rfl (Nat.le_of_ble_eq_true rfl) (ev_L0 (L' := [some (.ref q0), none, none]) rfl ?_)
  refine ev_iconst (v := (0 : Int32)) dX6_hasUnlikeLogs_0 (by decide) ?_
  refine ew_istn (L' := [some (.ref q0), some (.int (0 : Int32)), none]) dX6_hasUnlikeLogs_1 (Nat.le_of_ble_eq_true rfl) rfl ?_
  exact ev_weak (sb_s (sb_s (sb_n sb_0))) (tlX6_hasUnlikeLogs_2 q0 g0 n (0 : Int32) I _ h)
-- ChainVotes$Survey ofWorld(LChainVotes$World;I)I
def pX6_ofWorld (n : Nat) (q0 : Nat) (x1 : Int32) (I : ev_I) : Option (Int32) :=
  if x1 = (0 : Int32) then
    some (I q0 0)
  else
  if x1 = (1 : Int32) then
    (pX8_faults n q0  I).bind fun z3 =>
    some z3
  else
  if x1 = (2 : Int32) then
    (pX8_quorum n q0  I).bind fun z5 =>
    some z5
  else
  if x1 = (3 : Int32) then
    some (I (q0 + 1) 0)
  else
  if x1 = (4 : Int32) then
    some (I (q0 + 11) 0)
  else
  if x1 = (5 : Int32) then
    some (I (q0 + 11) 2)
  else
  if x1 = (6 : Int32) then
    some (I (q0 + 14) 1)
  else
  if x1 = (7 : Int32) then
    (pX6_hasUnlikeLogs n q0  I).bind fun z11 =>
    (pX6_flag n  z11 I).bind fun z12 =>
    some z12
  else
  if x1 = (8 : Int32) then
    (pX6_forksOfAll n q0  I).bind fun z14 =>
    some z14
  else
  if x1 = (9 : Int32) then
    some (I (q0 + 18) 0)
  else
  if x1 = (10 : Int32) then
    some (I (q0 + 18) 1)
  else
  if x1 = (11 : Int32) then
    some (I (q0 + 11) 4)
  else
  if x1 = (12 : Int32) then
    (pX6_greatestView n q0  I).bind fun z19 =>
    some z19
  else
  if x1 = (13 : Int32) then
    (pX6_certifiedBlocks n (q0 + 1)  I).bind fun z21 =>
    some z21
  else
  if x1 = (14 : Int32) then
    some (I q0 2)
  else
  if x1 = (15 : Int32) then
    some (I (q0 + 16) 1)
  else
  if x1 = (16 : Int32) then
    some (I q0 1)
  else
  if x1 = (17 : Int32) then
    (pX6_nodesOfMode n q0 (1 : Int32) I).bind fun z26 =>
    some z26
  else
  if x1 = (18 : Int32) then
    (pX6_nodesOfMode n q0 (2 : Int32) I).bind fun z28 =>
    some z28
  else
  if x1 = (19 : Int32) then
    some (I (q0 + 11) 3)
  else
  if x1 = (20 : Int32) then
    (pX6_cutCouples n q0  I).bind fun z31 =>
    some z31
  else
  some (-100000 : Int32)
set_option maxRecDepth 100000 in
set_option maxHeartbeats 4000000 in
theorem tX6_ofWorld {E : ev_N} {σ : ev_H} (n : Nat) (q0 : Nat) (g0 : shp tb7 σ q0) (x1 : Int32) (I : ev_I) (o : Int32) (h : pX6_ofWorld n q0 x1 I = some o) : ev_T E mX6_ofWorld [.ref q0, .int x1] (h_w σ I) (Option.some (Value.int o), h_w σ I) := by
  unfold pX6_ofWorld at h
  refine ev_met rfl rfl (Nat.le_of_ble_eq_true rfl) (ev_L0 (L' := [some (.ref q0), some (.int x1)]) rfl ?_)
  refine ev_iload_n dX6_ofWorld_0 rfl ?_
  by_cases c1 : x1 = (0 : Int32)
  · have h := ev_ifT h c1
    refine ev_table (tgt := 100) dX6_ofWorld_1 (by rw [c1]; decide) (by decide) ?_
    refine ev_aload_n dX6_ofWorld_100 rfl (fun _ e => by cases e) ?_
    refine ew_get0 dX6_ofWorld_101 fX6_158 g0 rfl rfl rfl ?_
    cases h
    exact er_i dX6_ofWorld_104 rfl rfl
  have h := ev_ifF h c1
  by_cases c2 : x1 = (1 : Int32)
  · have h := ev_ifT h c2
    refine ev_table (tgt := 105) dX6_ofWorld_1 (by rw [c2]; decide) (by decide) ?_
    refine ev_aload_n dX6_ofWorld_105 rfl (fun _ e => by cases e) ?_
    obtain ⟨z3, hz3, h⟩ := ev_bnE h
    refine ec_Vi (Y := mX8_faults) (ci := 7) (As := []) (rest := []) dX6_ofWorld_106 kX6_205 oX8_faults ⟨Nat.le_of_ble_eq_true rfl, Nat.le_of_ble_eq_true rfl⟩ (by decide) rfl (shp_n g0 0 rfl) (shp_t g0 0 rfl) rfl (Nat.le_of_ble_eq_true rfl) (tX8_faults n q0 g0  I z3 hz3) rfl ?_
    cases h
    exact er_i dX6_ofWorld_109 rfl rfl
  have h := ev_ifF h c2
  by_cases c4 : x1 = (2 : Int32)
  · have h := ev_ifT h c4
    refine ev_table (tgt := 110) dX6_ofWorld_1 (by rw [c4]; decide) (by decide) ?_
    refine ev_aload_n dX6_ofWorld_110 rfl (fun _ e => by cases e) ?_
    obtain ⟨z5, hz5, h⟩ := ev_bnE h
    refine ec_Vi (Y := mX8_quorum) (ci := 7) (As := []) (rest := []) dX6_ofWorld_111 kX6_208 oX8_quorum ⟨Nat.le_of_ble_eq_true rfl, Nat.le_of_ble_eq_true rfl⟩ (by decide) rfl (shp_n g0 0 rfl) (shp_t g0 0 rfl) rfl (Nat.le_of_ble_eq_true rfl) (tX8_quorum n q0 g0  I z5 hz5) rfl ?_
    cases h
    exact er_i dX6_ofWorld_114 rfl rfl
  have h := ev_ifF h c4
  by_cases c6 : x1 = (3 : Int32)
  · have h := ev_ifT h c6
    refine ev_table (tgt := 115) dX6_ofWorld_1 (by rw [c6]; decide) (by decide) ?_
    refine ev_aload_n dX6_ofWorld_115 rfl (fun _ e => by cases e) ?_
    refine ew_getr0 dX6_ofWorld_116 fX6_109 g0 rfl rfl rfl rfl ?_
    refine ew_get0 dX6_ofWorld_119 fX6_130 (s71 g0) rfl rfl rfl ?_
    cases h
    exact er_i dX6_ofWorld_122 rfl rfl
  have h := ev_ifF h c6
  by_cases c7 : x1 = (4 : Int32)
  · have h := ev_ifT h c7
    refine ev_table (tgt := 123) dX6_ofWorld_1 (by rw [c7]; decide) (by decide) ?_
    refine ev_aload_n dX6_ofWorld_123 rfl (fun _ e => by cases e) ?_
    refine ew_getr0 dX6_ofWorld_124 fX6_211 g0 rfl rfl rfl rfl ?_
    refine ew_get0 dX6_ofWorld_127 fX6_215 (s74 g0) rfl rfl rfl ?_
    cases h
    exact er_i dX6_ofWorld_130 rfl rfl
  have h := ev_ifF h c7
  by_cases c8 : x1 = (5 : Int32)
  · have h := ev_ifT h c8
    refine ev_table (tgt := 131) dX6_ofWorld_1 (by rw [c8]; decide) (by decide) ?_
    refine ev_aload_n dX6_ofWorld_131 rfl (fun _ e => by cases e) ?_
    refine ew_getr0 dX6_ofWorld_132 fX6_211 g0 rfl rfl rfl rfl ?_
    refine ew_get0 dX6_ofWorld_135 fX6_216 (s74 g0) rfl rfl rfl ?_
    cases h
    exact er_i dX6_ofWorld_138 rfl rfl
  have h := ev_ifF h c8
  by_cases c9 : x1 = (6 : Int32)
  · have h := ev_ifT h c9
    refine ev_table (tgt := 139) dX6_ofWorld_1 (by rw [c9]; decide) (by decide) ?_
    refine ev_aload_n dX6_ofWorld_139 rfl (fun _ e => by cases e) ?_
    refine ew_getr0 dX6_ofWorld_140 fX6_168 g0 rfl rfl rfl rfl ?_
    refine ew_get0 dX6_ofWorld_143 fX6_172 (s72e g0) rfl rfl rfl ?_
    cases h
    exact er_i dX6_ofWorld_146 rfl rfl
  have h := ev_ifF h c9
  by_cases c10 : x1 = (7 : Int32)
  · have h := ev_ifT h c10
    refine ev_table (tgt := 147) dX6_ofWorld_1 (by rw [c10]; decide) (by decide) ?_
    refine ev_aload_n dX6_ofWorld_147 rfl (fun _ e => by cases e) ?_
    obtain ⟨z11, hz11, h⟩ := ev_bnE h
    refine ec_Si (Y := mX6_hasUnlikeLogs) (As := [.ref q0]) (rest := []) dX6_ofWorld_148 kX6_219 oX6_hasUnlikeLogs ⟨Nat.le_of_ble_eq_true rfl, Nat.le_of_ble_eq_true rfl⟩ rfl (Nat.le_of_ble_eq_true rfl) (tX6_hasUnlikeLogs n q0 g0  I z11 hz11) rfl ?_
    obtain ⟨z12, hz12, h⟩ := ev_bnE h
    refine ec_Si (Y := mX6_flag) (As := [.int z11]) (rest := []) dX6_ofWorld_151 kX6_56 oX6_flag ⟨Nat.le_of_ble_eq_true rfl, Nat.le_of_ble_eq_true rfl⟩ rfl (Nat.le_of_ble_eq_true rfl) (tX6_flag n   z11 I z12 hz12) rfl ?_
    cases h
    exact er_i dX6_ofWorld_154 rfl rfl
  have h := ev_ifF h c10
  by_cases c13 : x1 = (8 : Int32)
  · have h := ev_ifT h c13
    refine ev_table (tgt := 155) dX6_ofWorld_1 (by rw [c13]; decide) (by decide) ?_
    refine ev_aload_n dX6_ofWorld_155 rfl (fun _ e => by cases e) ?_
    obtain ⟨z14, hz14, h⟩ := ev_bnE h
    refine ec_Si (Y := mX6_forksOfAll) (As := [.ref q0]) (rest := []) dX6_ofWorld_156 kX6_223 oX6_forksOfAll ⟨Nat.le_of_ble_eq_true rfl, Nat.le_of_ble_eq_true rfl⟩ rfl (Nat.le_of_ble_eq_true rfl) (tX6_forksOfAll n q0 g0  I z14 hz14) rfl ?_
    cases h
    exact er_i dX6_ofWorld_159 rfl rfl
  have h := ev_ifF h c13
  by_cases c15 : x1 = (9 : Int32)
  · have h := ev_ifT h c15
    refine ev_table (tgt := 160) dX6_ofWorld_1 (by rw [c15]; decide) (by decide) ?_
    refine ev_aload_n dX6_ofWorld_160 rfl (fun _ e => by cases e) ?_
    refine ew_getr0 dX6_ofWorld_161 fX6_227 g0 rfl rfl rfl rfl ?_
    refine ew_get0 dX6_ofWorld_164 fX6_231 (s75 g0) rfl rfl rfl ?_
    cases h
    exact er_i dX6_ofWorld_167 rfl rfl
  have h := ev_ifF h c15
  by_cases c16 : x1 = (10 : Int32)
  · have h := ev_ifT h c16
    refine ev_table (tgt := 168) dX6_ofWorld_1 (by rw [c16]; decide) (by decide) ?_
    refine ev_aload_n dX6_ofWorld_168 rfl (fun _ e => by cases e) ?_
    refine ew_getr0 dX6_ofWorld_169 fX6_227 g0 rfl rfl rfl rfl ?_
    refine ew_get0 dX6_ofWorld_172 fX6_236 (s75 g0) rfl rfl rfl ?_
    cases h
    exact er_i dX6_ofWorld_175 rfl rfl
  have h := ev_ifF h c16
  by_cases c17 : x1 = (11 : Int32)
  · have h := ev_ifT h c17
    refine ev_table (tgt := 176) dX6_ofWorld_1 (by rw [c17]; decide) (by decide) ?_
    refine ev_aload_n dX6_ofWorld_176 rfl (fun _ e => by cases e) ?_
    refine ew_getr0 dX6_ofWorld_177 fX6_211 g0 rfl rfl rfl rfl ?_
    refine ew_get0 dX6_ofWorld_180 fX6_239 (s74 g0) rfl rfl rfl ?_
    cases h
    exact er_i dX6_ofWorld_183 rfl rfl
  have h := ev_ifF h c17
  by_cases c18 : x1 = (12 : Int32)
  · have h := ev_ifT h c18
    refine ev_table (tgt := 184) dX6_ofWorld_1 (by rw [c18]; decide) (by decide) ?_
    refine ev_aload_n dX6_ofWorld_184 rfl (fun _ e => by cases e) ?_
    obtain ⟨z19, hz19, h⟩ := ev_bnE h
    refine ec_Si (Y := mX6_greatestView) (As := [.ref q0]) (rest := []) dX6_ofWorld_185 kX6_242 oX6_greatestView ⟨Nat.le_of_ble_eq_true rfl, Nat.le_of_ble_eq_true rfl⟩ rfl (Nat.le_of_ble_eq_true rfl) (tX6_greatestView n q0 g0  I z19 hz19) rfl ?_
    cases h
    exact er_i dX6_ofWorld_188 rfl rfl
  have h := ev_ifF h c18
  by_cases c20 : x1 = (13 : Int32)
  · have h := ev_ifT h c20
    refine ev_table (tgt := 189) dX6_ofWorld_1 (by rw [c20]; decide) (by decide) ?_
    refine ev_aload_n dX6_ofWorld_189 rfl (fun _ e => by cases e) ?_
    refine ew_getr0 dX6_ofWorld_190 fX6_109 g0 rfl rfl rfl rfl ?_
    obtain ⟨z21, hz21, h⟩ := ev_bnE h
    refine ec_Si (Y := mX6_certifiedBlocks) (As := [.ref (q0 + 1)]) (rest := []) dX6_ofWorld_193 kX6_245 oX6_certifiedBlocks ⟨Nat.le_of_ble_eq_true rfl, Nat.le_of_ble_eq_true rfl⟩ rfl (Nat.le_of_ble_eq_true rfl) (tX6_certifiedBlocks n (q0 + 1) (s71 g0)  I z21 hz21) rfl ?_
    cases h
    exact er_i dX6_ofWorld_196 rfl rfl
  have h := ev_ifF h c20
  by_cases c22 : x1 = (14 : Int32)
  · have h := ev_ifT h c22
    refine ev_table (tgt := 197) dX6_ofWorld_1 (by rw [c22]; decide) (by decide) ?_
    refine ev_aload_n dX6_ofWorld_197 rfl (fun _ e => by cases e) ?_
    refine ew_get0 dX6_ofWorld_198 fX6_249 g0 rfl rfl rfl ?_
    cases h
    exact er_i dX6_ofWorld_201 rfl rfl
  have h := ev_ifF h c22
  by_cases c23 : x1 = (15 : Int32)
  · have h := ev_ifT h c23
    refine ev_table (tgt := 202) dX6_ofWorld_1 (by rw [c23]; decide) (by decide) ?_
    refine ev_aload_n dX6_ofWorld_202 rfl (fun _ e => by cases e) ?_
    refine ew_getr0 dX6_ofWorld_203 fX6_252 g0 rfl rfl rfl rfl ?_
    refine ew_get0 dX6_ofWorld_206 fX6_172 (s72v g0) rfl rfl rfl ?_
    cases h
    exact er_i dX6_ofWorld_209 rfl rfl
  have h := ev_ifF h c23
  by_cases c24 : x1 = (16 : Int32)
  · have h := ev_ifT h c24
    refine ev_table (tgt := 210) dX6_ofWorld_1 (by rw [c24]; decide) (by decide) ?_
    refine ev_aload_n dX6_ofWorld_210 rfl (fun _ e => by cases e) ?_
    refine ew_get0 dX6_ofWorld_211 fX6_255 g0 rfl rfl rfl ?_
    cases h
    exact er_i dX6_ofWorld_214 rfl rfl
  have h := ev_ifF h c24
  by_cases c25 : x1 = (17 : Int32)
  · have h := ev_ifT h c25
    refine ev_table (tgt := 215) dX6_ofWorld_1 (by rw [c25]; decide) (by decide) ?_
    refine ev_aload_n dX6_ofWorld_215 rfl (fun _ e => by cases e) ?_
    refine ev_iconst (v := (1 : Int32)) dX6_ofWorld_216 (by decide) ?_
    obtain ⟨z26, hz26, h⟩ := ev_bnE h
    refine ec_Si (Y := mX6_nodesOfMode) (As := [.ref q0, .int (1 : Int32)]) (rest := []) dX6_ofWorld_217 kX6_258 oX6_nodesOfMode ⟨Nat.le_of_ble_eq_true rfl, Nat.le_of_ble_eq_true rfl⟩ rfl (Nat.le_of_ble_eq_true rfl) (tX6_nodesOfMode n q0 g0 (1 : Int32) I z26 hz26) rfl ?_
    cases h
    exact er_i dX6_ofWorld_220 rfl rfl
  have h := ev_ifF h c25
  by_cases c27 : x1 = (18 : Int32)
  · have h := ev_ifT h c27
    refine ev_table (tgt := 221) dX6_ofWorld_1 (by rw [c27]; decide) (by decide) ?_
    refine ev_aload_n dX6_ofWorld_221 rfl (fun _ e => by cases e) ?_
    refine ev_iconst (v := (2 : Int32)) dX6_ofWorld_222 (by decide) ?_
    obtain ⟨z28, hz28, h⟩ := ev_bnE h
    refine ec_Si (Y := mX6_nodesOfMode) (As := [.ref q0, .int (2 : Int32)]) (rest := []) dX6_ofWorld_223 kX6_258 oX6_nodesOfMode ⟨Nat.le_of_ble_eq_true rfl, Nat.le_of_ble_eq_true rfl⟩ rfl (Nat.le_of_ble_eq_true rfl) (tX6_nodesOfMode n q0 g0 (2 : Int32) I z28 hz28) rfl ?_
    cases h
    exact er_i dX6_ofWorld_226 rfl rfl
  have h := ev_ifF h c27
  by_cases c29 : x1 = (19 : Int32)
  · have h := ev_ifT h c29
    refine ev_table (tgt := 227) dX6_ofWorld_1 (by rw [c29]; decide) (by decide) ?_
    refine ev_aload_n dX6_ofWorld_227 rfl (fun _ e => by cases e) ?_
    refine ew_getr0 dX6_ofWorld_228 fX6_211 g0 rfl rfl rfl rfl ?_
    refine ew_get0 dX6_ofWorld_231 fX6_261 (s74 g0) rfl rfl rfl ?_
    cases h
    exact er_i dX6_ofWorld_234 rfl rfl
  have h := ev_ifF h c29
  by_cases c30 : x1 = (20 : Int32)
  · have h := ev_ifT h c30
    refine ev_table (tgt := 235) dX6_ofWorld_1 (by rw [c30]; decide) (by decide) ?_
    refine ev_aload_n dX6_ofWorld_235 rfl (fun _ e => by cases e) ?_
    obtain ⟨z31, hz31, h⟩ := ev_bnE h
    refine ec_Si (Y := mX6_cutCouples) (As := [.ref q0]) (rest := []) dX6_ofWorld_236 kX6_264 oX6_cutCouples ⟨Nat.le_of_ble_eq_true rfl, Nat.le_of_ble_eq_true rfl⟩ rfl (Nat.le_of_ble_eq_true rfl) (tX6_cutCouples n q0 g0  I z31 hz31) rfl ?_
    cases h
    exact er_i dX6_ofWorld_239 rfl rfl
  have h := ev_ifF h c30
  refine ev_table (tgt := 240) dX6_ofWorld_1 (by rw [if_pos (sw_out _ _ x1 (by intro i h1 h2; rcases (show i = 0 ∨ i = 1 ∨ i = 2 ∨ i = 3 ∨ i = 4 ∨ i = 5 ∨ i = 6 ∨ i = 7 ∨ i = 8 ∨ i = 9 ∨ i = 10 ∨ i = 11 ∨ i = 12 ∨ i = 13 ∨ i = 14 ∨ i = 15 ∨ i = 16 ∨ i = 17 ∨ i = 18 ∨ i = 19 ∨ i = 20 by omega) with rfl | rfl | rfl | rfl | rfl | rfl | rfl | rfl | rfl | rfl | rfl | rfl | rfl | rfl | rfl | rfl | rfl | rfl | rfl | rfl | rfl <;> first | exact ⟨_, by decide, c1⟩ | exact ⟨_, by decide, c2⟩ | exact ⟨_, by decide, c4⟩ | exact ⟨_, by decide, c6⟩ | exact ⟨_, by decide, c7⟩ | exact ⟨_, by decide, c8⟩ | exact ⟨_, by decide, c9⟩ | exact ⟨_, by decide, c10⟩ | exact ⟨_, by decide, c13⟩ | exact ⟨_, by decide, c15⟩ | exact ⟨_, by decide, c16⟩ | exact ⟨_, by decide, c17⟩ | exact ⟨_, by decide, c18⟩ | exact ⟨_, by decide, c20⟩ | exact ⟨_, by decide, c22⟩ | exact ⟨_, by decide, c23⟩ | exact ⟨_, by decide, c24⟩ | exact ⟨_, by decide, c25⟩ | exact ⟨_, by decide, c27⟩ | exact ⟨_, by decide, c29⟩ | exact ⟨_, by decide, c30⟩))]; rfl) (by decide) ?_
  refine ev_ldc (v := (-100000 : Int32)) dX6_ofWorld_240 vX6_133 ?_
  cases h
  exact er_i dX6_ofWorld_242 rfl rfl
