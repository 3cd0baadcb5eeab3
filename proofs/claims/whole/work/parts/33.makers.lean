def csX0 (a : Nat) : List ev_K := [(0, 0, fun _ => 0, ev_u1 (ev_u1 (fun _ => none) 0 (some (a + 1))) 1 (some (a + 2))), nc 100 5, nc 100 100]
set_option maxRecDepth 100000 in
set_option maxHeartbeats 4000000 in
theorem mkX0 (E : ev_N) : mkr E mX0_init 0 [] 105 csX0 := by
  refine en_met rfl rfl (Nat.le_of_ble_eq_true rfl) (fun σ a R => ?_)
  refine ex_up (fun _ k => ev_L0 (L' := [some (.ref a)]) rfl k) ?_
  refine ex_up (fun _ k => ev_aload_n dX0_init_0 rfl (fun _ e => by cases e) k) ?_
  refine ex_up (fun _ k => ev_obj dX0_init_1 kX0_3 zO_i zO_c (Nat.le_of_ble_eq_true rfl) (Nat.le_of_ble_eq_true rfl) k) ?_
  refine ex_up (fun _ k => ev_aload_n dX0_init_4 rfl (fun _ e => by cases e) k) ?_
  refine ex_up (fun _ k => ev_iconst (v := (5 : Int32)) dX0_init_5 (by decide) k) ?_
  refine en_newi (z := 5) R dX0_init_6 (by decide) (by decide) (Nat.le_of_ble_eq_true rfl) (fun τ R => ?_)
  have R : rg σ a 5 ([nc 0 0, nc 100 5]) τ := R
  show EX _ _ _ _ [.ref (a + 1), .ref a] _ _
  refine en_putr R 0 rfl dX0_init_8 fX0_9 rfl (Or.inr ⟨rfl, rfl⟩) (Or.inr ⟨_, rfl⟩) (fun τ R => ?_)
  have R : rg σ a 5 ([(0, 0, fun _ => 0, ev_u1 (fun _ => none) 0 (some (a + 1))), nc 100 5]) τ := R
  refine ex_up (fun _ k => ev_aload_n dX0_init_11 rfl (fun _ e => by cases e) k) ?_
  refine ex_up (fun _ k => ev_bipush (v := (100 : Int32)) dX0_init_12 (by decide) k) ?_
  refine en_newi (z := 100) R dX0_init_14 (by decide) (by decide) (Nat.le_of_ble_eq_true rfl) (fun τ R => ?_)
  have R : rg σ a 105 ([(0, 0, fun _ => 0, ev_u1 (fun _ => none) 0 (some (a + 1))), nc 100 5, nc 100 100]) τ := R
  show EX _ _ _ _ [.ref (a + 2), .ref a] _ _
  refine en_putr R 0 rfl dX0_init_16 fX0_15 rfl (Or.inr ⟨rfl, rfl⟩) (Or.inr ⟨_, rfl⟩) (fun τ R => ?_)
  have R : rg σ a 105 ([(0, 0, fun _ => 0, ev_u1 (ev_u1 (fun _ => none) 0 (some (a + 1))) 1 (some (a + 2))), nc 100 5, nc 100 100]) τ := R
  exact ⟨(none, τ), ⟨rfl, R⟩, er_v dX0_init_19 rfl⟩
def csX1 (a : Nat) : List ev_K := [(1, 0, ev_u1 (fun _ => 0) 0 (1 : Int32), ev_u1 (ev_u1 (ev_u1 (ev_u1 (ev_u1 (ev_u1 (ev_u1 (ev_u1 (fun _ => none) 1 (some (a + 1))) 2 (some (a + 2))) 3 (some (a + 3))) 4 (some (a + 4))) 5 (some (a + 5))) 6 (some (a + 6))) 7 (some (a + 7))) 8 (some (a + 8))), nc 100 100, (100, 100, ev_u1 (fun _ => 0) 0 (-1 : Int32), fun _ => none), nc 100 100, nc 100 100, (100, 100, ev_u1 (fun _ => 0) 0 (-1 : Int32), fun _ => none), nc 100 100, nc 100 100, (100, 100, ev_u1 (fun _ => 0) 0 (1 : Int32), fun _ => none)]
set_option maxRecDepth 100000 in
set_option maxHeartbeats 4000000 in
theorem mkX1 (E : ev_N) : mkr E mX1_init 1 [] 800 csX1 := by
  refine en_met rfl rfl (Nat.le_of_ble_eq_true rfl) (fun σ a R => ?_)
  refine ex_up (fun _ k => ev_L0 (L' := [some (.ref a)]) rfl k) ?_
  refine ex_up (fun _ k => ev_aload_n dX1_init_0 rfl (fun _ e => by cases e) k) ?_
  refine ex_up (fun _ k => ev_obj dX1_init_1 kX1_3 zO_i zO_c (Nat.le_of_ble_eq_true rfl) (Nat.le_of_ble_eq_true rfl) k) ?_
  refine ex_up (fun _ k => ev_aload_n dX1_init_4 rfl (fun _ e => by cases e) k) ?_
  refine ex_up (fun _ k => ev_bipush (v := (100 : Int32)) dX1_init_5 (by decide) k) ?_
  refine en_newi (z := 100) R dX1_init_7 (by decide) (by decide) (Nat.le_of_ble_eq_true rfl) (fun τ R => ?_)
  have R : rg σ a 100 ([nc 1 0, nc 100 100]) τ := R
  show EX _ _ _ _ [.ref (a + 1), .ref a] _ _
  refine en_putr R 0 rfl dX1_init_9 fX1_9 rfl (Or.inr ⟨rfl, rfl⟩) (Or.inr ⟨_, rfl⟩) (fun τ R => ?_)
  have R : rg σ a 100 ([(1, 0, fun _ => 0, ev_u1 (fun _ => none) 1 (some (a + 1))), nc 100 100]) τ := R
  refine ex_up (fun _ k => ev_aload_n dX1_init_12 rfl (fun _ e => by cases e) k) ?_
  refine ex_up (fun _ k => ev_bipush (v := (100 : Int32)) dX1_init_13 (by decide) k) ?_
  refine en_newi (z := 100) R dX1_init_15 (by decide) (by decide) (Nat.le_of_ble_eq_true rfl) (fun τ R => ?_)
  have R : rg σ a 200 ([(1, 0, fun _ => 0, ev_u1 (fun _ => none) 1 (some (a + 1))), nc 100 100, nc 100 100]) τ := R
  show EX _ _ _ _ [.ref (a + 2), .ref a] _ _
  refine en_putr R 0 rfl dX1_init_17 fX1_15 rfl (Or.inr ⟨rfl, rfl⟩) (Or.inr ⟨_, rfl⟩) (fun τ R => ?_)
  have R : rg σ a 200 ([(1, 0, fun _ => 0, ev_u1 (ev_u1 (fun _ => none) 1 (some (a + 1))) 2 (some (a + 2))), nc 100 100, nc 100 100]) τ := R
  refine ex_up (fun _ k => ev_aload_n dX1_init_20 rfl (fun _ e => by cases e) k) ?_
  refine ex_up (fun _ k => ev_bipush (v := (100 : Int32)) dX1_init_21 (by decide) k) ?_
  refine en_newi (z := 100) R dX1_init_23 (by decide) (by decide) (Nat.le_of_ble_eq_true rfl) (fun τ R => ?_)
  have R : rg σ a 300 ([(1, 0, fun _ => 0, ev_u1 (ev_u1 (fun _ => none) 1 (some (a + 1))) 2 (some (a + 2))), nc 100 100, nc 100 100, nc 100 100]) τ := R
  show EX _ _ _ _ [.ref (a + 3), .ref a] _ _
  refine en_putr R 0 rfl dX1_init_25 fX1_18 rfl (Or.inr ⟨rfl, rfl⟩) (Or.inr ⟨_, rfl⟩) (fun τ R => ?_)
  have R : rg σ a 300 ([(1, 0, fun _ => 0, ev_u1 (ev_u1 (ev_u1 (fun _ => none) 1 (some (a + 1))) 2 (some (a + 2))) 3 (some (a + 3))), nc 100 100, nc 100 100, nc 100 100]) τ := R
  refine ex_up (fun _ k => ev_aload_n dX1_init_28 rfl (fun _ e => by cases e) k) ?_
  refine ex_up (fun _ k => ev_bipush (v := (100 : Int32)) dX1_init_29 (by decide) k) ?_
  refine en_newi (z := 100) R dX1_init_31 (by decide) (by decide) (Nat.le_of_ble_eq_true rfl) (fun τ R => ?_)
  have R : rg σ a 400 ([(1, 0, fun _ => 0, ev_u1 (ev_u1 (ev_u1 (fun _ => none) 1 (some (a + 1))) 2 (some (a + 2))) 3 (some (a + 3))), nc 100 100, nc 100 100, nc 100 100, nc 100 100]) τ := R
  show EX _ _ _ _ [.ref (a + 4), .ref a] _ _
  refine en_putr R 0 rfl dX1_init_33 fX1_21 rfl (Or.inr ⟨rfl, rfl⟩) (Or.inr ⟨_, rfl⟩) (fun τ R => ?_)
  have R : rg σ a 400 ([(1, 0, fun _ => 0, ev_u1 (ev_u1 (ev_u1 (ev_u1 (fun _ => none) 1 (some (a + 1))) 2 (some (a + 2))) 3 (some (a + 3))) 4 (some (a + 4))), nc 100 100, nc 100 100, nc 100 100, nc 100 100]) τ := R
  refine ex_up (fun _ k => ev_aload_n dX1_init_36 rfl (fun _ e => by cases e) k) ?_
  refine ex_up (fun _ k => ev_bipush (v := (100 : Int32)) dX1_init_37 (by decide) k) ?_
  refine en_newi (z := 100) R dX1_init_39 (by decide) (by decide) (Nat.le_of_ble_eq_true rfl) (fun τ R => ?_)
  have R : rg σ a 500 ([(1, 0, fun _ => 0, ev_u1 (ev_u1 (ev_u1 (ev_u1 (fun _ => none) 1 (some (a + 1))) 2 (some (a + 2))) 3 (some (a + 3))) 4 (some (a + 4))), nc 100 100, nc 100 100, nc 100 100, nc 100 100, nc 100 100]) τ := R
  show EX _ _ _ _ [.ref (a + 5), .ref a] _ _
  refine en_putr R 0 rfl dX1_init_41 fX1_24 rfl (Or.inr ⟨rfl, rfl⟩) (Or.inr ⟨_, rfl⟩) (fun τ R => ?_)
  have R : rg σ a 500 ([(1, 0, fun _ => 0, ev_u1 (ev_u1 (ev_u1 (ev_u1 (ev_u1 (fun _ => none) 1 (some (a + 1))) 2 (some (a + 2))) 3 (some (a + 3))) 4 (some (a + 4))) 5 (some (a + 5))), nc 100 100, nc 100 100, nc 100 100, nc 100 100, nc 100 100]) τ := R
  refine ex_up (fun _ k => ev_aload_n dX1_init_44 rfl (fun _ e => by cases e) k) ?_
  refine ex_up (fun _ k => ev_bipush (v := (100 : Int32)) dX1_init_45 (by decide) k) ?_
  refine en_newi (z := 100) R dX1_init_47 (by decide) (by decide) (Nat.le_of_ble_eq_true rfl) (fun τ R => ?_)
  have R : rg σ a 600 ([(1, 0, fun _ => 0, ev_u1 (ev_u1 (ev_u1 (ev_u1 (ev_u1 (fun _ => none) 1 (some (a + 1))) 2 (some (a + 2))) 3 (some (a + 3))) 4 (some (a + 4))) 5 (some (a + 5))), nc 100 100, nc 100 100, nc 100 100, nc 100 100, nc 100 100, nc 100 100]) τ := R
  show EX _ _ _ _ [.ref (a + 6), .ref a] _ _
  refine en_putr R 0 rfl dX1_init_49 fX1_27 rfl (Or.inr ⟨rfl, rfl⟩) (Or.inr ⟨_, rfl⟩) (fun τ R => ?_)
  have R : rg σ a 600 ([(1, 0, fun _ => 0, ev_u1 (ev_u1 (ev_u1 (ev_u1 (ev_u1 (ev_u1 (fun _ => none) 1 (some (a + 1))) 2 (some (a + 2))) 3 (some (a + 3))) 4 (some (a + 4))) 5 (some (a + 5))) 6 (some (a + 6))), nc 100 100, nc 100 100, nc 100 100, nc 100 100, nc 100 100, nc 100 100]) τ := R
  refine ex_up (fun _ k => ev_aload_n dX1_init_52 rfl (fun _ e => by cases e) k) ?_
  refine ex_up (fun _ k => ev_bipush (v := (100 : Int32)) dX1_init_53 (by decide) k) ?_
  refine en_newi (z := 100) R dX1_init_55 (by decide) (by decide) (Nat.le_of_ble_eq_true rfl) (fun τ R => ?_)
  have R : rg σ a 700 ([(1, 0, fun _ => 0, ev_u1 (ev_u1 (ev_u1 (ev_u1 (ev_u1 (ev_u1 (fun _ => none) 1 (some (a + 1))) 2 (some (a + 2))) 3 (some (a + 3))) 4 (some (a + 4))) 5 (some (a + 5))) 6 (some (a + 6))), nc 100 100, nc 100 100, nc 100 100, nc 100 100, nc 100 100, nc 100 100, nc 100 100]) τ := R
  show EX _ _ _ _ [.ref (a + 7), .ref a] _ _
  refine en_putr R 0 rfl dX1_init_57 fX1_30 rfl (Or.inr ⟨rfl, rfl⟩) (Or.inr ⟨_, rfl⟩) (fun τ R => ?_)
  have R : rg σ a 700 ([(1, 0, fun _ => 0, ev_u1 (ev_u1 (ev_u1 (ev_u1 (ev_u1 (ev_u1 (ev_u1 (fun _ => none) 1 (some (a + 1))) 2 (some (a + 2))) 3 (some (a + 3))) 4 (some (a + 4))) 5 (some (a + 5))) 6 (some (a + 6))) 7 (some (a + 7))), nc 100 100, nc 100 100, nc 100 100, nc 100 100, nc 100 100, nc 100 100, nc 100 100]) τ := R
  refine ex_up (fun _ k => ev_aload_n dX1_init_60 rfl (fun _ e => by cases e) k) ?_
  refine ex_up (fun _ k => ev_bipush (v := (100 : Int32)) dX1_init_61 (by decide) k) ?_
  refine en_newi (z := 100) R dX1_init_63 (by decide) (by decide) (Nat.le_of_ble_eq_true rfl) (fun τ R => ?_)
  have R : rg σ a 800 ([(1, 0, fun _ => 0, ev_u1 (ev_u1 (ev_u1 (ev_u1 (ev_u1 (ev_u1 (ev_u1 (fun _ => none) 1 (some (a + 1))) 2 (some (a + 2))) 3 (some (a + 3))) 4 (some (a + 4))) 5 (some (a + 5))) 6 (some (a + 6))) 7 (some (a + 7))), nc 100 100, nc 100 100, nc 100 100, nc 100 100, nc 100 100, nc 100 100, nc 100 100, nc 100 100]) τ := R
  show EX _ _ _ _ [.ref (a + 8), .ref a] _ _
  refine en_putr R 0 rfl dX1_init_65 fX1_33 rfl (Or.inr ⟨rfl, rfl⟩) (Or.inr ⟨_, rfl⟩) (fun τ R => ?_)
  have R : rg σ a 800 ([(1, 0, fun _ => 0, ev_u1 (ev_u1 (ev_u1 (ev_u1 (ev_u1 (ev_u1 (ev_u1 (ev_u1 (fun _ => none) 1 (some (a + 1))) 2 (some (a + 2))) 3 (some (a + 3))) 4 (some (a + 4))) 5 (some (a + 5))) 6 (some (a + 6))) 7 (some (a + 7))) 8 (some (a + 8))), nc 100 100, nc 100 100, nc 100 100, nc 100 100, nc 100 100, nc 100 100, nc 100 100, nc 100 100]) τ := R
  refine ex_up (fun _ k => ev_aload_n dX1_init_68 rfl (fun _ e => by cases e) k) ?_
  refine ex_up (fun _ k => ev_iconst (v := (1 : Int32)) dX1_init_69 (by decide) k) ?_
  refine en_puti R 0 rfl dX1_init_70 fX1_36 rfl (Or.inl rfl) rfl rfl (fun τ R => ?_)
  have R : rg σ a 800 ([(1, 0, ev_u1 (fun _ => 0) 0 (1 : Int32), ev_u1 (ev_u1 (ev_u1 (ev_u1 (ev_u1 (ev_u1 (ev_u1 (ev_u1 (fun _ => none) 1 (some (a + 1))) 2 (some (a + 2))) 3 (some (a + 3))) 4 (some (a + 4))) 5 (some (a + 5))) 6 (some (a + 6))) 7 (some (a + 7))) 8 (some (a + 8))), nc 100 100, nc 100 100, nc 100 100, nc 100 100, nc 100 100, nc 100 100, nc 100 100, nc 100 100]) τ := R
  refine ex_up (fun _ k => ev_aload_n dX1_init_73 rfl (fun _ e => by cases e) k) ?_
  refine en_getr (r := a + 2) R 0 rfl dX1_init_74 fX1_15 rfl rfl ?_
  refine ex_up (fun _ k => ev_iconst (v := (0 : Int32)) dX1_init_77 (by decide) k) ?_
  refine ex_up (fun _ k => ev_iconst (v := (-1 : Int32)) dX1_init_78 (by decide) k) ?_
  refine en_iast R 2 rfl dX1_init_79 (by decide) (fun τ R => ?_)
  have R : rg σ a 800 ([(1, 0, ev_u1 (fun _ => 0) 0 (1 : Int32), ev_u1 (ev_u1 (ev_u1 (ev_u1 (ev_u1 (ev_u1 (ev_u1 (ev_u1 (fun _ => none) 1 (some (a + 1))) 2 (some (a + 2))) 3 (some (a + 3))) 4 (some (a + 4))) 5 (some (a + 5))) 6 (some (a + 6))) 7 (some (a + 7))) 8 (some (a + 8))), nc 100 100, (100, 100, ev_u1 (fun _ => 0) 0 (-1 : Int32), fun _ => none), nc 100 100, nc 100 100, nc 100 100, nc 100 100, nc 100 100, nc 100 100]) τ := R
  refine ex_up (fun _ k => ev_aload_n dX1_init_80 rfl (fun _ e => by cases e) k) ?_
  refine en_getr (r := a + 5) R 0 rfl dX1_init_81 fX1_24 rfl rfl ?_
  refine ex_up (fun _ k => ev_iconst (v := (0 : Int32)) dX1_init_84 (by decide) k) ?_
  refine ex_up (fun _ k => ev_iconst (v := (-1 : Int32)) dX1_init_85 (by decide) k) ?_
  refine en_iast R 5 rfl dX1_init_86 (by decide) (fun τ R => ?_)
  have R : rg σ a 800 ([(1, 0, ev_u1 (fun _ => 0) 0 (1 : Int32), ev_u1 (ev_u1 (ev_u1 (ev_u1 (ev_u1 (ev_u1 (ev_u1 (ev_u1 (fun _ => none) 1 (some (a + 1))) 2 (some (a + 2))) 3 (some (a + 3))) 4 (some (a + 4))) 5 (some (a + 5))) 6 (some (a + 6))) 7 (some (a + 7))) 8 (some (a + 8))), nc 100 100, (100, 100, ev_u1 (fun _ => 0) 0 (-1 : Int32), fun _ => none), nc 100 100, nc 100 100, (100, 100, ev_u1 (fun _ => 0) 0 (-1 : Int32), fun _ => none), nc 100 100, nc 100 100, nc 100 100]) τ := R
  refine ex_up (fun _ k => ev_aload_n dX1_init_87 rfl (fun _ e => by cases e) k) ?_
  refine en_getr (r := a + 8) R 0 rfl dX1_init_88 fX1_33 rfl rfl ?_
  refine ex_up (fun _ k => ev_iconst (v := (0 : Int32)) dX1_init_91 (by decide) k) ?_
  refine ex_up (fun _ k => ev_iconst (v := (1 : Int32)) dX1_init_92 (by decide) k) ?_
  refine en_iast R 8 rfl dX1_init_93 (by decide) (fun τ R => ?_)
  have R : rg σ a 800 ([(1, 0, ev_u1 (fun _ => 0) 0 (1 : Int32), ev_u1 (ev_u1 (ev_u1 (ev_u1 (ev_u1 (ev_u1 (ev_u1 (ev_u1 (fun _ => none) 1 (some (a + 1))) 2 (some (a + 2))) 3 (some (a + 3))) 4 (some (a + 4))) 5 (some (a + 5))) 6 (some (a + 6))) 7 (some (a + 7))) 8 (some (a + 8))), nc 100 100, (100, 100, ev_u1 (fun _ => 0) 0 (-1 : Int32), fun _ => none), nc 100 100, nc 100 100, (100, 100, ev_u1 (fun _ => 0) 0 (-1 : Int32), fun _ => none), nc 100 100, nc 100 100, (100, 100, ev_u1 (fun _ => 0) 0 (1 : Int32), fun _ => none)]) τ := R
  exact ⟨(none, τ), ⟨rfl, R⟩, er_v dX1_init_94 rfl⟩
def csX2_60 (a : Nat) : List ev_K := [(2, 0, ev_u1 (fun _ => 0) 0 (60 : Int32), ev_u1 (fun _ => none) 2 (some (a + 1))), nc 100 300]
set_option maxRecDepth 100000 in
set_option maxHeartbeats 4000000 in
theorem mkX2_60 (E : ev_N) : mkr E mX2_init 2 [.int (60 : Int32)] 300 csX2_60 := by
  refine en_met rfl rfl (Nat.le_of_ble_eq_true rfl) (fun σ a R => ?_)
  refine ex_up (fun _ k => ev_L0 (L' := [some (.ref a), some (.int (60 : Int32))]) rfl k) ?_
  refine ex_up (fun _ k => ev_aload_n dX2_init_0 rfl (fun _ e => by cases e) k) ?_
  refine ex_up (fun _ k => ev_obj dX2_init_1 kX2_3 zO_i zO_c (Nat.le_of_ble_eq_true rfl) (Nat.le_of_ble_eq_true rfl) k) ?_
  refine ex_up (fun _ k => ev_aload_n dX2_init_4 rfl (fun _ e => by cases e) k) ?_
  refine ex_up (fun _ k => ev_iload_n dX2_init_5 rfl k) ?_
  refine en_puti R 0 rfl dX2_init_6 fX2_9 rfl (Or.inr ⟨rfl, rfl⟩) rfl rfl (fun τ R => ?_)
  have R : rg σ a 0 ([(2, 0, ev_u1 (fun _ => 0) 0 (60 : Int32), fun _ => none)]) τ := R
  refine ex_up (fun _ k => ev_aload_n dX2_init_9 rfl (fun _ e => by cases e) k) ?_
  refine ex_up (fun _ k => ev_iconst (v := (5 : Int32)) dX2_init_10 (by decide) k) ?_
  refine ex_up (fun _ k => ev_iload_n dX2_init_11 rfl k) ?_
  refine ex_up (fun _ k => ev_imul dX2_init_12 k) ?_
  show EX _ _ _ _ [.int (300 : Int32), .ref a] _ _
  refine en_newi (z := 300) R dX2_init_13 (by decide) (by decide) (Nat.le_of_ble_eq_true rfl) (fun τ R => ?_)
  have R : rg σ a 300 ([(2, 0, ev_u1 (fun _ => 0) 0 (60 : Int32), fun _ => none), nc 100 300]) τ := R
  show EX _ _ _ _ [.ref (a + 1), .ref a] _ _
  refine en_putr R 0 rfl dX2_init_15 fX2_15 rfl (Or.inr ⟨rfl, rfl⟩) (Or.inr ⟨_, rfl⟩) (fun τ R => ?_)
  have R : rg σ a 300 ([(2, 0, ev_u1 (fun _ => 0) 0 (60 : Int32), ev_u1 (fun _ => none) 2 (some (a + 1))), nc 100 300]) τ := R
  exact ⟨(none, τ), ⟨rfl, R⟩, er_v dX2_init_18 rfl⟩
def csX2_100 (a : Nat) : List ev_K := [(2, 0, ev_u1 (fun _ => 0) 0 (100 : Int32), ev_u1 (fun _ => none) 2 (some (a + 1))), nc 100 500]
set_option maxRecDepth 100000 in
set_option maxHeartbeats 4000000 in
theorem mkX2_100 (E : ev_N) : mkr E mX2_init 2 [.int (100 : Int32)] 500 csX2_100 := by
  refine en_met rfl rfl (Nat.le_of_ble_eq_true rfl) (fun σ a R => ?_)
  refine ex_up (fun _ k => ev_L0 (L' := [some (.ref a), some (.int (100 : Int32))]) rfl k) ?_
  refine ex_up (fun _ k => ev_aload_n dX2_init_0 rfl (fun _ e => by cases e) k) ?_
  refine ex_up (fun _ k => ev_obj dX2_init_1 kX2_3 zO_i zO_c (Nat.le_of_ble_eq_true rfl) (Nat.le_of_ble_eq_true rfl) k) ?_
  refine ex_up (fun _ k => ev_aload_n dX2_init_4 rfl (fun _ e => by cases e) k) ?_
  refine ex_up (fun _ k => ev_iload_n dX2_init_5 rfl k) ?_
  refine en_puti R 0 rfl dX2_init_6 fX2_9 rfl (Or.inr ⟨rfl, rfl⟩) rfl rfl (fun τ R => ?_)
  have R : rg σ a 0 ([(2, 0, ev_u1 (fun _ => 0) 0 (100 : Int32), fun _ => none)]) τ := R
  refine ex_up (fun _ k => ev_aload_n dX2_init_9 rfl (fun _ e => by cases e) k) ?_
  refine ex_up (fun _ k => ev_iconst (v := (5 : Int32)) dX2_init_10 (by decide) k) ?_
  refine ex_up (fun _ k => ev_iload_n dX2_init_11 rfl k) ?_
  refine ex_up (fun _ k => ev_imul dX2_init_12 k) ?_
  show EX _ _ _ _ [.int (500 : Int32), .ref a] _ _
  refine en_newi (z := 500) R dX2_init_13 (by decide) (by decide) (Nat.le_of_ble_eq_true rfl) (fun τ R => ?_)
  have R : rg σ a 500 ([(2, 0, ev_u1 (fun _ => 0) 0 (100 : Int32), fun _ => none), nc 100 500]) τ := R
  show EX _ _ _ _ [.ref (a + 1), .ref a] _ _
  refine en_putr R 0 rfl dX2_init_15 fX2_15 rfl (Or.inr ⟨rfl, rfl⟩) (Or.inr ⟨_, rfl⟩) (fun τ R => ?_)
  have R : rg σ a 500 ([(2, 0, ev_u1 (fun _ => 0) 0 (100 : Int32), ev_u1 (fun _ => none) 2 (some (a + 1))), nc 100 500]) τ := R
  exact ⟨(none, τ), ⟨rfl, R⟩, er_v dX2_init_18 rfl⟩
def csX3 (a : Nat) : List ev_K := [(3, 0, ev_u1 (ev_u1 (fun _ => 0) 1 (1 : Int32)) 9 (1 : Int32), ev_u1 (ev_u1 (ev_u1 (ev_u1 (fun _ => none) 11 (some (a + 1))) 12 (some (a + 2))) 13 (some (a + 3))) 14 (some (a + 4))), nc 100 100, nc 100 100, nc 100 100, nc 100 201]
set_option maxRecDepth 100000 in
set_option maxHeartbeats 4000000 in
theorem mkX3 (E : ev_N) : mkr E mX3_init 3 [] 501 csX3 := by
  refine en_met rfl rfl (Nat.le_of_ble_eq_true rfl) (fun σ a R => ?_)
  refine ex_up (fun _ k => ev_L0 (L' := [some (.ref a)]) rfl k) ?_
  refine ex_up (fun _ k => ev_aload_n dX3_init_0 rfl (fun _ e => by cases e) k) ?_
  refine ex_up (fun _ k => ev_obj dX3_init_1 kX3_3 zO_i zO_c (Nat.le_of_ble_eq_true rfl) (Nat.le_of_ble_eq_true rfl) k) ?_
  refine ex_up (fun _ k => ev_aload_n dX3_init_4 rfl (fun _ e => by cases e) k) ?_
  refine ex_up (fun _ k => ev_bipush (v := (100 : Int32)) dX3_init_5 (by decide) k) ?_
  refine en_newi (z := 100) R dX3_init_7 (by decide) (by decide) (Nat.le_of_ble_eq_true rfl) (fun τ R => ?_)
  have R : rg σ a 100 ([nc 3 0, nc 100 100]) τ := R
  show EX _ _ _ _ [.ref (a + 1), .ref a] _ _
  refine en_putr R 0 rfl dX3_init_9 fX3_9 rfl (Or.inr ⟨rfl, rfl⟩) (Or.inr ⟨_, rfl⟩) (fun τ R => ?_)
  have R : rg σ a 100 ([(3, 0, fun _ => 0, ev_u1 (fun _ => none) 11 (some (a + 1))), nc 100 100]) τ := R
  refine ex_up (fun _ k => ev_aload_n dX3_init_12 rfl (fun _ e => by cases e) k) ?_
  refine ex_up (fun _ k => ev_bipush (v := (100 : Int32)) dX3_init_13 (by decide) k) ?_
  refine en_newi (z := 100) R dX3_init_15 (by decide) (by decide) (Nat.le_of_ble_eq_true rfl) (fun τ R => ?_)
  have R : rg σ a 200 ([(3, 0, fun _ => 0, ev_u1 (fun _ => none) 11 (some (a + 1))), nc 100 100, nc 100 100]) τ := R
  show EX _ _ _ _ [.ref (a + 2), .ref a] _ _
  refine en_putr R 0 rfl dX3_init_17 fX3_15 rfl (Or.inr ⟨rfl, rfl⟩) (Or.inr ⟨_, rfl⟩) (fun τ R => ?_)
  have R : rg σ a 200 ([(3, 0, fun _ => 0, ev_u1 (ev_u1 (fun _ => none) 11 (some (a + 1))) 12 (some (a + 2))), nc 100 100, nc 100 100]) τ := R
  refine ex_up (fun _ k => ev_aload_n dX3_init_20 rfl (fun _ e => by cases e) k) ?_
  refine ex_up (fun _ k => ev_bipush (v := (100 : Int32)) dX3_init_21 (by decide) k) ?_
  refine en_newi (z := 100) R dX3_init_23 (by decide) (by decide) (Nat.le_of_ble_eq_true rfl) (fun τ R => ?_)
  have R : rg σ a 300 ([(3, 0, fun _ => 0, ev_u1 (ev_u1 (fun _ => none) 11 (some (a + 1))) 12 (some (a + 2))), nc 100 100, nc 100 100, nc 100 100]) τ := R
  show EX _ _ _ _ [.ref (a + 3), .ref a] _ _
  refine en_putr R 0 rfl dX3_init_25 fX3_18 rfl (Or.inr ⟨rfl, rfl⟩) (Or.inr ⟨_, rfl⟩) (fun τ R => ?_)
  have R : rg σ a 300 ([(3, 0, fun _ => 0, ev_u1 (ev_u1 (ev_u1 (fun _ => none) 11 (some (a + 1))) 12 (some (a + 2))) 13 (some (a + 3))), nc 100 100, nc 100 100, nc 100 100]) τ := R
  refine ex_up (fun _ k => ev_aload_n dX3_init_28 rfl (fun _ e => by cases e) k) ?_
  refine ex_up (fun _ k => ev_sipush (v := (201 : Int32)) dX3_init_29 (by decide) k) ?_
  refine en_newi (z := 201) R dX3_init_32 (by decide) (by decide) (Nat.le_of_ble_eq_true rfl) (fun τ R => ?_)
  have R : rg σ a 501 ([(3, 0, fun _ => 0, ev_u1 (ev_u1 (ev_u1 (fun _ => none) 11 (some (a + 1))) 12 (some (a + 2))) 13 (some (a + 3))), nc 100 100, nc 100 100, nc 100 100, nc 100 201]) τ := R
  show EX _ _ _ _ [.ref (a + 4), .ref a] _ _
  refine en_putr R 0 rfl dX3_init_34 fX3_21 rfl (Or.inr ⟨rfl, rfl⟩) (Or.inr ⟨_, rfl⟩) (fun τ R => ?_)
  have R : rg σ a 501 ([(3, 0, fun _ => 0, ev_u1 (ev_u1 (ev_u1 (ev_u1 (fun _ => none) 11 (some (a + 1))) 12 (some (a + 2))) 13 (some (a + 3))) 14 (some (a + 4))), nc 100 100, nc 100 100, nc 100 100, nc 100 201]) τ := R
  refine ex_up (fun _ k => ev_aload_n dX3_init_37 rfl (fun _ e => by cases e) k) ?_
  refine ex_up (fun _ k => ev_iconst (v := (1 : Int32)) dX3_init_38 (by decide) k) ?_
  refine en_puti R 0 rfl dX3_init_39 fX3_24 rfl (Or.inl rfl) rfl rfl (fun τ R => ?_)
  have R : rg σ a 501 ([(3, 0, ev_u1 (fun _ => 0) 1 (1 : Int32), ev_u1 (ev_u1 (ev_u1 (ev_u1 (fun _ => none) 11 (some (a + 1))) 12 (some (a + 2))) 13 (some (a + 3))) 14 (some (a + 4))), nc 100 100, nc 100 100, nc 100 100, nc 100 201]) τ := R
  refine ex_up (fun _ k => ev_aload_n dX3_init_42 rfl (fun _ e => by cases e) k) ?_
  refine ex_up (fun _ k => ev_iconst (v := (1 : Int32)) dX3_init_43 (by decide) k) ?_
  refine en_puti R 0 rfl dX3_init_44 fX3_28 rfl (Or.inl rfl) rfl rfl (fun τ R => ?_)
  have R : rg σ a 501 ([(3, 0, ev_u1 (ev_u1 (fun _ => 0) 1 (1 : Int32)) 9 (1 : Int32), ev_u1 (ev_u1 (ev_u1 (ev_u1 (fun _ => none) 11 (some (a + 1))) 12 (some (a + 2))) 13 (some (a + 3))) 14 (some (a + 4))), nc 100 100, nc 100 100, nc 100 100, nc 100 201]) τ := R
  exact ⟨(none, τ), ⟨rfl, R⟩, er_v dX3_init_47 rfl⟩
def csX4 (a : Nat) : List ev_K := [(4, 0, fun _ => 0, ev_u1 (ev_u1 (fun _ => none) 5 (some (a + 1))) 6 (some (a + 2))), nc 100 200, nc 100 7]
set_option maxRecDepth 100000 in
set_option maxHeartbeats 4000000 in
theorem mkX4 (E : ev_N) : mkr E mX4_init 4 [] 207 csX4 := by
  refine en_met rfl rfl (Nat.le_of_ble_eq_true rfl) (fun σ a R => ?_)
  refine ex_up (fun _ k => ev_L0 (L' := [some (.ref a)]) rfl k) ?_
  refine ex_up (fun _ k => ev_aload_n dX4_init_0 rfl (fun _ e => by cases e) k) ?_
  refine ex_up (fun _ k => ev_obj dX4_init_1 kX4_3 zO_i zO_c (Nat.le_of_ble_eq_true rfl) (Nat.le_of_ble_eq_true rfl) k) ?_
  refine ex_up (fun _ k => ev_aload_n dX4_init_4 rfl (fun _ e => by cases e) k) ?_
  refine ex_up (fun _ k => ev_sipush (v := (200 : Int32)) dX4_init_5 (by decide) k) ?_
  refine en_newi (z := 200) R dX4_init_8 (by decide) (by decide) (Nat.le_of_ble_eq_true rfl) (fun τ R => ?_)
  have R : rg σ a 200 ([nc 4 0, nc 100 200]) τ := R
  show EX _ _ _ _ [.ref (a + 1), .ref a] _ _
  refine en_putr R 0 rfl dX4_init_10 fX4_9 rfl (Or.inr ⟨rfl, rfl⟩) (Or.inr ⟨_, rfl⟩) (fun τ R => ?_)
  have R : rg σ a 200 ([(4, 0, fun _ => 0, ev_u1 (fun _ => none) 5 (some (a + 1))), nc 100 200]) τ := R
  refine ex_up (fun _ k => ev_aload_n dX4_init_13 rfl (fun _ e => by cases e) k) ?_
  refine ex_up (fun _ k => ev_bipush (v := (7 : Int32)) dX4_init_14 (by decide) k) ?_
  refine en_newi (z := 7) R dX4_init_16 (by decide) (by decide) (Nat.le_of_ble_eq_true rfl) (fun τ R => ?_)
  have R : rg σ a 207 ([(4, 0, fun _ => 0, ev_u1 (fun _ => none) 5 (some (a + 1))), nc 100 200, nc 100 7]) τ := R
  show EX _ _ _ _ [.ref (a + 2), .ref a] _ _
  refine en_putr R 0 rfl dX4_init_18 fX4_15 rfl (Or.inr ⟨rfl, rfl⟩) (Or.inr ⟨_, rfl⟩) (fun τ R => ?_)
  have R : rg σ a 207 ([(4, 0, fun _ => 0, ev_u1 (ev_u1 (fun _ => none) 5 (some (a + 1))) 6 (some (a + 2))), nc 100 200, nc 100 7]) τ := R
  exact ⟨(none, τ), ⟨rfl, R⟩, er_v dX4_init_21 rfl⟩
def csX5 (a : Nat) : List ev_K := [(5, 0, fun _ => 0, ev_u1 (ev_u1 (ev_u1 (ev_u1 (fun _ => none) 2 (some (a + 1))) 3 (some (a + 2))) 4 (some (a + 3))) 5 (some (a + 4))), nc 100 24, nc 100 24, nc 100 24, nc 100 24]
set_option maxRecDepth 100000 in
set_option maxHeartbeats 4000000 in
theorem mkX5 (E : ev_N) : mkr E mX5_init 5 [] 96 csX5 := by
  refine en_met rfl rfl (Nat.le_of_ble_eq_true rfl) (fun σ a R => ?_)
  refine ex_up (fun _ k => ev_L0 (L' := [some (.ref a)]) rfl k) ?_
  refine ex_up (fun _ k => ev_aload_n dX5_init_0 rfl (fun _ e => by cases e) k) ?_
  refine ex_up (fun _ k => ev_obj dX5_init_1 kX5_3 zO_i zO_c (Nat.le_of_ble_eq_true rfl) (Nat.le_of_ble_eq_true rfl) k) ?_
  refine ex_up (fun _ k => ev_aload_n dX5_init_4 rfl (fun _ e => by cases e) k) ?_
  refine ex_up (fun _ k => ev_bipush (v := (24 : Int32)) dX5_init_5 (by decide) k) ?_
  refine en_newi (z := 24) R dX5_init_7 (by decide) (by decide) (Nat.le_of_ble_eq_true rfl) (fun τ R => ?_)
  have R : rg σ a 24 ([nc 5 0, nc 100 24]) τ := R
  show EX _ _ _ _ [.ref (a + 1), .ref a] _ _
  refine en_putr R 0 rfl dX5_init_9 fX5_9 rfl (Or.inr ⟨rfl, rfl⟩) (Or.inr ⟨_, rfl⟩) (fun τ R => ?_)
  have R : rg σ a 24 ([(5, 0, fun _ => 0, ev_u1 (fun _ => none) 2 (some (a + 1))), nc 100 24]) τ := R
  refine ex_up (fun _ k => ev_aload_n dX5_init_12 rfl (fun _ e => by cases e) k) ?_
  refine ex_up (fun _ k => ev_bipush (v := (24 : Int32)) dX5_init_13 (by decide) k) ?_
  refine en_newi (z := 24) R dX5_init_15 (by decide) (by decide) (Nat.le_of_ble_eq_true rfl) (fun τ R => ?_)
  have R : rg σ a 48 ([(5, 0, fun _ => 0, ev_u1 (fun _ => none) 2 (some (a + 1))), nc 100 24, nc 100 24]) τ := R
  show EX _ _ _ _ [.ref (a + 2), .ref a] _ _
  refine en_putr R 0 rfl dX5_init_17 fX5_15 rfl (Or.inr ⟨rfl, rfl⟩) (Or.inr ⟨_, rfl⟩) (fun τ R => ?_)
  have R : rg σ a 48 ([(5, 0, fun _ => 0, ev_u1 (ev_u1 (fun _ => none) 2 (some (a + 1))) 3 (some (a + 2))), nc 100 24, nc 100 24]) τ := R
  refine ex_up (fun _ k => ev_aload_n dX5_init_20 rfl (fun _ e => by cases e) k) ?_
  refine ex_up (fun _ k => ev_bipush (v := (24 : Int32)) dX5_init_21 (by decide) k) ?_
  refine en_newi (z := 24) R dX5_init_23 (by decide) (by decide) (Nat.le_of_ble_eq_true rfl) (fun τ R => ?_)
  have R : rg σ a 72 ([(5, 0, fun _ => 0, ev_u1 (ev_u1 (fun _ => none) 2 (some (a + 1))) 3 (some (a + 2))), nc 100 24, nc 100 24, nc 100 24]) τ := R
  show EX _ _ _ _ [.ref (a + 3), .ref a] _ _
  refine en_putr R 0 rfl dX5_init_25 fX5_18 rfl (Or.inr ⟨rfl, rfl⟩) (Or.inr ⟨_, rfl⟩) (fun τ R => ?_)
  have R : rg σ a 72 ([(5, 0, fun _ => 0, ev_u1 (ev_u1 (ev_u1 (fun _ => none) 2 (some (a + 1))) 3 (some (a + 2))) 4 (some (a + 3))), nc 100 24, nc 100 24, nc 100 24]) τ := R
  refine ex_up (fun _ k => ev_aload_n dX5_init_28 rfl (fun _ e => by cases e) k) ?_
  refine ex_up (fun _ k => ev_bipush (v := (24 : Int32)) dX5_init_29 (by decide) k) ?_
  refine en_newi (z := 24) R dX5_init_31 (by decide) (by decide) (Nat.le_of_ble_eq_true rfl) (fun τ R => ?_)
  have R : rg σ a 96 ([(5, 0, fun _ => 0, ev_u1 (ev_u1 (ev_u1 (fun _ => none) 2 (some (a + 1))) 3 (some (a + 2))) 4 (some (a + 3))), nc 100 24, nc 100 24, nc 100 24, nc 100 24]) τ := R
  show EX _ _ _ _ [.ref (a + 4), .ref a] _ _
  refine en_putr R 0 rfl dX5_init_33 fX5_21 rfl (Or.inr ⟨rfl, rfl⟩) (Or.inr ⟨_, rfl⟩) (fun τ R => ?_)
  have R : rg σ a 96 ([(5, 0, fun _ => 0, ev_u1 (ev_u1 (ev_u1 (ev_u1 (fun _ => none) 2 (some (a + 1))) 3 (some (a + 2))) 4 (some (a + 3))) 5 (some (a + 4))), nc 100 24, nc 100 24, nc 100 24, nc 100 24]) τ := R
  exact ⟨(none, τ), ⟨rfl, R⟩, er_v dX5_init_36 rfl⟩
def csX7 (a : Nat) : List ev_K := [(6, 0, ev_u1 (fun _ => 0) 3 (-1 : Int32), ev_u1 (ev_u1 (fun _ => none) 0 (some (a + 1))) 4 (some (a + 2))), nc 101 400] ++ (csX5 (a + 2))
set_option maxRecDepth 100000 in
set_option maxHeartbeats 4000000 in
theorem mkX7 (E : ev_N) : mkr E mX7_init 6 [] 502 csX7 := by
  refine en_met rfl rfl (Nat.le_of_ble_eq_true rfl) (fun σ a R => ?_)
  refine ex_up (fun _ k => ev_L0 (L' := [some (.ref a)]) rfl k) ?_
  refine ex_up (fun _ k => ev_aload_n dX7_init_0 rfl (fun _ e => by cases e) k) ?_
  refine ex_up (fun _ k => ev_obj dX7_init_1 kX7_3 zO_i zO_c (Nat.le_of_ble_eq_true rfl) (Nat.le_of_ble_eq_true rfl) k) ?_
  refine ex_up (fun _ k => ev_aload_n dX7_init_4 rfl (fun _ e => by cases e) k) ?_
  refine ex_up (fun _ k => ev_sipush (v := (400 : Int32)) dX7_init_5 (by decide) k) ?_
  refine en_newb (z := 400) R dX7_init_8 (by decide) (by decide) (Nat.le_of_ble_eq_true rfl) (fun τ R => ?_)
  have R : rg σ a 400 ([nc 6 0, nc 101 400]) τ := R
  show EX _ _ _ _ [.ref (a + 1), .ref a] _ _
  refine en_putr R 0 rfl dX7_init_10 fX7_9 rfl (Or.inr ⟨rfl, rfl⟩) (Or.inr ⟨_, rfl⟩) (fun τ R => ?_)
  have R : rg σ a 400 ([(6, 0, fun _ => 0, ev_u1 (fun _ => none) 0 (some (a + 1))), nc 101 400]) τ := R
  refine ex_up (fun _ k => ev_aload_n dX7_init_13 rfl (fun _ e => by cases e) k) ?_
  refine en_new (ci := 5) R dX7_init_14 (by decide) qX7_15 zX5 (fun τ R => ?_)
  have R : rg σ a 406 ([(6, 0, fun _ => 0, ev_u1 (fun _ => none) 0 (some (a + 1))), nc 101 400, nc 5 0]) τ := R
  show EX _ _ _ _ [.ref (a + 2), .ref a] _ _
  refine ex_up (fun _ k => ev_dup dX7_init_17 k) ?_
  refine en_ctorN (C1 := [(6, 0, fun _ => 0, ev_u1 (fun _ => none) 0 (some (a + 1))), nc 101 400]) (Y := mX5_init) (ci := 5) (As := []) (rest := [.ref (a + 2), .ref a]) (cs := csX5) 2 R dX7_init_18 rfl oX5_init rfl ⟨Nat.le_of_ble_eq_true rfl, Nat.le_of_ble_eq_true rfl⟩ rfl (Nat.le_of_ble_eq_true rfl) (mkX5 E) rfl (fun τ R => ?_)
  have R : rg σ a 502 ([(6, 0, fun _ => 0, ev_u1 (fun _ => none) 0 (some (a + 1))), nc 101 400] ++ (csX5 (a + 2))) τ := R
  refine en_putr R 0 rfl dX7_init_21 fX7_18 rfl (Or.inr ⟨rfl, rfl⟩) (Or.inl ⟨_, rfl⟩) (fun τ R => ?_)
  have R : rg σ a 502 ([(6, 0, fun _ => 0, ev_u1 (ev_u1 (fun _ => none) 0 (some (a + 1))) 4 (some (a + 2))), nc 101 400] ++ (csX5 (a + 2))) τ := R
  refine ex_up (fun _ k => ev_aload_n dX7_init_24 rfl (fun _ e => by cases e) k) ?_
  refine ex_up (fun _ k => ev_iconst (v := (-1 : Int32)) dX7_init_25 (by decide) k) ?_
  refine en_puti R 0 rfl dX7_init_26 fX7_22 rfl (Or.inl rfl) rfl rfl (fun τ R => ?_)
  have R : rg σ a 502 ([(6, 0, ev_u1 (fun _ => 0) 3 (-1 : Int32), ev_u1 (ev_u1 (fun _ => none) 0 (some (a + 1))) 4 (some (a + 2))), nc 101 400] ++ (csX5 (a + 2))) τ := R
  exact ⟨(none, τ), ⟨rfl, R⟩, er_v dX7_init_29 rfl⟩
def csX8 (a : Nat) : List ev_K := [(7, 0, ev_u1 (fun _ => 0) 0 (4 : Int32), ev_u1 (ev_u1 (ev_u1 (ev_u1 (ev_u1 (ev_u1 (fun _ => none) 3 (some (a + 1))) 4 (some (a + 10))) 5 (some (a + 11))) 6 (some (a + 14))) 7 (some (a + 16))) 8 (some (a + 18)))] ++ (csX1 (a + 1) ++ ([(102, 7, fun _ => 0, ev_u1 (ev_u1 (ev_u1 (ev_u1 (ev_u1 (ev_u1 (ev_u1 (fun _ => none) 0 (some (a + 23))) 1 (some (a + 28))) 2 (some (a + 33))) 3 (some (a + 38))) 4 (some (a + 43))) 5 (some (a + 48))) 6 (some (a + 53)))] ++ (csX4 (a + 11) ++ (csX2_60 (a + 14) ++ (csX2_100 (a + 16) ++ (csX5 (a + 18) ++ (csX3 (a + 23) ++ (csX3 (a + 28) ++ (csX3 (a + 33) ++ (csX3 (a + 38) ++ (csX3 (a + 43) ++ (csX3 (a + 48) ++ (csX3 (a + 53))))))))))))))
set_option maxRecDepth 100000 in
set_option maxHeartbeats 4000000 in
theorem mkX8 (E : ev_N) : mkr E mX8_init 7 [] 5550 csX8 := by
  refine en_met rfl rfl (Nat.le_of_ble_eq_true rfl) (fun σ a R => ?_)
  refine ex_up (fun _ k => ev_L0 (L' := [some (.ref a), none]) rfl k) ?_
  refine ex_up (fun _ k => ev_aload_n dX8_init_0 rfl (fun _ e => by cases e) k) ?_
  refine ex_up (fun _ k => ev_obj dX8_init_1 kX8_3 zO_i zO_c (Nat.le_of_ble_eq_true rfl) (Nat.le_of_ble_eq_true rfl) k) ?_
  refine ex_up (fun _ k => ev_aload_n dX8_init_4 rfl (fun _ e => by cases e) k) ?_
  refine en_new (ci := 1) R dX8_init_5 (by decide) qX8_9 zX1 (fun τ R => ?_)
  have R : rg σ a 9 ([nc 7 0, nc 1 0]) τ := R
  show EX _ _ _ _ [.ref (a + 1), .ref a] _ _
  refine ex_up (fun _ k => ev_dup dX8_init_8 k) ?_
  refine en_ctor (C1 := [nc 7 0]) (Y := mX1_init) (ci := 1) (As := []) (rest := [.ref (a + 1), .ref a]) (cs := csX1) R dX8_init_9 kX8_11 oX1_init rfl ⟨Nat.le_of_ble_eq_true rfl, Nat.le_of_ble_eq_true rfl⟩ rfl (Nat.le_of_ble_eq_true rfl) (mkX1 E) rfl (fun τ R => ?_)
  have R : rg σ a 809 ([nc 7 0] ++ (csX1 (a + 1))) τ := R
  refine en_putr R 0 rfl dX8_init_12 fX8_12 rfl (Or.inr ⟨rfl, rfl⟩) (Or.inl ⟨_, rfl⟩) (fun τ R => ?_)
  have R : rg σ a 809 ([(7, 0, fun _ => 0, ev_u1 (fun _ => none) 3 (some (a + 1)))] ++ (csX1 (a + 1))) τ := R
  refine ex_up (fun _ k => ev_aload_n dX8_init_15 rfl (fun _ e => by cases e) k) ?_
  refine ex_up (fun _ k => ev_bipush (v := (7 : Int32)) dX8_init_16 (by decide) k) ?_
  refine en_newq (z := 7) R dX8_init_18 qX8_18 (by decide) (by decide) (Nat.le_of_ble_eq_true rfl) (fun τ R => ?_)
  have R : rg σ a 816 ([(7, 0, fun _ => 0, ev_u1 (fun _ => none) 3 (some (a + 1)))] ++ (csX1 (a + 1) ++ ([nc 102 7]))) τ := R
  show EX _ _ _ _ [.ref (a + 10), .ref a] _ _
  refine en_putr R 0 rfl dX8_init_21 fX8_20 rfl (Or.inr ⟨rfl, rfl⟩) (Or.inr ⟨_, rfl⟩) (fun τ R => ?_)
  have R : rg σ a 816 ([(7, 0, fun _ => 0, ev_u1 (ev_u1 (fun _ => none) 3 (some (a + 1))) 4 (some (a + 10)))] ++ (csX1 (a + 1) ++ ([nc 102 7]))) τ := R
  refine ex_up (fun _ k => ev_aload_n dX8_init_24 rfl (fun _ e => by cases e) k) ?_
  refine en_new (ci := 4) R dX8_init_25 (by decide) qX8_24 zX4 (fun τ R => ?_)
  have R : rg σ a 823 ([(7, 0, fun _ => 0, ev_u1 (ev_u1 (fun _ => none) 3 (some (a + 1))) 4 (some (a + 10)))] ++ (csX1 (a + 1) ++ ([nc 102 7, nc 4 0]))) τ := R
  show EX _ _ _ _ [.ref (a + 11), .ref a] _ _
  refine ex_up (fun _ k => ev_dup dX8_init_28 k) ?_
  refine en_ctorN (C1 := [(7, 0, fun _ => 0, ev_u1 (ev_u1 (fun _ => none) 3 (some (a + 1))) 4 (some (a + 10)))] ++ (csX1 (a + 1) ++ ([nc 102 7]))) (Y := mX4_init) (ci := 4) (As := []) (rest := [.ref (a + 11), .ref a]) (cs := csX4) 0 R dX8_init_29 rfl oX4_init rfl ⟨Nat.le_of_ble_eq_true rfl, Nat.le_of_ble_eq_true rfl⟩ rfl (Nat.le_of_ble_eq_true rfl) (mkX4 E) rfl (fun τ R => ?_)
  have R : rg σ a 1030 ([(7, 0, fun _ => 0, ev_u1 (ev_u1 (fun _ => none) 3 (some (a + 1))) 4 (some (a + 10)))] ++ (csX1 (a + 1) ++ ([nc 102 7] ++ (csX4 (a + 11))))) τ := R
  refine en_putr R 0 rfl dX8_init_32 fX8_27 rfl (Or.inr ⟨rfl, rfl⟩) (Or.inl ⟨_, rfl⟩) (fun τ R => ?_)
  have R : rg σ a 1030 ([(7, 0, fun _ => 0, ev_u1 (ev_u1 (ev_u1 (fun _ => none) 3 (some (a + 1))) 4 (some (a + 10))) 5 (some (a + 11)))] ++ (csX1 (a + 1) ++ ([nc 102 7] ++ (csX4 (a + 11))))) τ := R
  refine ex_up (fun _ k => ev_aload_n dX8_init_35 rfl (fun _ e => by cases e) k) ?_
  refine en_new (ci := 2) R dX8_init_36 (by decide) qX8_31 zX2 (fun τ R => ?_)
  have R : rg σ a 1033 ([(7, 0, fun _ => 0, ev_u1 (ev_u1 (ev_u1 (fun _ => none) 3 (some (a + 1))) 4 (some (a + 10))) 5 (some (a + 11)))] ++ (csX1 (a + 1) ++ ([nc 102 7] ++ (csX4 (a + 11) ++ ([nc 2 0]))))) τ := R
  show EX _ _ _ _ [.ref (a + 14), .ref a] _ _
  refine ex_up (fun _ k => ev_dup dX8_init_39 k) ?_
  refine ex_up (fun _ k => ev_bipush (v := (60 : Int32)) dX8_init_40 (by decide) k) ?_
  refine en_ctor (C1 := [(7, 0, fun _ => 0, ev_u1 (ev_u1 (ev_u1 (fun _ => none) 3 (some (a + 1))) 4 (some (a + 10))) 5 (some (a + 11)))] ++ (csX1 (a + 1) ++ ([nc 102 7] ++ (csX4 (a + 11))))) (Y := mX2_init) (ci := 2) (As := [.int (60 : Int32)]) (rest := [.ref (a + 14), .ref a]) (cs := csX2_60) R dX8_init_42 kX8_33 oX2_init rfl ⟨Nat.le_of_ble_eq_true rfl, Nat.le_of_ble_eq_true rfl⟩ rfl (Nat.le_of_ble_eq_true rfl) (mkX2_60 E) rfl (fun τ R => ?_)
  have R : rg σ a 1333 ([(7, 0, fun _ => 0, ev_u1 (ev_u1 (ev_u1 (fun _ => none) 3 (some (a + 1))) 4 (some (a + 10))) 5 (some (a + 11)))] ++ (csX1 (a + 1) ++ ([nc 102 7] ++ (csX4 (a + 11) ++ (csX2_60 (a + 14)))))) τ := R
  refine en_putr R 0 rfl dX8_init_45 fX8_36 rfl (Or.inr ⟨rfl, rfl⟩) (Or.inl ⟨_, rfl⟩) (fun τ R => ?_)
  have R : rg σ a 1333 ([(7, 0, fun _ => 0, ev_u1 (ev_u1 (ev_u1 (ev_u1 (fun _ => none) 3 (some (a + 1))) 4 (some (a + 10))) 5 (some (a + 11))) 6 (some (a + 14)))] ++ (csX1 (a + 1) ++ ([nc 102 7] ++ (csX4 (a + 11) ++ (csX2_60 (a + 14)))))) τ := R
  refine ex_up (fun _ k => ev_aload_n dX8_init_48 rfl (fun _ e => by cases e) k) ?_
  refine en_new (ci := 2) R dX8_init_49 (by decide) qX8_31 zX2 (fun τ R => ?_)
  have R : rg σ a 1336 ([(7, 0, fun _ => 0, ev_u1 (ev_u1 (ev_u1 (ev_u1 (fun _ => none) 3 (some (a + 1))) 4 (some (a + 10))) 5 (some (a + 11))) 6 (some (a + 14)))] ++ (csX1 (a + 1) ++ ([nc 102 7] ++ (csX4 (a + 11) ++ (csX2_60 (a + 14) ++ ([nc 2 0])))))) τ := R
  show EX _ _ _ _ [.ref (a + 16), .ref a] _ _
  refine ex_up (fun _ k => ev_dup dX8_init_52 k) ?_
  refine ex_up (fun _ k => ev_bipush (v := (100 : Int32)) dX8_init_53 (by decide) k) ?_
  refine en_ctor (C1 := [(7, 0, fun _ => 0, ev_u1 (ev_u1 (ev_u1 (ev_u1 (fun _ => none) 3 (some (a + 1))) 4 (some (a + 10))) 5 (some (a + 11))) 6 (some (a + 14)))] ++ (csX1 (a + 1) ++ ([nc 102 7] ++ (csX4 (a + 11) ++ (csX2_60 (a + 14)))))) (Y := mX2_init) (ci := 2) (As := [.int (100 : Int32)]) (rest := [.ref (a + 16), .ref a]) (cs := csX2_100) R dX8_init_55 kX8_33 oX2_init rfl ⟨Nat.le_of_ble_eq_true rfl, Nat.le_of_ble_eq_true rfl⟩ rfl (Nat.le_of_ble_eq_true rfl) (mkX2_100 E) rfl (fun τ R => ?_)
  have R : rg σ a 1836 ([(7, 0, fun _ => 0, ev_u1 (ev_u1 (ev_u1 (ev_u1 (fun _ => none) 3 (some (a + 1))) 4 (some (a + 10))) 5 (some (a + 11))) 6 (some (a + 14)))] ++ (csX1 (a + 1) ++ ([nc 102 7] ++ (csX4 (a + 11) ++ (csX2_60 (a + 14) ++ (csX2_100 (a + 16))))))) τ := R
  refine en_putr R 0 rfl dX8_init_58 fX8_40 rfl (Or.inr ⟨rfl, rfl⟩) (Or.inl ⟨_, rfl⟩) (fun τ R => ?_)
  have R : rg σ a 1836 ([(7, 0, fun _ => 0, ev_u1 (ev_u1 (ev_u1 (ev_u1 (ev_u1 (fun _ => none) 3 (some (a + 1))) 4 (some (a + 10))) 5 (some (a + 11))) 6 (some (a + 14))) 7 (some (a + 16)))] ++ (csX1 (a + 1) ++ ([nc 102 7] ++ (csX4 (a + 11) ++ (csX2_60 (a + 14) ++ (csX2_100 (a + 16))))))) τ := R
  refine ex_up (fun _ k => ev_aload_n dX8_init_61 rfl (fun _ e => by cases e) k) ?_
  refine en_new (ci := 5) R dX8_init_62 (by decide) qX8_43 zX5 (fun τ R => ?_)
  have R : rg σ a 1842 ([(7, 0, fun _ => 0, ev_u1 (ev_u1 (ev_u1 (ev_u1 (ev_u1 (fun _ => none) 3 (some (a + 1))) 4 (some (a + 10))) 5 (some (a + 11))) 6 (some (a + 14))) 7 (some (a + 16)))] ++ (csX1 (a + 1) ++ ([nc 102 7] ++ (csX4 (a + 11) ++ (csX2_60 (a + 14) ++ (csX2_100 (a + 16) ++ ([nc 5 0]))))))) τ := R
  show EX _ _ _ _ [.ref (a + 18), .ref a] _ _
  refine ex_up (fun _ k => ev_dup dX8_init_65 k) ?_
  refine en_ctorN (C1 := [(7, 0, fun _ => 0, ev_u1 (ev_u1 (ev_u1 (ev_u1 (ev_u1 (fun _ => none) 3 (some (a + 1))) 4 (some (a + 10))) 5 (some (a + 11))) 6 (some (a + 14))) 7 (some (a + 16)))] ++ (csX1 (a + 1) ++ ([nc 102 7] ++ (csX4 (a + 11) ++ (csX2_60 (a + 14) ++ (csX2_100 (a + 16))))))) (Y := mX5_init) (ci := 5) (As := []) (rest := [.ref (a + 18), .ref a]) (cs := csX5) 1 R dX8_init_66 rfl oX5_init rfl ⟨Nat.le_of_ble_eq_true rfl, Nat.le_of_ble_eq_true rfl⟩ rfl (Nat.le_of_ble_eq_true rfl) (mkX5 E) rfl (fun τ R => ?_)
  have R : rg σ a 1938 ([(7, 0, fun _ => 0, ev_u1 (ev_u1 (ev_u1 (ev_u1 (ev_u1 (fun _ => none) 3 (some (a + 1))) 4 (some (a + 10))) 5 (some (a + 11))) 6 (some (a + 14))) 7 (some (a + 16)))] ++ (csX1 (a + 1) ++ ([nc 102 7] ++ (csX4 (a + 11) ++ (csX2_60 (a + 14) ++ (csX2_100 (a + 16) ++ (csX5 (a + 18)))))))) τ := R
  refine en_putr R 0 rfl dX8_init_69 fX8_46 rfl (Or.inr ⟨rfl, rfl⟩) (Or.inl ⟨_, rfl⟩) (fun τ R => ?_)
  have R : rg σ a 1938 ([(7, 0, fun _ => 0, ev_u1 (ev_u1 (ev_u1 (ev_u1 (ev_u1 (ev_u1 (fun _ => none) 3 (some (a + 1))) 4 (some (a + 10))) 5 (some (a + 11))) 6 (some (a + 14))) 7 (some (a + 16))) 8 (some (a + 18)))] ++ (csX1 (a + 1) ++ ([nc 102 7] ++ (csX4 (a + 11) ++ (csX2_60 (a + 14) ++ (csX2_100 (a + 16) ++ (csX5 (a + 18)))))))) τ := R
  refine ex_up (fun _ k => ev_aload_n dX8_init_72 rfl (fun _ e => by cases e) k) ?_
  refine ex_up (fun _ k => ev_iconst (v := (4 : Int32)) dX8_init_73 (by decide) k) ?_
  refine en_puti R 0 rfl dX8_init_74 fX8_50 rfl (Or.inl rfl) rfl rfl (fun τ R => ?_)
  have R : rg σ a 1938 ([(7, 0, ev_u1 (fun _ => 0) 0 (4 : Int32), ev_u1 (ev_u1 (ev_u1 (ev_u1 (ev_u1 (ev_u1 (fun _ => none) 3 (some (a + 1))) 4 (some (a + 10))) 5 (some (a + 11))) 6 (some (a + 14))) 7 (some (a + 16))) 8 (some (a + 18)))] ++ (csX1 (a + 1) ++ ([nc 102 7] ++ (csX4 (a + 11) ++ (csX2_60 (a + 14) ++ (csX2_100 (a + 16) ++ (csX5 (a + 18)))))))) τ := R
  refine ex_up (fun _ k => ev_iconst (v := (0 : Int32)) dX8_init_77 (by decide) k) ?_
  refine ex_up (fun _ k => ew_istn (L' := [some (.ref a), some (.int (0 : Int32))]) dX8_init_78 (Nat.le_of_ble_eq_true rfl) rfl k) ?_
  refine ex_up (fun _ k => ev_iload_n dX8_init_79 rfl k) ?_
  refine ex_up (fun _ k => ev_bipush (v := (7 : Int32)) dX8_init_80 (by decide) k) ?_
  refine ex_up (fun _ k => ev_icmp_ge (tgt := 104) dX8_init_82 (by decide) (fun c => absurd c (by decide)) (fun _ => k)) ?_
  refine ex_up (fun _ k => ev_aload_n dX8_init_85 rfl (fun _ e => by cases e) k) ?_
  refine en_getr (r := a + 10) R 0 rfl dX8_init_86 fX8_20 rfl rfl ?_
  refine ex_up (fun _ k => ev_iload_n dX8_init_89 rfl k) ?_
  refine en_new (ci := 3) R dX8_init_90 (by decide) qX8_18 zX3 (fun τ R => ?_)
  have R : rg σ a 1953 ([(7, 0, ev_u1 (fun _ => 0) 0 (4 : Int32), ev_u1 (ev_u1 (ev_u1 (ev_u1 (ev_u1 (ev_u1 (fun _ => none) 3 (some (a + 1))) 4 (some (a + 10))) 5 (some (a + 11))) 6 (some (a + 14))) 7 (some (a + 16))) 8 (some (a + 18)))] ++ (csX1 (a + 1) ++ ([nc 102 7] ++ (csX4 (a + 11) ++ (csX2_60 (a + 14) ++ (csX2_100 (a + 16) ++ (csX5 (a + 18) ++ ([nc 3 0])))))))) τ := R
  show EX _ _ _ _ [.ref (a + 23), .int (0 : Int32), .ref (a + 10)] _ _
  refine ex_up (fun _ k => ev_dup dX8_init_93 k) ?_
  refine en_ctor (C1 := [(7, 0, ev_u1 (fun _ => 0) 0 (4 : Int32), ev_u1 (ev_u1 (ev_u1 (ev_u1 (ev_u1 (ev_u1 (fun _ => none) 3 (some (a + 1))) 4 (some (a + 10))) 5 (some (a + 11))) 6 (some (a + 14))) 7 (some (a + 16))) 8 (some (a + 18)))] ++ (csX1 (a + 1) ++ ([nc 102 7] ++ (csX4 (a + 11) ++ (csX2_60 (a + 14) ++ (csX2_100 (a + 16) ++ (csX5 (a + 18)))))))) (Y := mX3_init) (ci := 3) (As := []) (rest := [.ref (a + 23), .int (0 : Int32), .ref (a + 10)]) (cs := csX3) R dX8_init_94 kX8_54 oX3_init rfl ⟨Nat.le_of_ble_eq_true rfl, Nat.le_of_ble_eq_true rfl⟩ rfl (Nat.le_of_ble_eq_true rfl) (mkX3 E) rfl (fun τ R => ?_)
  have R : rg σ a 2454 ([(7, 0, ev_u1 (fun _ => 0) 0 (4 : Int32), ev_u1 (ev_u1 (ev_u1 (ev_u1 (ev_u1 (ev_u1 (fun _ => none) 3 (some (a + 1))) 4 (some (a + 10))) 5 (some (a + 11))) 6 (some (a + 14))) 7 (some (a + 16))) 8 (some (a + 18)))] ++ (csX1 (a + 1) ++ ([nc 102 7] ++ (csX4 (a + 11) ++ (csX2_60 (a + 14) ++ (csX2_100 (a + 16) ++ (csX5 (a + 18) ++ (csX3 (a + 23))))))))) τ := R
  refine en_aast (r := 23) R 10 rfl rfl dX8_init_97 (by decide) (fun τ R => ?_)
  have R : rg σ a 2454 ([(7, 0, ev_u1 (fun _ => 0) 0 (4 : Int32), ev_u1 (ev_u1 (ev_u1 (ev_u1 (ev_u1 (ev_u1 (fun _ => none) 3 (some (a + 1))) 4 (some (a + 10))) 5 (some (a + 11))) 6 (some (a + 14))) 7 (some (a + 16))) 8 (some (a + 18)))] ++ (csX1 (a + 1) ++ ([(102, 7, fun _ => 0, ev_u1 (fun _ => none) 0 (some (a + 23)))] ++ (csX4 (a + 11) ++ (csX2_60 (a + 14) ++ (csX2_100 (a + 16) ++ (csX5 (a + 18) ++ (csX3 (a + 23))))))))) τ := R
  refine ex_up (fun _ k => ew_iinc (y := (1 : Int32)) (L' := [some (.ref a), some (.int (1 : Int32))]) dX8_init_98 (Nat.le_of_ble_eq_true rfl) rfl rfl (by decide) rfl k) ?_
  refine ex_up (fun _ k => ev_goto (tgt := 79) dX8_init_101 (by decide) k) ?_
  refine ex_up (fun _ k => ev_iload_n dX8_init_79 rfl k) ?_
  refine ex_up (fun _ k => ev_bipush (v := (7 : Int32)) dX8_init_80 (by decide) k) ?_
  refine ex_up (fun _ k => ev_icmp_ge (tgt := 104) dX8_init_82 (by decide) (fun c => absurd c (by decide)) (fun _ => k)) ?_
  refine ex_up (fun _ k => ev_aload_n dX8_init_85 rfl (fun _ e => by cases e) k) ?_
  refine en_getr (r := a + 10) R 0 rfl dX8_init_86 fX8_20 rfl rfl ?_
  refine ex_up (fun _ k => ev_iload_n dX8_init_89 rfl k) ?_
  refine en_new (ci := 3) R dX8_init_90 (by decide) qX8_18 zX3 (fun τ R => ?_)
  have R : rg σ a 2469 ([(7, 0, ev_u1 (fun _ => 0) 0 (4 : Int32), ev_u1 (ev_u1 (ev_u1 (ev_u1 (ev_u1 (ev_u1 (fun _ => none) 3 (some (a + 1))) 4 (some (a + 10))) 5 (some (a + 11))) 6 (some (a + 14))) 7 (some (a + 16))) 8 (some (a + 18)))] ++ (csX1 (a + 1) ++ ([(102, 7, fun _ => 0, ev_u1 (fun _ => none) 0 (some (a + 23)))] ++ (csX4 (a + 11) ++ (csX2_60 (a + 14) ++ (csX2_100 (a + 16) ++ (csX5 (a + 18) ++ (csX3 (a + 23) ++ ([nc 3 0]))))))))) τ := R
  show EX _ _ _ _ [.ref (a + 28), .int (1 : Int32), .ref (a + 10)] _ _
  refine ex_up (fun _ k => ev_dup dX8_init_93 k) ?_
  refine en_ctor (C1 := [(7, 0, ev_u1 (fun _ => 0) 0 (4 : Int32), ev_u1 (ev_u1 (ev_u1 (ev_u1 (ev_u1 (ev_u1 (fun _ => none) 3 (some (a + 1))) 4 (some (a + 10))) 5 (some (a + 11))) 6 (some (a + 14))) 7 (some (a + 16))) 8 (some (a + 18)))] ++ (csX1 (a + 1) ++ ([(102, 7, fun _ => 0, ev_u1 (fun _ => none) 0 (some (a + 23)))] ++ (csX4 (a + 11) ++ (csX2_60 (a + 14) ++ (csX2_100 (a + 16) ++ (csX5 (a + 18) ++ (csX3 (a + 23))))))))) (Y := mX3_init) (ci := 3) (As := []) (rest := [.ref (a + 28), .int (1 : Int32), .ref (a + 10)]) (cs := csX3) R dX8_init_94 kX8_54 oX3_init rfl ⟨Nat.le_of_ble_eq_true rfl, Nat.le_of_ble_eq_true rfl⟩ rfl (Nat.le_of_ble_eq_true rfl) (mkX3 E) rfl (fun τ R => ?_)
  have R : rg σ a 2970 ([(7, 0, ev_u1 (fun _ => 0) 0 (4 : Int32), ev_u1 (ev_u1 (ev_u1 (ev_u1 (ev_u1 (ev_u1 (fun _ => none) 3 (some (a + 1))) 4 (some (a + 10))) 5 (some (a + 11))) 6 (some (a + 14))) 7 (some (a + 16))) 8 (some (a + 18)))] ++ (csX1 (a + 1) ++ ([(102, 7, fun _ => 0, ev_u1 (fun _ => none) 0 (some (a + 23)))] ++ (csX4 (a + 11) ++ (csX2_60 (a + 14) ++ (csX2_100 (a + 16) ++ (csX5 (a + 18) ++ (csX3 (a + 23) ++ (csX3 (a + 28)))))))))) τ := R
  refine en_aast (r := 28) R 10 rfl rfl dX8_init_97 (by decide) (fun τ R => ?_)
  have R : rg σ a 2970 ([(7, 0, ev_u1 (fun _ => 0) 0 (4 : Int32), ev_u1 (ev_u1 (ev_u1 (ev_u1 (ev_u1 (ev_u1 (fun _ => none) 3 (some (a + 1))) 4 (some (a + 10))) 5 (some (a + 11))) 6 (some (a + 14))) 7 (some (a + 16))) 8 (some (a + 18)))] ++ (csX1 (a + 1) ++ ([(102, 7, fun _ => 0, ev_u1 (ev_u1 (fun _ => none) 0 (some (a + 23))) 1 (some (a + 28)))] ++ (csX4 (a + 11) ++ (csX2_60 (a + 14) ++ (csX2_100 (a + 16) ++ (csX5 (a + 18) ++ (csX3 (a + 23) ++ (csX3 (a + 28)))))))))) τ := R
  refine ex_up (fun _ k => ew_iinc (y := (2 : Int32)) (L' := [some (.ref a), some (.int (2 : Int32))]) dX8_init_98 (Nat.le_of_ble_eq_true rfl) rfl rfl (by decide) rfl k) ?_
  refine ex_up (fun _ k => ev_goto (tgt := 79) dX8_init_101 (by decide) k) ?_
  refine ex_up (fun _ k => ev_iload_n dX8_init_79 rfl k) ?_
  refine ex_up (fun _ k => ev_bipush (v := (7 : Int32)) dX8_init_80 (by decide) k) ?_
  refine ex_up (fun _ k => ev_icmp_ge (tgt := 104) dX8_init_82 (by decide) (fun c => absurd c (by decide)) (fun _ => k)) ?_
  refine ex_up (fun _ k => ev_aload_n dX8_init_85 rfl (fun _ e => by cases e) k) ?_
  refine en_getr (r := a + 10) R 0 rfl dX8_init_86 fX8_20 rfl rfl ?_
  refine ex_up (fun _ k => ev_iload_n dX8_init_89 rfl k) ?_
  refine en_new (ci := 3) R dX8_init_90 (by decide) qX8_18 zX3 (fun τ R => ?_)
  have R : rg σ a 2985 ([(7, 0, ev_u1 (fun _ => 0) 0 (4 : Int32), ev_u1 (ev_u1 (ev_u1 (ev_u1 (ev_u1 (ev_u1 (fun _ => none) 3 (some (a + 1))) 4 (some (a + 10))) 5 (some (a + 11))) 6 (some (a + 14))) 7 (some (a + 16))) 8 (some (a + 18)))] ++ (csX1 (a + 1) ++ ([(102, 7, fun _ => 0, ev_u1 (ev_u1 (fun _ => none) 0 (some (a + 23))) 1 (some (a + 28)))] ++ (csX4 (a + 11) ++ (csX2_60 (a + 14) ++ (csX2_100 (a + 16) ++ (csX5 (a + 18) ++ (csX3 (a + 23) ++ (csX3 (a + 28) ++ ([nc 3 0])))))))))) τ := R
  show EX _ _ _ _ [.ref (a + 33), .int (2 : Int32), .ref (a + 10)] _ _
  refine ex_up (fun _ k => ev_dup dX8_init_93 k) ?_
  refine en_ctor (C1 := [(7, 0, ev_u1 (fun _ => 0) 0 (4 : Int32), ev_u1 (ev_u1 (ev_u1 (ev_u1 (ev_u1 (ev_u1 (fun _ => none) 3 (some (a + 1))) 4 (some (a + 10))) 5 (some (a + 11))) 6 (some (a + 14))) 7 (some (a + 16))) 8 (some (a + 18)))] ++ (csX1 (a + 1) ++ ([(102, 7, fun _ => 0, ev_u1 (ev_u1 (fun _ => none) 0 (some (a + 23))) 1 (some (a + 28)))] ++ (csX4 (a + 11) ++ (csX2_60 (a + 14) ++ (csX2_100 (a + 16) ++ (csX5 (a + 18) ++ (csX3 (a + 23) ++ (csX3 (a + 28)))))))))) (Y := mX3_init) (ci := 3) (As := []) (rest := [.ref (a + 33), .int (2 : Int32), .ref (a + 10)]) (cs := csX3) R dX8_init_94 kX8_54 oX3_init rfl ⟨Nat.le_of_ble_eq_true rfl, Nat.le_of_ble_eq_true rfl⟩ rfl (Nat.le_of_ble_eq_true rfl) (mkX3 E) rfl (fun τ R => ?_)
  have R : rg σ a 3486 ([(7, 0, ev_u1 (fun _ => 0) 0 (4 : Int32), ev_u1 (ev_u1 (ev_u1 (ev_u1 (ev_u1 (ev_u1 (fun _ => none) 3 (some (a + 1))) 4 (some (a + 10))) 5 (some (a + 11))) 6 (some (a + 14))) 7 (some (a + 16))) 8 (some (a + 18)))] ++ (csX1 (a + 1) ++ ([(102, 7, fun _ => 0, ev_u1 (ev_u1 (fun _ => none) 0 (some (a + 23))) 1 (some (a + 28)))] ++ (csX4 (a + 11) ++ (csX2_60 (a + 14) ++ (csX2_100 (a + 16) ++ (csX5 (a + 18) ++ (csX3 (a + 23) ++ (csX3 (a + 28) ++ (csX3 (a + 33))))))))))) τ := R
  refine en_aast (r := 33) R 10 rfl rfl dX8_init_97 (by decide) (fun τ R => ?_)
  have R : rg σ a 3486 ([(7, 0, ev_u1 (fun _ => 0) 0 (4 : Int32), ev_u1 (ev_u1 (ev_u1 (ev_u1 (ev_u1 (ev_u1 (fun _ => none) 3 (some (a + 1))) 4 (some (a + 10))) 5 (some (a + 11))) 6 (some (a + 14))) 7 (some (a + 16))) 8 (some (a + 18)))] ++ (csX1 (a + 1) ++ ([(102, 7, fun _ => 0, ev_u1 (ev_u1 (ev_u1 (fun _ => none) 0 (some (a + 23))) 1 (some (a + 28))) 2 (some (a + 33)))] ++ (csX4 (a + 11) ++ (csX2_60 (a + 14) ++ (csX2_100 (a + 16) ++ (csX5 (a + 18) ++ (csX3 (a + 23) ++ (csX3 (a + 28) ++ (csX3 (a + 33))))))))))) τ := R
  refine ex_up (fun _ k => ew_iinc (y := (3 : Int32)) (L' := [some (.ref a), some (.int (3 : Int32))]) dX8_init_98 (Nat.le_of_ble_eq_true rfl) rfl rfl (by decide) rfl k) ?_
  refine ex_up (fun _ k => ev_goto (tgt := 79) dX8_init_101 (by decide) k) ?_
  refine ex_up (fun _ k => ev_iload_n dX8_init_79 rfl k) ?_
  refine ex_up (fun _ k => ev_bipush (v := (7 : Int32)) dX8_init_80 (by decide) k) ?_
  refine ex_up (fun _ k => ev_icmp_ge (tgt := 104) dX8_init_82 (by decide) (fun c => absurd c (by decide)) (fun _ => k)) ?_
  refine ex_up (fun _ k => ev_aload_n dX8_init_85 rfl (fun _ e => by cases e) k) ?_
  refine en_getr (r := a + 10) R 0 rfl dX8_init_86 fX8_20 rfl rfl ?_
  refine ex_up (fun _ k => ev_iload_n dX8_init_89 rfl k) ?_
  refine en_new (ci := 3) R dX8_init_90 (by decide) qX8_18 zX3 (fun τ R => ?_)
  have R : rg σ a 3501 ([(7, 0, ev_u1 (fun _ => 0) 0 (4 : Int32), ev_u1 (ev_u1 (ev_u1 (ev_u1 (ev_u1 (ev_u1 (fun _ => none) 3 (some (a + 1))) 4 (some (a + 10))) 5 (some (a + 11))) 6 (some (a + 14))) 7 (some (a + 16))) 8 (some (a + 18)))] ++ (csX1 (a + 1) ++ ([(102, 7, fun _ => 0, ev_u1 (ev_u1 (ev_u1 (fun _ => none) 0 (some (a + 23))) 1 (some (a + 28))) 2 (some (a + 33)))] ++ (csX4 (a + 11) ++ (csX2_60 (a + 14) ++ (csX2_100 (a + 16) ++ (csX5 (a + 18) ++ (csX3 (a + 23) ++ (csX3 (a + 28) ++ (csX3 (a + 33) ++ ([nc 3 0]))))))))))) τ := R
  show EX _ _ _ _ [.ref (a + 38), .int (3 : Int32), .ref (a + 10)] _ _
  refine ex_up (fun _ k => ev_dup dX8_init_93 k) ?_
  refine en_ctor (C1 := [(7, 0, ev_u1 (fun _ => 0) 0 (4 : Int32), ev_u1 (ev_u1 (ev_u1 (ev_u1 (ev_u1 (ev_u1 (fun _ => none) 3 (some (a + 1))) 4 (some (a + 10))) 5 (some (a + 11))) 6 (some (a + 14))) 7 (some (a + 16))) 8 (some (a + 18)))] ++ (csX1 (a + 1) ++ ([(102, 7, fun _ => 0, ev_u1 (ev_u1 (ev_u1 (fun _ => none) 0 (some (a + 23))) 1 (some (a + 28))) 2 (some (a + 33)))] ++ (csX4 (a + 11) ++ (csX2_60 (a + 14) ++ (csX2_100 (a + 16) ++ (csX5 (a + 18) ++ (csX3 (a + 23) ++ (csX3 (a + 28) ++ (csX3 (a + 33))))))))))) (Y := mX3_init) (ci := 3) (As := []) (rest := [.ref (a + 38), .int (3 : Int32), .ref (a + 10)]) (cs := csX3) R dX8_init_94 kX8_54 oX3_init rfl ⟨Nat.le_of_ble_eq_true rfl, Nat.le_of_ble_eq_true rfl⟩ rfl (Nat.le_of_ble_eq_true rfl) (mkX3 E) rfl (fun τ R => ?_)
  have R : rg σ a 4002 ([(7, 0, ev_u1 (fun _ => 0) 0 (4 : Int32), ev_u1 (ev_u1 (ev_u1 (ev_u1 (ev_u1 (ev_u1 (fun _ => none) 3 (some (a + 1))) 4 (some (a + 10))) 5 (some (a + 11))) 6 (some (a + 14))) 7 (some (a + 16))) 8 (some (a + 18)))] ++ (csX1 (a + 1) ++ ([(102, 7, fun _ => 0, ev_u1 (ev_u1 (ev_u1 (fun _ => none) 0 (some (a + 23))) 1 (some (a + 28))) 2 (some (a + 33)))] ++ (csX4 (a + 11) ++ (csX2_60 (a + 14) ++ (csX2_100 (a + 16) ++ (csX5 (a + 18) ++ (csX3 (a + 23) ++ (csX3 (a + 28) ++ (csX3 (a + 33) ++ (csX3 (a + 38)))))))))))) τ := R
  refine en_aast (r := 38) R 10 rfl rfl dX8_init_97 (by decide) (fun τ R => ?_)
  have R : rg σ a 4002 ([(7, 0, ev_u1 (fun _ => 0) 0 (4 : Int32), ev_u1 (ev_u1 (ev_u1 (ev_u1 (ev_u1 (ev_u1 (fun _ => none) 3 (some (a + 1))) 4 (some (a + 10))) 5 (some (a + 11))) 6 (some (a + 14))) 7 (some (a + 16))) 8 (some (a + 18)))] ++ (csX1 (a + 1) ++ ([(102, 7, fun _ => 0, ev_u1 (ev_u1 (ev_u1 (ev_u1 (fun _ => none) 0 (some (a + 23))) 1 (some (a + 28))) 2 (some (a + 33))) 3 (some (a + 38)))] ++ (csX4 (a + 11) ++ (csX2_60 (a + 14) ++ (csX2_100 (a + 16) ++ (csX5 (a + 18) ++ (csX3 (a + 23) ++ (csX3 (a + 28) ++ (csX3 (a + 33) ++ (csX3 (a + 38)))))))))))) τ := R
  refine ex_up (fun _ k => ew_iinc (y := (4 : Int32)) (L' := [some (.ref a), some (.int (4 : Int32))]) dX8_init_98 (Nat.le_of_ble_eq_true rfl) rfl rfl (by decide) rfl k) ?_
  refine ex_up (fun _ k => ev_goto (tgt := 79) dX8_init_101 (by decide) k) ?_
  refine ex_up (fun _ k => ev_iload_n dX8_init_79 rfl k) ?_
  refine ex_up (fun _ k => ev_bipush (v := (7 : Int32)) dX8_init_80 (by decide) k) ?_
  refine ex_up (fun _ k => ev_icmp_ge (tgt := 104) dX8_init_82 (by decide) (fun c => absurd c (by decide)) (fun _ => k)) ?_
  refine ex_up (fun _ k => ev_aload_n dX8_init_85 rfl (fun _ e => by cases e) k) ?_
  refine en_getr (r := a + 10) R 0 rfl dX8_init_86 fX8_20 rfl rfl ?_
  refine ex_up (fun _ k => ev_iload_n dX8_init_89 rfl k) ?_
  refine en_new (ci := 3) R dX8_init_90 (by decide) qX8_18 zX3 (fun τ R => ?_)
  have R : rg σ a 4017 ([(7, 0, ev_u1 (fun _ => 0) 0 (4 : Int32), ev_u1 (ev_u1 (ev_u1 (ev_u1 (ev_u1 (ev_u1 (fun _ => none) 3 (some (a + 1))) 4 (some (a + 10))) 5 (some (a + 11))) 6 (some (a + 14))) 7 (some (a + 16))) 8 (some (a + 18)))] ++ (csX1 (a + 1) ++ ([(102, 7, fun _ => 0, ev_u1 (ev_u1 (ev_u1 (ev_u1 (fun _ => none) 0 (some (a + 23))) 1 (some (a + 28))) 2 (some (a + 33))) 3 (some (a + 38)))] ++ (csX4 (a + 11) ++ (csX2_60 (a + 14) ++ (csX2_100 (a + 16) ++ (csX5 (a + 18) ++ (csX3 (a + 23) ++ (csX3 (a + 28) ++ (csX3 (a + 33) ++ (csX3 (a + 38) ++ ([nc 3 0])))))))))))) τ := R
  show EX _ _ _ _ [.ref (a + 43), .int (4 : Int32), .ref (a + 10)] _ _
  refine ex_up (fun _ k => ev_dup dX8_init_93 k) ?_
  refine en_ctor (C1 := [(7, 0, ev_u1 (fun _ => 0) 0 (4 : Int32), ev_u1 (ev_u1 (ev_u1 (ev_u1 (ev_u1 (ev_u1 (fun _ => none) 3 (some (a + 1))) 4 (some (a + 10))) 5 (some (a + 11))) 6 (some (a + 14))) 7 (some (a + 16))) 8 (some (a + 18)))] ++ (csX1 (a + 1) ++ ([(102, 7, fun _ => 0, ev_u1 (ev_u1 (ev_u1 (ev_u1 (fun _ => none) 0 (some (a + 23))) 1 (some (a + 28))) 2 (some (a + 33))) 3 (some (a + 38)))] ++ (csX4 (a + 11) ++ (csX2_60 (a + 14) ++ (csX2_100 (a + 16) ++ (csX5 (a + 18) ++ (csX3 (a + 23) ++ (csX3 (a + 28) ++ (csX3 (a + 33) ++ (csX3 (a + 38)))))))))))) (Y := mX3_init) (ci := 3) (As := []) (rest := [.ref (a + 43), .int (4 : Int32), .ref (a + 10)]) (cs := csX3) R dX8_init_94 kX8_54 oX3_init rfl ⟨Nat.le_of_ble_eq_true rfl, Nat.le_of_ble_eq_true rfl⟩ rfl (Nat.le_of_ble_eq_true rfl) (mkX3 E) rfl (fun τ R => ?_)
  have R : rg σ a 4518 ([(7, 0, ev_u1 (fun _ => 0) 0 (4 : Int32), ev_u1 (ev_u1 (ev_u1 (ev_u1 (ev_u1 (ev_u1 (fun _ => none) 3 (some (a + 1))) 4 (some (a + 10))) 5 (some (a + 11))) 6 (some (a + 14))) 7 (some (a + 16))) 8 (some (a + 18)))] ++ (csX1 (a + 1) ++ ([(102, 7, fun _ => 0, ev_u1 (ev_u1 (ev_u1 (ev_u1 (fun _ => none) 0 (some (a + 23))) 1 (some (a + 28))) 2 (some (a + 33))) 3 (some (a + 38)))] ++ (csX4 (a + 11) ++ (csX2_60 (a + 14) ++ (csX2_100 (a + 16) ++ (csX5 (a + 18) ++ (csX3 (a + 23) ++ (csX3 (a + 28) ++ (csX3 (a + 33) ++ (csX3 (a + 38) ++ (csX3 (a + 43))))))))))))) τ := R
  refine en_aast (r := 43) R 10 rfl rfl dX8_init_97 (by decide) (fun τ R => ?_)
  have R : rg σ a 4518 ([(7, 0, ev_u1 (fun _ => 0) 0 (4 : Int32), ev_u1 (ev_u1 (ev_u1 (ev_u1 (ev_u1 (ev_u1 (fun _ => none) 3 (some (a + 1))) 4 (some (a + 10))) 5 (some (a + 11))) 6 (some (a + 14))) 7 (some (a + 16))) 8 (some (a + 18)))] ++ (csX1 (a + 1) ++ ([(102, 7, fun _ => 0, ev_u1 (ev_u1 (ev_u1 (ev_u1 (ev_u1 (fun _ => none) 0 (some (a + 23))) 1 (some (a + 28))) 2 (some (a + 33))) 3 (some (a + 38))) 4 (some (a + 43)))] ++ (csX4 (a + 11) ++ (csX2_60 (a + 14) ++ (csX2_100 (a + 16) ++ (csX5 (a + 18) ++ (csX3 (a + 23) ++ (csX3 (a + 28) ++ (csX3 (a + 33) ++ (csX3 (a + 38) ++ (csX3 (a + 43))))))))))))) τ := R
  refine ex_up (fun _ k => ew_iinc (y := (5 : Int32)) (L' := [some (.ref a), some (.int (5 : Int32))]) dX8_init_98 (Nat.le_of_ble_eq_true rfl) rfl rfl (by decide) rfl k) ?_
  refine ex_up (fun _ k => ev_goto (tgt := 79) dX8_init_101 (by decide) k) ?_
  refine ex_up (fun _ k => ev_iload_n dX8_init_79 rfl k) ?_
  refine ex_up (fun _ k => ev_bipush (v := (7 : Int32)) dX8_init_80 (by decide) k) ?_
  refine ex_up (fun _ k => ev_icmp_ge (tgt := 104) dX8_init_82 (by decide) (fun c => absurd c (by decide)) (fun _ => k)) ?_
  refine ex_up (fun _ k => ev_aload_n dX8_init_85 rfl (fun _ e => by cases e) k) ?_
  refine en_getr (r := a + 10) R 0 rfl dX8_init_86 fX8_20 rfl rfl ?_
  refine ex_up (fun _ k => ev_iload_n dX8_init_89 rfl k) ?_
  refine en_new (ci := 3) R dX8_init_90 (by decide) qX8_18 zX3 (fun τ R => ?_)
  have R : rg σ a 4533 ([(7, 0, ev_u1 (fun _ => 0) 0 (4 : Int32), ev_u1 (ev_u1 (ev_u1 (ev_u1 (ev_u1 (ev_u1 (fun _ => none) 3 (some (a + 1))) 4 (some (a + 10))) 5 (some (a + 11))) 6 (some (a + 14))) 7 (some (a + 16))) 8 (some (a + 18)))] ++ (csX1 (a + 1) ++ ([(102, 7, fun _ => 0, ev_u1 (ev_u1 (ev_u1 (ev_u1 (ev_u1 (fun _ => none) 0 (some (a + 23))) 1 (some (a + 28))) 2 (some (a + 33))) 3 (some (a + 38))) 4 (some (a + 43)))] ++ (csX4 (a + 11) ++ (csX2_60 (a + 14) ++ (csX2_100 (a + 16) ++ (csX5 (a + 18) ++ (csX3 (a + 23) ++ (csX3 (a + 28) ++ (csX3 (a + 33) ++ (csX3 (a + 38) ++ (csX3 (a + 43) ++ ([nc 3 0]))))))))))))) τ := R
  show EX _ _ _ _ [.ref (a + 48), .int (5 : Int32), .ref (a + 10)] _ _
  refine ex_up (fun _ k => ev_dup dX8_init_93 k) ?_
  refine en_ctor (C1 := [(7, 0, ev_u1 (fun _ => 0) 0 (4 : Int32), ev_u1 (ev_u1 (ev_u1 (ev_u1 (ev_u1 (ev_u1 (fun _ => none) 3 (some (a + 1))) 4 (some (a + 10))) 5 (some (a + 11))) 6 (some (a + 14))) 7 (some (a + 16))) 8 (some (a + 18)))] ++ (csX1 (a + 1) ++ ([(102, 7, fun _ => 0, ev_u1 (ev_u1 (ev_u1 (ev_u1 (ev_u1 (fun _ => none) 0 (some (a + 23))) 1 (some (a + 28))) 2 (some (a + 33))) 3 (some (a + 38))) 4 (some (a + 43)))] ++ (csX4 (a + 11) ++ (csX2_60 (a + 14) ++ (csX2_100 (a + 16) ++ (csX5 (a + 18) ++ (csX3 (a + 23) ++ (csX3 (a + 28) ++ (csX3 (a + 33) ++ (csX3 (a + 38) ++ (csX3 (a + 43))))))))))))) (Y := mX3_init) (ci := 3) (As := []) (rest := [.ref (a + 48), .int (5 : Int32), .ref (a + 10)]) (cs := csX3) R dX8_init_94 kX8_54 oX3_init rfl ⟨Nat.le_of_ble_eq_true rfl, Nat.le_of_ble_eq_true rfl⟩ rfl (Nat.le_of_ble_eq_true rfl) (mkX3 E) rfl (fun τ R => ?_)
  have R : rg σ a 5034 ([(7, 0, ev_u1 (fun _ => 0) 0 (4 : Int32), ev_u1 (ev_u1 (ev_u1 (ev_u1 (ev_u1 (ev_u1 (fun _ => none) 3 (some (a + 1))) 4 (some (a + 10))) 5 (some (a + 11))) 6 (some (a + 14))) 7 (some (a + 16))) 8 (some (a + 18)))] ++ (csX1 (a + 1) ++ ([(102, 7, fun _ => 0, ev_u1 (ev_u1 (ev_u1 (ev_u1 (ev_u1 (fun _ => none) 0 (some (a + 23))) 1 (some (a + 28))) 2 (some (a + 33))) 3 (some (a + 38))) 4 (some (a + 43)))] ++ (csX4 (a + 11) ++ (csX2_60 (a + 14) ++ (csX2_100 (a + 16) ++ (csX5 (a + 18) ++ (csX3 (a + 23) ++ (csX3 (a + 28) ++ (csX3 (a + 33) ++ (csX3 (a + 38) ++ (csX3 (a + 43) ++ (csX3 (a + 48)))))))))))))) τ := R
  refine en_aast (r := 48) R 10 rfl rfl dX8_init_97 (by decide) (fun τ R => ?_)
  have R : rg σ a 5034 ([(7, 0, ev_u1 (fun _ => 0) 0 (4 : Int32), ev_u1 (ev_u1 (ev_u1 (ev_u1 (ev_u1 (ev_u1 (fun _ => none) 3 (some (a + 1))) 4 (some (a + 10))) 5 (some (a + 11))) 6 (some (a + 14))) 7 (some (a + 16))) 8 (some (a + 18)))] ++ (csX1 (a + 1) ++ ([(102, 7, fun _ => 0, ev_u1 (ev_u1 (ev_u1 (ev_u1 (ev_u1 (ev_u1 (fun _ => none) 0 (some (a + 23))) 1 (some (a + 28))) 2 (some (a + 33))) 3 (some (a + 38))) 4 (some (a + 43))) 5 (some (a + 48)))] ++ (csX4 (a + 11) ++ (csX2_60 (a + 14) ++ (csX2_100 (a + 16) ++ (csX5 (a + 18) ++ (csX3 (a + 23) ++ (csX3 (a + 28) ++ (csX3 (a + 33) ++ (csX3 (a + 38) ++ (csX3 (a + 43) ++ (csX3 (a + 48)))))))))))))) τ := R
  refine ex_up (fun _ k => ew_iinc (y := (6 : Int32)) (L' := [some (.ref a), some (.int (6 : Int32))]) dX8_init_98 (Nat.le_of_ble_eq_true rfl) rfl rfl (by decide) rfl k) ?_
  refine ex_up (fun _ k => ev_goto (tgt := 79) dX8_init_101 (by decide) k) ?_
  refine ex_up (fun _ k => ev_iload_n dX8_init_79 rfl k) ?_
  refine ex_up (fun _ k => ev_bipush (v := (7 : Int32)) dX8_init_80 (by decide) k) ?_
  refine ex_up (fun _ k => ev_icmp_ge (tgt := 104) dX8_init_82 (by decide) (fun c => absurd c (by decide)) (fun _ => k)) ?_
  refine ex_up (fun _ k => ev_aload_n dX8_init_85 rfl (fun _ e => by cases e) k) ?_
  refine en_getr (r := a + 10) R 0 rfl dX8_init_86 fX8_20 rfl rfl ?_
  refine ex_up (fun _ k => ev_iload_n dX8_init_89 rfl k) ?_
  refine en_new (ci := 3) R dX8_init_90 (by decide) qX8_18 zX3 (fun τ R => ?_)
  have R : rg σ a 5049 ([(7, 0, ev_u1 (fun _ => 0) 0 (4 : Int32), ev_u1 (ev_u1 (ev_u1 (ev_u1 (ev_u1 (ev_u1 (fun _ => none) 3 (some (a + 1))) 4 (some (a + 10))) 5 (some (a + 11))) 6 (some (a + 14))) 7 (some (a + 16))) 8 (some (a + 18)))] ++ (csX1 (a + 1) ++ ([(102, 7, fun _ => 0, ev_u1 (ev_u1 (ev_u1 (ev_u1 (ev_u1 (ev_u1 (fun _ => none) 0 (some (a + 23))) 1 (some (a + 28))) 2 (some (a + 33))) 3 (some (a + 38))) 4 (some (a + 43))) 5 (some (a + 48)))] ++ (csX4 (a + 11) ++ (csX2_60 (a + 14) ++ (csX2_100 (a + 16) ++ (csX5 (a + 18) ++ (csX3 (a + 23) ++ (csX3 (a + 28) ++ (csX3 (a + 33) ++ (csX3 (a + 38) ++ (csX3 (a + 43) ++ (csX3 (a + 48) ++ ([nc 3 0])))))))))))))) τ := R
  show EX _ _ _ _ [.ref (a + 53), .int (6 : Int32), .ref (a + 10)] _ _
  refine ex_up (fun _ k => ev_dup dX8_init_93 k) ?_
  refine en_ctor (C1 := [(7, 0, ev_u1 (fun _ => 0) 0 (4 : Int32), ev_u1 (ev_u1 (ev_u1 (ev_u1 (ev_u1 (ev_u1 (fun _ => none) 3 (some (a + 1))) 4 (some (a + 10))) 5 (some (a + 11))) 6 (some (a + 14))) 7 (some (a + 16))) 8 (some (a + 18)))] ++ (csX1 (a + 1) ++ ([(102, 7, fun _ => 0, ev_u1 (ev_u1 (ev_u1 (ev_u1 (ev_u1 (ev_u1 (fun _ => none) 0 (some (a + 23))) 1 (some (a + 28))) 2 (some (a + 33))) 3 (some (a + 38))) 4 (some (a + 43))) 5 (some (a + 48)))] ++ (csX4 (a + 11) ++ (csX2_60 (a + 14) ++ (csX2_100 (a + 16) ++ (csX5 (a + 18) ++ (csX3 (a + 23) ++ (csX3 (a + 28) ++ (csX3 (a + 33) ++ (csX3 (a + 38) ++ (csX3 (a + 43) ++ (csX3 (a + 48)))))))))))))) (Y := mX3_init) (ci := 3) (As := []) (rest := [.ref (a + 53), .int (6 : Int32), .ref (a + 10)]) (cs := csX3) R dX8_init_94 kX8_54 oX3_init rfl ⟨Nat.le_of_ble_eq_true rfl, Nat.le_of_ble_eq_true rfl⟩ rfl (Nat.le_of_ble_eq_true rfl) (mkX3 E) rfl (fun τ R => ?_)
  have R : rg σ a 5550 ([(7, 0, ev_u1 (fun _ => 0) 0 (4 : Int32), ev_u1 (ev_u1 (ev_u1 (ev_u1 (ev_u1 (ev_u1 (fun _ => none) 3 (some (a + 1))) 4 (some (a + 10))) 5 (some (a + 11))) 6 (some (a + 14))) 7 (some (a + 16))) 8 (some (a + 18)))] ++ (csX1 (a + 1) ++ ([(102, 7, fun _ => 0, ev_u1 (ev_u1 (ev_u1 (ev_u1 (ev_u1 (ev_u1 (fun _ => none) 0 (some (a + 23))) 1 (some (a + 28))) 2 (some (a + 33))) 3 (some (a + 38))) 4 (some (a + 43))) 5 (some (a + 48)))] ++ (csX4 (a + 11) ++ (csX2_60 (a + 14) ++ (csX2_100 (a + 16) ++ (csX5 (a + 18) ++ (csX3 (a + 23) ++ (csX3 (a + 28) ++ (csX3 (a + 33) ++ (csX3 (a + 38) ++ (csX3 (a + 43) ++ (csX3 (a + 48) ++ (csX3 (a + 53))))))))))))))) τ := R
  refine en_aast (r := 53) R 10 rfl rfl dX8_init_97 (by decide) (fun τ R => ?_)
  have R : rg σ a 5550 ([(7, 0, ev_u1 (fun _ => 0) 0 (4 : Int32), ev_u1 (ev_u1 (ev_u1 (ev_u1 (ev_u1 (ev_u1 (fun _ => none) 3 (some (a + 1))) 4 (some (a + 10))) 5 (some (a + 11))) 6 (some (a + 14))) 7 (some (a + 16))) 8 (some (a + 18)))] ++ (csX1 (a + 1) ++ ([(102, 7, fun _ => 0, ev_u1 (ev_u1 (ev_u1 (ev_u1 (ev_u1 (ev_u1 (ev_u1 (fun _ => none) 0 (some (a + 23))) 1 (some (a + 28))) 2 (some (a + 33))) 3 (some (a + 38))) 4 (some (a + 43))) 5 (some (a + 48))) 6 (some (a + 53)))] ++ (csX4 (a + 11) ++ (csX2_60 (a + 14) ++ (csX2_100 (a + 16) ++ (csX5 (a + 18) ++ (csX3 (a + 23) ++ (csX3 (a + 28) ++ (csX3 (a + 33) ++ (csX3 (a + 38) ++ (csX3 (a + 43) ++ (csX3 (a + 48) ++ (csX3 (a + 53))))))))))))))) τ := R
  refine ex_up (fun _ k => ew_iinc (y := (7 : Int32)) (L' := [some (.ref a), some (.int (7 : Int32))]) dX8_init_98 (Nat.le_of_ble_eq_true rfl) rfl rfl (by decide) rfl k) ?_
  refine ex_up (fun _ k => ev_goto (tgt := 79) dX8_init_101 (by decide) k) ?_
  refine ex_up (fun _ k => ev_iload_n dX8_init_79 rfl k) ?_
  refine ex_up (fun _ k => ev_bipush (v := (7 : Int32)) dX8_init_80 (by decide) k) ?_
  refine ex_up (fun _ k => ev_icmp_ge (tgt := 104) dX8_init_82 (by decide) (fun _ => k) (fun c => absurd (by decide) c)) ?_
  exact ⟨(none, τ), ⟨rfl, R⟩, er_v dX8_init_104 rfl⟩
def csX9 (a : Nat) : List ev_K := [(8, 0, fun _ => 0, ev_u1 (ev_u1 (ev_u1 (ev_u1 (ev_u1 (fun _ => none) 0 (some (a + 1))) 1 (some (a + 59))) 2 (some (a + 66))) 3 none) 4 none)] ++ (csX8 (a + 1) ++ (csX7 (a + 59) ++ (csX0 (a + 66))))
set_option maxRecDepth 100000 in
set_option maxHeartbeats 4000000 in
theorem mkX9 (E : ev_N) : mkr E mX9_init 8 [] 6176 csX9 := by
  refine en_met rfl rfl (Nat.le_of_ble_eq_true rfl) (fun σ a R => ?_)
  refine ex_up (fun _ k => ev_L0 (L' := [some (.ref a)]) rfl k) ?_
  refine ex_up (fun _ k => ev_aload_n dX9_init_0 rfl (fun _ e => by cases e) k) ?_
  refine ex_up (fun _ k => ev_obj dX9_init_1 kX9_3 zO_i zO_c (Nat.le_of_ble_eq_true rfl) (Nat.le_of_ble_eq_true rfl) k) ?_
  refine ex_up (fun _ k => ev_aload_n dX9_init_4 rfl (fun _ e => by cases e) k) ?_
  refine en_new (ci := 7) R dX9_init_5 (by decide) qX9_9 zX8 (fun τ R => ?_)
  have R : rg σ a 9 ([nc 8 0, nc 7 0]) τ := R
  show EX _ _ _ _ [.ref (a + 1), .ref a] _ _
  refine ex_up (fun _ k => ev_dup dX9_init_8 k) ?_
  refine en_ctor (C1 := [nc 8 0]) (Y := mX8_init) (ci := 7) (As := []) (rest := [.ref (a + 1), .ref a]) (cs := csX8) R dX9_init_9 kX9_11 oX8_init rfl ⟨Nat.le_of_ble_eq_true rfl, Nat.le_of_ble_eq_true rfl⟩ rfl (Nat.le_of_ble_eq_true rfl) (mkX8 E) rfl (fun τ R => ?_)
  have R : rg σ a 5559 ([nc 8 0] ++ (csX8 (a + 1))) τ := R
  refine en_putr R 0 rfl dX9_init_12 fX9_12 rfl (Or.inr ⟨rfl, rfl⟩) (Or.inl ⟨_, rfl⟩) (fun τ R => ?_)
  have R : rg σ a 5559 ([(8, 0, fun _ => 0, ev_u1 (fun _ => none) 0 (some (a + 1)))] ++ (csX8 (a + 1))) τ := R
  refine ex_up (fun _ k => ev_aload_n dX9_init_15 rfl (fun _ e => by cases e) k) ?_
  refine en_new (ci := 6) R dX9_init_16 (by decide) qX9_16 zX7 (fun τ R => ?_)
  have R : rg σ a 5567 ([(8, 0, fun _ => 0, ev_u1 (fun _ => none) 0 (some (a + 1)))] ++ (csX8 (a + 1) ++ ([nc 6 0]))) τ := R
  show EX _ _ _ _ [.ref (a + 59), .ref a] _ _
  refine ex_up (fun _ k => ev_dup dX9_init_19 k) ?_
  refine en_ctor (C1 := [(8, 0, fun _ => 0, ev_u1 (fun _ => none) 0 (some (a + 1)))] ++ (csX8 (a + 1))) (Y := mX7_init) (ci := 6) (As := []) (rest := [.ref (a + 59), .ref a]) (cs := csX7) R dX9_init_20 kX9_18 oX7_init rfl ⟨Nat.le_of_ble_eq_true rfl, Nat.le_of_ble_eq_true rfl⟩ rfl (Nat.le_of_ble_eq_true rfl) (mkX7 E) rfl (fun τ R => ?_)
  have R : rg σ a 6069 ([(8, 0, fun _ => 0, ev_u1 (fun _ => none) 0 (some (a + 1)))] ++ (csX8 (a + 1) ++ (csX7 (a + 59)))) τ := R
  refine en_putr R 0 rfl dX9_init_23 fX9_19 rfl (Or.inr ⟨rfl, rfl⟩) (Or.inl ⟨_, rfl⟩) (fun τ R => ?_)
  have R : rg σ a 6069 ([(8, 0, fun _ => 0, ev_u1 (ev_u1 (fun _ => none) 0 (some (a + 1))) 1 (some (a + 59)))] ++ (csX8 (a + 1) ++ (csX7 (a + 59)))) τ := R
  refine ex_up (fun _ k => ev_aload_n dX9_init_26 rfl (fun _ e => by cases e) k) ?_
  refine en_new (ci := 0) R dX9_init_27 (by decide) qX9_23 zX0 (fun τ R => ?_)
  have R : rg σ a 6071 ([(8, 0, fun _ => 0, ev_u1 (ev_u1 (fun _ => none) 0 (some (a + 1))) 1 (some (a + 59)))] ++ (csX8 (a + 1) ++ (csX7 (a + 59) ++ ([nc 0 0])))) τ := R
  show EX _ _ _ _ [.ref (a + 66), .ref a] _ _
  refine ex_up (fun _ k => ev_dup dX9_init_30 k) ?_
  refine en_ctorN (C1 := [(8, 0, fun _ => 0, ev_u1 (ev_u1 (fun _ => none) 0 (some (a + 1))) 1 (some (a + 59)))] ++ (csX8 (a + 1) ++ (csX7 (a + 59)))) (Y := mX0_init) (ci := 0) (As := []) (rest := [.ref (a + 66), .ref a]) (cs := csX0) 3 R dX9_init_31 rfl oX0_init rfl ⟨Nat.le_of_ble_eq_true rfl, Nat.le_of_ble_eq_true rfl⟩ rfl (Nat.le_of_ble_eq_true rfl) (mkX0 E) rfl (fun τ R => ?_)
  have R : rg σ a 6176 ([(8, 0, fun _ => 0, ev_u1 (ev_u1 (fun _ => none) 0 (some (a + 1))) 1 (some (a + 59)))] ++ (csX8 (a + 1) ++ (csX7 (a + 59) ++ (csX0 (a + 66))))) τ := R
  refine en_putr R 0 rfl dX9_init_34 fX9_26 rfl (Or.inr ⟨rfl, rfl⟩) (Or.inl ⟨_, rfl⟩) (fun τ R => ?_)
  have R : rg σ a 6176 ([(8, 0, fun _ => 0, ev_u1 (ev_u1 (ev_u1 (fun _ => none) 0 (some (a + 1))) 1 (some (a + 59))) 2 (some (a + 66)))] ++ (csX8 (a + 1) ++ (csX7 (a + 59) ++ (csX0 (a + 66))))) τ := R
  refine ex_up (fun _ k => ev_aload_n dX9_init_37 rfl (fun _ e => by cases e) k) ?_
  refine ex_up (fun _ k => ev_null dX9_init_38 k) ?_
  refine en_putn R 0 rfl dX9_init_39 fX9_30 rfl (Or.inl rfl) (Or.inl ⟨_, rfl⟩) (fun τ R => ?_)
  have R : rg σ a 6176 ([(8, 0, fun _ => 0, ev_u1 (ev_u1 (ev_u1 (ev_u1 (fun _ => none) 0 (some (a + 1))) 1 (some (a + 59))) 2 (some (a + 66))) 3 none)] ++ (csX8 (a + 1) ++ (csX7 (a + 59) ++ (csX0 (a + 66))))) τ := R
  refine ex_up (fun _ k => ev_aload_n dX9_init_42 rfl (fun _ e => by cases e) k) ?_
  refine ex_up (fun _ k => ev_null dX9_init_43 k) ?_
  refine en_putn R 0 rfl dX9_init_44 fX9_33 rfl (Or.inl rfl) (Or.inl ⟨_, rfl⟩) (fun τ R => ?_)
  have R : rg σ a 6176 ([(8, 0, fun _ => 0, ev_u1 (ev_u1 (ev_u1 (ev_u1 (ev_u1 (fun _ => none) 0 (some (a + 1))) 1 (some (a + 59))) 2 (some (a + 66))) 3 none) 4 none)] ++ (csX8 (a + 1) ++ (csX7 (a + 59) ++ (csX0 (a + 66))))) τ := R
  exact ⟨(none, τ), ⟨rfl, R⟩, er_v dX9_init_47 rfl⟩
def csX10 (a : Nat) : List ev_K := [(9, 0, ev_u1 (fun _ => 0) 17 (-1 : Int32), ev_u1 (ev_u1 (ev_u1 (ev_u1 (ev_u1 (ev_u1 (ev_u1 (ev_u1 (ev_u1 (ev_u1 (fun _ => none) 1 (some (a + 1))) 2 (some (a + 2))) 3 (some (a + 3))) 4 (some (a + 4))) 5 (some (a + 5))) 6 (some (a + 6))) 7 (some (a + 7))) 13 (some (a + 8))) 19 (some (a + 9))) 21 (some (a + 10))), nc 100 6010, nc 100 6010, nc 100 5, nc 100 1000, nc 100 7, nc 100 5, nc 100 400, (100, 60, ev_u1 (ev_u1 (ev_u1 (ev_u1 (ev_u1 (ev_u1 (ev_u1 (ev_u1 (ev_u1 (ev_u1 (ev_u1 (ev_u1 (ev_u1 (ev_u1 (ev_u1 (ev_u1 (ev_u1 (ev_u1 (ev_u1 (ev_u1 (ev_u1 (ev_u1 (ev_u1 (ev_u1 (ev_u1 (ev_u1 (ev_u1 (ev_u1 (ev_u1 (ev_u1 (ev_u1 (ev_u1 (ev_u1 (ev_u1 (ev_u1 (ev_u1 (ev_u1 (ev_u1 (ev_u1 (ev_u1 (ev_u1 (ev_u1 (ev_u1 (ev_u1 (ev_u1 (ev_u1 (ev_u1 (ev_u1 (ev_u1 (ev_u1 (ev_u1 (ev_u1 (ev_u1 (ev_u1 (ev_u1 (ev_u1 (ev_u1 (ev_u1 (ev_u1 (ev_u1 (fun _ => 0) 0 (32 : Int32)) 1 (112 : Int32)) 2 (114 : Int32)) 3 (111 : Int32)) 4 (112 : Int32)) 5 (111 : Int32)) 6 (115 : Int32)) 7 (101 : Int32)) 8 (32 : Int32)) 9 (100 : Int32)) 10 (101 : Int32)) 11 (108 : Int32)) 12 (105 : Int32)) 13 (118 : Int32)) 14 (101 : Int32)) 15 (114 : Int32)) 16 (32 : Int32)) 17 (100 : Int32)) 18 (114 : Int32)) 19 (111 : Int32)) 20 (112 : Int32)) 21 (32 : Int32)) 22 (108 : Int32)) 23 (111 : Int32)) 24 (115 : Int32)) 25 (101 : Int32)) 26 (32 : Int32)) 27 (116 : Int32)) 28 (117 : Int32)) 29 (114 : Int32)) 30 (110 : Int32)) 31 (32 : Int32)) 32 (116 : Int32)) 33 (105 : Int32)) 34 (109 : Int32)) 35 (101 : Int32)) 36 (111 : Int32)) 37 (117 : Int32)) 38 (116 : Int32)) 39 (32 : Int32)) 40 (108 : Int32)) 41 (105 : Int32)) 42 (101 : Int32)) 43 (32 : Int32)) 44 (109 : Int32)) 45 (97 : Int32)) 46 (114 : Int32)) 47 (107 : Int32)) 48 (32 : Int32)) 49 (98 : Int32)) 50 (108 : Int32)) 51 (111 : Int32)) 52 (99 : Int32)) 53 (107 : Int32)) 54 (32 : Int32)) 55 (99 : Int32)) 56 (97 : Int32)) 57 (108 : Int32)) 58 (109 : Int32)) 59 (32 : Int32), fun _ => none), nc 100 240, nc 100 6131]
set_option maxRecDepth 100000 in
set_option maxHeartbeats 4000000 in
theorem mkX10 (E : ev_N) : mkr E mX10_init 9 [] 19868 csX10 := by
  refine en_met rfl rfl (Nat.le_of_ble_eq_true rfl) (fun σ a R => ?_)
  refine ex_up (fun _ k => ev_L0 (L' := [some (.ref a)]) rfl k) ?_
  refine ex_up (fun _ k => ev_aload_n dX10_init_0 rfl (fun _ e => by cases e) k) ?_
  refine ex_up (fun _ k => ev_obj dX10_init_1 kX10_1 zO_i zO_c (Nat.le_of_ble_eq_true rfl) (Nat.le_of_ble_eq_true rfl) k) ?_
  refine ex_up (fun _ k => ev_aload_n dX10_init_4 rfl (fun _ e => by cases e) k) ?_
  refine ex_up (fun _ k => ev_sipush (v := (6010 : Int32)) dX10_init_5 (by decide) k) ?_
  refine en_newi (z := 6010) R dX10_init_8 (by decide) (by decide) (Nat.le_of_ble_eq_true rfl) (fun τ R => ?_)
  have R : rg σ a 6010 ([nc 9 0, nc 100 6010]) τ := R
  show EX _ _ _ _ [.ref (a + 1), .ref a] _ _
  refine en_putr R 0 rfl dX10_init_10 fX10_7 rfl (Or.inr ⟨rfl, rfl⟩) (Or.inr ⟨_, rfl⟩) (fun τ R => ?_)
  have R : rg σ a 6010 ([(9, 0, fun _ => 0, ev_u1 (fun _ => none) 1 (some (a + 1))), nc 100 6010]) τ := R
  refine ex_up (fun _ k => ev_aload_n dX10_init_13 rfl (fun _ e => by cases e) k) ?_
  refine ex_up (fun _ k => ev_sipush (v := (6010 : Int32)) dX10_init_14 (by decide) k) ?_
  refine en_newi (z := 6010) R dX10_init_17 (by decide) (by decide) (Nat.le_of_ble_eq_true rfl) (fun τ R => ?_)
  have R : rg σ a 12020 ([(9, 0, fun _ => 0, ev_u1 (fun _ => none) 1 (some (a + 1))), nc 100 6010, nc 100 6010]) τ := R
  show EX _ _ _ _ [.ref (a + 2), .ref a] _ _
  refine en_putr R 0 rfl dX10_init_19 fX10_13 rfl (Or.inr ⟨rfl, rfl⟩) (Or.inr ⟨_, rfl⟩) (fun τ R => ?_)
  have R : rg σ a 12020 ([(9, 0, fun _ => 0, ev_u1 (ev_u1 (fun _ => none) 1 (some (a + 1))) 2 (some (a + 2))), nc 100 6010, nc 100 6010]) τ := R
  refine ex_up (fun _ k => ev_aload_n dX10_init_22 rfl (fun _ e => by cases e) k) ?_
  refine ex_up (fun _ k => ev_iconst (v := (5 : Int32)) dX10_init_23 (by decide) k) ?_
  refine en_newi (z := 5) R dX10_init_24 (by decide) (by decide) (Nat.le_of_ble_eq_true rfl) (fun τ R => ?_)
  have R : rg σ a 12025 ([(9, 0, fun _ => 0, ev_u1 (ev_u1 (fun _ => none) 1 (some (a + 1))) 2 (some (a + 2))), nc 100 6010, nc 100 6010, nc 100 5]) τ := R
  show EX _ _ _ _ [.ref (a + 3), .ref a] _ _
  refine en_putr R 0 rfl dX10_init_26 fX10_16 rfl (Or.inr ⟨rfl, rfl⟩) (Or.inr ⟨_, rfl⟩) (fun τ R => ?_)
  have R : rg σ a 12025 ([(9, 0, fun _ => 0, ev_u1 (ev_u1 (ev_u1 (fun _ => none) 1 (some (a + 1))) 2 (some (a + 2))) 3 (some (a + 3))), nc 100 6010, nc 100 6010, nc 100 5]) τ := R
  refine ex_up (fun _ k => ev_aload_n dX10_init_29 rfl (fun _ e => by cases e) k) ?_
  refine ex_up (fun _ k => ev_sipush (v := (1000 : Int32)) dX10_init_30 (by decide) k) ?_
  refine en_newi (z := 1000) R dX10_init_33 (by decide) (by decide) (Nat.le_of_ble_eq_true rfl) (fun τ R => ?_)
  have R : rg σ a 13025 ([(9, 0, fun _ => 0, ev_u1 (ev_u1 (ev_u1 (fun _ => none) 1 (some (a + 1))) 2 (some (a + 2))) 3 (some (a + 3))), nc 100 6010, nc 100 6010, nc 100 5, nc 100 1000]) τ := R
  show EX _ _ _ _ [.ref (a + 4), .ref a] _ _
  refine en_putr R 0 rfl dX10_init_35 fX10_19 rfl (Or.inr ⟨rfl, rfl⟩) (Or.inr ⟨_, rfl⟩) (fun τ R => ?_)
  have R : rg σ a 13025 ([(9, 0, fun _ => 0, ev_u1 (ev_u1 (ev_u1 (ev_u1 (fun _ => none) 1 (some (a + 1))) 2 (some (a + 2))) 3 (some (a + 3))) 4 (some (a + 4))), nc 100 6010, nc 100 6010, nc 100 5, nc 100 1000]) τ := R
  refine ex_up (fun _ k => ev_aload_n dX10_init_38 rfl (fun _ e => by cases e) k) ?_
  refine ex_up (fun _ k => ev_bipush (v := (7 : Int32)) dX10_init_39 (by decide) k) ?_
  refine en_newi (z := 7) R dX10_init_41 (by decide) (by decide) (Nat.le_of_ble_eq_true rfl) (fun τ R => ?_)
  have R : rg σ a 13032 ([(9, 0, fun _ => 0, ev_u1 (ev_u1 (ev_u1 (ev_u1 (fun _ => none) 1 (some (a + 1))) 2 (some (a + 2))) 3 (some (a + 3))) 4 (some (a + 4))), nc 100 6010, nc 100 6010, nc 100 5, nc 100 1000, nc 100 7]) τ := R
  show EX _ _ _ _ [.ref (a + 5), .ref a] _ _
  refine en_putr R 0 rfl dX10_init_43 fX10_22 rfl (Or.inr ⟨rfl, rfl⟩) (Or.inr ⟨_, rfl⟩) (fun τ R => ?_)
  have R : rg σ a 13032 ([(9, 0, fun _ => 0, ev_u1 (ev_u1 (ev_u1 (ev_u1 (ev_u1 (fun _ => none) 1 (some (a + 1))) 2 (some (a + 2))) 3 (some (a + 3))) 4 (some (a + 4))) 5 (some (a + 5))), nc 100 6010, nc 100 6010, nc 100 5, nc 100 1000, nc 100 7]) τ := R
  refine ex_up (fun _ k => ev_aload_n dX10_init_46 rfl (fun _ e => by cases e) k) ?_
  refine ex_up (fun _ k => ev_iconst (v := (5 : Int32)) dX10_init_47 (by decide) k) ?_
  refine en_newi (z := 5) R dX10_init_48 (by decide) (by decide) (Nat.le_of_ble_eq_true rfl) (fun τ R => ?_)
  have R : rg σ a 13037 ([(9, 0, fun _ => 0, ev_u1 (ev_u1 (ev_u1 (ev_u1 (ev_u1 (fun _ => none) 1 (some (a + 1))) 2 (some (a + 2))) 3 (some (a + 3))) 4 (some (a + 4))) 5 (some (a + 5))), nc 100 6010, nc 100 6010, nc 100 5, nc 100 1000, nc 100 7, nc 100 5]) τ := R
  show EX _ _ _ _ [.ref (a + 6), .ref a] _ _
  refine en_putr R 0 rfl dX10_init_50 fX10_25 rfl (Or.inr ⟨rfl, rfl⟩) (Or.inr ⟨_, rfl⟩) (fun τ R => ?_)
  have R : rg σ a 13037 ([(9, 0, fun _ => 0, ev_u1 (ev_u1 (ev_u1 (ev_u1 (ev_u1 (ev_u1 (fun _ => none) 1 (some (a + 1))) 2 (some (a + 2))) 3 (some (a + 3))) 4 (some (a + 4))) 5 (some (a + 5))) 6 (some (a + 6))), nc 100 6010, nc 100 6010, nc 100 5, nc 100 1000, nc 100 7, nc 100 5]) τ := R
  refine ex_up (fun _ k => ev_aload_n dX10_init_53 rfl (fun _ e => by cases e) k) ?_
  refine ex_up (fun _ k => ev_sipush (v := (400 : Int32)) dX10_init_54 (by decide) k) ?_
  refine en_newi (z := 400) R dX10_init_57 (by decide) (by decide) (Nat.le_of_ble_eq_true rfl) (fun τ R => ?_)
  have R : rg σ a 13437 ([(9, 0, fun _ => 0, ev_u1 (ev_u1 (ev_u1 (ev_u1 (ev_u1 (ev_u1 (fun _ => none) 1 (some (a + 1))) 2 (some (a + 2))) 3 (some (a + 3))) 4 (some (a + 4))) 5 (some (a + 5))) 6 (some (a + 6))), nc 100 6010, nc 100 6010, nc 100 5, nc 100 1000, nc 100 7, nc 100 5, nc 100 400]) τ := R
  show EX _ _ _ _ [.ref (a + 7), .ref a] _ _
  refine en_putr R 0 rfl dX10_init_59 fX10_28 rfl (Or.inr ⟨rfl, rfl⟩) (Or.inr ⟨_, rfl⟩) (fun τ R => ?_)
  have R : rg σ a 13437 ([(9, 0, fun _ => 0, ev_u1 (ev_u1 (ev_u1 (ev_u1 (ev_u1 (ev_u1 (ev_u1 (fun _ => none) 1 (some (a + 1))) 2 (some (a + 2))) 3 (some (a + 3))) 4 (some (a + 4))) 5 (some (a + 5))) 6 (some (a + 6))) 7 (some (a + 7))), nc 100 6010, nc 100 6010, nc 100 5, nc 100 1000, nc 100 7, nc 100 5, nc 100 400]) τ := R
  refine ex_up (fun _ k => ev_aload_n dX10_init_62 rfl (fun _ e => by cases e) k) ?_
  refine ex_up (fun _ k => ev_bipush (v := (60 : Int32)) dX10_init_63 (by decide) k) ?_
  refine en_newi (z := 60) R dX10_init_65 (by decide) (by decide) (Nat.le_of_ble_eq_true rfl) (fun τ R => ?_)
  have R : rg σ a 13497 ([(9, 0, fun _ => 0, ev_u1 (ev_u1 (ev_u1 (ev_u1 (ev_u1 (ev_u1 (ev_u1 (fun _ => none) 1 (some (a + 1))) 2 (some (a + 2))) 3 (some (a + 3))) 4 (some (a + 4))) 5 (some (a + 5))) 6 (some (a + 6))) 7 (some (a + 7))), nc 100 6010, nc 100 6010, nc 100 5, nc 100 1000, nc 100 7, nc 100 5, nc 100 400, nc 100 60]) τ := R
  show EX _ _ _ _ [.ref (a + 8), .ref a] _ _
  refine ex_up (fun _ k => ev_dup dX10_init_67 k) ?_
  refine ex_up (fun _ k => ev_iconst (v := (0 : Int32)) dX10_init_68 (by decide) k) ?_
  refine ex_up (fun _ k => ev_bipush (v := (32 : Int32)) dX10_init_69 (by decide) k) ?_
  refine en_iast R 8 rfl dX10_init_71 (by decide) (fun τ R => ?_)
  have R : rg σ a 13497 ([(9, 0, fun _ => 0, ev_u1 (ev_u1 (ev_u1 (ev_u1 (ev_u1 (ev_u1 (ev_u1 (fun _ => none) 1 (some (a + 1))) 2 (some (a + 2))) 3 (some (a + 3))) 4 (some (a + 4))) 5 (some (a + 5))) 6 (some (a + 6))) 7 (some (a + 7))), nc 100 6010, nc 100 6010, nc 100 5, nc 100 1000, nc 100 7, nc 100 5, nc 100 400, (100, 60, ev_u1 (fun _ => 0) 0 (32 : Int32), fun _ => none)]) τ := R
  refine ex_up (fun _ k => ev_dup dX10_init_72 k) ?_
  refine ex_up (fun _ k => ev_iconst (v := (1 : Int32)) dX10_init_73 (by decide) k) ?_
  refine ex_up (fun _ k => ev_bipush (v := (112 : Int32)) dX10_init_74 (by decide) k) ?_
  refine en_iast R 8 rfl dX10_init_76 (by decide) (fun τ R => ?_)
  have R : rg σ a 13497 ([(9, 0, fun _ => 0, ev_u1 (ev_u1 (ev_u1 (ev_u1 (ev_u1 (ev_u1 (ev_u1 (fun _ => none) 1 (some (a + 1))) 2 (some (a + 2))) 3 (some (a + 3))) 4 (some (a + 4))) 5 (some (a + 5))) 6 (some (a + 6))) 7 (some (a + 7))), nc 100 6010, nc 100 6010, nc 100 5, nc 100 1000, nc 100 7, nc 100 5, nc 100 400, (100, 60, ev_u1 (ev_u1 (fun _ => 0) 0 (32 : Int32)) 1 (112 : Int32), fun _ => none)]) τ := R
  refine ex_up (fun _ k => ev_dup dX10_init_77 k) ?_
  refine ex_up (fun _ k => ev_iconst (v := (2 : Int32)) dX10_init_78 (by decide) k) ?_
  refine ex_up (fun _ k => ev_bipush (v := (114 : Int32)) dX10_init_79 (by decide) k) ?_
  refine en_iast R 8 rfl dX10_init_81 (by decide) (fun τ R => ?_)
  have R : rg σ a 13497 ([(9, 0, fun _ => 0, ev_u1 (ev_u1 (ev_u1 (ev_u1 (ev_u1 (ev_u1 (ev_u1 (fun _ => none) 1 (some (a + 1))) 2 (some (a + 2))) 3 (some (a + 3))) 4 (some (a + 4))) 5 (some (a + 5))) 6 (some (a + 6))) 7 (some (a + 7))), nc 100 6010, nc 100 6010, nc 100 5, nc 100 1000, nc 100 7, nc 100 5, nc 100 400, (100, 60, ev_u1 (ev_u1 (ev_u1 (fun _ => 0) 0 (32 : Int32)) 1 (112 : Int32)) 2 (114 : Int32), fun _ => none)]) τ := R
  refine ex_up (fun _ k => ev_dup dX10_init_82 k) ?_
  refine ex_up (fun _ k => ev_iconst (v := (3 : Int32)) dX10_init_83 (by decide) k) ?_
  refine ex_up (fun _ k => ev_bipush (v := (111 : Int32)) dX10_init_84 (by decide) k) ?_
  refine en_iast R 8 rfl dX10_init_86 (by decide) (fun τ R => ?_)
  have R : rg σ a 13497 ([(9, 0, fun _ => 0, ev_u1 (ev_u1 (ev_u1 (ev_u1 (ev_u1 (ev_u1 (ev_u1 (fun _ => none) 1 (some (a + 1))) 2 (some (a + 2))) 3 (some (a + 3))) 4 (some (a + 4))) 5 (some (a + 5))) 6 (some (a + 6))) 7 (some (a + 7))), nc 100 6010, nc 100 6010, nc 100 5, nc 100 1000, nc 100 7, nc 100 5, nc 100 400, (100, 60, ev_u1 (ev_u1 (ev_u1 (ev_u1 (fun _ => 0) 0 (32 : Int32)) 1 (112 : Int32)) 2 (114 : Int32)) 3 (111 : Int32), fun _ => none)]) τ := R
  refine ex_up (fun _ k => ev_dup dX10_init_87 k) ?_
  refine ex_up (fun _ k => ev_iconst (v := (4 : Int32)) dX10_init_88 (by decide) k) ?_
  refine ex_up (fun _ k => ev_bipush (v := (112 : Int32)) dX10_init_89 (by decide) k) ?_
  refine en_iast R 8 rfl dX10_init_91 (by decide) (fun τ R => ?_)
  have R : rg σ a 13497 ([(9, 0, fun _ => 0, ev_u1 (ev_u1 (ev_u1 (ev_u1 (ev_u1 (ev_u1 (ev_u1 (fun _ => none) 1 (some (a + 1))) 2 (some (a + 2))) 3 (some (a + 3))) 4 (some (a + 4))) 5 (some (a + 5))) 6 (some (a + 6))) 7 (some (a + 7))), nc 100 6010, nc 100 6010, nc 100 5, nc 100 1000, nc 100 7, nc 100 5, nc 100 400, (100, 60, ev_u1 (ev_u1 (ev_u1 (ev_u1 (ev_u1 (fun _ => 0) 0 (32 : Int32)) 1 (112 : Int32)) 2 (114 : Int32)) 3 (111 : Int32)) 4 (112 : Int32), fun _ => none)]) τ := R
  refine ex_up (fun _ k => ev_dup dX10_init_92 k) ?_
  refine ex_up (fun _ k => ev_iconst (v := (5 : Int32)) dX10_init_93 (by decide) k) ?_
  refine ex_up (fun _ k => ev_bipush (v := (111 : Int32)) dX10_init_94 (by decide) k) ?_
  refine en_iast R 8 rfl dX10_init_96 (by decide) (fun τ R => ?_)
  have R : rg σ a 13497 ([(9, 0, fun _ => 0, ev_u1 (ev_u1 (ev_u1 (ev_u1 (ev_u1 (ev_u1 (ev_u1 (fun _ => none) 1 (some (a + 1))) 2 (some (a + 2))) 3 (some (a + 3))) 4 (some (a + 4))) 5 (some (a + 5))) 6 (some (a + 6))) 7 (some (a + 7))), nc 100 6010, nc 100 6010, nc 100 5, nc 100 1000, nc 100 7, nc 100 5, nc 100 400, (100, 60, ev_u1 (ev_u1 (ev_u1 (ev_u1 (ev_u1 (ev_u1 (fun _ => 0) 0 (32 : Int32)) 1 (112 : Int32)) 2 (114 : Int32)) 3 (111 : Int32)) 4 (112 : Int32)) 5 (111 : Int32), fun _ => none)]) τ := R
  refine ex_up (fun _ k => ev_dup dX10_init_97 k) ?_
  refine ex_up (fun _ k => ev_bipush (v := (6 : Int32)) dX10_init_98 (by decide) k) ?_
  refine ex_up (fun _ k => ev_bipush (v := (115 : Int32)) dX10_init_100 (by decide) k) ?_
  refine en_iast R 8 rfl dX10_init_102 (by decide) (fun τ R => ?_)
  have R : rg σ a 13497 ([(9, 0, fun _ => 0, ev_u1 (ev_u1 (ev_u1 (ev_u1 (ev_u1 (ev_u1 (ev_u1 (fun _ => none) 1 (some (a + 1))) 2 (some (a + 2))) 3 (some (a + 3))) 4 (some (a + 4))) 5 (some (a + 5))) 6 (some (a + 6))) 7 (some (a + 7))), nc 100 6010, nc 100 6010, nc 100 5, nc 100 1000, nc 100 7, nc 100 5, nc 100 400, (100, 60, ev_u1 (ev_u1 (ev_u1 (ev_u1 (ev_u1 (ev_u1 (ev_u1 (fun _ => 0) 0 (32 : Int32)) 1 (112 : Int32)) 2 (114 : Int32)) 3 (111 : Int32)) 4 (112 : Int32)) 5 (111 : Int32)) 6 (115 : Int32), fun _ => none)]) τ := R
  refine ex_up (fun _ k => ev_dup dX10_init_103 k) ?_
  refine ex_up (fun _ k => ev_bipush (v := (7 : Int32)) dX10_init_104 (by decide) k) ?_
  refine ex_up (fun _ k => ev_bipush (v := (101 : Int32)) dX10_init_106 (by decide) k) ?_
  refine en_iast R 8 rfl dX10_init_108 (by decide) (fun τ R => ?_)
  have R : rg σ a 13497 ([(9, 0, fun _ => 0, ev_u1 (ev_u1 (ev_u1 (ev_u1 (ev_u1 (ev_u1 (ev_u1 (fun _ => none) 1 (some (a + 1))) 2 (some (a + 2))) 3 (some (a + 3))) 4 (some (a + 4))) 5 (some (a + 5))) 6 (some (a + 6))) 7 (some (a + 7))), nc 100 6010, nc 100 6010, nc 100 5, nc 100 1000, nc 100 7, nc 100 5, nc 100 400, (100, 60, ev_u1 (ev_u1 (ev_u1 (ev_u1 (ev_u1 (ev_u1 (ev_u1 (ev_u1 (fun _ => 0) 0 (32 : Int32)) 1 (112 : Int32)) 2 (114 : Int32)) 3 (111 : Int32)) 4 (112 : Int32)) 5 (111 : Int32)) 6 (115 : Int32)) 7 (101 : Int32), fun _ => none)]) τ := R
  refine ex_up (fun _ k => ev_dup dX10_init_109 k) ?_
  refine ex_up (fun _ k => ev_bipush (v := (8 : Int32)) dX10_init_110 (by decide) k) ?_
  refine ex_up (fun _ k => ev_bipush (v := (32 : Int32)) dX10_init_112 (by decide) k) ?_
  refine en_iast R 8 rfl dX10_init_114 (by decide) (fun τ R => ?_)
  have R : rg σ a 13497 ([(9, 0, fun _ => 0, ev_u1 (ev_u1 (ev_u1 (ev_u1 (ev_u1 (ev_u1 (ev_u1 (fun _ => none) 1 (some (a + 1))) 2 (some (a + 2))) 3 (some (a + 3))) 4 (some (a + 4))) 5 (some (a + 5))) 6 (some (a + 6))) 7 (some (a + 7))), nc 100 6010, nc 100 6010, nc 100 5, nc 100 1000, nc 100 7, nc 100 5, nc 100 400, (100, 60, ev_u1 (ev_u1 (ev_u1 (ev_u1 (ev_u1 (ev_u1 (ev_u1 (ev_u1 (ev_u1 (fun _ => 0) 0 (32 : Int32)) 1 (112 : Int32)) 2 (114 : Int32)) 3 (111 : Int32)) 4 (112 : Int32)) 5 (111 : Int32)) 6 (115 : Int32)) 7 (101 : Int32)) 8 (32 : Int32), fun _ => none)]) τ := R
  refine ex_up (fun _ k => ev_dup dX10_init_115 k) ?_
  refine ex_up (fun _ k => ev_bipush (v := (9 : Int32)) dX10_init_116 (by decide) k) ?_
  refine ex_up (fun _ k => ev_bipush (v := (100 : Int32)) dX10_init_118 (by decide) k) ?_
  refine en_iast R 8 rfl dX10_init_120 (by decide) (fun τ R => ?_)
  have R : rg σ a 13497 ([(9, 0, fun _ => 0, ev_u1 (ev_u1 (ev_u1 (ev_u1 (ev_u1 (ev_u1 (ev_u1 (fun _ => none) 1 (some (a + 1))) 2 (some (a + 2))) 3 (some (a + 3))) 4 (some (a + 4))) 5 (some (a + 5))) 6 (some (a + 6))) 7 (some (a + 7))), nc 100 6010, nc 100 6010, nc 100 5, nc 100 1000, nc 100 7, nc 100 5, nc 100 400, (100, 60, ev_u1 (ev_u1 (ev_u1 (ev_u1 (ev_u1 (ev_u1 (ev_u1 (ev_u1 (ev_u1 (ev_u1 (fun _ => 0) 0 (32 : Int32)) 1 (112 : Int32)) 2 (114 : Int32)) 3 (111 : Int32)) 4 (112 : Int32)) 5 (111 : Int32)) 6 (115 : Int32)) 7 (101 : Int32)) 8 (32 : Int32)) 9 (100 : Int32), fun _ => none)]) τ := R
  refine ex_up (fun _ k => ev_dup dX10_init_121 k) ?_
  refine ex_up (fun _ k => ev_bipush (v := (10 : Int32)) dX10_init_122 (by decide) k) ?_
  refine ex_up (fun _ k => ev_bipush (v := (101 : Int32)) dX10_init_124 (by decide) k) ?_
  refine en_iast R 8 rfl dX10_init_126 (by decide) (fun τ R => ?_)
  have R : rg σ a 13497 ([(9, 0, fun _ => 0, ev_u1 (ev_u1 (ev_u1 (ev_u1 (ev_u1 (ev_u1 (ev_u1 (fun _ => none) 1 (some (a + 1))) 2 (some (a + 2))) 3 (some (a + 3))) 4 (some (a + 4))) 5 (some (a + 5))) 6 (some (a + 6))) 7 (some (a + 7))), nc 100 6010, nc 100 6010, nc 100 5, nc 100 1000, nc 100 7, nc 100 5, nc 100 400, (100, 60, ev_u1 (ev_u1 (ev_u1 (ev_u1 (ev_u1 (ev_u1 (ev_u1 (ev_u1 (ev_u1 (ev_u1 (ev_u1 (fun _ => 0) 0 (32 : Int32)) 1 (112 : Int32)) 2 (114 : Int32)) 3 (111 : Int32)) 4 (112 : Int32)) 5 (111 : Int32)) 6 (115 : Int32)) 7 (101 : Int32)) 8 (32 : Int32)) 9 (100 : Int32)) 10 (101 : Int32), fun _ => none)]) τ := R
  refine ex_up (fun _ k => ev_dup dX10_init_127 k) ?_
  refine ex_up (fun _ k => ev_bipush (v := (11 : Int32)) dX10_init_128 (by decide) k) ?_
  refine ex_up (fun _ k => ev_bipush (v := (108 : Int32)) dX10_init_130 (by decide) k) ?_
  refine en_iast R 8 rfl dX10_init_132 (by decide) (fun τ R => ?_)
  have R : rg σ a 13497 ([(9, 0, fun _ => 0, ev_u1 (ev_u1 (ev_u1 (ev_u1 (ev_u1 (ev_u1 (ev_u1 (fun _ => none) 1 (some (a + 1))) 2 (some (a + 2))) 3 (some (a + 3))) 4 (some (a + 4))) 5 (some (a + 5))) 6 (some (a + 6))) 7 (some (a + 7))), nc 100 6010, nc 100 6010, nc 100 5, nc 100 1000, nc 100 7, nc 100 5, nc 100 400, (100, 60, ev_u1 (ev_u1 (ev_u1 (ev_u1 (ev_u1 (ev_u1 (ev_u1 (ev_u1 (ev_u1 (ev_u1 (ev_u1 (ev_u1 (fun _ => 0) 0 (32 : Int32)) 1 (112 : Int32)) 2 (114 : Int32)) 3 (111 : Int32)) 4 (112 : Int32)) 5 (111 : Int32)) 6 (115 : Int32)) 7 (101 : Int32)) 8 (32 : Int32)) 9 (100 : Int32)) 10 (101 : Int32)) 11 (108 : Int32), fun _ => none)]) τ := R
  refine ex_up (fun _ k => ev_dup dX10_init_133 k) ?_
  refine ex_up (fun _ k => ev_bipush (v := (12 : Int32)) dX10_init_134 (by decide) k) ?_
  refine ex_up (fun _ k => ev_bipush (v := (105 : Int32)) dX10_init_136 (by decide) k) ?_
  refine en_iast R 8 rfl dX10_init_138 (by decide) (fun τ R => ?_)
  have R : rg σ a 13497 ([(9, 0, fun _ => 0, ev_u1 (ev_u1 (ev_u1 (ev_u1 (ev_u1 (ev_u1 (ev_u1 (fun _ => none) 1 (some (a + 1))) 2 (some (a + 2))) 3 (some (a + 3))) 4 (some (a + 4))) 5 (some (a + 5))) 6 (some (a + 6))) 7 (some (a + 7))), nc 100 6010, nc 100 6010, nc 100 5, nc 100 1000, nc 100 7, nc 100 5, nc 100 400, (100, 60, ev_u1 (ev_u1 (ev_u1 (ev_u1 (ev_u1 (ev_u1 (ev_u1 (ev_u1 (ev_u1 (ev_u1 (ev_u1 (ev_u1 (ev_u1 (fun _ => 0) 0 (32 : Int32)) 1 (112 : Int32)) 2 (114 : Int32)) 3 (111 : Int32)) 4 (112 : Int32)) 5 (111 : Int32)) 6 (115 : Int32)) 7 (101 : Int32)) 8 (32 : Int32)) 9 (100 : Int32)) 10 (101 : Int32)) 11 (108 : Int32)) 12 (105 : Int32), fun _ => none)]) τ := R
  refine ex_up (fun _ k => ev_dup dX10_init_139 k) ?_
  refine ex_up (fun _ k => ev_bipush (v := (13 : Int32)) dX10_init_140 (by decide) k) ?_
  refine ex_up (fun _ k => ev_bipush (v := (118 : Int32)) dX10_init_142 (by decide) k) ?_
  refine en_iast R 8 rfl dX10_init_144 (by decide) (fun τ R => ?_)
  have R : rg σ a 13497 ([(9, 0, fun _ => 0, ev_u1 (ev_u1 (ev_u1 (ev_u1 (ev_u1 (ev_u1 (ev_u1 (fun _ => none) 1 (some (a + 1))) 2 (some (a + 2))) 3 (some (a + 3))) 4 (some (a + 4))) 5 (some (a + 5))) 6 (some (a + 6))) 7 (some (a + 7))), nc 100 6010, nc 100 6010, nc 100 5, nc 100 1000, nc 100 7, nc 100 5, nc 100 400, (100, 60, ev_u1 (ev_u1 (ev_u1 (ev_u1 (ev_u1 (ev_u1 (ev_u1 (ev_u1 (ev_u1 (ev_u1 (ev_u1 (ev_u1 (ev_u1 (ev_u1 (fun _ => 0) 0 (32 : Int32)) 1 (112 : Int32)) 2 (114 : Int32)) 3 (111 : Int32)) 4 (112 : Int32)) 5 (111 : Int32)) 6 (115 : Int32)) 7 (101 : Int32)) 8 (32 : Int32)) 9 (100 : Int32)) 10 (101 : Int32)) 11 (108 : Int32)) 12 (105 : Int32)) 13 (118 : Int32), fun _ => none)]) τ := R
  refine ex_up (fun _ k => ev_dup dX10_init_145 k) ?_
  refine ex_up (fun _ k => ev_bipush (v := (14 : Int32)) dX10_init_146 (by decide) k) ?_
  refine ex_up (fun _ k => ev_bipush (v := (101 : Int32)) dX10_init_148 (by decide) k) ?_
  refine en_iast R 8 rfl dX10_init_150 (by decide) (fun τ R => ?_)
  have R : rg σ a 13497 ([(9, 0, fun _ => 0, ev_u1 (ev_u1 (ev_u1 (ev_u1 (ev_u1 (ev_u1 (ev_u1 (fun _ => none) 1 (some (a + 1))) 2 (some (a + 2))) 3 (some (a + 3))) 4 (some (a + 4))) 5 (some (a + 5))) 6 (some (a + 6))) 7 (some (a + 7))), nc 100 6010, nc 100 6010, nc 100 5, nc 100 1000, nc 100 7, nc 100 5, nc 100 400, (100, 60, ev_u1 (ev_u1 (ev_u1 (ev_u1 (ev_u1 (ev_u1 (ev_u1 (ev_u1 (ev_u1 (ev_u1 (ev_u1 (ev_u1 (ev_u1 (ev_u1 (ev_u1 (fun _ => 0) 0 (32 : Int32)) 1 (112 : Int32)) 2 (114 : Int32)) 3 (111 : Int32)) 4 (112 : Int32)) 5 (111 : Int32)) 6 (115 : Int32)) 7 (101 : Int32)) 8 (32 : Int32)) 9 (100 : Int32)) 10 (101 : Int32)) 11 (108 : Int32)) 12 (105 : Int32)) 13 (118 : Int32)) 14 (101 : Int32), fun _ => none)]) τ := R
  refine ex_up (fun _ k => ev_dup dX10_init_151 k) ?_
  refine ex_up (fun _ k => ev_bipush (v := (15 : Int32)) dX10_init_152 (by decide) k) ?_
  refine ex_up (fun _ k => ev_bipush (v := (114 : Int32)) dX10_init_154 (by decide) k) ?_
  refine en_iast R 8 rfl dX10_init_156 (by decide) (fun τ R => ?_)
  have R : rg σ a 13497 ([(9, 0, fun _ => 0, ev_u1 (ev_u1 (ev_u1 (ev_u1 (ev_u1 (ev_u1 (ev_u1 (fun _ => none) 1 (some (a + 1))) 2 (some (a + 2))) 3 (some (a + 3))) 4 (some (a + 4))) 5 (some (a + 5))) 6 (some (a + 6))) 7 (some (a + 7))), nc 100 6010, nc 100 6010, nc 100 5, nc 100 1000, nc 100 7, nc 100 5, nc 100 400, (100, 60, ev_u1 (ev_u1 (ev_u1 (ev_u1 (ev_u1 (ev_u1 (ev_u1 (ev_u1 (ev_u1 (ev_u1 (ev_u1 (ev_u1 (ev_u1 (ev_u1 (ev_u1 (ev_u1 (fun _ => 0) 0 (32 : Int32)) 1 (112 : Int32)) 2 (114 : Int32)) 3 (111 : Int32)) 4 (112 : Int32)) 5 (111 : Int32)) 6 (115 : Int32)) 7 (101 : Int32)) 8 (32 : Int32)) 9 (100 : Int32)) 10 (101 : Int32)) 11 (108 : Int32)) 12 (105 : Int32)) 13 (118 : Int32)) 14 (101 : Int32)) 15 (114 : Int32), fun _ => none)]) τ := R
  refine ex_up (fun _ k => ev_dup dX10_init_157 k) ?_
  refine ex_up (fun _ k => ev_bipush (v := (16 : Int32)) dX10_init_158 (by decide) k) ?_
  refine ex_up (fun _ k => ev_bipush (v := (32 : Int32)) dX10_init_160 (by decide) k) ?_
  refine en_iast R 8 rfl dX10_init_162 (by decide) (fun τ R => ?_)
  have R : rg σ a 13497 ([(9, 0, fun _ => 0, ev_u1 (ev_u1 (ev_u1 (ev_u1 (ev_u1 (ev_u1 (ev_u1 (fun _ => none) 1 (some (a + 1))) 2 (some (a + 2))) 3 (some (a + 3))) 4 (some (a + 4))) 5 (some (a + 5))) 6 (some (a + 6))) 7 (some (a + 7))), nc 100 6010, nc 100 6010, nc 100 5, nc 100 1000, nc 100 7, nc 100 5, nc 100 400, (100, 60, ev_u1 (ev_u1 (ev_u1 (ev_u1 (ev_u1 (ev_u1 (ev_u1 (ev_u1 (ev_u1 (ev_u1 (ev_u1 (ev_u1 (ev_u1 (ev_u1 (ev_u1 (ev_u1 (ev_u1 (fun _ => 0) 0 (32 : Int32)) 1 (112 : Int32)) 2 (114 : Int32)) 3 (111 : Int32)) 4 (112 : Int32)) 5 (111 : Int32)) 6 (115 : Int32)) 7 (101 : Int32)) 8 (32 : Int32)) 9 (100 : Int32)) 10 (101 : Int32)) 11 (108 : Int32)) 12 (105 : Int32)) 13 (118 : Int32)) 14 (101 : Int32)) 15 (114 : Int32)) 16 (32 : Int32), fun _ => none)]) τ := R
  refine ex_up (fun _ k => ev_dup dX10_init_163 k) ?_
  refine ex_up (fun _ k => ev_bipush (v := (17 : Int32)) dX10_init_164 (by decide) k) ?_
  refine ex_up (fun _ k => ev_bipush (v := (100 : Int32)) dX10_init_166 (by decide) k) ?_
  refine en_iast R 8 rfl dX10_init_168 (by decide) (fun τ R => ?_)
  have R : rg σ a 13497 ([(9, 0, fun _ => 0, ev_u1 (ev_u1 (ev_u1 (ev_u1 (ev_u1 (ev_u1 (ev_u1 (fun _ => none) 1 (some (a + 1))) 2 (some (a + 2))) 3 (some (a + 3))) 4 (some (a + 4))) 5 (some (a + 5))) 6 (some (a + 6))) 7 (some (a + 7))), nc 100 6010, nc 100 6010, nc 100 5, nc 100 1000, nc 100 7, nc 100 5, nc 100 400, (100, 60, ev_u1 (ev_u1 (ev_u1 (ev_u1 (ev_u1 (ev_u1 (ev_u1 (ev_u1 (ev_u1 (ev_u1 (ev_u1 (ev_u1 (ev_u1 (ev_u1 (ev_u1 (ev_u1 (ev_u1 (ev_u1 (fun _ => 0) 0 (32 : Int32)) 1 (112 : Int32)) 2 (114 : Int32)) 3 (111 : Int32)) 4 (112 : Int32)) 5 (111 : Int32)) 6 (115 : Int32)) 7 (101 : Int32)) 8 (32 : Int32)) 9 (100 : Int32)) 10 (101 : Int32)) 11 (108 : Int32)) 12 (105 : Int32)) 13 (118 : Int32)) 14 (101 : Int32)) 15 (114 : Int32)) 16 (32 : Int32)) 17 (100 : Int32), fun _ => none)]) τ := R
  refine ex_up (fun _ k => ev_dup dX10_init_169 k) ?_
  refine ex_up (fun _ k => ev_bipush (v := (18 : Int32)) dX10_init_170 (by decide) k) ?_
  refine ex_up (fun _ k => ev_bipush (v := (114 : Int32)) dX10_init_172 (by decide) k) ?_
  refine en_iast R 8 rfl dX10_init_174 (by decide) (fun τ R => ?_)
  have R : rg σ a 13497 ([(9, 0, fun _ => 0, ev_u1 (ev_u1 (ev_u1 (ev_u1 (ev_u1 (ev_u1 (ev_u1 (fun _ => none) 1 (some (a + 1))) 2 (some (a + 2))) 3 (some (a + 3))) 4 (some (a + 4))) 5 (some (a + 5))) 6 (some (a + 6))) 7 (some (a + 7))), nc 100 6010, nc 100 6010, nc 100 5, nc 100 1000, nc 100 7, nc 100 5, nc 100 400, (100, 60, ev_u1 (ev_u1 (ev_u1 (ev_u1 (ev_u1 (ev_u1 (ev_u1 (ev_u1 (ev_u1 (ev_u1 (ev_u1 (ev_u1 (ev_u1 (ev_u1 (ev_u1 (ev_u1 (ev_u1 (ev_u1 (ev_u1 (fun _ => 0) 0 (32 : Int32)) 1 (112 : Int32)) 2 (114 : Int32)) 3 (111 : Int32)) 4 (112 : Int32)) 5 (111 : Int32)) 6 (115 : Int32)) 7 (101 : Int32)) 8 (32 : Int32)) 9 (100 : Int32)) 10 (101 : Int32)) 11 (108 : Int32)) 12 (105 : Int32)) 13 (118 : Int32)) 14 (101 : Int32)) 15 (114 : Int32)) 16 (32 : Int32)) 17 (100 : Int32)) 18 (114 : Int32), fun _ => none)]) τ := R
  refine ex_up (fun _ k => ev_dup dX10_init_175 k) ?_
  refine ex_up (fun _ k => ev_bipush (v := (19 : Int32)) dX10_init_176 (by decide) k) ?_
  refine ex_up (fun _ k => ev_bipush (v := (111 : Int32)) dX10_init_178 (by decide) k) ?_
  refine en_iast R 8 rfl dX10_init_180 (by decide) (fun τ R => ?_)
  have R : rg σ a 13497 ([(9, 0, fun _ => 0, ev_u1 (ev_u1 (ev_u1 (ev_u1 (ev_u1 (ev_u1 (ev_u1 (fun _ => none) 1 (some (a + 1))) 2 (some (a + 2))) 3 (some (a + 3))) 4 (some (a + 4))) 5 (some (a + 5))) 6 (some (a + 6))) 7 (some (a + 7))), nc 100 6010, nc 100 6010, nc 100 5, nc 100 1000, nc 100 7, nc 100 5, nc 100 400, (100, 60, ev_u1 (ev_u1 (ev_u1 (ev_u1 (ev_u1 (ev_u1 (ev_u1 (ev_u1 (ev_u1 (ev_u1 (ev_u1 (ev_u1 (ev_u1 (ev_u1 (ev_u1 (ev_u1 (ev_u1 (ev_u1 (ev_u1 (ev_u1 (fun _ => 0) 0 (32 : Int32)) 1 (112 : Int32)) 2 (114 : Int32)) 3 (111 : Int32)) 4 (112 : Int32)) 5 (111 : Int32)) 6 (115 : Int32)) 7 (101 : Int32)) 8 (32 : Int32)) 9 (100 : Int32)) 10 (101 : Int32)) 11 (108 : Int32)) 12 (105 : Int32)) 13 (118 : Int32)) 14 (101 : Int32)) 15 (114 : Int32)) 16 (32 : Int32)) 17 (100 : Int32)) 18 (114 : Int32)) 19 (111 : Int32), fun _ => none)]) τ := R
  refine ex_up (fun _ k => ev_dup dX10_init_181 k) ?_
  refine ex_up (fun _ k => ev_bipush (v := (20 : Int32)) dX10_init_182 (by decide) k) ?_
  refine ex_up (fun _ k => ev_bipush (v := (112 : Int32)) dX10_init_184 (by decide) k) ?_
  refine en_iast R 8 rfl dX10_init_186 (by decide) (fun τ R => ?_)
  have R : rg σ a 13497 ([(9, 0, fun _ => 0, ev_u1 (ev_u1 (ev_u1 (ev_u1 (ev_u1 (ev_u1 (ev_u1 (fun _ => none) 1 (some (a + 1))) 2 (some (a + 2))) 3 (some (a + 3))) 4 (some (a + 4))) 5 (some (a + 5))) 6 (some (a + 6))) 7 (some (a + 7))), nc 100 6010, nc 100 6010, nc 100 5, nc 100 1000, nc 100 7, nc 100 5, nc 100 400, (100, 60, ev_u1 (ev_u1 (ev_u1 (ev_u1 (ev_u1 (ev_u1 (ev_u1 (ev_u1 (ev_u1 (ev_u1 (ev_u1 (ev_u1 (ev_u1 (ev_u1 (ev_u1 (ev_u1 (ev_u1 (ev_u1 (ev_u1 (ev_u1 (ev_u1 (fun _ => 0) 0 (32 : Int32)) 1 (112 : Int32)) 2 (114 : Int32)) 3 (111 : Int32)) 4 (112 : Int32)) 5 (111 : Int32)) 6 (115 : Int32)) 7 (101 : Int32)) 8 (32 : Int32)) 9 (100 : Int32)) 10 (101 : Int32)) 11 (108 : Int32)) 12 (105 : Int32)) 13 (118 : Int32)) 14 (101 : Int32)) 15 (114 : Int32)) 16 (32 : Int32)) 17 (100 : Int32)) 18 (114 : Int32)) 19 (111 : Int32)) 20 (112 : Int32), fun _ => none)]) τ := R
  refine ex_up (fun _ k => ev_dup dX10_init_187 k) ?_
  refine ex_up (fun _ k => ev_bipush (v := (21 : Int32)) dX10_init_188 (by decide) k) ?_
  refine ex_up (fun _ k => ev_bipush (v := (32 : Int32)) dX10_init_190 (by decide) k) ?_
  refine en_iast R 8 rfl dX10_init_192 (by decide) (fun τ R => ?_)
  have R : rg σ a 13497 ([(9, 0, fun _ => 0, ev_u1 (ev_u1 (ev_u1 (ev_u1 (ev_u1 (ev_u1 (ev_u1 (fun _ => none) 1 (some (a + 1))) 2 (some (a + 2))) 3 (some (a + 3))) 4 (some (a + 4))) 5 (some (a + 5))) 6 (some (a + 6))) 7 (some (a + 7))), nc 100 6010, nc 100 6010, nc 100 5, nc 100 1000, nc 100 7, nc 100 5, nc 100 400, (100, 60, ev_u1 (ev_u1 (ev_u1 (ev_u1 (ev_u1 (ev_u1 (ev_u1 (ev_u1 (ev_u1 (ev_u1 (ev_u1 (ev_u1 (ev_u1 (ev_u1 (ev_u1 (ev_u1 (ev_u1 (ev_u1 (ev_u1 (ev_u1 (ev_u1 (ev_u1 (fun _ => 0) 0 (32 : Int32)) 1 (112 : Int32)) 2 (114 : Int32)) 3 (111 : Int32)) 4 (112 : Int32)) 5 (111 : Int32)) 6 (115 : Int32)) 7 (101 : Int32)) 8 (32 : Int32)) 9 (100 : Int32)) 10 (101 : Int32)) 11 (108 : Int32)) 12 (105 : Int32)) 13 (118 : Int32)) 14 (101 : Int32)) 15 (114 : Int32)) 16 (32 : Int32)) 17 (100 : Int32)) 18 (114 : Int32)) 19 (111 : Int32)) 20 (112 : Int32)) 21 (32 : Int32), fun _ => none)]) τ := R
  refine ex_up (fun _ k => ev_dup dX10_init_193 k) ?_
  refine ex_up (fun _ k => ev_bipush (v := (22 : Int32)) dX10_init_194 (by decide) k) ?_
  refine ex_up (fun _ k => ev_bipush (v := (108 : Int32)) dX10_init_196 (by decide) k) ?_
  refine en_iast R 8 rfl dX10_init_198 (by decide) (fun τ R => ?_)
  have R : rg σ a 13497 ([(9, 0, fun _ => 0, ev_u1 (ev_u1 (ev_u1 (ev_u1 (ev_u1 (ev_u1 (ev_u1 (fun _ => none) 1 (some (a + 1))) 2 (some (a + 2))) 3 (some (a + 3))) 4 (some (a + 4))) 5 (some (a + 5))) 6 (some (a + 6))) 7 (some (a + 7))), nc 100 6010, nc 100 6010, nc 100 5, nc 100 1000, nc 100 7, nc 100 5, nc 100 400, (100, 60, ev_u1 (ev_u1 (ev_u1 (ev_u1 (ev_u1 (ev_u1 (ev_u1 (ev_u1 (ev_u1 (ev_u1 (ev_u1 (ev_u1 (ev_u1 (ev_u1 (ev_u1 (ev_u1 (ev_u1 (ev_u1 (ev_u1 (ev_u1 (ev_u1 (ev_u1 (ev_u1 (fun _ => 0) 0 (32 : Int32)) 1 (112 : Int32)) 2 (114 : Int32)) 3 (111 : Int32)) 4 (112 : Int32)) 5 (111 : Int32)) 6 (115 : Int32)) 7 (101 : Int32)) 8 (32 : Int32)) 9 (100 : Int32)) 10 (101 : Int32)) 11 (108 : Int32)) 12 (105 : Int32)) 13 (118 : Int32)) 14 (101 : Int32)) 15 (114 : Int32)) 16 (32 : Int32)) 17 (100 : Int32)) 18 (114 : Int32)) 19 (111 : Int32)) 20 (112 : Int32)) 21 (32 : Int32)) 22 (108 : Int32), fun _ => none)]) τ := R
  refine ex_up (fun _ k => ev_dup dX10_init_199 k) ?_
  refine ex_up (fun _ k => ev_bipush (v := (23 : Int32)) dX10_init_200 (by decide) k) ?_
  refine ex_up (fun _ k => ev_bipush (v := (111 : Int32)) dX10_init_202 (by decide) k) ?_
  refine en_iast R 8 rfl dX10_init_204 (by decide) (fun τ R => ?_)
  have R : rg σ a 13497 ([(9, 0, fun _ => 0, ev_u1 (ev_u1 (ev_u1 (ev_u1 (ev_u1 (ev_u1 (ev_u1 (fun _ => none) 1 (some (a + 1))) 2 (some (a + 2))) 3 (some (a + 3))) 4 (some (a + 4))) 5 (some (a + 5))) 6 (some (a + 6))) 7 (some (a + 7))), nc 100 6010, nc 100 6010, nc 100 5, nc 100 1000, nc 100 7, nc 100 5, nc 100 400, (100, 60, ev_u1 (ev_u1 (ev_u1 (ev_u1 (ev_u1 (ev_u1 (ev_u1 (ev_u1 (ev_u1 (ev_u1 (ev_u1 (ev_u1 (ev_u1 (ev_u1 (ev_u1 (ev_u1 (ev_u1 (ev_u1 (ev_u1 (ev_u1 (ev_u1 (ev_u1 (ev_u1 (ev_u1 (fun _ => 0) 0 (32 : Int32)) 1 (112 : Int32)) 2 (114 : Int32)) 3 (111 : Int32)) 4 (112 : Int32)) 5 (111 : Int32)) 6 (115 : Int32)) 7 (101 : Int32)) 8 (32 : Int32)) 9 (100 : Int32)) 10 (101 : Int32)) 11 (108 : Int32)) 12 (105 : Int32)) 13 (118 : Int32)) 14 (101 : Int32)) 15 (114 : Int32)) 16 (32 : Int32)) 17 (100 : Int32)) 18 (114 : Int32)) 19 (111 : Int32)) 20 (112 : Int32)) 21 (32 : Int32)) 22 (108 : Int32)) 23 (111 : Int32), fun _ => none)]) τ := R
  refine ex_up (fun _ k => ev_dup dX10_init_205 k) ?_
  refine ex_up (fun _ k => ev_bipush (v := (24 : Int32)) dX10_init_206 (by decide) k) ?_
  refine ex_up (fun _ k => ev_bipush (v := (115 : Int32)) dX10_init_208 (by decide) k) ?_
  refine en_iast R 8 rfl dX10_init_210 (by decide) (fun τ R => ?_)
  have R : rg σ a 13497 ([(9, 0, fun _ => 0, ev_u1 (ev_u1 (ev_u1 (ev_u1 (ev_u1 (ev_u1 (ev_u1 (fun _ => none) 1 (some (a + 1))) 2 (some (a + 2))) 3 (some (a + 3))) 4 (some (a + 4))) 5 (some (a + 5))) 6 (some (a + 6))) 7 (some (a + 7))), nc 100 6010, nc 100 6010, nc 100 5, nc 100 1000, nc 100 7, nc 100 5, nc 100 400, (100, 60, ev_u1 (ev_u1 (ev_u1 (ev_u1 (ev_u1 (ev_u1 (ev_u1 (ev_u1 (ev_u1 (ev_u1 (ev_u1 (ev_u1 (ev_u1 (ev_u1 (ev_u1 (ev_u1 (ev_u1 (ev_u1 (ev_u1 (ev_u1 (ev_u1 (ev_u1 (ev_u1 (ev_u1 (ev_u1 (fun _ => 0) 0 (32 : Int32)) 1 (112 : Int32)) 2 (114 : Int32)) 3 (111 : Int32)) 4 (112 : Int32)) 5 (111 : Int32)) 6 (115 : Int32)) 7 (101 : Int32)) 8 (32 : Int32)) 9 (100 : Int32)) 10 (101 : Int32)) 11 (108 : Int32)) 12 (105 : Int32)) 13 (118 : Int32)) 14 (101 : Int32)) 15 (114 : Int32)) 16 (32 : Int32)) 17 (100 : Int32)) 18 (114 : Int32)) 19 (111 : Int32)) 20 (112 : Int32)) 21 (32 : Int32)) 22 (108 : Int32)) 23 (111 : Int32)) 24 (115 : Int32), fun _ => none)]) τ := R
  refine ex_up (fun _ k => ev_dup dX10_init_211 k) ?_
  refine ex_up (fun _ k => ev_bipush (v := (25 : Int32)) dX10_init_212 (by decide) k) ?_
  refine ex_up (fun _ k => ev_bipush (v := (101 : Int32)) dX10_init_214 (by decide) k) ?_
  refine en_iast R 8 rfl dX10_init_216 (by decide) (fun τ R => ?_)
  have R : rg σ a 13497 ([(9, 0, fun _ => 0, ev_u1 (ev_u1 (ev_u1 (ev_u1 (ev_u1 (ev_u1 (ev_u1 (fun _ => none) 1 (some (a + 1))) 2 (some (a + 2))) 3 (some (a + 3))) 4 (some (a + 4))) 5 (some (a + 5))) 6 (some (a + 6))) 7 (some (a + 7))), nc 100 6010, nc 100 6010, nc 100 5, nc 100 1000, nc 100 7, nc 100 5, nc 100 400, (100, 60, ev_u1 (ev_u1 (ev_u1 (ev_u1 (ev_u1 (ev_u1 (ev_u1 (ev_u1 (ev_u1 (ev_u1 (ev_u1 (ev_u1 (ev_u1 (ev_u1 (ev_u1 (ev_u1 (ev_u1 (ev_u1 (ev_u1 (ev_u1 (ev_u1 (ev_u1 (ev_u1 (ev_u1 (ev_u1 (ev_u1 (fun _ => 0) 0 (32 : Int32)) 1 (112 : Int32)) 2 (114 : Int32)) 3 (111 : Int32)) 4 (112 : Int32)) 5 (111 : Int32)) 6 (115 : Int32)) 7 (101 : Int32)) 8 (32 : Int32)) 9 (100 : Int32)) 10 (101 : Int32)) 11 (108 : Int32)) 12 (105 : Int32)) 13 (118 : Int32)) 14 (101 : Int32)) 15 (114 : Int32)) 16 (32 : Int32)) 17 (100 : Int32)) 18 (114 : Int32)) 19 (111 : Int32)) 20 (112 : Int32)) 21 (32 : Int32)) 22 (108 : Int32)) 23 (111 : Int32)) 24 (115 : Int32)) 25 (101 : Int32), fun _ => none)]) τ := R
  refine ex_up (fun _ k => ev_dup dX10_init_217 k) ?_
  refine ex_up (fun _ k => ev_bipush (v := (26 : Int32)) dX10_init_218 (by decide) k) ?_
  refine ex_up (fun _ k => ev_bipush (v := (32 : Int32)) dX10_init_220 (by decide) k) ?_
  refine en_iast R 8 rfl dX10_init_222 (by decide) (fun τ R => ?_)
  have R : rg σ a 13497 ([(9, 0, fun _ => 0, ev_u1 (ev_u1 (ev_u1 (ev_u1 (ev_u1 (ev_u1 (ev_u1 (fun _ => none) 1 (some (a + 1))) 2 (some (a + 2))) 3 (some (a + 3))) 4 (some (a + 4))) 5 (some (a + 5))) 6 (some (a + 6))) 7 (some (a + 7))), nc 100 6010, nc 100 6010, nc 100 5, nc 100 1000, nc 100 7, nc 100 5, nc 100 400, (100, 60, ev_u1 (ev_u1 (ev_u1 (ev_u1 (ev_u1 (ev_u1 (ev_u1 (ev_u1 (ev_u1 (ev_u1 (ev_u1 (ev_u1 (ev_u1 (ev_u1 (ev_u1 (ev_u1 (ev_u1 (ev_u1 (ev_u1 (ev_u1 (ev_u1 (ev_u1 (ev_u1 (ev_u1 (ev_u1 (ev_u1 (ev_u1 (fun _ => 0) 0 (32 : Int32)) 1 (112 : Int32)) 2 (114 : Int32)) 3 (111 : Int32)) 4 (112 : Int32)) 5 (111 : Int32)) 6 (115 : Int32)) 7 (101 : Int32)) 8 (32 : Int32)) 9 (100 : Int32)) 10 (101 : Int32)) 11 (108 : Int32)) 12 (105 : Int32)) 13 (118 : Int32)) 14 (101 : Int32)) 15 (114 : Int32)) 16 (32 : Int32)) 17 (100 : Int32)) 18 (114 : Int32)) 19 (111 : Int32)) 20 (112 : Int32)) 21 (32 : Int32)) 22 (108 : Int32)) 23 (111 : Int32)) 24 (115 : Int32)) 25 (101 : Int32)) 26 (32 : Int32), fun _ => none)]) τ := R
  refine ex_up (fun _ k => ev_dup dX10_init_223 k) ?_
  refine ex_up (fun _ k => ev_bipush (v := (27 : Int32)) dX10_init_224 (by decide) k) ?_
  refine ex_up (fun _ k => ev_bipush (v := (116 : Int32)) dX10_init_226 (by decide) k) ?_
  refine en_iast R 8 rfl dX10_init_228 (by decide) (fun τ R => ?_)
  have R : rg σ a 13497 ([(9, 0, fun _ => 0, ev_u1 (ev_u1 (ev_u1 (ev_u1 (ev_u1 (ev_u1 (ev_u1 (fun _ => none) 1 (some (a + 1))) 2 (some (a + 2))) 3 (some (a + 3))) 4 (some (a + 4))) 5 (some (a + 5))) 6 (some (a + 6))) 7 (some (a + 7))), nc 100 6010, nc 100 6010, nc 100 5, nc 100 1000, nc 100 7, nc 100 5, nc 100 400, (100, 60, ev_u1 (ev_u1 (ev_u1 (ev_u1 (ev_u1 (ev_u1 (ev_u1 (ev_u1 (ev_u1 (ev_u1 (ev_u1 (ev_u1 (ev_u1 (ev_u1 (ev_u1 (ev_u1 (ev_u1 (ev_u1 (ev_u1 (ev_u1 (ev_u1 (ev_u1 (ev_u1 (ev_u1 (ev_u1 (ev_u1 (ev_u1 (ev_u1 (fun _ => 0) 0 (32 : Int32)) 1 (112 : Int32)) 2 (114 : Int32)) 3 (111 : Int32)) 4 (112 : Int32)) 5 (111 : Int32)) 6 (115 : Int32)) 7 (101 : Int32)) 8 (32 : Int32)) 9 (100 : Int32)) 10 (101 : Int32)) 11 (108 : Int32)) 12 (105 : Int32)) 13 (118 : Int32)) 14 (101 : Int32)) 15 (114 : Int32)) 16 (32 : Int32)) 17 (100 : Int32)) 18 (114 : Int32)) 19 (111 : Int32)) 20 (112 : Int32)) 21 (32 : Int32)) 22 (108 : Int32)) 23 (111 : Int32)) 24 (115 : Int32)) 25 (101 : Int32)) 26 (32 : Int32)) 27 (116 : Int32), fun _ => none)]) τ := R
  refine ex_up (fun _ k => ev_dup dX10_init_229 k) ?_
  refine ex_up (fun _ k => ev_bipush (v := (28 : Int32)) dX10_init_230 (by decide) k) ?_
  refine ex_up (fun _ k => ev_bipush (v := (117 : Int32)) dX10_init_232 (by decide) k) ?_
  refine en_iast R 8 rfl dX10_init_234 (by decide) (fun τ R => ?_)
  have R : rg σ a 13497 ([(9, 0, fun _ => 0, ev_u1 (ev_u1 (ev_u1 (ev_u1 (ev_u1 (ev_u1 (ev_u1 (fun _ => none) 1 (some (a + 1))) 2 (some (a + 2))) 3 (some (a + 3))) 4 (some (a + 4))) 5 (some (a + 5))) 6 (some (a + 6))) 7 (some (a + 7))), nc 100 6010, nc 100 6010, nc 100 5, nc 100 1000, nc 100 7, nc 100 5, nc 100 400, (100, 60, ev_u1 (ev_u1 (ev_u1 (ev_u1 (ev_u1 (ev_u1 (ev_u1 (ev_u1 (ev_u1 (ev_u1 (ev_u1 (ev_u1 (ev_u1 (ev_u1 (ev_u1 (ev_u1 (ev_u1 (ev_u1 (ev_u1 (ev_u1 (ev_u1 (ev_u1 (ev_u1 (ev_u1 (ev_u1 (ev_u1 (ev_u1 (ev_u1 (ev_u1 (fun _ => 0) 0 (32 : Int32)) 1 (112 : Int32)) 2 (114 : Int32)) 3 (111 : Int32)) 4 (112 : Int32)) 5 (111 : Int32)) 6 (115 : Int32)) 7 (101 : Int32)) 8 (32 : Int32)) 9 (100 : Int32)) 10 (101 : Int32)) 11 (108 : Int32)) 12 (105 : Int32)) 13 (118 : Int32)) 14 (101 : Int32)) 15 (114 : Int32)) 16 (32 : Int32)) 17 (100 : Int32)) 18 (114 : Int32)) 19 (111 : Int32)) 20 (112 : Int32)) 21 (32 : Int32)) 22 (108 : Int32)) 23 (111 : Int32)) 24 (115 : Int32)) 25 (101 : Int32)) 26 (32 : Int32)) 27 (116 : Int32)) 28 (117 : Int32), fun _ => none)]) τ := R
  refine ex_up (fun _ k => ev_dup dX10_init_235 k) ?_
  refine ex_up (fun _ k => ev_bipush (v := (29 : Int32)) dX10_init_236 (by decide) k) ?_
  refine ex_up (fun _ k => ev_bipush (v := (114 : Int32)) dX10_init_238 (by decide) k) ?_
  refine en_iast R 8 rfl dX10_init_240 (by decide) (fun τ R => ?_)
  have R : rg σ a 13497 ([(9, 0, fun _ => 0, ev_u1 (ev_u1 (ev_u1 (ev_u1 (ev_u1 (ev_u1 (ev_u1 (fun _ => none) 1 (some (a + 1))) 2 (some (a + 2))) 3 (some (a + 3))) 4 (some (a + 4))) 5 (some (a + 5))) 6 (some (a + 6))) 7 (some (a + 7))), nc 100 6010, nc 100 6010, nc 100 5, nc 100 1000, nc 100 7, nc 100 5, nc 100 400, (100, 60, ev_u1 (ev_u1 (ev_u1 (ev_u1 (ev_u1 (ev_u1 (ev_u1 (ev_u1 (ev_u1 (ev_u1 (ev_u1 (ev_u1 (ev_u1 (ev_u1 (ev_u1 (ev_u1 (ev_u1 (ev_u1 (ev_u1 (ev_u1 (ev_u1 (ev_u1 (ev_u1 (ev_u1 (ev_u1 (ev_u1 (ev_u1 (ev_u1 (ev_u1 (ev_u1 (fun _ => 0) 0 (32 : Int32)) 1 (112 : Int32)) 2 (114 : Int32)) 3 (111 : Int32)) 4 (112 : Int32)) 5 (111 : Int32)) 6 (115 : Int32)) 7 (101 : Int32)) 8 (32 : Int32)) 9 (100 : Int32)) 10 (101 : Int32)) 11 (108 : Int32)) 12 (105 : Int32)) 13 (118 : Int32)) 14 (101 : Int32)) 15 (114 : Int32)) 16 (32 : Int32)) 17 (100 : Int32)) 18 (114 : Int32)) 19 (111 : Int32)) 20 (112 : Int32)) 21 (32 : Int32)) 22 (108 : Int32)) 23 (111 : Int32)) 24 (115 : Int32)) 25 (101 : Int32)) 26 (32 : Int32)) 27 (116 : Int32)) 28 (117 : Int32)) 29 (114 : Int32), fun _ => none)]) τ := R
  refine ex_up (fun _ k => ev_dup dX10_init_241 k) ?_
  refine ex_up (fun _ k => ev_bipush (v := (30 : Int32)) dX10_init_242 (by decide) k) ?_
  refine ex_up (fun _ k => ev_bipush (v := (110 : Int32)) dX10_init_244 (by decide) k) ?_
  refine en_iast R 8 rfl dX10_init_246 (by decide) (fun τ R => ?_)
  have R : rg σ a 13497 ([(9, 0, fun _ => 0, ev_u1 (ev_u1 (ev_u1 (ev_u1 (ev_u1 (ev_u1 (ev_u1 (fun _ => none) 1 (some (a + 1))) 2 (some (a + 2))) 3 (some (a + 3))) 4 (some (a + 4))) 5 (some (a + 5))) 6 (some (a + 6))) 7 (some (a + 7))), nc 100 6010, nc 100 6010, nc 100 5, nc 100 1000, nc 100 7, nc 100 5, nc 100 400, (100, 60, ev_u1 (ev_u1 (ev_u1 (ev_u1 (ev_u1 (ev_u1 (ev_u1 (ev_u1 (ev_u1 (ev_u1 (ev_u1 (ev_u1 (ev_u1 (ev_u1 (ev_u1 (ev_u1 (ev_u1 (ev_u1 (ev_u1 (ev_u1 (ev_u1 (ev_u1 (ev_u1 (ev_u1 (ev_u1 (ev_u1 (ev_u1 (ev_u1 (ev_u1 (ev_u1 (ev_u1 (fun _ => 0) 0 (32 : Int32)) 1 (112 : Int32)) 2 (114 : Int32)) 3 (111 : Int32)) 4 (112 : Int32)) 5 (111 : Int32)) 6 (115 : Int32)) 7 (101 : Int32)) 8 (32 : Int32)) 9 (100 : Int32)) 10 (101 : Int32)) 11 (108 : Int32)) 12 (105 : Int32)) 13 (118 : Int32)) 14 (101 : Int32)) 15 (114 : Int32)) 16 (32 : Int32)) 17 (100 : Int32)) 18 (114 : Int32)) 19 (111 : Int32)) 20 (112 : Int32)) 21 (32 : Int32)) 22 (108 : Int32)) 23 (111 : Int32)) 24 (115 : Int32)) 25 (101 : Int32)) 26 (32 : Int32)) 27 (116 : Int32)) 28 (117 : Int32)) 29 (114 : Int32)) 30 (110 : Int32), fun _ => none)]) τ := R
  refine ex_up (fun _ k => ev_dup dX10_init_247 k) ?_
  refine ex_up (fun _ k => ev_bipush (v := (31 : Int32)) dX10_init_248 (by decide) k) ?_
  refine ex_up (fun _ k => ev_bipush (v := (32 : Int32)) dX10_init_250 (by decide) k) ?_
  refine en_iast R 8 rfl dX10_init_252 (by decide) (fun τ R => ?_)
  have R : rg σ a 13497 ([(9, 0, fun _ => 0, ev_u1 (ev_u1 (ev_u1 (ev_u1 (ev_u1 (ev_u1 (ev_u1 (fun _ => none) 1 (some (a + 1))) 2 (some (a + 2))) 3 (some (a + 3))) 4 (some (a + 4))) 5 (some (a + 5))) 6 (some (a + 6))) 7 (some (a + 7))), nc 100 6010, nc 100 6010, nc 100 5, nc 100 1000, nc 100 7, nc 100 5, nc 100 400, (100, 60, ev_u1 (ev_u1 (ev_u1 (ev_u1 (ev_u1 (ev_u1 (ev_u1 (ev_u1 (ev_u1 (ev_u1 (ev_u1 (ev_u1 (ev_u1 (ev_u1 (ev_u1 (ev_u1 (ev_u1 (ev_u1 (ev_u1 (ev_u1 (ev_u1 (ev_u1 (ev_u1 (ev_u1 (ev_u1 (ev_u1 (ev_u1 (ev_u1 (ev_u1 (ev_u1 (ev_u1 (ev_u1 (fun _ => 0) 0 (32 : Int32)) 1 (112 : Int32)) 2 (114 : Int32)) 3 (111 : Int32)) 4 (112 : Int32)) 5 (111 : Int32)) 6 (115 : Int32)) 7 (101 : Int32)) 8 (32 : Int32)) 9 (100 : Int32)) 10 (101 : Int32)) 11 (108 : Int32)) 12 (105 : Int32)) 13 (118 : Int32)) 14 (101 : Int32)) 15 (114 : Int32)) 16 (32 : Int32)) 17 (100 : Int32)) 18 (114 : Int32)) 19 (111 : Int32)) 20 (112 : Int32)) 21 (32 : Int32)) 22 (108 : Int32)) 23 (111 : Int32)) 24 (115 : Int32)) 25 (101 : Int32)) 26 (32 : Int32)) 27 (116 : Int32)) 28 (117 : Int32)) 29 (114 : Int32)) 30 (110 : Int32)) 31 (32 : Int32), fun _ => none)]) τ := R
  refine ex_up (fun _ k => ev_dup dX10_init_253 k) ?_
  refine ex_up (fun _ k => ev_bipush (v := (32 : Int32)) dX10_init_254 (by decide) k) ?_
  refine ex_up (fun _ k => ev_bipush (v := (116 : Int32)) dX10_init_256 (by decide) k) ?_
  refine en_iast R 8 rfl dX10_init_258 (by decide) (fun τ R => ?_)
  have R : rg σ a 13497 ([(9, 0, fun _ => 0, ev_u1 (ev_u1 (ev_u1 (ev_u1 (ev_u1 (ev_u1 (ev_u1 (fun _ => none) 1 (some (a + 1))) 2 (some (a + 2))) 3 (some (a + 3))) 4 (some (a + 4))) 5 (some (a + 5))) 6 (some (a + 6))) 7 (some (a + 7))), nc 100 6010, nc 100 6010, nc 100 5, nc 100 1000, nc 100 7, nc 100 5, nc 100 400, (100, 60, ev_u1 (ev_u1 (ev_u1 (ev_u1 (ev_u1 (ev_u1 (ev_u1 (ev_u1 (ev_u1 (ev_u1 (ev_u1 (ev_u1 (ev_u1 (ev_u1 (ev_u1 (ev_u1 (ev_u1 (ev_u1 (ev_u1 (ev_u1 (ev_u1 (ev_u1 (ev_u1 (ev_u1 (ev_u1 (ev_u1 (ev_u1 (ev_u1 (ev_u1 (ev_u1 (ev_u1 (ev_u1 (ev_u1 (fun _ => 0) 0 (32 : Int32)) 1 (112 : Int32)) 2 (114 : Int32)) 3 (111 : Int32)) 4 (112 : Int32)) 5 (111 : Int32)) 6 (115 : Int32)) 7 (101 : Int32)) 8 (32 : Int32)) 9 (100 : Int32)) 10 (101 : Int32)) 11 (108 : Int32)) 12 (105 : Int32)) 13 (118 : Int32)) 14 (101 : Int32)) 15 (114 : Int32)) 16 (32 : Int32)) 17 (100 : Int32)) 18 (114 : Int32)) 19 (111 : Int32)) 20 (112 : Int32)) 21 (32 : Int32)) 22 (108 : Int32)) 23 (111 : Int32)) 24 (115 : Int32)) 25 (101 : Int32)) 26 (32 : Int32)) 27 (116 : Int32)) 28 (117 : Int32)) 29 (114 : Int32)) 30 (110 : Int32)) 31 (32 : Int32)) 32 (116 : Int32), fun _ => none)]) τ := R
  refine ex_up (fun _ k => ev_dup dX10_init_259 k) ?_
  refine ex_up (fun _ k => ev_bipush (v := (33 : Int32)) dX10_init_260 (by decide) k) ?_
  refine ex_up (fun _ k => ev_bipush (v := (105 : Int32)) dX10_init_262 (by decide) k) ?_
  refine en_iast R 8 rfl dX10_init_264 (by decide) (fun τ R => ?_)
  have R : rg σ a 13497 ([(9, 0, fun _ => 0, ev_u1 (ev_u1 (ev_u1 (ev_u1 (ev_u1 (ev_u1 (ev_u1 (fun _ => none) 1 (some (a + 1))) 2 (some (a + 2))) 3 (some (a + 3))) 4 (some (a + 4))) 5 (some (a + 5))) 6 (some (a + 6))) 7 (some (a + 7))), nc 100 6010, nc 100 6010, nc 100 5, nc 100 1000, nc 100 7, nc 100 5, nc 100 400, (100, 60, ev_u1 (ev_u1 (ev_u1 (ev_u1 (ev_u1 (ev_u1 (ev_u1 (ev_u1 (ev_u1 (ev_u1 (ev_u1 (ev_u1 (ev_u1 (ev_u1 (ev_u1 (ev_u1 (ev_u1 (ev_u1 (ev_u1 (ev_u1 (ev_u1 (ev_u1 (ev_u1 (ev_u1 (ev_u1 (ev_u1 (ev_u1 (ev_u1 (ev_u1 (ev_u1 (ev_u1 (ev_u1 (ev_u1 (ev_u1 (fun _ => 0) 0 (32 : Int32)) 1 (112 : Int32)) 2 (114 : Int32)) 3 (111 : Int32)) 4 (112 : Int32)) 5 (111 : Int32)) 6 (115 : Int32)) 7 (101 : Int32)) 8 (32 : Int32)) 9 (100 : Int32)) 10 (101 : Int32)) 11 (108 : Int32)) 12 (105 : Int32)) 13 (118 : Int32)) 14 (101 : Int32)) 15 (114 : Int32)) 16 (32 : Int32)) 17 (100 : Int32)) 18 (114 : Int32)) 19 (111 : Int32)) 20 (112 : Int32)) 21 (32 : Int32)) 22 (108 : Int32)) 23 (111 : Int32)) 24 (115 : Int32)) 25 (101 : Int32)) 26 (32 : Int32)) 27 (116 : Int32)) 28 (117 : Int32)) 29 (114 : Int32)) 30 (110 : Int32)) 31 (32 : Int32)) 32 (116 : Int32)) 33 (105 : Int32), fun _ => none)]) τ := R
  refine ex_up (fun _ k => ev_dup dX10_init_265 k) ?_
  refine ex_up (fun _ k => ev_bipush (v := (34 : Int32)) dX10_init_266 (by decide) k) ?_
  refine ex_up (fun _ k => ev_bipush (v := (109 : Int32)) dX10_init_268 (by decide) k) ?_
  refine en_iast R 8 rfl dX10_init_270 (by decide) (fun τ R => ?_)
  have R : rg σ a 13497 ([(9, 0, fun _ => 0, ev_u1 (ev_u1 (ev_u1 (ev_u1 (ev_u1 (ev_u1 (ev_u1 (fun _ => none) 1 (some (a + 1))) 2 (some (a + 2))) 3 (some (a + 3))) 4 (some (a + 4))) 5 (some (a + 5))) 6 (some (a + 6))) 7 (some (a + 7))), nc 100 6010, nc 100 6010, nc 100 5, nc 100 1000, nc 100 7, nc 100 5, nc 100 400, (100, 60, ev_u1 (ev_u1 (ev_u1 (ev_u1 (ev_u1 (ev_u1 (ev_u1 (ev_u1 (ev_u1 (ev_u1 (ev_u1 (ev_u1 (ev_u1 (ev_u1 (ev_u1 (ev_u1 (ev_u1 (ev_u1 (ev_u1 (ev_u1 (ev_u1 (ev_u1 (ev_u1 (ev_u1 (ev_u1 (ev_u1 (ev_u1 (ev_u1 (ev_u1 (ev_u1 (ev_u1 (ev_u1 (ev_u1 (ev_u1 (ev_u1 (fun _ => 0) 0 (32 : Int32)) 1 (112 : Int32)) 2 (114 : Int32)) 3 (111 : Int32)) 4 (112 : Int32)) 5 (111 : Int32)) 6 (115 : Int32)) 7 (101 : Int32)) 8 (32 : Int32)) 9 (100 : Int32)) 10 (101 : Int32)) 11 (108 : Int32)) 12 (105 : Int32)) 13 (118 : Int32)) 14 (101 : Int32)) 15 (114 : Int32)) 16 (32 : Int32)) 17 (100 : Int32)) 18 (114 : Int32)) 19 (111 : Int32)) 20 (112 : Int32)) 21 (32 : Int32)) 22 (108 : Int32)) 23 (111 : Int32)) 24 (115 : Int32)) 25 (101 : Int32)) 26 (32 : Int32)) 27 (116 : Int32)) 28 (117 : Int32)) 29 (114 : Int32)) 30 (110 : Int32)) 31 (32 : Int32)) 32 (116 : Int32)) 33 (105 : Int32)) 34 (109 : Int32), fun _ => none)]) τ := R
  refine ex_up (fun _ k => ev_dup dX10_init_271 k) ?_
  refine ex_up (fun _ k => ev_bipush (v := (35 : Int32)) dX10_init_272 (by decide) k) ?_
  refine ex_up (fun _ k => ev_bipush (v := (101 : Int32)) dX10_init_274 (by decide) k) ?_
  refine en_iast R 8 rfl dX10_init_276 (by decide) (fun τ R => ?_)
  have R : rg σ a 13497 ([(9, 0, fun _ => 0, ev_u1 (ev_u1 (ev_u1 (ev_u1 (ev_u1 (ev_u1 (ev_u1 (fun _ => none) 1 (some (a + 1))) 2 (some (a + 2))) 3 (some (a + 3))) 4 (some (a + 4))) 5 (some (a + 5))) 6 (some (a + 6))) 7 (some (a + 7))), nc 100 6010, nc 100 6010, nc 100 5, nc 100 1000, nc 100 7, nc 100 5, nc 100 400, (100, 60, ev_u1 (ev_u1 (ev_u1 (ev_u1 (ev_u1 (ev_u1 (ev_u1 (ev_u1 (ev_u1 (ev_u1 (ev_u1 (ev_u1 (ev_u1 (ev_u1 (ev_u1 (ev_u1 (ev_u1 (ev_u1 (ev_u1 (ev_u1 (ev_u1 (ev_u1 (ev_u1 (ev_u1 (ev_u1 (ev_u1 (ev_u1 (ev_u1 (ev_u1 (ev_u1 (ev_u1 (ev_u1 (ev_u1 (ev_u1 (ev_u1 (ev_u1 (fun _ => 0) 0 (32 : Int32)) 1 (112 : Int32)) 2 (114 : Int32)) 3 (111 : Int32)) 4 (112 : Int32)) 5 (111 : Int32)) 6 (115 : Int32)) 7 (101 : Int32)) 8 (32 : Int32)) 9 (100 : Int32)) 10 (101 : Int32)) 11 (108 : Int32)) 12 (105 : Int32)) 13 (118 : Int32)) 14 (101 : Int32)) 15 (114 : Int32)) 16 (32 : Int32)) 17 (100 : Int32)) 18 (114 : Int32)) 19 (111 : Int32)) 20 (112 : Int32)) 21 (32 : Int32)) 22 (108 : Int32)) 23 (111 : Int32)) 24 (115 : Int32)) 25 (101 : Int32)) 26 (32 : Int32)) 27 (116 : Int32)) 28 (117 : Int32)) 29 (114 : Int32)) 30 (110 : Int32)) 31 (32 : Int32)) 32 (116 : Int32)) 33 (105 : Int32)) 34 (109 : Int32)) 35 (101 : Int32), fun _ => none)]) τ := R
  refine ex_up (fun _ k => ev_dup dX10_init_277 k) ?_
  refine ex_up (fun _ k => ev_bipush (v := (36 : Int32)) dX10_init_278 (by decide) k) ?_
  refine ex_up (fun _ k => ev_bipush (v := (111 : Int32)) dX10_init_280 (by decide) k) ?_
  refine en_iast R 8 rfl dX10_init_282 (by decide) (fun τ R => ?_)
  have R : rg σ a 13497 ([(9, 0, fun _ => 0, ev_u1 (ev_u1 (ev_u1 (ev_u1 (ev_u1 (ev_u1 (ev_u1 (fun _ => none) 1 (some (a + 1))) 2 (some (a + 2))) 3 (some (a + 3))) 4 (some (a + 4))) 5 (some (a + 5))) 6 (some (a + 6))) 7 (some (a + 7))), nc 100 6010, nc 100 6010, nc 100 5, nc 100 1000, nc 100 7, nc 100 5, nc 100 400, (100, 60, ev_u1 (ev_u1 (ev_u1 (ev_u1 (ev_u1 (ev_u1 (ev_u1 (ev_u1 (ev_u1 (ev_u1 (ev_u1 (ev_u1 (ev_u1 (ev_u1 (ev_u1 (ev_u1 (ev_u1 (ev_u1 (ev_u1 (ev_u1 (ev_u1 (ev_u1 (ev_u1 (ev_u1 (ev_u1 (ev_u1 (ev_u1 (ev_u1 (ev_u1 (ev_u1 (ev_u1 (ev_u1 (ev_u1 (ev_u1 (ev_u1 (ev_u1 (ev_u1 (fun _ => 0) 0 (32 : Int32)) 1 (112 : Int32)) 2 (114 : Int32)) 3 (111 : Int32)) 4 (112 : Int32)) 5 (111 : Int32)) 6 (115 : Int32)) 7 (101 : Int32)) 8 (32 : Int32)) 9 (100 : Int32)) 10 (101 : Int32)) 11 (108 : Int32)) 12 (105 : Int32)) 13 (118 : Int32)) 14 (101 : Int32)) 15 (114 : Int32)) 16 (32 : Int32)) 17 (100 : Int32)) 18 (114 : Int32)) 19 (111 : Int32)) 20 (112 : Int32)) 21 (32 : Int32)) 22 (108 : Int32)) 23 (111 : Int32)) 24 (115 : Int32)) 25 (101 : Int32)) 26 (32 : Int32)) 27 (116 : Int32)) 28 (117 : Int32)) 29 (114 : Int32)) 30 (110 : Int32)) 31 (32 : Int32)) 32 (116 : Int32)) 33 (105 : Int32)) 34 (109 : Int32)) 35 (101 : Int32)) 36 (111 : Int32), fun _ => none)]) τ := R
  refine ex_up (fun _ k => ev_dup dX10_init_283 k) ?_
  refine ex_up (fun _ k => ev_bipush (v := (37 : Int32)) dX10_init_284 (by decide) k) ?_
  refine ex_up (fun _ k => ev_bipush (v := (117 : Int32)) dX10_init_286 (by decide) k) ?_
  refine en_iast R 8 rfl dX10_init_288 (by decide) (fun τ R => ?_)
  have R : rg σ a 13497 ([(9, 0, fun _ => 0, ev_u1 (ev_u1 (ev_u1 (ev_u1 (ev_u1 (ev_u1 (ev_u1 (fun _ => none) 1 (some (a + 1))) 2 (some (a + 2))) 3 (some (a + 3))) 4 (some (a + 4))) 5 (some (a + 5))) 6 (some (a + 6))) 7 (some (a + 7))), nc 100 6010, nc 100 6010, nc 100 5, nc 100 1000, nc 100 7, nc 100 5, nc 100 400, (100, 60, ev_u1 (ev_u1 (ev_u1 (ev_u1 (ev_u1 (ev_u1 (ev_u1 (ev_u1 (ev_u1 (ev_u1 (ev_u1 (ev_u1 (ev_u1 (ev_u1 (ev_u1 (ev_u1 (ev_u1 (ev_u1 (ev_u1 (ev_u1 (ev_u1 (ev_u1 (ev_u1 (ev_u1 (ev_u1 (ev_u1 (ev_u1 (ev_u1 (ev_u1 (ev_u1 (ev_u1 (ev_u1 (ev_u1 (ev_u1 (ev_u1 (ev_u1 (ev_u1 (ev_u1 (fun _ => 0) 0 (32 : Int32)) 1 (112 : Int32)) 2 (114 : Int32)) 3 (111 : Int32)) 4 (112 : Int32)) 5 (111 : Int32)) 6 (115 : Int32)) 7 (101 : Int32)) 8 (32 : Int32)) 9 (100 : Int32)) 10 (101 : Int32)) 11 (108 : Int32)) 12 (105 : Int32)) 13 (118 : Int32)) 14 (101 : Int32)) 15 (114 : Int32)) 16 (32 : Int32)) 17 (100 : Int32)) 18 (114 : Int32)) 19 (111 : Int32)) 20 (112 : Int32)) 21 (32 : Int32)) 22 (108 : Int32)) 23 (111 : Int32)) 24 (115 : Int32)) 25 (101 : Int32)) 26 (32 : Int32)) 27 (116 : Int32)) 28 (117 : Int32)) 29 (114 : Int32)) 30 (110 : Int32)) 31 (32 : Int32)) 32 (116 : Int32)) 33 (105 : Int32)) 34 (109 : Int32)) 35 (101 : Int32)) 36 (111 : Int32)) 37 (117 : Int32), fun _ => none)]) τ := R
  refine ex_up (fun _ k => ev_dup dX10_init_289 k) ?_
  refine ex_up (fun _ k => ev_bipush (v := (38 : Int32)) dX10_init_290 (by decide) k) ?_
  refine ex_up (fun _ k => ev_bipush (v := (116 : Int32)) dX10_init_292 (by decide) k) ?_
  refine en_iast R 8 rfl dX10_init_294 (by decide) (fun τ R => ?_)
  have R : rg σ a 13497 ([(9, 0, fun _ => 0, ev_u1 (ev_u1 (ev_u1 (ev_u1 (ev_u1 (ev_u1 (ev_u1 (fun _ => none) 1 (some (a + 1))) 2 (some (a + 2))) 3 (some (a + 3))) 4 (some (a + 4))) 5 (some (a + 5))) 6 (some (a + 6))) 7 (some (a + 7))), nc 100 6010, nc 100 6010, nc 100 5, nc 100 1000, nc 100 7, nc 100 5, nc 100 400, (100, 60, ev_u1 (ev_u1 (ev_u1 (ev_u1 (ev_u1 (ev_u1 (ev_u1 (ev_u1 (ev_u1 (ev_u1 (ev_u1 (ev_u1 (ev_u1 (ev_u1 (ev_u1 (ev_u1 (ev_u1 (ev_u1 (ev_u1 (ev_u1 (ev_u1 (ev_u1 (ev_u1 (ev_u1 (ev_u1 (ev_u1 (ev_u1 (ev_u1 (ev_u1 (ev_u1 (ev_u1 (ev_u1 (ev_u1 (ev_u1 (ev_u1 (ev_u1 (ev_u1 (ev_u1 (ev_u1 (fun _ => 0) 0 (32 : Int32)) 1 (112 : Int32)) 2 (114 : Int32)) 3 (111 : Int32)) 4 (112 : Int32)) 5 (111 : Int32)) 6 (115 : Int32)) 7 (101 : Int32)) 8 (32 : Int32)) 9 (100 : Int32)) 10 (101 : Int32)) 11 (108 : Int32)) 12 (105 : Int32)) 13 (118 : Int32)) 14 (101 : Int32)) 15 (114 : Int32)) 16 (32 : Int32)) 17 (100 : Int32)) 18 (114 : Int32)) 19 (111 : Int32)) 20 (112 : Int32)) 21 (32 : Int32)) 22 (108 : Int32)) 23 (111 : Int32)) 24 (115 : Int32)) 25 (101 : Int32)) 26 (32 : Int32)) 27 (116 : Int32)) 28 (117 : Int32)) 29 (114 : Int32)) 30 (110 : Int32)) 31 (32 : Int32)) 32 (116 : Int32)) 33 (105 : Int32)) 34 (109 : Int32)) 35 (101 : Int32)) 36 (111 : Int32)) 37 (117 : Int32)) 38 (116 : Int32), fun _ => none)]) τ := R
  refine ex_up (fun _ k => ev_dup dX10_init_295 k) ?_
  refine ex_up (fun _ k => ev_bipush (v := (39 : Int32)) dX10_init_296 (by decide) k) ?_
  refine ex_up (fun _ k => ev_bipush (v := (32 : Int32)) dX10_init_298 (by decide) k) ?_
  refine en_iast R 8 rfl dX10_init_300 (by decide) (fun τ R => ?_)
  have R : rg σ a 13497 ([(9, 0, fun _ => 0, ev_u1 (ev_u1 (ev_u1 (ev_u1 (ev_u1 (ev_u1 (ev_u1 (fun _ => none) 1 (some (a + 1))) 2 (some (a + 2))) 3 (some (a + 3))) 4 (some (a + 4))) 5 (some (a + 5))) 6 (some (a + 6))) 7 (some (a + 7))), nc 100 6010, nc 100 6010, nc 100 5, nc 100 1000, nc 100 7, nc 100 5, nc 100 400, (100, 60, ev_u1 (ev_u1 (ev_u1 (ev_u1 (ev_u1 (ev_u1 (ev_u1 (ev_u1 (ev_u1 (ev_u1 (ev_u1 (ev_u1 (ev_u1 (ev_u1 (ev_u1 (ev_u1 (ev_u1 (ev_u1 (ev_u1 (ev_u1 (ev_u1 (ev_u1 (ev_u1 (ev_u1 (ev_u1 (ev_u1 (ev_u1 (ev_u1 (ev_u1 (ev_u1 (ev_u1 (ev_u1 (ev_u1 (ev_u1 (ev_u1 (ev_u1 (ev_u1 (ev_u1 (ev_u1 (ev_u1 (fun _ => 0) 0 (32 : Int32)) 1 (112 : Int32)) 2 (114 : Int32)) 3 (111 : Int32)) 4 (112 : Int32)) 5 (111 : Int32)) 6 (115 : Int32)) 7 (101 : Int32)) 8 (32 : Int32)) 9 (100 : Int32)) 10 (101 : Int32)) 11 (108 : Int32)) 12 (105 : Int32)) 13 (118 : Int32)) 14 (101 : Int32)) 15 (114 : Int32)) 16 (32 : Int32)) 17 (100 : Int32)) 18 (114 : Int32)) 19 (111 : Int32)) 20 (112 : Int32)) 21 (32 : Int32)) 22 (108 : Int32)) 23 (111 : Int32)) 24 (115 : Int32)) 25 (101 : Int32)) 26 (32 : Int32)) 27 (116 : Int32)) 28 (117 : Int32)) 29 (114 : Int32)) 30 (110 : Int32)) 31 (32 : Int32)) 32 (116 : Int32)) 33 (105 : Int32)) 34 (109 : Int32)) 35 (101 : Int32)) 36 (111 : Int32)) 37 (117 : Int32)) 38 (116 : Int32)) 39 (32 : Int32), fun _ => none)]) τ := R
  refine ex_up (fun _ k => ev_dup dX10_init_301 k) ?_
  refine ex_up (fun _ k => ev_bipush (v := (40 : Int32)) dX10_init_302 (by decide) k) ?_
  refine ex_up (fun _ k => ev_bipush (v := (108 : Int32)) dX10_init_304 (by decide) k) ?_
  refine en_iast R 8 rfl dX10_init_306 (by decide) (fun τ R => ?_)
  have R : rg σ a 13497 ([(9, 0, fun _ => 0, ev_u1 (ev_u1 (ev_u1 (ev_u1 (ev_u1 (ev_u1 (ev_u1 (fun _ => none) 1 (some (a + 1))) 2 (some (a + 2))) 3 (some (a + 3))) 4 (some (a + 4))) 5 (some (a + 5))) 6 (some (a + 6))) 7 (some (a + 7))), nc 100 6010, nc 100 6010, nc 100 5, nc 100 1000, nc 100 7, nc 100 5, nc 100 400, (100, 60, ev_u1 (ev_u1 (ev_u1 (ev_u1 (ev_u1 (ev_u1 (ev_u1 (ev_u1 (ev_u1 (ev_u1 (ev_u1 (ev_u1 (ev_u1 (ev_u1 (ev_u1 (ev_u1 (ev_u1 (ev_u1 (ev_u1 (ev_u1 (ev_u1 (ev_u1 (ev_u1 (ev_u1 (ev_u1 (ev_u1 (ev_u1 (ev_u1 (ev_u1 (ev_u1 (ev_u1 (ev_u1 (ev_u1 (ev_u1 (ev_u1 (ev_u1 (ev_u1 (ev_u1 (ev_u1 (ev_u1 (ev_u1 (fun _ => 0) 0 (32 : Int32)) 1 (112 : Int32)) 2 (114 : Int32)) 3 (111 : Int32)) 4 (112 : Int32)) 5 (111 : Int32)) 6 (115 : Int32)) 7 (101 : Int32)) 8 (32 : Int32)) 9 (100 : Int32)) 10 (101 : Int32)) 11 (108 : Int32)) 12 (105 : Int32)) 13 (118 : Int32)) 14 (101 : Int32)) 15 (114 : Int32)) 16 (32 : Int32)) 17 (100 : Int32)) 18 (114 : Int32)) 19 (111 : Int32)) 20 (112 : Int32)) 21 (32 : Int32)) 22 (108 : Int32)) 23 (111 : Int32)) 24 (115 : Int32)) 25 (101 : Int32)) 26 (32 : Int32)) 27 (116 : Int32)) 28 (117 : Int32)) 29 (114 : Int32)) 30 (110 : Int32)) 31 (32 : Int32)) 32 (116 : Int32)) 33 (105 : Int32)) 34 (109 : Int32)) 35 (101 : Int32)) 36 (111 : Int32)) 37 (117 : Int32)) 38 (116 : Int32)) 39 (32 : Int32)) 40 (108 : Int32), fun _ => none)]) τ := R
  refine ex_up (fun _ k => ev_dup dX10_init_307 k) ?_
  refine ex_up (fun _ k => ev_bipush (v := (41 : Int32)) dX10_init_308 (by decide) k) ?_
  refine ex_up (fun _ k => ev_bipush (v := (105 : Int32)) dX10_init_310 (by decide) k) ?_
  refine en_iast R 8 rfl dX10_init_312 (by decide) (fun τ R => ?_)
  have R : rg σ a 13497 ([(9, 0, fun _ => 0, ev_u1 (ev_u1 (ev_u1 (ev_u1 (ev_u1 (ev_u1 (ev_u1 (fun _ => none) 1 (some (a + 1))) 2 (some (a + 2))) 3 (some (a + 3))) 4 (some (a + 4))) 5 (some (a + 5))) 6 (some (a + 6))) 7 (some (a + 7))), nc 100 6010, nc 100 6010, nc 100 5, nc 100 1000, nc 100 7, nc 100 5, nc 100 400, (100, 60, ev_u1 (ev_u1 (ev_u1 (ev_u1 (ev_u1 (ev_u1 (ev_u1 (ev_u1 (ev_u1 (ev_u1 (ev_u1 (ev_u1 (ev_u1 (ev_u1 (ev_u1 (ev_u1 (ev_u1 (ev_u1 (ev_u1 (ev_u1 (ev_u1 (ev_u1 (ev_u1 (ev_u1 (ev_u1 (ev_u1 (ev_u1 (ev_u1 (ev_u1 (ev_u1 (ev_u1 (ev_u1 (ev_u1 (ev_u1 (ev_u1 (ev_u1 (ev_u1 (ev_u1 (ev_u1 (ev_u1 (ev_u1 (ev_u1 (fun _ => 0) 0 (32 : Int32)) 1 (112 : Int32)) 2 (114 : Int32)) 3 (111 : Int32)) 4 (112 : Int32)) 5 (111 : Int32)) 6 (115 : Int32)) 7 (101 : Int32)) 8 (32 : Int32)) 9 (100 : Int32)) 10 (101 : Int32)) 11 (108 : Int32)) 12 (105 : Int32)) 13 (118 : Int32)) 14 (101 : Int32)) 15 (114 : Int32)) 16 (32 : Int32)) 17 (100 : Int32)) 18 (114 : Int32)) 19 (111 : Int32)) 20 (112 : Int32)) 21 (32 : Int32)) 22 (108 : Int32)) 23 (111 : Int32)) 24 (115 : Int32)) 25 (101 : Int32)) 26 (32 : Int32)) 27 (116 : Int32)) 28 (117 : Int32)) 29 (114 : Int32)) 30 (110 : Int32)) 31 (32 : Int32)) 32 (116 : Int32)) 33 (105 : Int32)) 34 (109 : Int32)) 35 (101 : Int32)) 36 (111 : Int32)) 37 (117 : Int32)) 38 (116 : Int32)) 39 (32 : Int32)) 40 (108 : Int32)) 41 (105 : Int32), fun _ => none)]) τ := R
  refine ex_up (fun _ k => ev_dup dX10_init_313 k) ?_
  refine ex_up (fun _ k => ev_bipush (v := (42 : Int32)) dX10_init_314 (by decide) k) ?_
  refine ex_up (fun _ k => ev_bipush (v := (101 : Int32)) dX10_init_316 (by decide) k) ?_
  refine en_iast R 8 rfl dX10_init_318 (by decide) (fun τ R => ?_)
  have R : rg σ a 13497 ([(9, 0, fun _ => 0, ev_u1 (ev_u1 (ev_u1 (ev_u1 (ev_u1 (ev_u1 (ev_u1 (fun _ => none) 1 (some (a + 1))) 2 (some (a + 2))) 3 (some (a + 3))) 4 (some (a + 4))) 5 (some (a + 5))) 6 (some (a + 6))) 7 (some (a + 7))), nc 100 6010, nc 100 6010, nc 100 5, nc 100 1000, nc 100 7, nc 100 5, nc 100 400, (100, 60, ev_u1 (ev_u1 (ev_u1 (ev_u1 (ev_u1 (ev_u1 (ev_u1 (ev_u1 (ev_u1 (ev_u1 (ev_u1 (ev_u1 (ev_u1 (ev_u1 (ev_u1 (ev_u1 (ev_u1 (ev_u1 (ev_u1 (ev_u1 (ev_u1 (ev_u1 (ev_u1 (ev_u1 (ev_u1 (ev_u1 (ev_u1 (ev_u1 (ev_u1 (ev_u1 (ev_u1 (ev_u1 (ev_u1 (ev_u1 (ev_u1 (ev_u1 (ev_u1 (ev_u1 (ev_u1 (ev_u1 (ev_u1 (ev_u1 (ev_u1 (fun _ => 0) 0 (32 : Int32)) 1 (112 : Int32)) 2 (114 : Int32)) 3 (111 : Int32)) 4 (112 : Int32)) 5 (111 : Int32)) 6 (115 : Int32)) 7 (101 : Int32)) 8 (32 : Int32)) 9 (100 : Int32)) 10 (101 : Int32)) 11 (108 : Int32)) 12 (105 : Int32)) 13 (118 : Int32)) 14 (101 : Int32)) 15 (114 : Int32)) 16 (32 : Int32)) 17 (100 : Int32)) 18 (114 : Int32)) 19 (111 : Int32)) 20 (112 : Int32)) 21 (32 : Int32)) 22 (108 : Int32)) 23 (111 : Int32)) 24 (115 : Int32)) 25 (101 : Int32)) 26 (32 : Int32)) 27 (116 : Int32)) 28 (117 : Int32)) 29 (114 : Int32)) 30 (110 : Int32)) 31 (32 : Int32)) 32 (116 : Int32)) 33 (105 : Int32)) 34 (109 : Int32)) 35 (101 : Int32)) 36 (111 : Int32)) 37 (117 : Int32)) 38 (116 : Int32)) 39 (32 : Int32)) 40 (108 : Int32)) 41 (105 : Int32)) 42 (101 : Int32), fun _ => none)]) τ := R
  refine ex_up (fun _ k => ev_dup dX10_init_319 k) ?_
  refine ex_up (fun _ k => ev_bipush (v := (43 : Int32)) dX10_init_320 (by decide) k) ?_
  refine ex_up (fun _ k => ev_bipush (v := (32 : Int32)) dX10_init_322 (by decide) k) ?_
  refine en_iast R 8 rfl dX10_init_324 (by decide) (fun τ R => ?_)
  have R : rg σ a 13497 ([(9, 0, fun _ => 0, ev_u1 (ev_u1 (ev_u1 (ev_u1 (ev_u1 (ev_u1 (ev_u1 (fun _ => none) 1 (some (a + 1))) 2 (some (a + 2))) 3 (some (a + 3))) 4 (some (a + 4))) 5 (some (a + 5))) 6 (some (a + 6))) 7 (some (a + 7))), nc 100 6010, nc 100 6010, nc 100 5, nc 100 1000, nc 100 7, nc 100 5, nc 100 400, (100, 60, ev_u1 (ev_u1 (ev_u1 (ev_u1 (ev_u1 (ev_u1 (ev_u1 (ev_u1 (ev_u1 (ev_u1 (ev_u1 (ev_u1 (ev_u1 (ev_u1 (ev_u1 (ev_u1 (ev_u1 (ev_u1 (ev_u1 (ev_u1 (ev_u1 (ev_u1 (ev_u1 (ev_u1 (ev_u1 (ev_u1 (ev_u1 (ev_u1 (ev_u1 (ev_u1 (ev_u1 (ev_u1 (ev_u1 (ev_u1 (ev_u1 (ev_u1 (ev_u1 (ev_u1 (ev_u1 (ev_u1 (ev_u1 (ev_u1 (ev_u1 (ev_u1 (fun _ => 0) 0 (32 : Int32)) 1 (112 : Int32)) 2 (114 : Int32)) 3 (111 : Int32)) 4 (112 : Int32)) 5 (111 : Int32)) 6 (115 : Int32)) 7 (101 : Int32)) 8 (32 : Int32)) 9 (100 : Int32)) 10 (101 : Int32)) 11 (108 : Int32)) 12 (105 : Int32)) 13 (118 : Int32)) 14 (101 : Int32)) 15 (114 : Int32)) 16 (32 : Int32)) 17 (100 : Int32)) 18 (114 : Int32)) 19 (111 : Int32)) 20 (112 : Int32)) 21 (32 : Int32)) 22 (108 : Int32)) 23 (111 : Int32)) 24 (115 : Int32)) 25 (101 : Int32)) 26 (32 : Int32)) 27 (116 : Int32)) 28 (117 : Int32)) 29 (114 : Int32)) 30 (110 : Int32)) 31 (32 : Int32)) 32 (116 : Int32)) 33 (105 : Int32)) 34 (109 : Int32)) 35 (101 : Int32)) 36 (111 : Int32)) 37 (117 : Int32)) 38 (116 : Int32)) 39 (32 : Int32)) 40 (108 : Int32)) 41 (105 : Int32)) 42 (101 : Int32)) 43 (32 : Int32), fun _ => none)]) τ := R
  refine ex_up (fun _ k => ev_dup dX10_init_325 k) ?_
  refine ex_up (fun _ k => ev_bipush (v := (44 : Int32)) dX10_init_326 (by decide) k) ?_
  refine ex_up (fun _ k => ev_bipush (v := (109 : Int32)) dX10_init_328 (by decide) k) ?_
  refine en_iast R 8 rfl dX10_init_330 (by decide) (fun τ R => ?_)
  have R : rg σ a 13497 ([(9, 0, fun _ => 0, ev_u1 (ev_u1 (ev_u1 (ev_u1 (ev_u1 (ev_u1 (ev_u1 (fun _ => none) 1 (some (a + 1))) 2 (some (a + 2))) 3 (some (a + 3))) 4 (some (a + 4))) 5 (some (a + 5))) 6 (some (a + 6))) 7 (some (a + 7))), nc 100 6010, nc 100 6010, nc 100 5, nc 100 1000, nc 100 7, nc 100 5, nc 100 400, (100, 60, ev_u1 (ev_u1 (ev_u1 (ev_u1 (ev_u1 (ev_u1 (ev_u1 (ev_u1 (ev_u1 (ev_u1 (ev_u1 (ev_u1 (ev_u1 (ev_u1 (ev_u1 (ev_u1 (ev_u1 (ev_u1 (ev_u1 (ev_u1 (ev_u1 (ev_u1 (ev_u1 (ev_u1 (ev_u1 (ev_u1 (ev_u1 (ev_u1 (ev_u1 (ev_u1 (ev_u1 (ev_u1 (ev_u1 (ev_u1 (ev_u1 (ev_u1 (ev_u1 (ev_u1 (ev_u1 (ev_u1 (ev_u1 (ev_u1 (ev_u1 (ev_u1 (ev_u1 (fun _ => 0) 0 (32 : Int32)) 1 (112 : Int32)) 2 (114 : Int32)) 3 (111 : Int32)) 4 (112 : Int32)) 5 (111 : Int32)) 6 (115 : Int32)) 7 (101 : Int32)) 8 (32 : Int32)) 9 (100 : Int32)) 10 (101 : Int32)) 11 (108 : Int32)) 12 (105 : Int32)) 13 (118 : Int32)) 14 (101 : Int32)) 15 (114 : Int32)) 16 (32 : Int32)) 17 (100 : Int32)) 18 (114 : Int32)) 19 (111 : Int32)) 20 (112 : Int32)) 21 (32 : Int32)) 22 (108 : Int32)) 23 (111 : Int32)) 24 (115 : Int32)) 25 (101 : Int32)) 26 (32 : Int32)) 27 (116 : Int32)) 28 (117 : Int32)) 29 (114 : Int32)) 30 (110 : Int32)) 31 (32 : Int32)) 32 (116 : Int32)) 33 (105 : Int32)) 34 (109 : Int32)) 35 (101 : Int32)) 36 (111 : Int32)) 37 (117 : Int32)) 38 (116 : Int32)) 39 (32 : Int32)) 40 (108 : Int32)) 41 (105 : Int32)) 42 (101 : Int32)) 43 (32 : Int32)) 44 (109 : Int32), fun _ => none)]) τ := R
  refine ex_up (fun _ k => ev_dup dX10_init_331 k) ?_
  refine ex_up (fun _ k => ev_bipush (v := (45 : Int32)) dX10_init_332 (by decide) k) ?_
  refine ex_up (fun _ k => ev_bipush (v := (97 : Int32)) dX10_init_334 (by decide) k) ?_
  refine en_iast R 8 rfl dX10_init_336 (by decide) (fun τ R => ?_)
  have R : rg σ a 13497 ([(9, 0, fun _ => 0, ev_u1 (ev_u1 (ev_u1 (ev_u1 (ev_u1 (ev_u1 (ev_u1 (fun _ => none) 1 (some (a + 1))) 2 (some (a + 2))) 3 (some (a + 3))) 4 (some (a + 4))) 5 (some (a + 5))) 6 (some (a + 6))) 7 (some (a + 7))), nc 100 6010, nc 100 6010, nc 100 5, nc 100 1000, nc 100 7, nc 100 5, nc 100 400, (100, 60, ev_u1 (ev_u1 (ev_u1 (ev_u1 (ev_u1 (ev_u1 (ev_u1 (ev_u1 (ev_u1 (ev_u1 (ev_u1 (ev_u1 (ev_u1 (ev_u1 (ev_u1 (ev_u1 (ev_u1 (ev_u1 (ev_u1 (ev_u1 (ev_u1 (ev_u1 (ev_u1 (ev_u1 (ev_u1 (ev_u1 (ev_u1 (ev_u1 (ev_u1 (ev_u1 (ev_u1 (ev_u1 (ev_u1 (ev_u1 (ev_u1 (ev_u1 (ev_u1 (ev_u1 (ev_u1 (ev_u1 (ev_u1 (ev_u1 (ev_u1 (ev_u1 (ev_u1 (ev_u1 (fun _ => 0) 0 (32 : Int32)) 1 (112 : Int32)) 2 (114 : Int32)) 3 (111 : Int32)) 4 (112 : Int32)) 5 (111 : Int32)) 6 (115 : Int32)) 7 (101 : Int32)) 8 (32 : Int32)) 9 (100 : Int32)) 10 (101 : Int32)) 11 (108 : Int32)) 12 (105 : Int32)) 13 (118 : Int32)) 14 (101 : Int32)) 15 (114 : Int32)) 16 (32 : Int32)) 17 (100 : Int32)) 18 (114 : Int32)) 19 (111 : Int32)) 20 (112 : Int32)) 21 (32 : Int32)) 22 (108 : Int32)) 23 (111 : Int32)) 24 (115 : Int32)) 25 (101 : Int32)) 26 (32 : Int32)) 27 (116 : Int32)) 28 (117 : Int32)) 29 (114 : Int32)) 30 (110 : Int32)) 31 (32 : Int32)) 32 (116 : Int32)) 33 (105 : Int32)) 34 (109 : Int32)) 35 (101 : Int32)) 36 (111 : Int32)) 37 (117 : Int32)) 38 (116 : Int32)) 39 (32 : Int32)) 40 (108 : Int32)) 41 (105 : Int32)) 42 (101 : Int32)) 43 (32 : Int32)) 44 (109 : Int32)) 45 (97 : Int32), fun _ => none)]) τ := R
  refine ex_up (fun _ k => ev_dup dX10_init_337 k) ?_
  refine ex_up (fun _ k => ev_bipush (v := (46 : Int32)) dX10_init_338 (by decide) k) ?_
  refine ex_up (fun _ k => ev_bipush (v := (114 : Int32)) dX10_init_340 (by decide) k) ?_
  refine en_iast R 8 rfl dX10_init_342 (by decide) (fun τ R => ?_)
  have R : rg σ a 13497 ([(9, 0, fun _ => 0, ev_u1 (ev_u1 (ev_u1 (ev_u1 (ev_u1 (ev_u1 (ev_u1 (fun _ => none) 1 (some (a + 1))) 2 (some (a + 2))) 3 (some (a + 3))) 4 (some (a + 4))) 5 (some (a + 5))) 6 (some (a + 6))) 7 (some (a + 7))), nc 100 6010, nc 100 6010, nc 100 5, nc 100 1000, nc 100 7, nc 100 5, nc 100 400, (100, 60, ev_u1 (ev_u1 (ev_u1 (ev_u1 (ev_u1 (ev_u1 (ev_u1 (ev_u1 (ev_u1 (ev_u1 (ev_u1 (ev_u1 (ev_u1 (ev_u1 (ev_u1 (ev_u1 (ev_u1 (ev_u1 (ev_u1 (ev_u1 (ev_u1 (ev_u1 (ev_u1 (ev_u1 (ev_u1 (ev_u1 (ev_u1 (ev_u1 (ev_u1 (ev_u1 (ev_u1 (ev_u1 (ev_u1 (ev_u1 (ev_u1 (ev_u1 (ev_u1 (ev_u1 (ev_u1 (ev_u1 (ev_u1 (ev_u1 (ev_u1 (ev_u1 (ev_u1 (ev_u1 (ev_u1 (fun _ => 0) 0 (32 : Int32)) 1 (112 : Int32)) 2 (114 : Int32)) 3 (111 : Int32)) 4 (112 : Int32)) 5 (111 : Int32)) 6 (115 : Int32)) 7 (101 : Int32)) 8 (32 : Int32)) 9 (100 : Int32)) 10 (101 : Int32)) 11 (108 : Int32)) 12 (105 : Int32)) 13 (118 : Int32)) 14 (101 : Int32)) 15 (114 : Int32)) 16 (32 : Int32)) 17 (100 : Int32)) 18 (114 : Int32)) 19 (111 : Int32)) 20 (112 : Int32)) 21 (32 : Int32)) 22 (108 : Int32)) 23 (111 : Int32)) 24 (115 : Int32)) 25 (101 : Int32)) 26 (32 : Int32)) 27 (116 : Int32)) 28 (117 : Int32)) 29 (114 : Int32)) 30 (110 : Int32)) 31 (32 : Int32)) 32 (116 : Int32)) 33 (105 : Int32)) 34 (109 : Int32)) 35 (101 : Int32)) 36 (111 : Int32)) 37 (117 : Int32)) 38 (116 : Int32)) 39 (32 : Int32)) 40 (108 : Int32)) 41 (105 : Int32)) 42 (101 : Int32)) 43 (32 : Int32)) 44 (109 : Int32)) 45 (97 : Int32)) 46 (114 : Int32), fun _ => none)]) τ := R
  refine ex_up (fun _ k => ev_dup dX10_init_343 k) ?_
  refine ex_up (fun _ k => ev_bipush (v := (47 : Int32)) dX10_init_344 (by decide) k) ?_
  refine ex_up (fun _ k => ev_bipush (v := (107 : Int32)) dX10_init_346 (by decide) k) ?_
  refine en_iast R 8 rfl dX10_init_348 (by decide) (fun τ R => ?_)
  have R : rg σ a 13497 ([(9, 0, fun _ => 0, ev_u1 (ev_u1 (ev_u1 (ev_u1 (ev_u1 (ev_u1 (ev_u1 (fun _ => none) 1 (some (a + 1))) 2 (some (a + 2))) 3 (some (a + 3))) 4 (some (a + 4))) 5 (some (a + 5))) 6 (some (a + 6))) 7 (some (a + 7))), nc 100 6010, nc 100 6010, nc 100 5, nc 100 1000, nc 100 7, nc 100 5, nc 100 400, (100, 60, ev_u1 (ev_u1 (ev_u1 (ev_u1 (ev_u1 (ev_u1 (ev_u1 (ev_u1 (ev_u1 (ev_u1 (ev_u1 (ev_u1 (ev_u1 (ev_u1 (ev_u1 (ev_u1 (ev_u1 (ev_u1 (ev_u1 (ev_u1 (ev_u1 (ev_u1 (ev_u1 (ev_u1 (ev_u1 (ev_u1 (ev_u1 (ev_u1 (ev_u1 (ev_u1 (ev_u1 (ev_u1 (ev_u1 (ev_u1 (ev_u1 (ev_u1 (ev_u1 (ev_u1 (ev_u1 (ev_u1 (ev_u1 (ev_u1 (ev_u1 (ev_u1 (ev_u1 (ev_u1 (ev_u1 (ev_u1 (fun _ => 0) 0 (32 : Int32)) 1 (112 : Int32)) 2 (114 : Int32)) 3 (111 : Int32)) 4 (112 : Int32)) 5 (111 : Int32)) 6 (115 : Int32)) 7 (101 : Int32)) 8 (32 : Int32)) 9 (100 : Int32)) 10 (101 : Int32)) 11 (108 : Int32)) 12 (105 : Int32)) 13 (118 : Int32)) 14 (101 : Int32)) 15 (114 : Int32)) 16 (32 : Int32)) 17 (100 : Int32)) 18 (114 : Int32)) 19 (111 : Int32)) 20 (112 : Int32)) 21 (32 : Int32)) 22 (108 : Int32)) 23 (111 : Int32)) 24 (115 : Int32)) 25 (101 : Int32)) 26 (32 : Int32)) 27 (116 : Int32)) 28 (117 : Int32)) 29 (114 : Int32)) 30 (110 : Int32)) 31 (32 : Int32)) 32 (116 : Int32)) 33 (105 : Int32)) 34 (109 : Int32)) 35 (101 : Int32)) 36 (111 : Int32)) 37 (117 : Int32)) 38 (116 : Int32)) 39 (32 : Int32)) 40 (108 : Int32)) 41 (105 : Int32)) 42 (101 : Int32)) 43 (32 : Int32)) 44 (109 : Int32)) 45 (97 : Int32)) 46 (114 : Int32)) 47 (107 : Int32), fun _ => none)]) τ := R
  refine ex_up (fun _ k => ev_dup dX10_init_349 k) ?_
  refine ex_up (fun _ k => ev_bipush (v := (48 : Int32)) dX10_init_350 (by decide) k) ?_
  refine ex_up (fun _ k => ev_bipush (v := (32 : Int32)) dX10_init_352 (by decide) k) ?_
  refine en_iast R 8 rfl dX10_init_354 (by decide) (fun τ R => ?_)
  have R : rg σ a 13497 ([(9, 0, fun _ => 0, ev_u1 (ev_u1 (ev_u1 (ev_u1 (ev_u1 (ev_u1 (ev_u1 (fun _ => none) 1 (some (a + 1))) 2 (some (a + 2))) 3 (some (a + 3))) 4 (some (a + 4))) 5 (some (a + 5))) 6 (some (a + 6))) 7 (some (a + 7))), nc 100 6010, nc 100 6010, nc 100 5, nc 100 1000, nc 100 7, nc 100 5, nc 100 400, (100, 60, ev_u1 (ev_u1 (ev_u1 (ev_u1 (ev_u1 (ev_u1 (ev_u1 (ev_u1 (ev_u1 (ev_u1 (ev_u1 (ev_u1 (ev_u1 (ev_u1 (ev_u1 (ev_u1 (ev_u1 (ev_u1 (ev_u1 (ev_u1 (ev_u1 (ev_u1 (ev_u1 (ev_u1 (ev_u1 (ev_u1 (ev_u1 (ev_u1 (ev_u1 (ev_u1 (ev_u1 (ev_u1 (ev_u1 (ev_u1 (ev_u1 (ev_u1 (ev_u1 (ev_u1 (ev_u1 (ev_u1 (ev_u1 (ev_u1 (ev_u1 (ev_u1 (ev_u1 (ev_u1 (ev_u1 (ev_u1 (ev_u1 (fun _ => 0) 0 (32 : Int32)) 1 (112 : Int32)) 2 (114 : Int32)) 3 (111 : Int32)) 4 (112 : Int32)) 5 (111 : Int32)) 6 (115 : Int32)) 7 (101 : Int32)) 8 (32 : Int32)) 9 (100 : Int32)) 10 (101 : Int32)) 11 (108 : Int32)) 12 (105 : Int32)) 13 (118 : Int32)) 14 (101 : Int32)) 15 (114 : Int32)) 16 (32 : Int32)) 17 (100 : Int32)) 18 (114 : Int32)) 19 (111 : Int32)) 20 (112 : Int32)) 21 (32 : Int32)) 22 (108 : Int32)) 23 (111 : Int32)) 24 (115 : Int32)) 25 (101 : Int32)) 26 (32 : Int32)) 27 (116 : Int32)) 28 (117 : Int32)) 29 (114 : Int32)) 30 (110 : Int32)) 31 (32 : Int32)) 32 (116 : Int32)) 33 (105 : Int32)) 34 (109 : Int32)) 35 (101 : Int32)) 36 (111 : Int32)) 37 (117 : Int32)) 38 (116 : Int32)) 39 (32 : Int32)) 40 (108 : Int32)) 41 (105 : Int32)) 42 (101 : Int32)) 43 (32 : Int32)) 44 (109 : Int32)) 45 (97 : Int32)) 46 (114 : Int32)) 47 (107 : Int32)) 48 (32 : Int32), fun _ => none)]) τ := R
  refine ex_up (fun _ k => ev_dup dX10_init_355 k) ?_
  refine ex_up (fun _ k => ev_bipush (v := (49 : Int32)) dX10_init_356 (by decide) k) ?_
  refine ex_up (fun _ k => ev_bipush (v := (98 : Int32)) dX10_init_358 (by decide) k) ?_
  refine en_iast R 8 rfl dX10_init_360 (by decide) (fun τ R => ?_)
  have R : rg σ a 13497 ([(9, 0, fun _ => 0, ev_u1 (ev_u1 (ev_u1 (ev_u1 (ev_u1 (ev_u1 (ev_u1 (fun _ => none) 1 (some (a + 1))) 2 (some (a + 2))) 3 (some (a + 3))) 4 (some (a + 4))) 5 (some (a + 5))) 6 (some (a + 6))) 7 (some (a + 7))), nc 100 6010, nc 100 6010, nc 100 5, nc 100 1000, nc 100 7, nc 100 5, nc 100 400, (100, 60, ev_u1 (ev_u1 (ev_u1 (ev_u1 (ev_u1 (ev_u1 (ev_u1 (ev_u1 (ev_u1 (ev_u1 (ev_u1 (ev_u1 (ev_u1 (ev_u1 (ev_u1 (ev_u1 (ev_u1 (ev_u1 (ev_u1 (ev_u1 (ev_u1 (ev_u1 (ev_u1 (ev_u1 (ev_u1 (ev_u1 (ev_u1 (ev_u1 (ev_u1 (ev_u1 (ev_u1 (ev_u1 (ev_u1 (ev_u1 (ev_u1 (ev_u1 (ev_u1 (ev_u1 (ev_u1 (ev_u1 (ev_u1 (ev_u1 (ev_u1 (ev_u1 (ev_u1 (ev_u1 (ev_u1 (ev_u1 (ev_u1 (ev_u1 (fun _ => 0) 0 (32 : Int32)) 1 (112 : Int32)) 2 (114 : Int32)) 3 (111 : Int32)) 4 (112 : Int32)) 5 (111 : Int32)) 6 (115 : Int32)) 7 (101 : Int32)) 8 (32 : Int32)) 9 (100 : Int32)) 10 (101 : Int32)) 11 (108 : Int32)) 12 (105 : Int32)) 13 (118 : Int32)) 14 (101 : Int32)) 15 (114 : Int32)) 16 (32 : Int32)) 17 (100 : Int32)) 18 (114 : Int32)) 19 (111 : Int32)) 20 (112 : Int32)) 21 (32 : Int32)) 22 (108 : Int32)) 23 (111 : Int32)) 24 (115 : Int32)) 25 (101 : Int32)) 26 (32 : Int32)) 27 (116 : Int32)) 28 (117 : Int32)) 29 (114 : Int32)) 30 (110 : Int32)) 31 (32 : Int32)) 32 (116 : Int32)) 33 (105 : Int32)) 34 (109 : Int32)) 35 (101 : Int32)) 36 (111 : Int32)) 37 (117 : Int32)) 38 (116 : Int32)) 39 (32 : Int32)) 40 (108 : Int32)) 41 (105 : Int32)) 42 (101 : Int32)) 43 (32 : Int32)) 44 (109 : Int32)) 45 (97 : Int32)) 46 (114 : Int32)) 47 (107 : Int32)) 48 (32 : Int32)) 49 (98 : Int32), fun _ => none)]) τ := R
  refine ex_up (fun _ k => ev_dup dX10_init_361 k) ?_
  refine ex_up (fun _ k => ev_bipush (v := (50 : Int32)) dX10_init_362 (by decide) k) ?_
  refine ex_up (fun _ k => ev_bipush (v := (108 : Int32)) dX10_init_364 (by decide) k) ?_
  refine en_iast R 8 rfl dX10_init_366 (by decide) (fun τ R => ?_)
  have R : rg σ a 13497 ([(9, 0, fun _ => 0, ev_u1 (ev_u1 (ev_u1 (ev_u1 (ev_u1 (ev_u1 (ev_u1 (fun _ => none) 1 (some (a + 1))) 2 (some (a + 2))) 3 (some (a + 3))) 4 (some (a + 4))) 5 (some (a + 5))) 6 (some (a + 6))) 7 (some (a + 7))), nc 100 6010, nc 100 6010, nc 100 5, nc 100 1000, nc 100 7, nc 100 5, nc 100 400, (100, 60, ev_u1 (ev_u1 (ev_u1 (ev_u1 (ev_u1 (ev_u1 (ev_u1 (ev_u1 (ev_u1 (ev_u1 (ev_u1 (ev_u1 (ev_u1 (ev_u1 (ev_u1 (ev_u1 (ev_u1 (ev_u1 (ev_u1 (ev_u1 (ev_u1 (ev_u1 (ev_u1 (ev_u1 (ev_u1 (ev_u1 (ev_u1 (ev_u1 (ev_u1 (ev_u1 (ev_u1 (ev_u1 (ev_u1 (ev_u1 (ev_u1 (ev_u1 (ev_u1 (ev_u1 (ev_u1 (ev_u1 (ev_u1 (ev_u1 (ev_u1 (ev_u1 (ev_u1 (ev_u1 (ev_u1 (ev_u1 (ev_u1 (ev_u1 (ev_u1 (fun _ => 0) 0 (32 : Int32)) 1 (112 : Int32)) 2 (114 : Int32)) 3 (111 : Int32)) 4 (112 : Int32)) 5 (111 : Int32)) 6 (115 : Int32)) 7 (101 : Int32)) 8 (32 : Int32)) 9 (100 : Int32)) 10 (101 : Int32)) 11 (108 : Int32)) 12 (105 : Int32)) 13 (118 : Int32)) 14 (101 : Int32)) 15 (114 : Int32)) 16 (32 : Int32)) 17 (100 : Int32)) 18 (114 : Int32)) 19 (111 : Int32)) 20 (112 : Int32)) 21 (32 : Int32)) 22 (108 : Int32)) 23 (111 : Int32)) 24 (115 : Int32)) 25 (101 : Int32)) 26 (32 : Int32)) 27 (116 : Int32)) 28 (117 : Int32)) 29 (114 : Int32)) 30 (110 : Int32)) 31 (32 : Int32)) 32 (116 : Int32)) 33 (105 : Int32)) 34 (109 : Int32)) 35 (101 : Int32)) 36 (111 : Int32)) 37 (117 : Int32)) 38 (116 : Int32)) 39 (32 : Int32)) 40 (108 : Int32)) 41 (105 : Int32)) 42 (101 : Int32)) 43 (32 : Int32)) 44 (109 : Int32)) 45 (97 : Int32)) 46 (114 : Int32)) 47 (107 : Int32)) 48 (32 : Int32)) 49 (98 : Int32)) 50 (108 : Int32), fun _ => none)]) τ := R
  refine ex_up (fun _ k => ev_dup dX10_init_367 k) ?_
  refine ex_up (fun _ k => ev_bipush (v := (51 : Int32)) dX10_init_368 (by decide) k) ?_
  refine ex_up (fun _ k => ev_bipush (v := (111 : Int32)) dX10_init_370 (by decide) k) ?_
  refine en_iast R 8 rfl dX10_init_372 (by decide) (fun τ R => ?_)
  have R : rg σ a 13497 ([(9, 0, fun _ => 0, ev_u1 (ev_u1 (ev_u1 (ev_u1 (ev_u1 (ev_u1 (ev_u1 (fun _ => none) 1 (some (a + 1))) 2 (some (a + 2))) 3 (some (a + 3))) 4 (some (a + 4))) 5 (some (a + 5))) 6 (some (a + 6))) 7 (some (a + 7))), nc 100 6010, nc 100 6010, nc 100 5, nc 100 1000, nc 100 7, nc 100 5, nc 100 400, (100, 60, ev_u1 (ev_u1 (ev_u1 (ev_u1 (ev_u1 (ev_u1 (ev_u1 (ev_u1 (ev_u1 (ev_u1 (ev_u1 (ev_u1 (ev_u1 (ev_u1 (ev_u1 (ev_u1 (ev_u1 (ev_u1 (ev_u1 (ev_u1 (ev_u1 (ev_u1 (ev_u1 (ev_u1 (ev_u1 (ev_u1 (ev_u1 (ev_u1 (ev_u1 (ev_u1 (ev_u1 (ev_u1 (ev_u1 (ev_u1 (ev_u1 (ev_u1 (ev_u1 (ev_u1 (ev_u1 (ev_u1 (ev_u1 (ev_u1 (ev_u1 (ev_u1 (ev_u1 (ev_u1 (ev_u1 (ev_u1 (ev_u1 (ev_u1 (ev_u1 (ev_u1 (fun _ => 0) 0 (32 : Int32)) 1 (112 : Int32)) 2 (114 : Int32)) 3 (111 : Int32)) 4 (112 : Int32)) 5 (111 : Int32)) 6 (115 : Int32)) 7 (101 : Int32)) 8 (32 : Int32)) 9 (100 : Int32)) 10 (101 : Int32)) 11 (108 : Int32)) 12 (105 : Int32)) 13 (118 : Int32)) 14 (101 : Int32)) 15 (114 : Int32)) 16 (32 : Int32)) 17 (100 : Int32)) 18 (114 : Int32)) 19 (111 : Int32)) 20 (112 : Int32)) 21 (32 : Int32)) 22 (108 : Int32)) 23 (111 : Int32)) 24 (115 : Int32)) 25 (101 : Int32)) 26 (32 : Int32)) 27 (116 : Int32)) 28 (117 : Int32)) 29 (114 : Int32)) 30 (110 : Int32)) 31 (32 : Int32)) 32 (116 : Int32)) 33 (105 : Int32)) 34 (109 : Int32)) 35 (101 : Int32)) 36 (111 : Int32)) 37 (117 : Int32)) 38 (116 : Int32)) 39 (32 : Int32)) 40 (108 : Int32)) 41 (105 : Int32)) 42 (101 : Int32)) 43 (32 : Int32)) 44 (109 : Int32)) 45 (97 : Int32)) 46 (114 : Int32)) 47 (107 : Int32)) 48 (32 : Int32)) 49 (98 : Int32)) 50 (108 : Int32)) 51 (111 : Int32), fun _ => none)]) τ := R
  refine ex_up (fun _ k => ev_dup dX10_init_373 k) ?_
  refine ex_up (fun _ k => ev_bipush (v := (52 : Int32)) dX10_init_374 (by decide) k) ?_
  refine ex_up (fun _ k => ev_bipush (v := (99 : Int32)) dX10_init_376 (by decide) k) ?_
  refine en_iast R 8 rfl dX10_init_378 (by decide) (fun τ R => ?_)
  have R : rg σ a 13497 ([(9, 0, fun _ => 0, ev_u1 (ev_u1 (ev_u1 (ev_u1 (ev_u1 (ev_u1 (ev_u1 (fun _ => none) 1 (some (a + 1))) 2 (some (a + 2))) 3 (some (a + 3))) 4 (some (a + 4))) 5 (some (a + 5))) 6 (some (a + 6))) 7 (some (a + 7))), nc 100 6010, nc 100 6010, nc 100 5, nc 100 1000, nc 100 7, nc 100 5, nc 100 400, (100, 60, ev_u1 (ev_u1 (ev_u1 (ev_u1 (ev_u1 (ev_u1 (ev_u1 (ev_u1 (ev_u1 (ev_u1 (ev_u1 (ev_u1 (ev_u1 (ev_u1 (ev_u1 (ev_u1 (ev_u1 (ev_u1 (ev_u1 (ev_u1 (ev_u1 (ev_u1 (ev_u1 (ev_u1 (ev_u1 (ev_u1 (ev_u1 (ev_u1 (ev_u1 (ev_u1 (ev_u1 (ev_u1 (ev_u1 (ev_u1 (ev_u1 (ev_u1 (ev_u1 (ev_u1 (ev_u1 (ev_u1 (ev_u1 (ev_u1 (ev_u1 (ev_u1 (ev_u1 (ev_u1 (ev_u1 (ev_u1 (ev_u1 (ev_u1 (ev_u1 (ev_u1 (ev_u1 (fun _ => 0) 0 (32 : Int32)) 1 (112 : Int32)) 2 (114 : Int32)) 3 (111 : Int32)) 4 (112 : Int32)) 5 (111 : Int32)) 6 (115 : Int32)) 7 (101 : Int32)) 8 (32 : Int32)) 9 (100 : Int32)) 10 (101 : Int32)) 11 (108 : Int32)) 12 (105 : Int32)) 13 (118 : Int32)) 14 (101 : Int32)) 15 (114 : Int32)) 16 (32 : Int32)) 17 (100 : Int32)) 18 (114 : Int32)) 19 (111 : Int32)) 20 (112 : Int32)) 21 (32 : Int32)) 22 (108 : Int32)) 23 (111 : Int32)) 24 (115 : Int32)) 25 (101 : Int32)) 26 (32 : Int32)) 27 (116 : Int32)) 28 (117 : Int32)) 29 (114 : Int32)) 30 (110 : Int32)) 31 (32 : Int32)) 32 (116 : Int32)) 33 (105 : Int32)) 34 (109 : Int32)) 35 (101 : Int32)) 36 (111 : Int32)) 37 (117 : Int32)) 38 (116 : Int32)) 39 (32 : Int32)) 40 (108 : Int32)) 41 (105 : Int32)) 42 (101 : Int32)) 43 (32 : Int32)) 44 (109 : Int32)) 45 (97 : Int32)) 46 (114 : Int32)) 47 (107 : Int32)) 48 (32 : Int32)) 49 (98 : Int32)) 50 (108 : Int32)) 51 (111 : Int32)) 52 (99 : Int32), fun _ => none)]) τ := R
  refine ex_up (fun _ k => ev_dup dX10_init_379 k) ?_
  refine ex_up (fun _ k => ev_bipush (v := (53 : Int32)) dX10_init_380 (by decide) k) ?_
  refine ex_up (fun _ k => ev_bipush (v := (107 : Int32)) dX10_init_382 (by decide) k) ?_
  refine en_iast R 8 rfl dX10_init_384 (by decide) (fun τ R => ?_)
  have R : rg σ a 13497 ([(9, 0, fun _ => 0, ev_u1 (ev_u1 (ev_u1 (ev_u1 (ev_u1 (ev_u1 (ev_u1 (fun _ => none) 1 (some (a + 1))) 2 (some (a + 2))) 3 (some (a + 3))) 4 (some (a + 4))) 5 (some (a + 5))) 6 (some (a + 6))) 7 (some (a + 7))), nc 100 6010, nc 100 6010, nc 100 5, nc 100 1000, nc 100 7, nc 100 5, nc 100 400, (100, 60, ev_u1 (ev_u1 (ev_u1 (ev_u1 (ev_u1 (ev_u1 (ev_u1 (ev_u1 (ev_u1 (ev_u1 (ev_u1 (ev_u1 (ev_u1 (ev_u1 (ev_u1 (ev_u1 (ev_u1 (ev_u1 (ev_u1 (ev_u1 (ev_u1 (ev_u1 (ev_u1 (ev_u1 (ev_u1 (ev_u1 (ev_u1 (ev_u1 (ev_u1 (ev_u1 (ev_u1 (ev_u1 (ev_u1 (ev_u1 (ev_u1 (ev_u1 (ev_u1 (ev_u1 (ev_u1 (ev_u1 (ev_u1 (ev_u1 (ev_u1 (ev_u1 (ev_u1 (ev_u1 (ev_u1 (ev_u1 (ev_u1 (ev_u1 (ev_u1 (ev_u1 (ev_u1 (ev_u1 (fun _ => 0) 0 (32 : Int32)) 1 (112 : Int32)) 2 (114 : Int32)) 3 (111 : Int32)) 4 (112 : Int32)) 5 (111 : Int32)) 6 (115 : Int32)) 7 (101 : Int32)) 8 (32 : Int32)) 9 (100 : Int32)) 10 (101 : Int32)) 11 (108 : Int32)) 12 (105 : Int32)) 13 (118 : Int32)) 14 (101 : Int32)) 15 (114 : Int32)) 16 (32 : Int32)) 17 (100 : Int32)) 18 (114 : Int32)) 19 (111 : Int32)) 20 (112 : Int32)) 21 (32 : Int32)) 22 (108 : Int32)) 23 (111 : Int32)) 24 (115 : Int32)) 25 (101 : Int32)) 26 (32 : Int32)) 27 (116 : Int32)) 28 (117 : Int32)) 29 (114 : Int32)) 30 (110 : Int32)) 31 (32 : Int32)) 32 (116 : Int32)) 33 (105 : Int32)) 34 (109 : Int32)) 35 (101 : Int32)) 36 (111 : Int32)) 37 (117 : Int32)) 38 (116 : Int32)) 39 (32 : Int32)) 40 (108 : Int32)) 41 (105 : Int32)) 42 (101 : Int32)) 43 (32 : Int32)) 44 (109 : Int32)) 45 (97 : Int32)) 46 (114 : Int32)) 47 (107 : Int32)) 48 (32 : Int32)) 49 (98 : Int32)) 50 (108 : Int32)) 51 (111 : Int32)) 52 (99 : Int32)) 53 (107 : Int32), fun _ => none)]) τ := R
  refine ex_up (fun _ k => ev_dup dX10_init_385 k) ?_
  refine ex_up (fun _ k => ev_bipush (v := (54 : Int32)) dX10_init_386 (by decide) k) ?_
  refine ex_up (fun _ k => ev_bipush (v := (32 : Int32)) dX10_init_388 (by decide) k) ?_
  refine en_iast R 8 rfl dX10_init_390 (by decide) (fun τ R => ?_)
  have R : rg σ a 13497 ([(9, 0, fun _ => 0, ev_u1 (ev_u1 (ev_u1 (ev_u1 (ev_u1 (ev_u1 (ev_u1 (fun _ => none) 1 (some (a + 1))) 2 (some (a + 2))) 3 (some (a + 3))) 4 (some (a + 4))) 5 (some (a + 5))) 6 (some (a + 6))) 7 (some (a + 7))), nc 100 6010, nc 100 6010, nc 100 5, nc 100 1000, nc 100 7, nc 100 5, nc 100 400, (100, 60, ev_u1 (ev_u1 (ev_u1 (ev_u1 (ev_u1 (ev_u1 (ev_u1 (ev_u1 (ev_u1 (ev_u1 (ev_u1 (ev_u1 (ev_u1 (ev_u1 (ev_u1 (ev_u1 (ev_u1 (ev_u1 (ev_u1 (ev_u1 (ev_u1 (ev_u1 (ev_u1 (ev_u1 (ev_u1 (ev_u1 (ev_u1 (ev_u1 (ev_u1 (ev_u1 (ev_u1 (ev_u1 (ev_u1 (ev_u1 (ev_u1 (ev_u1 (ev_u1 (ev_u1 (ev_u1 (ev_u1 (ev_u1 (ev_u1 (ev_u1 (ev_u1 (ev_u1 (ev_u1 (ev_u1 (ev_u1 (ev_u1 (ev_u1 (ev_u1 (ev_u1 (ev_u1 (ev_u1 (ev_u1 (fun _ => 0) 0 (32 : Int32)) 1 (112 : Int32)) 2 (114 : Int32)) 3 (111 : Int32)) 4 (112 : Int32)) 5 (111 : Int32)) 6 (115 : Int32)) 7 (101 : Int32)) 8 (32 : Int32)) 9 (100 : Int32)) 10 (101 : Int32)) 11 (108 : Int32)) 12 (105 : Int32)) 13 (118 : Int32)) 14 (101 : Int32)) 15 (114 : Int32)) 16 (32 : Int32)) 17 (100 : Int32)) 18 (114 : Int32)) 19 (111 : Int32)) 20 (112 : Int32)) 21 (32 : Int32)) 22 (108 : Int32)) 23 (111 : Int32)) 24 (115 : Int32)) 25 (101 : Int32)) 26 (32 : Int32)) 27 (116 : Int32)) 28 (117 : Int32)) 29 (114 : Int32)) 30 (110 : Int32)) 31 (32 : Int32)) 32 (116 : Int32)) 33 (105 : Int32)) 34 (109 : Int32)) 35 (101 : Int32)) 36 (111 : Int32)) 37 (117 : Int32)) 38 (116 : Int32)) 39 (32 : Int32)) 40 (108 : Int32)) 41 (105 : Int32)) 42 (101 : Int32)) 43 (32 : Int32)) 44 (109 : Int32)) 45 (97 : Int32)) 46 (114 : Int32)) 47 (107 : Int32)) 48 (32 : Int32)) 49 (98 : Int32)) 50 (108 : Int32)) 51 (111 : Int32)) 52 (99 : Int32)) 53 (107 : Int32)) 54 (32 : Int32), fun _ => none)]) τ := R
  refine ex_up (fun _ k => ev_dup dX10_init_391 k) ?_
  refine ex_up (fun _ k => ev_bipush (v := (55 : Int32)) dX10_init_392 (by decide) k) ?_
  refine ex_up (fun _ k => ev_bipush (v := (99 : Int32)) dX10_init_394 (by decide) k) ?_
  refine en_iast R 8 rfl dX10_init_396 (by decide) (fun τ R => ?_)
  have R : rg σ a 13497 ([(9, 0, fun _ => 0, ev_u1 (ev_u1 (ev_u1 (ev_u1 (ev_u1 (ev_u1 (ev_u1 (fun _ => none) 1 (some (a + 1))) 2 (some (a + 2))) 3 (some (a + 3))) 4 (some (a + 4))) 5 (some (a + 5))) 6 (some (a + 6))) 7 (some (a + 7))), nc 100 6010, nc 100 6010, nc 100 5, nc 100 1000, nc 100 7, nc 100 5, nc 100 400, (100, 60, ev_u1 (ev_u1 (ev_u1 (ev_u1 (ev_u1 (ev_u1 (ev_u1 (ev_u1 (ev_u1 (ev_u1 (ev_u1 (ev_u1 (ev_u1 (ev_u1 (ev_u1 (ev_u1 (ev_u1 (ev_u1 (ev_u1 (ev_u1 (ev_u1 (ev_u1 (ev_u1 (ev_u1 (ev_u1 (ev_u1 (ev_u1 (ev_u1 (ev_u1 (ev_u1 (ev_u1 (ev_u1 (ev_u1 (ev_u1 (ev_u1 (ev_u1 (ev_u1 (ev_u1 (ev_u1 (ev_u1 (ev_u1 (ev_u1 (ev_u1 (ev_u1 (ev_u1 (ev_u1 (ev_u1 (ev_u1 (ev_u1 (ev_u1 (ev_u1 (ev_u1 (ev_u1 (ev_u1 (ev_u1 (ev_u1 (fun _ => 0) 0 (32 : Int32)) 1 (112 : Int32)) 2 (114 : Int32)) 3 (111 : Int32)) 4 (112 : Int32)) 5 (111 : Int32)) 6 (115 : Int32)) 7 (101 : Int32)) 8 (32 : Int32)) 9 (100 : Int32)) 10 (101 : Int32)) 11 (108 : Int32)) 12 (105 : Int32)) 13 (118 : Int32)) 14 (101 : Int32)) 15 (114 : Int32)) 16 (32 : Int32)) 17 (100 : Int32)) 18 (114 : Int32)) 19 (111 : Int32)) 20 (112 : Int32)) 21 (32 : Int32)) 22 (108 : Int32)) 23 (111 : Int32)) 24 (115 : Int32)) 25 (101 : Int32)) 26 (32 : Int32)) 27 (116 : Int32)) 28 (117 : Int32)) 29 (114 : Int32)) 30 (110 : Int32)) 31 (32 : Int32)) 32 (116 : Int32)) 33 (105 : Int32)) 34 (109 : Int32)) 35 (101 : Int32)) 36 (111 : Int32)) 37 (117 : Int32)) 38 (116 : Int32)) 39 (32 : Int32)) 40 (108 : Int32)) 41 (105 : Int32)) 42 (101 : Int32)) 43 (32 : Int32)) 44 (109 : Int32)) 45 (97 : Int32)) 46 (114 : Int32)) 47 (107 : Int32)) 48 (32 : Int32)) 49 (98 : Int32)) 50 (108 : Int32)) 51 (111 : Int32)) 52 (99 : Int32)) 53 (107 : Int32)) 54 (32 : Int32)) 55 (99 : Int32), fun _ => none)]) τ := R
  refine ex_up (fun _ k => ev_dup dX10_init_397 k) ?_
  refine ex_up (fun _ k => ev_bipush (v := (56 : Int32)) dX10_init_398 (by decide) k) ?_
  refine ex_up (fun _ k => ev_bipush (v := (97 : Int32)) dX10_init_400 (by decide) k) ?_
  refine en_iast R 8 rfl dX10_init_402 (by decide) (fun τ R => ?_)
  have R : rg σ a 13497 ([(9, 0, fun _ => 0, ev_u1 (ev_u1 (ev_u1 (ev_u1 (ev_u1 (ev_u1 (ev_u1 (fun _ => none) 1 (some (a + 1))) 2 (some (a + 2))) 3 (some (a + 3))) 4 (some (a + 4))) 5 (some (a + 5))) 6 (some (a + 6))) 7 (some (a + 7))), nc 100 6010, nc 100 6010, nc 100 5, nc 100 1000, nc 100 7, nc 100 5, nc 100 400, (100, 60, ev_u1 (ev_u1 (ev_u1 (ev_u1 (ev_u1 (ev_u1 (ev_u1 (ev_u1 (ev_u1 (ev_u1 (ev_u1 (ev_u1 (ev_u1 (ev_u1 (ev_u1 (ev_u1 (ev_u1 (ev_u1 (ev_u1 (ev_u1 (ev_u1 (ev_u1 (ev_u1 (ev_u1 (ev_u1 (ev_u1 (ev_u1 (ev_u1 (ev_u1 (ev_u1 (ev_u1 (ev_u1 (ev_u1 (ev_u1 (ev_u1 (ev_u1 (ev_u1 (ev_u1 (ev_u1 (ev_u1 (ev_u1 (ev_u1 (ev_u1 (ev_u1 (ev_u1 (ev_u1 (ev_u1 (ev_u1 (ev_u1 (ev_u1 (ev_u1 (ev_u1 (ev_u1 (ev_u1 (ev_u1 (ev_u1 (ev_u1 (fun _ => 0) 0 (32 : Int32)) 1 (112 : Int32)) 2 (114 : Int32)) 3 (111 : Int32)) 4 (112 : Int32)) 5 (111 : Int32)) 6 (115 : Int32)) 7 (101 : Int32)) 8 (32 : Int32)) 9 (100 : Int32)) 10 (101 : Int32)) 11 (108 : Int32)) 12 (105 : Int32)) 13 (118 : Int32)) 14 (101 : Int32)) 15 (114 : Int32)) 16 (32 : Int32)) 17 (100 : Int32)) 18 (114 : Int32)) 19 (111 : Int32)) 20 (112 : Int32)) 21 (32 : Int32)) 22 (108 : Int32)) 23 (111 : Int32)) 24 (115 : Int32)) 25 (101 : Int32)) 26 (32 : Int32)) 27 (116 : Int32)) 28 (117 : Int32)) 29 (114 : Int32)) 30 (110 : Int32)) 31 (32 : Int32)) 32 (116 : Int32)) 33 (105 : Int32)) 34 (109 : Int32)) 35 (101 : Int32)) 36 (111 : Int32)) 37 (117 : Int32)) 38 (116 : Int32)) 39 (32 : Int32)) 40 (108 : Int32)) 41 (105 : Int32)) 42 (101 : Int32)) 43 (32 : Int32)) 44 (109 : Int32)) 45 (97 : Int32)) 46 (114 : Int32)) 47 (107 : Int32)) 48 (32 : Int32)) 49 (98 : Int32)) 50 (108 : Int32)) 51 (111 : Int32)) 52 (99 : Int32)) 53 (107 : Int32)) 54 (32 : Int32)) 55 (99 : Int32)) 56 (97 : Int32), fun _ => none)]) τ := R
  refine ex_up (fun _ k => ev_dup dX10_init_403 k) ?_
  refine ex_up (fun _ k => ev_bipush (v := (57 : Int32)) dX10_init_404 (by decide) k) ?_
  refine ex_up (fun _ k => ev_bipush (v := (108 : Int32)) dX10_init_406 (by decide) k) ?_
  refine en_iast R 8 rfl dX10_init_408 (by decide) (fun τ R => ?_)
  have R : rg σ a 13497 ([(9, 0, fun _ => 0, ev_u1 (ev_u1 (ev_u1 (ev_u1 (ev_u1 (ev_u1 (ev_u1 (fun _ => none) 1 (some (a + 1))) 2 (some (a + 2))) 3 (some (a + 3))) 4 (some (a + 4))) 5 (some (a + 5))) 6 (some (a + 6))) 7 (some (a + 7))), nc 100 6010, nc 100 6010, nc 100 5, nc 100 1000, nc 100 7, nc 100 5, nc 100 400, (100, 60, ev_u1 (ev_u1 (ev_u1 (ev_u1 (ev_u1 (ev_u1 (ev_u1 (ev_u1 (ev_u1 (ev_u1 (ev_u1 (ev_u1 (ev_u1 (ev_u1 (ev_u1 (ev_u1 (ev_u1 (ev_u1 (ev_u1 (ev_u1 (ev_u1 (ev_u1 (ev_u1 (ev_u1 (ev_u1 (ev_u1 (ev_u1 (ev_u1 (ev_u1 (ev_u1 (ev_u1 (ev_u1 (ev_u1 (ev_u1 (ev_u1 (ev_u1 (ev_u1 (ev_u1 (ev_u1 (ev_u1 (ev_u1 (ev_u1 (ev_u1 (ev_u1 (ev_u1 (ev_u1 (ev_u1 (ev_u1 (ev_u1 (ev_u1 (ev_u1 (ev_u1 (ev_u1 (ev_u1 (ev_u1 (ev_u1 (ev_u1 (ev_u1 (fun _ => 0) 0 (32 : Int32)) 1 (112 : Int32)) 2 (114 : Int32)) 3 (111 : Int32)) 4 (112 : Int32)) 5 (111 : Int32)) 6 (115 : Int32)) 7 (101 : Int32)) 8 (32 : Int32)) 9 (100 : Int32)) 10 (101 : Int32)) 11 (108 : Int32)) 12 (105 : Int32)) 13 (118 : Int32)) 14 (101 : Int32)) 15 (114 : Int32)) 16 (32 : Int32)) 17 (100 : Int32)) 18 (114 : Int32)) 19 (111 : Int32)) 20 (112 : Int32)) 21 (32 : Int32)) 22 (108 : Int32)) 23 (111 : Int32)) 24 (115 : Int32)) 25 (101 : Int32)) 26 (32 : Int32)) 27 (116 : Int32)) 28 (117 : Int32)) 29 (114 : Int32)) 30 (110 : Int32)) 31 (32 : Int32)) 32 (116 : Int32)) 33 (105 : Int32)) 34 (109 : Int32)) 35 (101 : Int32)) 36 (111 : Int32)) 37 (117 : Int32)) 38 (116 : Int32)) 39 (32 : Int32)) 40 (108 : Int32)) 41 (105 : Int32)) 42 (101 : Int32)) 43 (32 : Int32)) 44 (109 : Int32)) 45 (97 : Int32)) 46 (114 : Int32)) 47 (107 : Int32)) 48 (32 : Int32)) 49 (98 : Int32)) 50 (108 : Int32)) 51 (111 : Int32)) 52 (99 : Int32)) 53 (107 : Int32)) 54 (32 : Int32)) 55 (99 : Int32)) 56 (97 : Int32)) 57 (108 : Int32), fun _ => none)]) τ := R
  refine ex_up (fun _ k => ev_dup dX10_init_409 k) ?_
  refine ex_up (fun _ k => ev_bipush (v := (58 : Int32)) dX10_init_410 (by decide) k) ?_
  refine ex_up (fun _ k => ev_bipush (v := (109 : Int32)) dX10_init_412 (by decide) k) ?_
  refine en_iast R 8 rfl dX10_init_414 (by decide) (fun τ R => ?_)
  have R : rg σ a 13497 ([(9, 0, fun _ => 0, ev_u1 (ev_u1 (ev_u1 (ev_u1 (ev_u1 (ev_u1 (ev_u1 (fun _ => none) 1 (some (a + 1))) 2 (some (a + 2))) 3 (some (a + 3))) 4 (some (a + 4))) 5 (some (a + 5))) 6 (some (a + 6))) 7 (some (a + 7))), nc 100 6010, nc 100 6010, nc 100 5, nc 100 1000, nc 100 7, nc 100 5, nc 100 400, (100, 60, ev_u1 (ev_u1 (ev_u1 (ev_u1 (ev_u1 (ev_u1 (ev_u1 (ev_u1 (ev_u1 (ev_u1 (ev_u1 (ev_u1 (ev_u1 (ev_u1 (ev_u1 (ev_u1 (ev_u1 (ev_u1 (ev_u1 (ev_u1 (ev_u1 (ev_u1 (ev_u1 (ev_u1 (ev_u1 (ev_u1 (ev_u1 (ev_u1 (ev_u1 (ev_u1 (ev_u1 (ev_u1 (ev_u1 (ev_u1 (ev_u1 (ev_u1 (ev_u1 (ev_u1 (ev_u1 (ev_u1 (ev_u1 (ev_u1 (ev_u1 (ev_u1 (ev_u1 (ev_u1 (ev_u1 (ev_u1 (ev_u1 (ev_u1 (ev_u1 (ev_u1 (ev_u1 (ev_u1 (ev_u1 (ev_u1 (ev_u1 (ev_u1 (ev_u1 (fun _ => 0) 0 (32 : Int32)) 1 (112 : Int32)) 2 (114 : Int32)) 3 (111 : Int32)) 4 (112 : Int32)) 5 (111 : Int32)) 6 (115 : Int32)) 7 (101 : Int32)) 8 (32 : Int32)) 9 (100 : Int32)) 10 (101 : Int32)) 11 (108 : Int32)) 12 (105 : Int32)) 13 (118 : Int32)) 14 (101 : Int32)) 15 (114 : Int32)) 16 (32 : Int32)) 17 (100 : Int32)) 18 (114 : Int32)) 19 (111 : Int32)) 20 (112 : Int32)) 21 (32 : Int32)) 22 (108 : Int32)) 23 (111 : Int32)) 24 (115 : Int32)) 25 (101 : Int32)) 26 (32 : Int32)) 27 (116 : Int32)) 28 (117 : Int32)) 29 (114 : Int32)) 30 (110 : Int32)) 31 (32 : Int32)) 32 (116 : Int32)) 33 (105 : Int32)) 34 (109 : Int32)) 35 (101 : Int32)) 36 (111 : Int32)) 37 (117 : Int32)) 38 (116 : Int32)) 39 (32 : Int32)) 40 (108 : Int32)) 41 (105 : Int32)) 42 (101 : Int32)) 43 (32 : Int32)) 44 (109 : Int32)) 45 (97 : Int32)) 46 (114 : Int32)) 47 (107 : Int32)) 48 (32 : Int32)) 49 (98 : Int32)) 50 (108 : Int32)) 51 (111 : Int32)) 52 (99 : Int32)) 53 (107 : Int32)) 54 (32 : Int32)) 55 (99 : Int32)) 56 (97 : Int32)) 57 (108 : Int32)) 58 (109 : Int32), fun _ => none)]) τ := R
  refine ex_up (fun _ k => ev_dup dX10_init_415 k) ?_
  refine ex_up (fun _ k => ev_bipush (v := (59 : Int32)) dX10_init_416 (by decide) k) ?_
  refine ex_up (fun _ k => ev_bipush (v := (32 : Int32)) dX10_init_418 (by decide) k) ?_
  refine en_iast R 8 rfl dX10_init_420 (by decide) (fun τ R => ?_)
  have R : rg σ a 13497 ([(9, 0, fun _ => 0, ev_u1 (ev_u1 (ev_u1 (ev_u1 (ev_u1 (ev_u1 (ev_u1 (fun _ => none) 1 (some (a + 1))) 2 (some (a + 2))) 3 (some (a + 3))) 4 (some (a + 4))) 5 (some (a + 5))) 6 (some (a + 6))) 7 (some (a + 7))), nc 100 6010, nc 100 6010, nc 100 5, nc 100 1000, nc 100 7, nc 100 5, nc 100 400, (100, 60, ev_u1 (ev_u1 (ev_u1 (ev_u1 (ev_u1 (ev_u1 (ev_u1 (ev_u1 (ev_u1 (ev_u1 (ev_u1 (ev_u1 (ev_u1 (ev_u1 (ev_u1 (ev_u1 (ev_u1 (ev_u1 (ev_u1 (ev_u1 (ev_u1 (ev_u1 (ev_u1 (ev_u1 (ev_u1 (ev_u1 (ev_u1 (ev_u1 (ev_u1 (ev_u1 (ev_u1 (ev_u1 (ev_u1 (ev_u1 (ev_u1 (ev_u1 (ev_u1 (ev_u1 (ev_u1 (ev_u1 (ev_u1 (ev_u1 (ev_u1 (ev_u1 (ev_u1 (ev_u1 (ev_u1 (ev_u1 (ev_u1 (ev_u1 (ev_u1 (ev_u1 (ev_u1 (ev_u1 (ev_u1 (ev_u1 (ev_u1 (ev_u1 (ev_u1 (ev_u1 (fun _ => 0) 0 (32 : Int32)) 1 (112 : Int32)) 2 (114 : Int32)) 3 (111 : Int32)) 4 (112 : Int32)) 5 (111 : Int32)) 6 (115 : Int32)) 7 (101 : Int32)) 8 (32 : Int32)) 9 (100 : Int32)) 10 (101 : Int32)) 11 (108 : Int32)) 12 (105 : Int32)) 13 (118 : Int32)) 14 (101 : Int32)) 15 (114 : Int32)) 16 (32 : Int32)) 17 (100 : Int32)) 18 (114 : Int32)) 19 (111 : Int32)) 20 (112 : Int32)) 21 (32 : Int32)) 22 (108 : Int32)) 23 (111 : Int32)) 24 (115 : Int32)) 25 (101 : Int32)) 26 (32 : Int32)) 27 (116 : Int32)) 28 (117 : Int32)) 29 (114 : Int32)) 30 (110 : Int32)) 31 (32 : Int32)) 32 (116 : Int32)) 33 (105 : Int32)) 34 (109 : Int32)) 35 (101 : Int32)) 36 (111 : Int32)) 37 (117 : Int32)) 38 (116 : Int32)) 39 (32 : Int32)) 40 (108 : Int32)) 41 (105 : Int32)) 42 (101 : Int32)) 43 (32 : Int32)) 44 (109 : Int32)) 45 (97 : Int32)) 46 (114 : Int32)) 47 (107 : Int32)) 48 (32 : Int32)) 49 (98 : Int32)) 50 (108 : Int32)) 51 (111 : Int32)) 52 (99 : Int32)) 53 (107 : Int32)) 54 (32 : Int32)) 55 (99 : Int32)) 56 (97 : Int32)) 57 (108 : Int32)) 58 (109 : Int32)) 59 (32 : Int32), fun _ => none)]) τ := R
  refine en_putr R 0 rfl dX10_init_421 fX10_31 rfl (Or.inr ⟨rfl, rfl⟩) (Or.inr ⟨_, rfl⟩) (fun τ R => ?_)
  have R : rg σ a 13497 ([(9, 0, fun _ => 0, ev_u1 (ev_u1 (ev_u1 (ev_u1 (ev_u1 (ev_u1 (ev_u1 (ev_u1 (fun _ => none) 1 (some (a + 1))) 2 (some (a + 2))) 3 (some (a + 3))) 4 (some (a + 4))) 5 (some (a + 5))) 6 (some (a + 6))) 7 (some (a + 7))) 13 (some (a + 8))), nc 100 6010, nc 100 6010, nc 100 5, nc 100 1000, nc 100 7, nc 100 5, nc 100 400, (100, 60, ev_u1 (ev_u1 (ev_u1 (ev_u1 (ev_u1 (ev_u1 (ev_u1 (ev_u1 (ev_u1 (ev_u1 (ev_u1 (ev_u1 (ev_u1 (ev_u1 (ev_u1 (ev_u1 (ev_u1 (ev_u1 (ev_u1 (ev_u1 (ev_u1 (ev_u1 (ev_u1 (ev_u1 (ev_u1 (ev_u1 (ev_u1 (ev_u1 (ev_u1 (ev_u1 (ev_u1 (ev_u1 (ev_u1 (ev_u1 (ev_u1 (ev_u1 (ev_u1 (ev_u1 (ev_u1 (ev_u1 (ev_u1 (ev_u1 (ev_u1 (ev_u1 (ev_u1 (ev_u1 (ev_u1 (ev_u1 (ev_u1 (ev_u1 (ev_u1 (ev_u1 (ev_u1 (ev_u1 (ev_u1 (ev_u1 (ev_u1 (ev_u1 (ev_u1 (ev_u1 (fun _ => 0) 0 (32 : Int32)) 1 (112 : Int32)) 2 (114 : Int32)) 3 (111 : Int32)) 4 (112 : Int32)) 5 (111 : Int32)) 6 (115 : Int32)) 7 (101 : Int32)) 8 (32 : Int32)) 9 (100 : Int32)) 10 (101 : Int32)) 11 (108 : Int32)) 12 (105 : Int32)) 13 (118 : Int32)) 14 (101 : Int32)) 15 (114 : Int32)) 16 (32 : Int32)) 17 (100 : Int32)) 18 (114 : Int32)) 19 (111 : Int32)) 20 (112 : Int32)) 21 (32 : Int32)) 22 (108 : Int32)) 23 (111 : Int32)) 24 (115 : Int32)) 25 (101 : Int32)) 26 (32 : Int32)) 27 (116 : Int32)) 28 (117 : Int32)) 29 (114 : Int32)) 30 (110 : Int32)) 31 (32 : Int32)) 32 (116 : Int32)) 33 (105 : Int32)) 34 (109 : Int32)) 35 (101 : Int32)) 36 (111 : Int32)) 37 (117 : Int32)) 38 (116 : Int32)) 39 (32 : Int32)) 40 (108 : Int32)) 41 (105 : Int32)) 42 (101 : Int32)) 43 (32 : Int32)) 44 (109 : Int32)) 45 (97 : Int32)) 46 (114 : Int32)) 47 (107 : Int32)) 48 (32 : Int32)) 49 (98 : Int32)) 50 (108 : Int32)) 51 (111 : Int32)) 52 (99 : Int32)) 53 (107 : Int32)) 54 (32 : Int32)) 55 (99 : Int32)) 56 (97 : Int32)) 57 (108 : Int32)) 58 (109 : Int32)) 59 (32 : Int32), fun _ => none)]) τ := R
  refine ex_up (fun _ k => ev_aload_n dX10_init_424 rfl (fun _ e => by cases e) k) ?_
  refine ex_up (fun _ k => ev_iconst (v := (-1 : Int32)) dX10_init_425 (by decide) k) ?_
  refine en_puti R 0 rfl dX10_init_426 fX10_34 rfl (Or.inl rfl) rfl rfl (fun τ R => ?_)
  have R : rg σ a 13497 ([(9, 0, ev_u1 (fun _ => 0) 17 (-1 : Int32), ev_u1 (ev_u1 (ev_u1 (ev_u1 (ev_u1 (ev_u1 (ev_u1 (ev_u1 (fun _ => none) 1 (some (a + 1))) 2 (some (a + 2))) 3 (some (a + 3))) 4 (some (a + 4))) 5 (some (a + 5))) 6 (some (a + 6))) 7 (some (a + 7))) 13 (some (a + 8))), nc 100 6010, nc 100 6010, nc 100 5, nc 100 1000, nc 100 7, nc 100 5, nc 100 400, (100, 60, ev_u1 (ev_u1 (ev_u1 (ev_u1 (ev_u1 (ev_u1 (ev_u1 (ev_u1 (ev_u1 (ev_u1 (ev_u1 (ev_u1 (ev_u1 (ev_u1 (ev_u1 (ev_u1 (ev_u1 (ev_u1 (ev_u1 (ev_u1 (ev_u1 (ev_u1 (ev_u1 (ev_u1 (ev_u1 (ev_u1 (ev_u1 (ev_u1 (ev_u1 (ev_u1 (ev_u1 (ev_u1 (ev_u1 (ev_u1 (ev_u1 (ev_u1 (ev_u1 (ev_u1 (ev_u1 (ev_u1 (ev_u1 (ev_u1 (ev_u1 (ev_u1 (ev_u1 (ev_u1 (ev_u1 (ev_u1 (ev_u1 (ev_u1 (ev_u1 (ev_u1 (ev_u1 (ev_u1 (ev_u1 (ev_u1 (ev_u1 (ev_u1 (ev_u1 (ev_u1 (fun _ => 0) 0 (32 : Int32)) 1 (112 : Int32)) 2 (114 : Int32)) 3 (111 : Int32)) 4 (112 : Int32)) 5 (111 : Int32)) 6 (115 : Int32)) 7 (101 : Int32)) 8 (32 : Int32)) 9 (100 : Int32)) 10 (101 : Int32)) 11 (108 : Int32)) 12 (105 : Int32)) 13 (118 : Int32)) 14 (101 : Int32)) 15 (114 : Int32)) 16 (32 : Int32)) 17 (100 : Int32)) 18 (114 : Int32)) 19 (111 : Int32)) 20 (112 : Int32)) 21 (32 : Int32)) 22 (108 : Int32)) 23 (111 : Int32)) 24 (115 : Int32)) 25 (101 : Int32)) 26 (32 : Int32)) 27 (116 : Int32)) 28 (117 : Int32)) 29 (114 : Int32)) 30 (110 : Int32)) 31 (32 : Int32)) 32 (116 : Int32)) 33 (105 : Int32)) 34 (109 : Int32)) 35 (101 : Int32)) 36 (111 : Int32)) 37 (117 : Int32)) 38 (116 : Int32)) 39 (32 : Int32)) 40 (108 : Int32)) 41 (105 : Int32)) 42 (101 : Int32)) 43 (32 : Int32)) 44 (109 : Int32)) 45 (97 : Int32)) 46 (114 : Int32)) 47 (107 : Int32)) 48 (32 : Int32)) 49 (98 : Int32)) 50 (108 : Int32)) 51 (111 : Int32)) 52 (99 : Int32)) 53 (107 : Int32)) 54 (32 : Int32)) 55 (99 : Int32)) 56 (97 : Int32)) 57 (108 : Int32)) 58 (109 : Int32)) 59 (32 : Int32), fun _ => none)]) τ := R
  refine ex_up (fun _ k => ev_aload_n dX10_init_429 rfl (fun _ e => by cases e) k) ?_
  refine ex_up (fun _ k => ev_sipush (v := (240 : Int32)) dX10_init_430 (by decide) k) ?_
  refine en_newi (z := 240) R dX10_init_433 (by decide) (by decide) (Nat.le_of_ble_eq_true rfl) (fun τ R => ?_)
  have R : rg σ a 13737 ([(9, 0, ev_u1 (fun _ => 0) 17 (-1 : Int32), ev_u1 (ev_u1 (ev_u1 (ev_u1 (ev_u1 (ev_u1 (ev_u1 (ev_u1 (fun _ => none) 1 (some (a + 1))) 2 (some (a + 2))) 3 (some (a + 3))) 4 (some (a + 4))) 5 (some (a + 5))) 6 (some (a + 6))) 7 (some (a + 7))) 13 (some (a + 8))), nc 100 6010, nc 100 6010, nc 100 5, nc 100 1000, nc 100 7, nc 100 5, nc 100 400, (100, 60, ev_u1 (ev_u1 (ev_u1 (ev_u1 (ev_u1 (ev_u1 (ev_u1 (ev_u1 (ev_u1 (ev_u1 (ev_u1 (ev_u1 (ev_u1 (ev_u1 (ev_u1 (ev_u1 (ev_u1 (ev_u1 (ev_u1 (ev_u1 (ev_u1 (ev_u1 (ev_u1 (ev_u1 (ev_u1 (ev_u1 (ev_u1 (ev_u1 (ev_u1 (ev_u1 (ev_u1 (ev_u1 (ev_u1 (ev_u1 (ev_u1 (ev_u1 (ev_u1 (ev_u1 (ev_u1 (ev_u1 (ev_u1 (ev_u1 (ev_u1 (ev_u1 (ev_u1 (ev_u1 (ev_u1 (ev_u1 (ev_u1 (ev_u1 (ev_u1 (ev_u1 (ev_u1 (ev_u1 (ev_u1 (ev_u1 (ev_u1 (ev_u1 (ev_u1 (ev_u1 (fun _ => 0) 0 (32 : Int32)) 1 (112 : Int32)) 2 (114 : Int32)) 3 (111 : Int32)) 4 (112 : Int32)) 5 (111 : Int32)) 6 (115 : Int32)) 7 (101 : Int32)) 8 (32 : Int32)) 9 (100 : Int32)) 10 (101 : Int32)) 11 (108 : Int32)) 12 (105 : Int32)) 13 (118 : Int32)) 14 (101 : Int32)) 15 (114 : Int32)) 16 (32 : Int32)) 17 (100 : Int32)) 18 (114 : Int32)) 19 (111 : Int32)) 20 (112 : Int32)) 21 (32 : Int32)) 22 (108 : Int32)) 23 (111 : Int32)) 24 (115 : Int32)) 25 (101 : Int32)) 26 (32 : Int32)) 27 (116 : Int32)) 28 (117 : Int32)) 29 (114 : Int32)) 30 (110 : Int32)) 31 (32 : Int32)) 32 (116 : Int32)) 33 (105 : Int32)) 34 (109 : Int32)) 35 (101 : Int32)) 36 (111 : Int32)) 37 (117 : Int32)) 38 (116 : Int32)) 39 (32 : Int32)) 40 (108 : Int32)) 41 (105 : Int32)) 42 (101 : Int32)) 43 (32 : Int32)) 44 (109 : Int32)) 45 (97 : Int32)) 46 (114 : Int32)) 47 (107 : Int32)) 48 (32 : Int32)) 49 (98 : Int32)) 50 (108 : Int32)) 51 (111 : Int32)) 52 (99 : Int32)) 53 (107 : Int32)) 54 (32 : Int32)) 55 (99 : Int32)) 56 (97 : Int32)) 57 (108 : Int32)) 58 (109 : Int32)) 59 (32 : Int32), fun _ => none), nc 100 240]) τ := R
  show EX _ _ _ _ [.ref (a + 9), .ref a] _ _
  refine en_putr R 0 rfl dX10_init_435 fX10_38 rfl (Or.inr ⟨rfl, rfl⟩) (Or.inr ⟨_, rfl⟩) (fun τ R => ?_)
  have R : rg σ a 13737 ([(9, 0, ev_u1 (fun _ => 0) 17 (-1 : Int32), ev_u1 (ev_u1 (ev_u1 (ev_u1 (ev_u1 (ev_u1 (ev_u1 (ev_u1 (ev_u1 (fun _ => none) 1 (some (a + 1))) 2 (some (a + 2))) 3 (some (a + 3))) 4 (some (a + 4))) 5 (some (a + 5))) 6 (some (a + 6))) 7 (some (a + 7))) 13 (some (a + 8))) 19 (some (a + 9))), nc 100 6010, nc 100 6010, nc 100 5, nc 100 1000, nc 100 7, nc 100 5, nc 100 400, (100, 60, ev_u1 (ev_u1 (ev_u1 (ev_u1 (ev_u1 (ev_u1 (ev_u1 (ev_u1 (ev_u1 (ev_u1 (ev_u1 (ev_u1 (ev_u1 (ev_u1 (ev_u1 (ev_u1 (ev_u1 (ev_u1 (ev_u1 (ev_u1 (ev_u1 (ev_u1 (ev_u1 (ev_u1 (ev_u1 (ev_u1 (ev_u1 (ev_u1 (ev_u1 (ev_u1 (ev_u1 (ev_u1 (ev_u1 (ev_u1 (ev_u1 (ev_u1 (ev_u1 (ev_u1 (ev_u1 (ev_u1 (ev_u1 (ev_u1 (ev_u1 (ev_u1 (ev_u1 (ev_u1 (ev_u1 (ev_u1 (ev_u1 (ev_u1 (ev_u1 (ev_u1 (ev_u1 (ev_u1 (ev_u1 (ev_u1 (ev_u1 (ev_u1 (ev_u1 (ev_u1 (fun _ => 0) 0 (32 : Int32)) 1 (112 : Int32)) 2 (114 : Int32)) 3 (111 : Int32)) 4 (112 : Int32)) 5 (111 : Int32)) 6 (115 : Int32)) 7 (101 : Int32)) 8 (32 : Int32)) 9 (100 : Int32)) 10 (101 : Int32)) 11 (108 : Int32)) 12 (105 : Int32)) 13 (118 : Int32)) 14 (101 : Int32)) 15 (114 : Int32)) 16 (32 : Int32)) 17 (100 : Int32)) 18 (114 : Int32)) 19 (111 : Int32)) 20 (112 : Int32)) 21 (32 : Int32)) 22 (108 : Int32)) 23 (111 : Int32)) 24 (115 : Int32)) 25 (101 : Int32)) 26 (32 : Int32)) 27 (116 : Int32)) 28 (117 : Int32)) 29 (114 : Int32)) 30 (110 : Int32)) 31 (32 : Int32)) 32 (116 : Int32)) 33 (105 : Int32)) 34 (109 : Int32)) 35 (101 : Int32)) 36 (111 : Int32)) 37 (117 : Int32)) 38 (116 : Int32)) 39 (32 : Int32)) 40 (108 : Int32)) 41 (105 : Int32)) 42 (101 : Int32)) 43 (32 : Int32)) 44 (109 : Int32)) 45 (97 : Int32)) 46 (114 : Int32)) 47 (107 : Int32)) 48 (32 : Int32)) 49 (98 : Int32)) 50 (108 : Int32)) 51 (111 : Int32)) 52 (99 : Int32)) 53 (107 : Int32)) 54 (32 : Int32)) 55 (99 : Int32)) 56 (97 : Int32)) 57 (108 : Int32)) 58 (109 : Int32)) 59 (32 : Int32), fun _ => none), nc 100 240]) τ := R
  refine ex_up (fun _ k => ev_aload_n dX10_init_438 rfl (fun _ e => by cases e) k) ?_
  refine ex_up (fun _ k => ev_sipush (v := (6131 : Int32)) dX10_init_439 (by decide) k) ?_
  refine en_newi (z := 6131) R dX10_init_442 (by decide) (by decide) (Nat.le_of_ble_eq_true rfl) (fun τ R => ?_)
  have R : rg σ a 19868 ([(9, 0, ev_u1 (fun _ => 0) 17 (-1 : Int32), ev_u1 (ev_u1 (ev_u1 (ev_u1 (ev_u1 (ev_u1 (ev_u1 (ev_u1 (ev_u1 (fun _ => none) 1 (some (a + 1))) 2 (some (a + 2))) 3 (some (a + 3))) 4 (some (a + 4))) 5 (some (a + 5))) 6 (some (a + 6))) 7 (some (a + 7))) 13 (some (a + 8))) 19 (some (a + 9))), nc 100 6010, nc 100 6010, nc 100 5, nc 100 1000, nc 100 7, nc 100 5, nc 100 400, (100, 60, ev_u1 (ev_u1 (ev_u1 (ev_u1 (ev_u1 (ev_u1 (ev_u1 (ev_u1 (ev_u1 (ev_u1 (ev_u1 (ev_u1 (ev_u1 (ev_u1 (ev_u1 (ev_u1 (ev_u1 (ev_u1 (ev_u1 (ev_u1 (ev_u1 (ev_u1 (ev_u1 (ev_u1 (ev_u1 (ev_u1 (ev_u1 (ev_u1 (ev_u1 (ev_u1 (ev_u1 (ev_u1 (ev_u1 (ev_u1 (ev_u1 (ev_u1 (ev_u1 (ev_u1 (ev_u1 (ev_u1 (ev_u1 (ev_u1 (ev_u1 (ev_u1 (ev_u1 (ev_u1 (ev_u1 (ev_u1 (ev_u1 (ev_u1 (ev_u1 (ev_u1 (ev_u1 (ev_u1 (ev_u1 (ev_u1 (ev_u1 (ev_u1 (ev_u1 (ev_u1 (fun _ => 0) 0 (32 : Int32)) 1 (112 : Int32)) 2 (114 : Int32)) 3 (111 : Int32)) 4 (112 : Int32)) 5 (111 : Int32)) 6 (115 : Int32)) 7 (101 : Int32)) 8 (32 : Int32)) 9 (100 : Int32)) 10 (101 : Int32)) 11 (108 : Int32)) 12 (105 : Int32)) 13 (118 : Int32)) 14 (101 : Int32)) 15 (114 : Int32)) 16 (32 : Int32)) 17 (100 : Int32)) 18 (114 : Int32)) 19 (111 : Int32)) 20 (112 : Int32)) 21 (32 : Int32)) 22 (108 : Int32)) 23 (111 : Int32)) 24 (115 : Int32)) 25 (101 : Int32)) 26 (32 : Int32)) 27 (116 : Int32)) 28 (117 : Int32)) 29 (114 : Int32)) 30 (110 : Int32)) 31 (32 : Int32)) 32 (116 : Int32)) 33 (105 : Int32)) 34 (109 : Int32)) 35 (101 : Int32)) 36 (111 : Int32)) 37 (117 : Int32)) 38 (116 : Int32)) 39 (32 : Int32)) 40 (108 : Int32)) 41 (105 : Int32)) 42 (101 : Int32)) 43 (32 : Int32)) 44 (109 : Int32)) 45 (97 : Int32)) 46 (114 : Int32)) 47 (107 : Int32)) 48 (32 : Int32)) 49 (98 : Int32)) 50 (108 : Int32)) 51 (111 : Int32)) 52 (99 : Int32)) 53 (107 : Int32)) 54 (32 : Int32)) 55 (99 : Int32)) 56 (97 : Int32)) 57 (108 : Int32)) 58 (109 : Int32)) 59 (32 : Int32), fun _ => none), nc 100 240, nc 100 6131]) τ := R
  show EX _ _ _ _ [.ref (a + 10), .ref a] _ _
  refine en_putr R 0 rfl dX10_init_444 fX10_41 rfl (Or.inr ⟨rfl, rfl⟩) (Or.inr ⟨_, rfl⟩) (fun τ R => ?_)
  have R : rg σ a 19868 ([(9, 0, ev_u1 (fun _ => 0) 17 (-1 : Int32), ev_u1 (ev_u1 (ev_u1 (ev_u1 (ev_u1 (ev_u1 (ev_u1 (ev_u1 (ev_u1 (ev_u1 (fun _ => none) 1 (some (a + 1))) 2 (some (a + 2))) 3 (some (a + 3))) 4 (some (a + 4))) 5 (some (a + 5))) 6 (some (a + 6))) 7 (some (a + 7))) 13 (some (a + 8))) 19 (some (a + 9))) 21 (some (a + 10))), nc 100 6010, nc 100 6010, nc 100 5, nc 100 1000, nc 100 7, nc 100 5, nc 100 400, (100, 60, ev_u1 (ev_u1 (ev_u1 (ev_u1 (ev_u1 (ev_u1 (ev_u1 (ev_u1 (ev_u1 (ev_u1 (ev_u1 (ev_u1 (ev_u1 (ev_u1 (ev_u1 (ev_u1 (ev_u1 (ev_u1 (ev_u1 (ev_u1 (ev_u1 (ev_u1 (ev_u1 (ev_u1 (ev_u1 (ev_u1 (ev_u1 (ev_u1 (ev_u1 (ev_u1 (ev_u1 (ev_u1 (ev_u1 (ev_u1 (ev_u1 (ev_u1 (ev_u1 (ev_u1 (ev_u1 (ev_u1 (ev_u1 (ev_u1 (ev_u1 (ev_u1 (ev_u1 (ev_u1 (ev_u1 (ev_u1 (ev_u1 (ev_u1 (ev_u1 (ev_u1 (ev_u1 (ev_u1 (ev_u1 (ev_u1 (ev_u1 (ev_u1 (ev_u1 (ev_u1 (fun _ => 0) 0 (32 : Int32)) 1 (112 : Int32)) 2 (114 : Int32)) 3 (111 : Int32)) 4 (112 : Int32)) 5 (111 : Int32)) 6 (115 : Int32)) 7 (101 : Int32)) 8 (32 : Int32)) 9 (100 : Int32)) 10 (101 : Int32)) 11 (108 : Int32)) 12 (105 : Int32)) 13 (118 : Int32)) 14 (101 : Int32)) 15 (114 : Int32)) 16 (32 : Int32)) 17 (100 : Int32)) 18 (114 : Int32)) 19 (111 : Int32)) 20 (112 : Int32)) 21 (32 : Int32)) 22 (108 : Int32)) 23 (111 : Int32)) 24 (115 : Int32)) 25 (101 : Int32)) 26 (32 : Int32)) 27 (116 : Int32)) 28 (117 : Int32)) 29 (114 : Int32)) 30 (110 : Int32)) 31 (32 : Int32)) 32 (116 : Int32)) 33 (105 : Int32)) 34 (109 : Int32)) 35 (101 : Int32)) 36 (111 : Int32)) 37 (117 : Int32)) 38 (116 : Int32)) 39 (32 : Int32)) 40 (108 : Int32)) 41 (105 : Int32)) 42 (101 : Int32)) 43 (32 : Int32)) 44 (109 : Int32)) 45 (97 : Int32)) 46 (114 : Int32)) 47 (107 : Int32)) 48 (32 : Int32)) 49 (98 : Int32)) 50 (108 : Int32)) 51 (111 : Int32)) 52 (99 : Int32)) 53 (107 : Int32)) 54 (32 : Int32)) 55 (99 : Int32)) 56 (97 : Int32)) 57 (108 : Int32)) 58 (109 : Int32)) 59 (32 : Int32), fun _ => none), nc 100 240, nc 100 6131]) τ := R
  exact ⟨(none, τ), ⟨rfl, R⟩, er_v dX10_init_447 rfl⟩
