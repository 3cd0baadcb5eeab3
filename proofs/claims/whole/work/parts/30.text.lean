/-! TEXT CONSTANTS: String.length and String.charAt over the claim's own texts, by the JDK's bytecode -/
def su (k : Nat) : Value := .double (UInt64.ofNat k)
theorem su_v {E : ev_N} {k : Nat} (hk : k < 19) : ev_v E (su k) = .ref (n_aK E k) := by
  show Value.ref (n_aK E (UInt64.ofNat k).toNat) = _
  rw [UInt64.toNat_ofNat_of_lt' (by show k < 2 ^ 64; omega)]
theorem su_i {k : Nat} : ∀ x, su k ≠ .int x := fun _ h => by cases h
def ev_ch (k j : Nat) : Int32 := (((ev_by.getD k []).getD j 0 &&& 255).toUInt32 % 65536).toInt32
theorem fJ0_9 : Cond.fieldLink RJ0 9 "java/lang/String" "value" "[B" ∈ ev_G := ev_tb 1790 (by decide +kernel) rfl
theorem fJ0_15 : Cond.fieldLink RJ0 15 "java/lang/String" "coder" "B" ∈ ev_G := ev_tb 1791 (by decide +kernel) rfl
theorem fJ0_38 : Cond.fieldLink RJ0 38 "java/lang/String" "COMPACT_STRINGS" "Z" ∈ ev_G := ev_tb 798 (by decide +kernel) rfl
theorem fJ0_1053 : Cond.fieldLink RJ0 1053 "jdk/internal/util/Preconditions" "SIOOBE_FORMATTER" "Ljava/util/function/BiFunction;" ∈ ev_G := ev_tb 814 (by decide +kernel) rfl
section Text
variable {E : ev_N} {X Y : ev_M} {pc idx n k : Nat} {L L' : List (Option Value)} {S rest As : List Value} {σ τ : ev_H} {v : Option Value} {o : Option Value × ev_H}
theorem es_val (hX : m_own X = RJ0) (hd : decode (m_code X) pc = .ok (.getfield 9, 3)) (hk : k < 19) (kk : EV E X (pc + 3) L (.retAddr (n_aV E k) :: rest) σ o) : EV E X pc L (su k :: rest) σ o :=
  ev_pure (fun _ _ _ _ _ _ _ _ _ _ _ _ _ _ _ C _ hS _ _ _ w => by
    have h := C.2.2.2.2.2.2.2.2.2.1.2.2.2.2.1.1 k hk
    rw [List.map_cons, su_v hk]
    exact vk_getf C.1 C.2.1 h.2.2.1 hS C.2.2.2.2.1 (by rw [hX]; exact C.2.2.2.2.2.1 _ fJ0_9) (fun _ h9 => h9) hd w) kk
theorem es_cod (hX : m_own X = RJ0) (hd : decode (m_code X) pc = .ok (.getfield 15, 3)) (hk : k < 19) (kk : EV E X (pc + 3) L (.int 0 :: rest) σ o) : EV E X pc L (su k :: rest) σ o :=
  ev_pure (fun _ _ _ _ _ _ _ _ _ _ _ _ _ _ _ C _ hS _ _ _ w => by
    have h := C.2.2.2.2.2.2.2.2.2.1.2.2.2.2.1.1 k hk
    rw [List.map_cons, su_v hk]
    exact vk_getf C.1 C.2.1 h.2.1 hS C.2.2.2.2.1 (by rw [hX]; exact C.2.2.2.2.2.1 _ fJ0_15) (fun _ h9 => h9) hd w) kk
theorem es_alen (hd : decode (m_code X) pc = .ok (.arraylength, 1)) (hk : k < 19) (kk : EV E X (pc + 1) L (.int (nI (ev_ln.getD k 0)) :: rest) σ o) : EV E X pc L (.retAddr (n_aV E k) :: rest) σ o :=
  ev_pure (fun _ _ _ _ _ _ _ _ _ _ _ _ _ _ _ C _ hS _ _ _ w => va_tlen C.1 C.2.1 (C.2.2.2.2.2.2.2.2.2.1.2.2.2.2.1.1 k hk).2.2.2 hS rfl hd w) kk
theorem es_ald {i : Int32} (hd : decode (m_code X) pc = .ok (.baload, 1)) (hk : k < 19) (hi : vp_in i (ev_ln.getD k 0)) (kk : EV E X (pc + 1) L (.int ((ev_by.getD k []).getD i.toNatClampNeg 0) :: rest) σ o) : EV E X pc L (.int i :: .retAddr (n_aV E k) :: rest) σ o :=
  ev_pure (fun _ _ _ _ _ _ _ _ _ _ _ _ _ _ _ C _ hS _ _ _ w => va_tb C.1 C.2.1 (C.2.2.2.2.2.2.2.2.2.1.2.2.2.2.1.1 k hk).2.2.2 hS hi rfl hd w) kk
theorem es_cs (hX : m_own X = RJ0) (hd : decode (m_code X) pc = .ok (.getstatic 38, 3)) (kk : EV E X (pc + 3) L (.int 1 :: rest) σ o) : EV E X pc L rest σ o :=
  ev_pure (fun _ _ _ _ _ _ _ _ _ _ _ _ _ _ _ C _ hS _ _ _ w => va_gets C.1 C.2.1 C.2.2.2.2.2.2.2.2.2.1.2.2.2.2.2.1 hS C.2.2.2.2.1 (by rw [hX]; exact C.2.2.2.2.2.1 _ fJ0_38) (fun _ h9 => h9) hd w) kk
theorem es_fm (hX : m_own X = RJ0) (hd : decode (m_code X) pc = .ok (.getstatic 1053, 3)) (kk : ∀ v : Value, (∀ x, v ≠ .int x) → EV E X (pc + 3) L (v :: rest) σ o) : EV E X pc L rest σ o := by
  refine ⟨(kk .null (fun _ h => by cases h)).1, ?_⟩
  intro p e R s m args below meth c Q n0 s0 C hb hret H locs ls hR hS hL
  rcases C.2.2.2.2.2.2.2.2.2.1.2.2.2.2.2.2 with hz | ⟨t, hz⟩
  · exact va_gets C.1 C.2.1 hz hS C.2.2.2.2.1 (by rw [hX]; exact C.2.2.2.2.2.1 _ fJ0_1053) (fun _ h9 => h9) hd ((kk .null (fun _ h => by cases h)).2 p e R s m args below meth c Q n0 s0 C hb hret H locs ls hR hS hL)
  · exact va_gets C.1 C.2.1 hz hS C.2.2.2.2.1 (by rw [hX]; exact C.2.2.2.2.2.1 _ fJ0_1053) (fun _ h9 => h9) hd ((kk (.retAddr t) (fun _ h => by cases h)).2 p e R s m args below meth c Q n0 s0 C hb hret H locs ls hR hS hL)
theorem ev_i2c {x : Int32} (hd : decode (m_code X) pc = .ok (.i2c, 1)) (kk : EV E X (pc + 1) L (.int (x.toUInt32 % 65536).toInt32 :: rest) σ o) : EV E X pc L (.int x :: rest) σ o :=
  ev_pure (fun _ _ _ _ _ _ _ _ _ _ _ _ _ _ _ C _ _ _ _ _ w => lv_i2c C.1 C.2.1 hd rfl w) kk
/-- a call on a text constant -/
theorem es_callV (hd : decode (m_code X) pc = .ok (.invokevirtual idx, 3)) (hl : Cond.methodLink (m_own X) idx (m_y Y) ∈ ev_G) (hY : ev_mV Y n) (hO : m_own Y = RJ0) (hfit : m_fr Y + 1 ≤ m_fr X ∧ 8 + (m_loc Y + 11) + m_lw Y ≤ m_lw X) (hk : k < 19) (hn : As.length = n) (hr8 : rest.length ≤ 8)
    (hT : ev_T E Y (su k :: As) σ (v, τ)) (hS : S = As.reverse ++ su k :: rest) (kk : EV E X (pc + 3) L (v.toList ++ rest) τ o) : EV E X pc L S σ o := by
  refine ev_go hT.1 (fun p e R s m args below meth c H locs cells slots ls C hR hS' hL hce hsl => ⟨(Value.ref (n_aK E k) :: As.map (ev_v E)).toArray, ?_⟩) kk
  obtain ⟨hx, hb, hr, hml, hown, hts, hlo, hnm, hK, hX, hfr, hlw⟩ := C
  obtain ⟨hN, hi, hse⟩ := hY
  have hT2 := hT.2
  rw [List.map_cons, su_v hk] at hT2
  refine va_runV (C := m_own Y) (As := As.map (ev_v E)) (b := n_aK E k) ⟨hx, hb, hml, hown, hts⟩ hT2 (cwV n hts (ev_goodG _ (fun w hw => ?_)) rfl rfl rfl ⟨hN.2.2.1, hN.2.2.2.1, hN.2.2.2.2.1, hN.2.2.2.2.2⟩ ⟨by rw [hfr]; exact hfit.1, by rw [hlw]; exact hfit.2⟩) ⟨ev_blind, ?_, fun U hU hW => ⟨rfl, by rw [hU]; exact hR, va_K.moved hW.alike hK, hX.to hS' hU hW⟩⟩ rfl (by rw [List.length_map]; exact hn) hL.1 (by rw [hS]; show List.map _ _ = _; rw [List.map_append, List.map_reverse, List.map_cons, su_v hk]) (by rw [ev_sum]; show 2 * 0 + _ ≤ 8; omega) hd ⟨hce, hsl⟩
  · rcases List.mem_append.mp hw with h | h
    · simp only [List.mem_cons, List.not_mem_nil, or_false] at h
      rcases h with rfl | rfl | rfl | rfl
      · exact hl
      · exact hi
      · exact hse
      · exact hN.2.1
    · exact (ev_goodW hN w h).1
  · rw [hO]
    exact vk_recv hX.2.2.2.2.1 hk hS'
end Text
theorem tJ_coder {E : ev_N} {σ : ev_H} {k : Nat} (hk : k < 19) : ev_T E mJ0_coder_7d493 [su k] σ (some (.int 0), σ) := by
  refine ev_met rfl rfl (Nat.le_of_ble_eq_true rfl) (ev_L0 (L' := [some (su k)]) rfl ?_)
  refine es_cs rfl dJ0_coder_7d493_0 ?_
  refine ev_if_eq (tgt := 13) dJ0_coder_7d493_3 (by decide) (fun c => absurd c (by decide)) (fun c => ?_)
  refine ev_aload_n dJ0_coder_7d493_6 rfl su_i ?_
  refine es_cod rfl dJ0_coder_7d493_7 hk ?_
  refine ev_goto (tgt := 14) dJ0_coder_7d493_10 (by decide) ?_
  exact er_i dJ0_coder_7d493_14 rfl rfl
theorem tJ_isLatin1 {E : ev_N} {σ : ev_H} {k : Nat} (hk : k < 19) : ev_T E mJ0_isLatin1_aae02 [su k] σ (some (.int 1), σ) := by
  refine ev_met rfl rfl (Nat.le_of_ble_eq_true rfl) (ev_L0 (L' := [some (su k)]) rfl ?_)
  refine es_cs rfl dJ0_isLatin1_aae02_0 ?_
  refine ev_if_eq (tgt := 17) dJ0_isLatin1_aae02_3 (by decide) (fun c => absurd c (by decide)) (fun c => ?_)
  refine ev_aload_n dJ0_isLatin1_aae02_6 rfl su_i ?_
  refine es_cod rfl dJ0_isLatin1_aae02_7 hk ?_
  refine ev_if_ne (tgt := 17) dJ0_isLatin1_aae02_10 (by decide) (fun c => absurd rfl c) (fun c => ?_)
  refine ev_iconst (v := (1 : Int32)) dJ0_isLatin1_aae02_13 (by decide) ?_
  refine ev_goto (tgt := 18) dJ0_isLatin1_aae02_14 (by decide) ?_
  exact er_i dJ0_isLatin1_aae02_18 rfl rfl
theorem ev_lnB : ∀ k, k < 19 → ev_ln.getD k 0 < 10 := by decide
theorem tJ_length {E : ev_N} {σ : ev_H} {k : Nat} (hk : k < 19) : ev_T E mJ0_length_8abf5 [su k] σ (some (.int (nI (ev_ln.getD k 0))), σ) := by
  refine ev_met rfl rfl (Nat.le_of_ble_eq_true rfl) (ev_L0 (L' := [some (su k)]) rfl ?_)
  refine ev_aload_n dJ0_length_8abf5_0 rfl su_i ?_
  refine es_val rfl dJ0_length_8abf5_1 hk ?_
  refine es_alen dJ0_length_8abf5_4 hk ?_
  refine ev_aload_n dJ0_length_8abf5_5 rfl su_i ?_
  refine es_callV (Y := mJ0_coder_7d493) (As := []) (rest := [.int (nI (ev_ln.getD k 0))]) dJ0_length_8abf5_6 kJ0_335 oJ0_coder_7d493 rfl ⟨Nat.le_of_ble_eq_true rfl, Nat.le_of_ble_eq_true rfl⟩ hk rfl (Nat.le_of_ble_eq_true rfl) (tJ_coder hk) rfl ?_
  show EV _ _ _ _ [.int 0, .int (nI (ev_ln.getD k 0))] _ _
  refine ev_ishr dJ0_length_8abf5_9 ?_
  rw [sc_shr0 (Nat.lt_trans (ev_lnB k hk) (by decide))]
  exact er_i dJ0_length_8abf5_10 rfl rfl
theorem tJ_check3 {E : ev_N} {σ : ev_H} {i n : Int32} {v : Value} (h0 : ¬ i < 0) (h1 : i < n) : ev_T E mJ3_checkIndex_8e157 [.int i, .int n, v] σ (some (.int i), σ) := by
  refine ev_met rfl rfl (Nat.le_of_ble_eq_true rfl) (ev_L0 (L' := [some (.int i), some (.int n), some v]) rfl ?_)
  refine ev_iload_n dJ3_checkIndex_8e157_0 rfl ?_
  refine ev_if_lt (tgt := 9) dJ3_checkIndex_8e157_1 (by decide) (fun c => absurd c h0) (fun c => ?_)
  refine ev_iload_n dJ3_checkIndex_8e157_4 rfl ?_
  refine ev_iload_n dJ3_checkIndex_8e157_5 rfl ?_
  refine ev_icmp_lt (tgt := 16) dJ3_checkIndex_8e157_6 (by decide) (fun c => ?_) (fun c => absurd h1 c)
  refine ev_iload_n dJ3_checkIndex_8e157_16 rfl ?_
  exact er_i dJ3_checkIndex_8e157_17 rfl rfl
theorem tJ_check0 {E : ev_N} {σ : ev_H} {i n : Int32} (h0 : ¬ i < 0) (h1 : i < n) : ev_T E mJ0_checkIndex_df160 [.int i, .int n] σ (none, σ) := by
  refine ev_met rfl rfl (Nat.le_of_ble_eq_true rfl) (ev_L0 (L' := [some (.int i), some (.int n)]) rfl ?_)
  refine ev_iload_n dJ0_checkIndex_df160_0 rfl ?_
  refine ev_iload_n dJ0_checkIndex_df160_1 rfl ?_
  refine es_fm rfl dJ0_checkIndex_df160_2 (fun v hv => ?_)
  refine ec_Si (Y := mJ3_checkIndex_8e157) (As := [.int i, .int n, v]) (rest := []) dJ0_checkIndex_df160_5 kJ0_1059 oJ3_checkIndex_8e157 ⟨Nat.le_of_ble_eq_true rfl, Nat.le_of_ble_eq_true rfl⟩ rfl (Nat.le_of_ble_eq_true rfl) (tJ_check3 h0 h1) rfl ?_
  refine ev_pop dJ0_checkIndex_df160_8 ?_
  exact er_v dJ0_checkIndex_df160_9 rfl
theorem tJ_char1 {E : ev_N} {σ : ev_H} {k : Nat} {i : Int32} (hk : k < 19) (hi : vp_in i (ev_ln.getD k 0)) : ev_T E mJ1_charAt_3b067 [.retAddr (n_aV E k), .int i] σ (some (.int (ev_ch k i.toNatClampNeg)), σ) := by
  have hl := ev_lnB k hk
  have h0 : ¬ i < 0 := fun q => hi (Or.inl q)
  obtain ⟨j, hj, rfl⟩ := vp_in_of hi (by omega)
  refine ev_met rfl rfl (Nat.le_of_ble_eq_true rfl) (ev_L0 (L' := [some (.retAddr (n_aV E k)), some (.int (nI j))]) rfl ?_)
  refine ev_iload_n dJ1_charAt_3b067_0 rfl ?_
  refine ev_aload_n dJ1_charAt_3b067_1 rfl (fun _ e => by cases e) ?_
  refine es_alen dJ1_charAt_3b067_2 hk ?_
  refine ec_Sv (Y := mJ0_checkIndex_df160) (As := [.int (nI j), .int (nI (ev_ln.getD k 0))]) (rest := []) dJ1_charAt_3b067_3 kJ1_9 oJ0_checkIndex_df160 ⟨Nat.le_of_ble_eq_true rfl, Nat.le_of_ble_eq_true rfl⟩ rfl (Nat.le_of_ble_eq_true rfl) (tJ_check0 h0 (nI_lt hj (by omega))) rfl ?_
  refine ev_aload_n dJ1_charAt_3b067_6 rfl (fun _ e => by cases e) ?_
  refine ev_iload_n dJ1_charAt_3b067_7 rfl ?_
  refine es_ald dJ1_charAt_3b067_8 hk hi ?_
  refine ev_sipush (v := (255 : Int32)) dJ1_charAt_3b067_9 (by decide) ?_
  refine ev_iand dJ1_charAt_3b067_12 ?_
  refine ev_i2c dJ1_charAt_3b067_13 ?_
  exact er_i dJ1_charAt_3b067_14 rfl (pk_nc _)
theorem tJ_charAt {E : ev_N} {σ : ev_H} {k : Nat} {i : Int32} (hk : k < 19) (hi : vp_in i (ev_ln.getD k 0)) : ev_T E mJ0_charAt_5068e [su k, .int i] σ (some (.int (ev_ch k i.toNatClampNeg)), σ) := by
  refine ev_met rfl rfl (Nat.le_of_ble_eq_true rfl) (ev_L0 (L' := [some (su k), some (.int i)]) rfl ?_)
  refine ev_aload_n dJ0_charAt_5068e_0 rfl su_i ?_
  refine es_callV (Y := mJ0_isLatin1_aae02) (As := []) (rest := []) dJ0_charAt_5068e_1 kJ0_492 oJ0_isLatin1_aae02 rfl ⟨Nat.le_of_ble_eq_true rfl, Nat.le_of_ble_eq_true rfl⟩ hk rfl (Nat.le_of_ble_eq_true rfl) (tJ_isLatin1 hk) rfl ?_
  show EV _ _ _ _ [.int 1] _ _
  refine ev_if_eq (tgt := 16) dJ0_charAt_5068e_4 (by decide) (fun c => absurd c (by decide)) (fun c => ?_)
  refine ev_aload_n dJ0_charAt_5068e_7 rfl su_i ?_
  refine es_val rfl dJ0_charAt_5068e_8 hk ?_
  refine ev_iload_n dJ0_charAt_5068e_11 rfl ?_
  refine ec_Si (Y := mJ1_charAt_3b067) (As := [.retAddr (n_aV E k), .int i]) (rest := []) dJ0_charAt_5068e_12 kJ0_495 oJ1_charAt_3b067 ⟨Nat.le_of_ble_eq_true rfl, Nat.le_of_ble_eq_true rfl⟩ rfl (Nat.le_of_ble_eq_true rfl) (tJ_char1 hk hi) rfl ?_
  exact er_i dJ0_charAt_5068e_15 rfl (pk_nc _)
section Text2
variable {E : ev_N} {X : ev_M} {pc idx k : Nat} {L : List (Option Value)} {rest : List Value} {σ : ev_H} {I : ev_I} {o : Option Value × ev_H}
theorem es_len (hd : decode (m_code X) pc = .ok (.invokevirtual idx, 3)) (hl : Cond.methodLink (m_own X) idx (m_y mJ0_length_8abf5) ∈ ev_G) (hfit : m_fr mJ0_length_8abf5 + 1 ≤ m_fr X ∧ 8 + (m_loc mJ0_length_8abf5 + 11) + m_lw mJ0_length_8abf5 ≤ m_lw X) (hk : ev_le (k + 1) 19 = true) (hr8 : rest.length ≤ 8) (kk : EV E X (pc + 3) L (.int (nI (ev_ln.getD k 0)) :: rest) (h_w σ I) o) : EV E X pc L (su k :: rest) (h_w σ I) o :=
  es_callV (As := []) (rest := rest) hd hl oJ0_length_8abf5 rfl hfit (ev_leE hk) rfl hr8 (tJ_length (ev_leE hk)) rfl kk
theorem es_chr {i : Int32} (hd : decode (m_code X) pc = .ok (.invokevirtual idx, 3)) (hl : Cond.methodLink (m_own X) idx (m_y mJ0_charAt_5068e) ∈ ev_G) (hfit : m_fr mJ0_charAt_5068e + 1 ≤ m_fr X ∧ 8 + (m_loc mJ0_charAt_5068e + 11) + m_lw mJ0_charAt_5068e ≤ m_lw X) (hk : ev_le (k + 1) 19 = true) (hi : ev_in i (ev_ln.getD k 0) = true) (hr8 : rest.length ≤ 8) (kk : EV E X (pc + 3) L (.int (ev_ch k i.toNatClampNeg) :: rest) (h_w σ I) o) : EV E X pc L (.int i :: su k :: rest) (h_w σ I) o :=
  es_callV (As := [.int i]) (rest := rest) hd hl oJ0_charAt_5068e rfl hfit (ev_leE hk) rfl hr8 (tJ_charAt (ev_leE hk) (ev_inE hi)) rfl kk
theorem es_ldc {i k : Nat} (q : Nat) {tx : String} (hd : decode (m_code X) pc = .ok (.ldc i, 2)) (hX : m_own X = "ChainVotes$Tape") (hq : ev_tx[q]? = some (i, tx, k)) (hk : k < 19) (kk : EV E X (pc + 2) L (su k :: rest) σ o) : EV E X pc L rest σ o := ev_ldcs q hd hX hq (UInt64.ofNat k) (UInt64.toNat_ofNat_of_lt' (by show k < 2 ^ 64; omega)) kk
theorem er_s {v : Value} (hd : decode (m_code X) pc = .ok (.areturn, 1)) (hr : m_ret X = some (.object "java/lang/String")) (hv : ∃ k, v = su k) : EV E X pc L [v] σ (some v, σ) := by
  obtain ⟨k, rfl⟩ := hv
  exact ev_ret (some (su k)) _ hd ⟨⟨_, hr, Or.inl ⟨_, rfl⟩⟩, Or.inr (Or.inr ⟨_, rfl⟩)⟩ rfl
theorem ec_Ss {Y : ev_M} {n r : Nat} {As S : List Value} {τ : ev_H} (hd : decode (m_code X) pc = .ok (.invokestatic idx, 3)) (hl : Cond.methodLink (m_own X) idx (m_y Y) ∈ ev_G) (hY : ev_mS Y n) (hfit : m_fr Y + 1 ≤ m_fr X ∧ 8 + (m_loc Y + 11) + m_lw Y ≤ m_lw X) (hn : As.length = n) (hr8 : rest.length ≤ 8)
    (hT : ev_T E Y As σ (some (su r), τ)) (hS : S = As.reverse ++ rest) (k : EV E X (pc + 3) L (su r :: rest) τ o) : EV E X pc L S σ o := ev_callS hd hl hY hfit hn hr8 hT hS k
end Text2
