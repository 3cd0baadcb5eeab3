/-! MAKING, COPYING, THE LIBRARY'S OWN -/
theorem h_mk_i {σ : ev_H} {t z N : Nat} : h_i (h_mk σ t z N) (h_n σ) = fun _ => 0 := by show ev_u1 _ _ _ _ = _; simp [ev_u1]
theorem h_mk_r {σ : ev_H} {t z N : Nat} : h_r (h_mk σ t z N) (h_n σ) = fun _ => none := by show ev_u1 _ _ _ _ = _; simp [ev_u1]
theorem h_mk_t {σ : ev_H} {t z N : Nat} : h_t (h_mk σ t z N) (h_n σ) = t := by show ev_u1 _ _ _ _ = _; simp [ev_u1]
theorem h_mk_z {σ : ev_H} {t z N : Nat} : h_z (h_mk σ t z N) (h_n σ) = z := by show ev_u1 _ _ _ _ = _; simp [ev_u1]
theorem h_mk_o {σ : ev_H} {t z N k : Nat} (h : k < h_n σ) : h_t (h_mk σ t z N) k = h_t σ k ∧ h_z (h_mk σ t z N) k = h_z σ k ∧ h_i (h_mk σ t z N) k = h_i σ k ∧ h_r (h_mk σ t z N) k = h_r σ k := by
  have hk : ¬ k = h_n σ := by omega
  refine ⟨?_, ?_, ?_, ?_⟩ <;> (show ev_u1 _ _ _ _ = _; simp [ev_u1, hk])
theorem ev_e_mk {E : ev_N} {σ : ev_H} {t z N k : Nat} (h : k < h_n σ) : ev_e E (h_mk σ t z N) k = ev_e E σ k := by
  obtain ⟨h1, h2, h3, h4⟩ := h_mk_o (t := t) (z := z) (N := N) h
  exact ev_e_eq h1 h2 h3 h4
/-- what the defaults are -/
def ev_dv (E : ev_N) (ci : Nat) : Prop := ∀ j, j < k_N ci → defaultValue (k_ty ci j) = vp_V (ev_fl E (ev_kd ci) (fun _ => 0) (fun _ => none)) j
theorem ev_dv_of {E : ev_N} {ci : Nat} (hc : ci < 10) (h : (List.range (k_N ci)).all (fun j => decide (defaultValue (k_ty ci j) = (if (ev_kd ci)[j]? = some true then Value.int 0 else Value.null))) = true) : ev_dv E ci := by
  intro j hj
  have h1 := List.all_eq_true.mp h j (List.mem_range.mpr hj)
  simp only [decide_eq_true_eq] at h1
  rw [h1]
  have hl : j < (ev_kd ci).length := by rw [k_len ci hc]; exact hj
  obtain ⟨b, hb⟩ : ∃ b, (ev_kd ci)[j]? = some b := ⟨_, List.getElem?_eq_getElem hl⟩
  unfold vp_V
  rw [List.getD_eq_getElem?_getD, ev_fl_get hb, hb]
  cases b <;> rfl
theorem ev_dvs (E : ev_N) : ∀ ci, ci < 10 → ev_dv E ci := k_case (ev_dv_of (by decide) (by decide +kernel)) (ev_dv_of (by decide) (by decide +kernel)) (ev_dv_of (by decide) (by decide +kernel)) (ev_dv_of (by decide) (by decide +kernel)) (ev_dv_of (by decide) (by decide +kernel)) (ev_dv_of (by decide) (by decide +kernel)) (ev_dv_of (by decide) (by decide +kernel)) (ev_dv_of (by decide) (by decide +kernel)) (ev_dv_of (by decide) (by decide +kernel)) (ev_dv_of (by decide) (by decide +kernel))
section Make
variable {E : ev_N} {X : ev_M} {pc : Nat} {L : List (Option Value)} {rest : List Value} {σ : ev_H} {o : Option Value × ev_H}
theorem ev_new {idx ci : Nat} (hd : decode (m_code X) pc = .ok (.new idx, 3)) (hc : ci < 10) (h1 : Cond.classLink (m_own X) idx (k_C ci) ∈ ev_G) (h2 : Cond.instantiable (k_C ci) (k_N ci) ∈ ev_G) (h3 : Cond.initialized (k_C ci) ∈ ev_G)
    (kk : EV E X (pc + 3) L (.ref (h_n σ) :: rest) (h_mk σ ci 0 (k_N ci)) o) : EV E X pc L rest σ o :=
  ev_grow (τ := h_mk σ ci 0 (k_N ci)) rfl rfl (fun _ _ _ s _ _ _ _ _ _ H _ _ _ _ C hR hS _ hce hsl w => by
    have hts := C.2.2.2.2.2.1
    have hKn := C.2.2.2.2.2.2.2.2.1.1 ci _ (k_cl ci hc)
    refine W.newcK C.1 C.2.1 C.2.2.2.2.1 (hts _ h1) (hts _ h2) (hts _ h3) rfl hd hce hsl hKn.2.1 rfl fun H1 kC hkC e1 z1 o1 => ?_
    rw [hR.1] at e1
    have := w H1 _ (hR.push z1 o1 rfl (fun k hk => ev_e_mk hk) ?_) ⟨Nat.le_trans hS.1 (by omega), fun x h1 h2 => (o1 x (Nat.lt_of_lt_of_le h1 hS.1)).trans (hS.2.1 x h1 h2), hS.2.2⟩
    · rw [hR.1]; exact this
    · rw [ev_e_o h_mk_t hc, h_mk_i, h_mk_r]
      exact ⟨_, k_cl ci hc, (u_born (k_ty ci) hts (k_in ci hc) hKn hkC e1 (k_tyok ci hc)).to (ev_dvs E ci hc)⟩) kk
theorem ev_newi {n : Int32} (hd : decode (m_code X) pc = .ok (.newarray .int, 2)) (hw : Cond.arrayClass .int ∈ ev_G) (hn : ¬ n < 0) (hz : n.toNatClampNeg ≤ 100000)
    (kk : EV E X (pc + 2) L (.ref (h_n σ) :: rest) (h_mk σ 100 n.toNatClampNeg n.toNatClampNeg) o) : EV E X pc L (.int n :: rest) σ o :=
  ev_grow (τ := h_mk σ 100 n.toNatClampNeg n.toNatClampNeg) rfl rfl (fun _ _ _ s _ _ _ _ _ _ H _ _ _ _ C hR hS _ hce hsl w => by
    have hts := C.2.2.2.2.2.1
    refine va_newaK C.1 C.2.1 (atype := .int) (hts _ hw) rfl hd rfl hn rfl (by show _ * 4 ≤ _; omega) hce hsl hR.1 fun H1 cA e1 z1 o1 hAr hNm => ?_
    have hcA : cA = n_cI E := Option.some.inj (hNm.symm.trans (C.2.2.2.2.2.2.2.2.1.2 0 (n_cI E, .int) rfl).2)
    subst hcA
    refine w H1 _ (hR.push (by rw [z1, hR.1]) (fun q hq => o1 q (by rw [← hR.1]; exact hq)) rfl (fun k hk => ev_e_mk hk) ?_) ⟨Nat.le_trans hS.1 (by rw [hR.1]; omega), fun x h1 h2 => (o1 x (by rw [← hR.1]; exact Nat.lt_of_lt_of_le h1 hS.1)).trans (hS.2.1 x h1 h2), hS.2.2⟩
    rw [ev_e_i h_mk_t, h_mk_i, h_mk_z]
    exact e1) kk
theorem ev_newb {n : Int32} (hd : decode (m_code X) pc = .ok (.newarray .byte, 2)) (hw : Cond.arrayClass .byte ∈ ev_G) (hn : ¬ n < 0) (hz : n.toNatClampNeg ≤ 100000)
    (kk : EV E X (pc + 2) L (.ref (h_n σ) :: rest) (h_mk σ 101 n.toNatClampNeg n.toNatClampNeg) o) : EV E X pc L (.int n :: rest) σ o :=
  ev_grow (τ := h_mk σ 101 n.toNatClampNeg n.toNatClampNeg) rfl rfl (fun _ _ _ s _ _ _ _ _ _ H _ _ _ _ C hR hS _ hce hsl w => by
    have hts := C.2.2.2.2.2.1
    refine va_newaK C.1 C.2.1 (atype := .byte) (hts _ hw) rfl hd rfl hn rfl (by show _ * 1 ≤ _; omega) hce hsl hR.1 fun H1 cA e1 z1 o1 hAr hNm => ?_
    have hcA : cA = n_cB E := Option.some.inj (hNm.symm.trans (C.2.2.2.2.2.2.2.2.1.2 1 (n_cB E, .byte) rfl).2)
    subst hcA
    refine w H1 _ (hR.push (by rw [z1, hR.1]) (fun q hq => o1 q (by rw [← hR.1]; exact hq)) rfl (fun k hk => ev_e_mk hk) ?_) ⟨Nat.le_trans hS.1 (by rw [hR.1]; omega), fun x h1 h2 => (o1 x (by rw [← hR.1]; exact Nat.lt_of_lt_of_le h1 hS.1)).trans (hS.2.1 x h1 h2), hS.2.2⟩
    rw [ev_e_b h_mk_t, h_mk_i, h_mk_z]
    exact e1) kk
theorem ev_newq {n : Int32} {idx : Nat} (hd : decode (m_code X) pc = .ok (.anewarray idx, 3)) (hw : Cond.classLink (m_own X) idx "ChainVotes$Member" ∈ ev_G) (hn : ¬ n < 0) (hz : n.toNatClampNeg ≤ 100000)
    (kk : EV E X (pc + 3) L (.ref (h_n σ) :: rest) (h_mk σ 102 n.toNatClampNeg n.toNatClampNeg) o) : EV E X pc L (.int n :: rest) σ o :=
  ev_grow (τ := h_mk σ 102 n.toNatClampNeg n.toNatClampNeg) rfl rfl (fun _ _ _ s _ _ _ _ _ _ H _ _ _ _ C hR hS _ hce hsl w => by
    have hts := C.2.2.2.2.2.1
    refine W.anew C.1 C.2.1 C.2.2.2.2.1 (hts _ hw) (va_AO.use C.2.2.2.2.2.2.2.2.2.1.2.1) rfl hd rfl hn (by omega) hce hsl fun cA kA comp f1 f2 f3 f4 => ?_
    generalize hH1 : H.push ({ cls := cA, slots := Array.replicate n.toNatClampNeg .null, vm := .none } : Cell) = H1
    have z1 : H1.size = H.size + 1 := by rw [← hH1, Array.size_push]
    have e1 : H1[H.size]? = some (arrV cA n.toNatClampNeg (fun _ => .null)) := by rw [← hH1, Array.getElem?_push_size, ← arrV_new]
    have o1 : ∀ q : Nat, q < H.size → H1[q]? = H[q]? := fun q hq => by rw [← hH1, Array.getElem?_push, if_neg (Nat.ne_of_lt hq)]
    obtain ⟨kA', comp', k1, k2, k3, k4⟩ := (C.2.2.2.2.2.2.2.2.1.2 2 (n_cM E, .object "ChainVotes$Member") rfl).2
    have hcA : cA = n_cM E := Option.some.inj (f1.symm.trans k4)
    subst hcA
    rw [hR.1] at e1
    have := w H1 _ (hR.push z1 o1 rfl (fun k hk => ev_e_mk hk) ?_) ⟨Nat.le_trans hS.1 (by omega), fun x h1 h2 => (o1 x (Nat.lt_of_lt_of_le h1 hS.1)).trans (hS.2.1 x h1 h2), hS.2.2⟩
    · rw [hR.1]; exact this
    · rw [ev_e_q h_mk_t, h_mk_r, h_mk_z]
      exact e1) kk
/-- Object's own maker -/
theorem ev_obj {idx a : Nat} (hd : decode (m_code X) pc = .ok (.invokespecial idx, 3)) (h1 : Cond.methodLink (m_own X) idx objectInit ∈ ev_G) (h2 : Cond.instanceMethod objectInit ∈ ev_G) (h3 : Cond.code objectInit ⟨#[0xb1]⟩ 1 none ∈ ev_G) (hf : 1 ≤ m_fr X) (hl : rest.length + 12 ≤ m_lw X)
    (kk : EV E X (pc + 3) L rest σ o) : EV E X pc L (.ref a :: rest) σ o :=
  ev_pure (fun _ _ R _ _ _ _ _ c _ _ _ _ _ ls C _ _ hL _ _ w => by
    have hts := C.2.2.2.2.2.1
    have hsum : ((rest.map (ev_v E)).map fun v => v.category).sum = rest.length := by
      have : ∀ r : List Value, ((r.map (ev_v E)).map fun v => v.category).sum = r.length := by
        intro r
        induction r with
        | nil => rfl
        | cons a r ih => rw [List.map_cons, List.map_cons, List.sum_cons, ih, ev_v1, List.length_cons]; omega
      exact this rest
    exact W.objInit C.1 C.2.1 C.2.2.2.2.1 (hts _ h1) (hts _ h2) (hts _ h3) rfl (by rw [C.2.2.2.1]; exact hL.1) rfl hd (by rw [C.2.2.2.2.2.2.2.2.2.2.1]; exact hf) (by rw [hsum, C.2.2.2.2.2.2.2.2.2.2.2]; show 2 * 0 + _ + 12 ≤ _; omega) w) kk
theorem ev_sum {E : ev_N} (r : List Value) : ((r.map (ev_v E)).map fun v => v.category).sum = r.length := by
  induction r with
  | nil => rfl
  | cons a r ih => rw [List.map_cons, List.map_cons, List.sum_cons, ih, ev_v1, List.length_cons]; omega
theorem ev_max {idx : Nat} {x y : Int32} (hd : decode (m_code X) pc = .ok (.invokestatic idx, 3)) (h1 : Cond.methodLink (m_own X) idx Lib.Math.max.name ∈ ev_G) (h2 : Cond.static Lib.Math.max.name ∈ ev_G) (h3 : Cond.initialized "java/lang/Math" ∈ ev_G) (h4 : Cond.code Lib.Math.max.name Lib.Math.max.code 2 (some .int) ∈ ev_G) (hf : 1 ≤ m_fr X) (hl : rest.length + 13 ≤ m_lw X)
    (kk : EV E X (pc + 3) L (.int (if x < y then y else x) :: rest) σ o) : EV E X pc L (.int y :: .int x :: rest) σ o :=
  ev_pure (fun _ _ R _ _ _ _ _ c _ _ _ _ _ ls C _ _ hL hce hsl w => by
    have hts := C.2.2.2.2.2.1
    exact va_mmax C.1 C.2.1 (by rw [C.2.2.2.1]; exact hL.1.symm) C.2.2.2.2.1 (hts _ h1) (hts _ h2) (hts _ h3) (hts _ h4) (by rw [C.2.2.2.2.2.2.2.2.2.2.1]; exact hf) (by rw [ev_sum, C.2.2.2.2.2.2.2.2.2.2.2]; exact hl) hce hsl hd w) kk
theorem ev_min {idx : Nat} {x y : Int32} (hd : decode (m_code X) pc = .ok (.invokestatic idx, 3)) (h1 : Cond.methodLink (m_own X) idx Lib.Math.min.name ∈ ev_G) (h2 : Cond.static Lib.Math.min.name ∈ ev_G) (h3 : Cond.initialized "java/lang/Math" ∈ ev_G) (h4 : Cond.code Lib.Math.min.name Lib.Math.min.code 2 (some .int) ∈ ev_G) (hf : 1 ≤ m_fr X) (hl : rest.length + 13 ≤ m_lw X)
    (kk : EV E X (pc + 3) L (.int (if y < x then y else x) :: rest) σ o) : EV E X pc L (.int y :: .int x :: rest) σ o :=
  ev_pure (fun _ _ R _ _ _ _ _ c _ _ _ _ _ ls C _ _ hL hce hsl w => by
    have hts := C.2.2.2.2.2.1
    exact va_mmin C.1 C.2.1 (by rw [C.2.2.2.1]; exact hL.1.symm) C.2.2.2.2.1 (hts _ h1) (hts _ h2) (hts _ h3) (hts _ h4) (by rw [C.2.2.2.2.2.2.2.2.2.2.1]; exact hf) (by rw [ev_sum, C.2.2.2.2.2.2.2.2.2.2.2]; exact hl) hce hsl hd w) kk
/-- System.arraycopy of ints -/
theorem ev_copy {idx a b : Nat} {sp dp n : Int32} (hd : decode (m_code X) pc = .ok (.invokestatic idx, 3)) (h1 : Cond.methodLink (m_own X) idx arraycopyName ∈ ev_G) (h2 : Cond.native arraycopyName ∈ ev_G) (h3 : Cond.static arraycopyName ∈ ev_G) (h4 : Cond.initialized "java/lang/System" ∈ ev_G)
    (ha : a < h_n σ) (hb : b < h_n σ) (hta : h_t σ a = 100) (htb : h_t σ b = 100) (g1 : ¬ sp < 0) (g2 : ¬ dp < 0) (g3 : ¬ n < 0) (g4 : sp.toNatClampNeg + n.toNatClampNeg ≤ h_z σ a) (g5 : dp.toNatClampNeg + n.toNatClampNeg ≤ h_z σ b) (hf : 1 ≤ m_fr X) (hl : rest.length + (nativeFrameWords "java/lang/System" "arraycopy" 5 + 11) ≤ m_lw X)
    (kk : EV E X (pc + 3) L rest (h_pw σ b (va_cpy (h_i σ a) (h_i σ b) sp.toNatClampNeg dp.toNatClampNeg n.toNatClampNeg)) o) : EV E X pc L (.int n :: .int dp :: .ref b :: .int sp :: .ref a :: rest) σ o :=
  ev_mut (τ := h_pw σ b (va_cpy (h_i σ a) (h_i σ b) sp.toNatClampNeg dp.toNatClampNeg n.toNatClampNeg)) rfl rfl (fun p e R s m args below meth c Q H locs cells slots ls C hR hS hL w => by
    have hts := C.2.2.2.2.2.1
    have hK := C.2.2.2.2.2.2.2.2.1
    have nn : ∀ z : Int32, ¬ z < 0 → z.toInt = (z.toNatClampNeg : Int) := by
      intro z hz
      have hz0 : (0 : Int) ≤ z.toInt := by
        have := Int32.not_lt.mp hz
        simpa using Int32.le_iff_toInt_le.mp this
      show z.toInt = ((z.toInt.toNat : Nat) : Int)
      omega
    intro T hT Y
    have hc0 := hR.2 a ha
    rw [ev_e_i hta] at hc0
    have hc1 := hR.2 b hb
    rw [ev_e_i htb] at hc1
    have hc0 : H[n_b E + a]? = some (vp_cell (n_cI E) (h_z σ a, .inl (h_i σ a))) := hc0
    have hc1 : H[n_b E + b]? = some (vp_cell (n_cI E) (h_z σ b, .inl (h_i σ b))) := hc1
    obtain ⟨-, k0, hk0, cm0, hkk0⟩ := (hK.2 0 (n_cI E, .int) rfl).1 (h_z σ a) (fun j => .int (h_i σ a j))
    obtain ⟨vm', Y', step⟩ := Y.arraycopy C.1 C.2.2.2.2.1 (hts _ h1) (hts _ h2) (hts _ h3) (hts _ h4) (src := n_b E + a) (dst := n_b E + b) (cs := vp_cell (n_cI E) (h_z σ a, .inl (h_i σ a))) (cd := vp_cell (n_cI E) (h_z σ b, .inl (h_i σ b))) (srcPos := sp) (destPos := dp) (n := n) (by rw [hT]; exact hc0) (by rw [hT]; exact hc1)
      (fun _ h => by cases h) (fun _ h => by cases h) (fun h => by cases h) (fun h => by cases h) hk0 hk0 hkk0 hkk0 (by simp [refKind]) g1 g2 g3
      (by rw [nn sp g1, nn n g3]; show ¬ _ > ((arrV _ _ (fun j => .int (h_i σ a j))).slots.size : Int); rw [arrV_size]; omega)
      (by rw [nn dp g2, nn n g3]; show ¬ _ > ((arrV _ _ (fun j => .int (h_i σ b j))).slots.size : Int); rw [arrV_size]; omega)
      (fun vm₁ _ i hi => by
        have e : (vp_cell (n_cI E) (h_z σ a, .inl (h_i σ a))).slots.getD (sp.toNatClampNeg + i) .null = .int (h_i σ a (sp.toNatClampNeg + i)) := by
          show (arrV _ _ (fun j => .int (h_i σ a j))).slots.getD _ _ = _
          rw [Array.getD_eq_getD_getElem?, arrV_read _ _ (by omega)]
          rfl
        refine ⟨?_, ?_⟩
        · rw [e]
          rfl
        · rw [e]
          exact trivial)
      (g := F0 m pc ls (.int n :: .int dp :: .ref (n_b E + b) :: .int sp :: .ref (n_b E + a) :: rest.map (ev_v E))) rfl (by rw [C.2.2.2.1]; exact hL.1) (rest := rest.map (ev_v E)) rfl (by rw [C.2.1]; exact hd) (by rw [C.2.2.2.2.2.2.2.2.2.2.1]; exact hf) (by rw [ev_sum, C.2.2.2.2.2.2.2.2.2.2.2]; show 2 * 0 + _ + _ ≤ _; omega)
    have e1 : copied (vp_cell (n_cI E) (h_z σ a, .inl (h_i σ a))) (vp_cell (n_cI E) (h_z σ b, .inl (h_i σ b))) sp dp n = vp_cell (n_cI E) (h_z σ b, .inl (va_cpy (h_i σ a) (h_i σ b) sp.toNatClampNeg dp.toNatClampNeg n.toNatClampNeg)) := va_copied (fun z => .int z) _ _ _ _ g4
    rw [e1] at Y' step
    have hlt : n_b E + b < T.heap.size := by rw [hT]; exact (Array.getElem?_eq_some_iff.mp hc1).1
    have z1 : ((T.setVm vm').setCell (n_b E + b) (vp_cell (n_cI E) (h_z σ b, .inl (va_cpy (h_i σ a) (h_i σ b) sp.toNatClampNeg dp.toNatClampNeg n.toNatClampNeg)))).heap.size = H.size := by rw [size_setCell, ← hT]; rfl
    have oq : ∀ q : Nat, q ≠ n_b E + b → ((T.setVm vm').setCell (n_b E + b) (vp_cell (n_cI E) (h_z σ b, .inl (va_cpy (h_i σ a) (h_i σ b) sp.toNatClampNeg dp.toNatClampNeg n.toNatClampNeg)))).heap[q]? = H[q]? := fun q hq => by rw [heapAt_setCell_ne _ (Ne.symm hq), ← hT]; rfl
    have e2 : ((T.setVm vm').setCell (n_b E + b) (vp_cell (n_cI E) (h_z σ b, .inl (va_cpy (h_i σ a) (h_i σ b) sp.toNatClampNeg dp.toNatClampNeg n.toNatClampNeg)))).heap[n_b E + b]? = some (vp_cell (n_cI E) (h_z σ b, .inl (va_cpy (h_i σ a) (h_i σ b) sp.toNatClampNeg dp.toNatClampNeg n.toNatClampNeg))) := heapAt_setCell_self _ (by exact hlt)
    obtain ⟨t, a1, b1⟩ := w _ _ (hR.put (τ := h_pw σ b (va_cpy (h_i σ a) (h_i σ b) sp.toNatClampNeg dp.toNatClampNeg n.toNatClampNeg)) z1 oq rfl (fun k hk => ev_e_eq rfl rfl (by show ev_u1 _ _ _ _ = _; simp [ev_u1, hk]) rfl) (by
        rw [ev_e_i (σ := h_pw σ b _) htb]
        have e3 : h_i (h_pw σ b (va_cpy (h_i σ a) (h_i σ b) sp.toNatClampNeg dp.toNatClampNeg n.toNatClampNeg)) b = va_cpy (h_i σ a) (h_i σ b) sp.toNatClampNeg dp.toNatClampNeg n.toNatClampNeg := by show ev_u1 _ _ _ _ = _; simp [ev_u1]
        rw [e3]
        exact e2)) ⟨by rw [z1]; exact hS.1, fun q r1 r2 => by
        rw [oq q (fun e => r2 (by rw [e]; exact Nat.le_add_right _ _))]
        exact hS.2.1 q r1 r2, fun q hq => by
        rcases List.mem_append.mp hq with h | h
        · exact hS.2.2 q h
        · obtain ⟨z, -, hz⟩ := List.mem_map.mp h
          rw [← hz]
          exact Nat.le_add_right _ _⟩ _ rfl Y'
    exact ⟨t, step t a1, b1⟩) kk
end Make
