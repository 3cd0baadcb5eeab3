/-! WRITES AND ARRAYS -/
theorem ev_fl_set_i {E : ev_N} {kd : List Bool} {f : Nat → Int32} {g : Nat → Option Nat} {k : Nat} {v : Int32} (h : kd[k]? = some true) : (ev_fl E kd f g).set k (.int v) = ev_fl E kd (fun j => if j = k then v else f j) g := by
  apply List.ext_getElem?
  intro j
  have hk : k < (ev_fl E kd f g).length := by rw [ev_fl_len]; exact (List.getElem?_eq_some_iff.mp h).1
  by_cases hj : j = k
  · subst hj
    rw [List.getElem?_set_self hk, ev_fl_get h]
    simp
  · rw [List.getElem?_set_ne (Ne.symm hj)]
    unfold ev_fl
    rw [List.getElem?_mapIdx, List.getElem?_mapIdx]
    simp [hj]
theorem ev_fl_set_r {E : ev_N} {kd : List Bool} {f : Nat → Int32} {g : Nat → Option Nat} {k : Nat} {r : Option Nat} (h : kd[k]? = some false) : (ev_fl E kd f g).set k (va_rf (r.map (n_b E + ·))) = ev_fl E kd f (fun j => if j = k then r else g j) := by
  apply List.ext_getElem?
  intro j
  have hk : k < (ev_fl E kd f g).length := by rw [ev_fl_len]; exact (List.getElem?_eq_some_iff.mp h).1
  by_cases hj : j = k
  · subst hj
    rw [List.getElem?_set_self hk, ev_fl_get h]
    simp
  · rw [List.getElem?_set_ne (Ne.symm hj)]
    unfold ev_fl
    rw [List.getElem?_mapIdx, List.getElem?_mapIdx]
    simp [hj]
theorem h_pi_i {σ : ev_H} {a k : Nat} {v : Int32} : h_i (h_pi σ a k v) a = fun j => if j = k then v else h_i σ a j := by
  funext j
  show (if a = a ∧ j = k then v else h_i σ a j) = _
  simp
theorem h_pi_o {σ : ev_H} {a k q : Nat} {v : Int32} (h : q ≠ a) : h_i (h_pi σ a k v) q = h_i σ q := by
  funext j
  show (if q = a ∧ j = k then v else h_i σ q j) = _
  simp [h]
theorem h_pr_r {σ : ev_H} {a k : Nat} {v : Option Nat} : h_r (h_pr σ a k v) a = fun j => if j = k then v else h_r σ a j := by
  funext j
  show (if a = a ∧ j = k then v else h_r σ a j) = _
  simp
theorem h_pr_o {σ : ev_H} {a k q : Nat} {v : Option Nat} (h : q ≠ a) : h_r (h_pr σ a k v) q = h_r σ q := by
  funext j
  show (if q = a ∧ j = k then v else h_r σ q j) = _
  simp [h]
theorem ev_e_pi {E : ev_N} {σ : ev_H} {a k q : Nat} {v : Int32} (h : q ≠ a) : ev_e E (h_pi σ a k v) q = ev_e E σ q := ev_e_eq rfl rfl (h_pi_o h) rfl
theorem ev_e_pr {E : ev_N} {σ : ev_H} {a k q : Nat} {v : Option Nat} (h : q ≠ a) : ev_e E (h_pr σ a k v) q = ev_e E σ q := ev_e_eq rfl rfl rfl (h_pr_o h)
section Put
variable {p : Program} {l : Launch} {e : Env} {R : Room} {s : State} {m : MethodId} {args : Array Value} {below : List Frame} {meth : Method} {c : Code} {H : Heap} {locs : List Loc} {cells slots : Nat} {Q : State → Prop} {cc : ByteArray} {pc : Nat} {ls : Array Slot} {rest : List Value}
/-- putfield into a cell, with what it leaves -/
theorem ev_wput {D : va_G} {cl : List vw_C} {tys : List (ClassId × FieldType)} {a : Nat} (hexec : p.tables.exec = Jvm.exec) (hb : c.code = cc) {own C : String} {T : u_T} {N ci index : Nat} {Ts : List Cond} (hts : ∀ w ∈ Ts, w.before args s = true) (hin : ∀ w ∈ u_ws C T N, w ∈ Ts) (ty0 : Nat → FieldType) (hty : ∀ k, k < N → parseFieldDescriptor (T k).2.2.1 = some (ty0 k)) (hnm : ∀ a, a < N → ∀ b, b < N → a ≠ b → (T a).2.1 ≠ (T b).2.1) (hown : s.vm.findClass own = some m.cls) (hK : va_K D cl tys s) {fs : List Value} (hP : va_at D cl (a, .inr (ci, fs)) H) (hc : cl[ci]? = some (C, T, N)) (k : Nat) (hk : k < N) (hlink : (Cond.fieldLink own index (T k).1 (T k).2.1 (T k).2.2.1).before args s = true) (hfin : (T k).2.2.2 = false ∨ (meth.name = "<init>" ∧ (T k).1 = own)) {v : Value} (hn : narrow (ty0 k) v = v) (hfit : fits (ty0 k) v = true) (hl : k < fs.length)
    (hdg : decode cc pc = .ok (.putfield index, 3)) (kk : ∀ (H1 : Heap) (i : Nat), va_at D cl (a, .inr (ci, fs.set k v)) H1 → H1.size = H.size → (∀ q : Nat, q ≠ a → H1[q]? = H[q]?) → W p l e R s m args below meth c H1 (locs ++ [⟨a, i⟩]) cells slots Q (F0 m (pc + 3) ls rest)) : W p l e R s m args below meth c H locs cells slots Q (F0 m pc ls (v :: .ref a :: rest)) := by
  have hap := va_apart (own := own) hts hin ty0 hty hnm hK hc
  obtain ⟨r, h1, cell, q1, q2, q3, q4⟩ := hP
  have hr : r = (C, T, N) := Option.some.inj (h1.symm.trans hc)
  subst hr
  obtain ⟨hS, hfc, kC, hkC, hkind⟩ := hK.1 ci _ hc
  obtain ⟨cf, kf, fi, f, hi, hsl⟩ := hS k hk
  have hlay := hts _ (hin _ (u_in_lay hk))
  have hst := (u_facts hfc hkC (u_lays hts hin hk) hi).1
  unfold u_lay at hlay
  have fin : ∀ H' : Heap, H'[a]? = some (cell.setSlot f.slot v) → va_at D cl (a, .inr (ci, fs.set k v)) H' := fun H' e1 => by
    rw [hsl] at e1
    exact ⟨_, hc, t_OB.to (V := updV (vp_V fs) k v) ⟨_, e1, q2, q3, t_set q4 hap hk v⟩ (fun j _ => vp_updV_set hl v j)⟩
  cases hb2 : (T k).2.2.2 with
  | false =>
    rw [if_neg (by rw [hb2]; decide)] at hlay
    have h6 := u_store hfc hkC hkind hlay hi (hty k hk) hn hfit
    exact W.putK hexec hb (f := f) ⟨hown, hlink, ⟨_, _, _, hi⟩, hst⟩ (by rw [q2]; exact h6) q1 q3 (by rw [hsl]; exact k2_hasslot (q4 k hk)) rfl rfl hdg fun H' e1 e2 e3 => kk H' _ (fin H' e1) e2 e3
  | true =>
    obtain ⟨hin2, hdecl⟩ : meth.name = "<init>" ∧ (T k).1 = own := hfin.elim (fun q => by rw [hb2] at q; cases q) id
    rw [if_pos hb2] at hlay
    have hcf : m.cls = cf := by
      obtain ⟨_, _, c', _, _, _, -, -, hf', -, -, -, hown2, -⟩ := Cond.laysFinal_spec hlay
      have e1 : c' = cf := by have := hi.symm.trans hf'; simp at this; exact this.1.symm
      rw [hdecl] at hown2
      rw [← e1]; exact Option.some.inj (hown.symm.trans hown2)
    have h6 := u_fits hfc hkC hkind (Or.inr hlay) hi (hty k hk) hn hfit
    exact W.putFinK hexec hb hown hlink hi hst hcf hin2 (by rw [q2]; exact h6) q1 q3 (by rw [hsl]; exact k2_hasslot (q4 k hk)) rfl rfl hdg fun H' e1 e2 e3 => kk H' _ (fin H' e1) e2 e3
end Put
section Writes
variable {E : ev_N} {X : ev_M} {pc : Nat} {L : List (Option Value)} {rest : List Value} {σ : ev_H} {o : Option Value × ev_H}
/-- putfield of an int (or a boolean) -/
theorem ev_puti {a idx ci k : Nat} {v : Int32} (hd : decode (m_code X) pc = .ok (.putfield idx, 3)) (hf : ev_fd (m_own X) idx ci k) (hb : (ev_kd ci)[k]? = some true) (ha : a < h_n σ) (ht : h_t σ a = ci) (hfin : (k_T ci k).2.2.2 = false ∨ ((m_y X).name = "<init>" ∧ (k_T ci k).1 = m_own X)) (hn : narrow (k_ty ci k) (.int v) = .int v) (hfit : fits (k_ty ci k) (.int v) = true)
    (kk : EV E X (pc + 3) L rest (h_pi σ a k v) o) : EV E X pc L (.int v :: .ref a :: rest) σ o :=
  ev_mut (τ := h_pi σ a k v) rfl rfl (fun _ _ _ _ _ _ _ _ _ _ _ _ _ _ _ C hR hS _ w => by
    refine ev_wput C.1 C.2.1 C.2.2.2.2.2.1 (k_in ci hf.2.1) (k_ty ci) (k_tyok ci hf.2.1) (k_nm ci hf.2.1) C.2.2.2.2.1 C.2.2.2.2.2.2.2.2.1 (by have := hR.2 a ha; rw [ev_e_o ht hf.2.1] at this; exact this) (k_cl ci hf.2.1) k hf.2.2 (C.2.2.2.2.2.1 _ hf.1) (hfin.imp id (fun q => ⟨C.2.2.2.2.2.2.2.1 q.1, q.2⟩)) hn hfit (by rw [ev_fl_len]; exact (List.getElem?_eq_some_iff.mp hb).1) hd (fun H1 i e1 z oq => ?_)
    refine w H1 _ (hR.put z oq rfl (fun q hq => ev_e_pi hq) ?_) (hS.put z oq (Nat.le_add_right _ _))
    rw [ev_e_o (σ := h_pi σ a k v) ht hf.2.1, h_pi_i, ← ev_fl_set_i hb]
    exact e1) kk
/-- putfield of a reference -/
theorem ev_putr {a idx ci k : Nat} {r : Option Nat} (hd : decode (m_code X) pc = .ok (.putfield idx, 3)) (hf : ev_fd (m_own X) idx ci k) (hb : (ev_kd ci)[k]? = some false) (ha : a < h_n σ) (ht : h_t σ a = ci) (hfin : (k_T ci k).2.2.2 = false ∨ ((m_y X).name = "<init>" ∧ (k_T ci k).1 = m_own X)) (hty : (∃ n, k_ty ci k = .object n) ∨ ∃ t, k_ty ci k = .array t)
    (kk : EV E X (pc + 3) L rest (h_pr σ a k r) o) : EV E X pc L (ev_rv r :: .ref a :: rest) σ o :=
  ev_mut (τ := h_pr σ a k r) rfl rfl (fun _ _ _ _ _ _ _ _ _ _ _ _ _ _ _ C hR hS _ w => by
    have hn : narrow (k_ty ci k) (ev_v E (ev_rv r)) = ev_v E (ev_rv r) ∧ fits (k_ty ci k) (ev_v E (ev_rv r)) = true := by
      rcases hty with ⟨n, e⟩ | ⟨t, e⟩ <;> rw [e] <;> cases r <;> exact ⟨rfl, rfl⟩
    refine ev_wput C.1 C.2.1 C.2.2.2.2.2.1 (k_in ci hf.2.1) (k_ty ci) (k_tyok ci hf.2.1) (k_nm ci hf.2.1) C.2.2.2.2.1 C.2.2.2.2.2.2.2.2.1 (by have := hR.2 a ha; rw [ev_e_o ht hf.2.1] at this; exact this) (k_cl ci hf.2.1) k hf.2.2 (C.2.2.2.2.2.1 _ hf.1) (hfin.imp id (fun q => ⟨C.2.2.2.2.2.2.2.1 q.1, q.2⟩)) hn.1 hn.2 (by rw [ev_fl_len]; exact (List.getElem?_eq_some_iff.mp hb).1) hd (fun H1 i e1 z oq => ?_)
    refine w H1 _ (hR.put z oq rfl (fun q hq => ev_e_pr hq) ?_) (hS.put z oq (Nat.le_add_right _ _))
    rw [ev_e_o (σ := h_pr σ a k r) ht hf.2.1, h_pr_r, ← ev_fl_set_r hb, ← ev_v_rv]
    exact e1) kk
/-- iaload, baload, aaload, arraylength -/
theorem ev_iald {a : Nat} {i : Int32} (hd : decode (m_code X) pc = .ok (.iaload, 1)) (ha : a < h_n σ) (ht : h_t σ a = 100) (hi : vp_in i (h_z σ a)) (kk : EV E X (pc + 1) L (.int (h_i σ a i.toNatClampNeg) :: rest) σ o) : EV E X pc L (.int i :: .ref a :: rest) σ o :=
  ev_pure (fun _ _ _ _ _ _ _ _ _ _ _ _ _ _ _ C hR _ _ _ _ w => va_iald C.1 C.2.1 C.2.2.2.2.2.2.2.2.1 (ev_P1 hR ha (ev_e_i ht)) 0 0 rfl rfl hi hd w) kk
theorem ev_bald {a : Nat} {i : Int32} (hd : decode (m_code X) pc = .ok (.baload, 1)) (ha : a < h_n σ) (ht : h_t σ a = 101) (hi : vp_in i (h_z σ a)) (kk : EV E X (pc + 1) L (.int (h_i σ a i.toNatClampNeg) :: rest) σ o) : EV E X pc L (.int i :: .ref a :: rest) σ o :=
  ev_pure (fun _ _ _ _ _ _ _ _ _ _ _ _ _ _ _ C hR _ _ _ _ w => va_bald C.1 C.2.1 C.2.2.2.2.2.2.2.2.1 (ev_P1 hR ha (ev_e_b ht)) 0 1 rfl rfl hi hd w) kk
theorem ev_aald {a : Nat} {i : Int32} {r : Nat} (hd : decode (m_code X) pc = .ok (.aaload, 1)) (ha : a < h_n σ) (ht : h_t σ a = 102) (hi : vp_in i (h_z σ a)) (hr : h_r σ a i.toNatClampNeg = some r) (kk : EV E X (pc + 1) L (.ref r :: rest) σ o) : EV E X pc L (.int i :: .ref a :: rest) σ o :=
  ev_pure (fun _ _ _ _ _ _ _ _ _ _ _ _ _ _ _ C hR _ _ _ _ w => va_aldq C.1 C.2.1 C.2.2.2.2.2.2.2.2.1 (ev_P1 hR ha (ev_e_q ht)) 0 2 rfl rfl hi hd (by rw [hr]; exact w)) kk
theorem ev_alen {a : Nat} (hd : decode (m_code X) pc = .ok (.arraylength, 1)) (ha : a < h_n σ) (ht : h_t σ a = 100) (kk : EV E X (pc + 1) L (.int (Int32.ofNat (h_z σ a)) :: rest) σ o) : EV E X pc L (.ref a :: rest) σ o :=
  ev_pure (fun _ _ _ _ _ _ _ _ _ _ _ _ _ _ _ C hR _ _ _ _ w => va_alen C.1 C.2.1 C.2.2.2.2.2.2.2.2.1 (ev_P1 hR ha (ev_e_i ht)) 0 0 rfl rfl rfl hd w) kk
/-- the script -/
theorem ev_sld {u : UInt32} {i : Int32} (hd : decode (m_code X) pc = .ok (.iaload, 1)) (hi : vp_in i (n_sl E)) (kk : EV E X (pc + 1) L (.int (n_sx E i.toNatClampNeg) :: rest) σ o) : EV E X pc L (.int i :: .float u :: rest) σ o :=
  ev_pure (fun _ _ _ _ _ _ _ _ _ _ _ _ _ _ _ C _ hS _ _ _ w => by
    obtain ⟨h1, h2, h3⟩ := C.2.2.2.2.2.2.2.2.2.1.1
    exact va_sld C.1 C.2.1 h1 (Nat.lt_of_lt_of_le h2 h3) (Nat.not_le.mpr h2) hS hi hd w) kk
theorem ev_slen {u : UInt32} (hd : decode (m_code X) pc = .ok (.arraylength, 1)) (kk : EV E X (pc + 1) L (.int (Int32.ofNat (n_sl E)) :: rest) σ o) : EV E X pc L (.float u :: rest) σ o :=
  ev_pure (fun _ _ _ _ _ _ _ _ _ _ _ _ _ _ _ C _ hS _ _ _ w => by
    obtain ⟨h1, h2, h3⟩ := C.2.2.2.2.2.2.2.2.2.1.1
    exact va_slen C.1 C.2.1 h1 (Nat.lt_of_lt_of_le h2 h3) (Nat.not_le.mpr h2) hS hd w) kk
/-- iastore, bastore, aastore -/
theorem ev_iast {a : Nat} {i x : Int32} (hd : decode (m_code X) pc = .ok (.iastore, 1)) (ha : a < h_n σ) (ht : h_t σ a = 100) (hi : vp_in i (h_z σ a)) (kk : EV E X (pc + 1) L rest (h_pi σ a i.toNatClampNeg x) o) : EV E X pc L (.int x :: .int i :: .ref a :: rest) σ o :=
  ev_mut (τ := h_pi σ a i.toNatClampNeg x) rfl rfl (fun _ _ _ _ _ _ _ _ _ _ _ _ _ _ _ C hR hS _ w => by
    have hc := hR.2 a ha
    rw [ev_e_i ht] at hc
    refine W.iast C.1 C.2.1 hc ((C.2.2.2.2.2.2.2.2.1.2 0 (n_cI E, .int) rfl).1 _ _) (fun q => by cases q) (by show ¬ (i < 0 ∨ (arrV _ _ _).slots.size ≤ _); rw [arrV_size]; exact hi) rfl rfl hd fun H1 e z oq => ?_
    refine w H1 _ (hR.put z oq rfl (fun q hq => ev_e_pi hq) ?_) (hS.put z oq (Nat.le_add_right _ _))
    rw [ev_e_i (σ := h_pi σ a i.toNatClampNeg x) ht]
    show H1[n_b E + a]? = some (vp_cell _ _)
    rw [e, vp_cell_i, vp_cell_i, arrV_store, h_pi_i]
    congr 2
    funext q
    show (if q = i.toNatClampNeg then _ else _) = Value.int (if q = i.toNatClampNeg then _ else _)
    by_cases hq : q = i.toNatClampNeg
    · rw [if_pos hq, if_pos hq]
    · rw [if_neg hq, if_neg hq]) kk
theorem ev_bast {a : Nat} {i x : Int32} (hd : decode (m_code X) pc = .ok (.bastore, 1)) (ha : a < h_n σ) (ht : h_t σ a = 101) (hi : vp_in i (h_z σ a)) (kk : EV E X (pc + 1) L rest (h_pi σ a i.toNatClampNeg (vp_nar .byte x)) o) : EV E X pc L (.int x :: .int i :: .ref a :: rest) σ o :=
  ev_mut (τ := h_pi σ a i.toNatClampNeg (vp_nar .byte x)) rfl rfl (fun _ _ _ _ _ _ _ _ _ _ _ _ _ _ _ C hR hS _ w => by
    have hc := hR.2 a ha
    rw [ev_e_b ht] at hc
    refine W.bast C.1 C.2.1 hc ((C.2.2.2.2.2.2.2.2.1.2 1 (n_cB E, .byte) rfl).1 _ _) (fun q => by cases q) (by show ¬ (i < 0 ∨ (arrV _ _ _).slots.size ≤ _); rw [arrV_size]; exact hi) rfl rfl hd fun H1 e z oq => ?_
    refine w H1 _ (hR.put z oq rfl (fun q hq => ev_e_pi hq) ?_) (hS.put z oq (Nat.le_add_right _ _))
    rw [ev_e_b (σ := h_pi σ a i.toNatClampNeg (vp_nar .byte x)) ht]
    show H1[n_b E + a]? = some (vp_cell _ _)
    rw [e, vp_cell_i, vp_cell_i, arrV_store, h_pi_i]
    congr 2
    funext q
    show (if q = i.toNatClampNeg then _ else _) = Value.int (if q = i.toNatClampNeg then _ else _)
    by_cases hq : q = i.toNatClampNeg
    · rw [if_pos hq, if_pos hq]; rfl
    · rw [if_neg hq, if_neg hq]) kk
theorem ev_aast {a r : Nat} {i : Int32} (hd : decode (m_code X) pc = .ok (.aastore, 1)) (ha : a < h_n σ) (ht : h_t σ a = 102) (hi : vp_in i (h_z σ a)) (hr : r < h_n σ) (hrt : h_t σ r = 3) (kk : EV E X (pc + 1) L rest (h_pr σ a i.toNatClampNeg (some r)) o) : EV E X pc L (.ref r :: .int i :: .ref a :: rest) σ o :=
  ev_mut (τ := h_pr σ a i.toNatClampNeg (some r)) rfl rfl (fun _ _ _ s _ _ _ _ _ _ _ _ _ _ _ C hR hS _ w => by
    have hK := C.2.2.2.2.2.2.2.2.1
    have hc := hR.2 a ha
    rw [ev_e_q ht] at hc
    have hv := hR.2 r hr
    rw [ev_e_o hrt (by decide)] at hv
    have hlt : i.toNatClampNeg < h_z σ a := Nat.not_le.mp fun q => hi (Or.inr q)
    have h0 : ¬ i < 0 := fun q => hi (Or.inl q)
    obtain ⟨r', hr', cellV, g1, g2, g3, -⟩ := hv
    have hcls := (hK.1 3 _ (k_cl 3 (by decide))).2
    obtain ⟨kA, comp, k1, k2, k3, -⟩ := (hK.2 2 (n_cM E, .object "ChainVotes$Member") rfl).2
    have hcomp : comp = (n_D E).1 3 := Option.some.inj (k3.symm.trans hcls.1)
    subst hcomp
    obtain ⟨kC, hkC, -⟩ := hcls.2
    refine W.aast C.1 C.2.1 hc (fun q h => by cases h) (fun h => by cases h) k1 k2 rfl hkC ⟨h0, by show _ < (arrV _ _ _).slots.size; rw [arrV_size]; exact hlt⟩ g1 (fun q h => by rw [g3] at h; cases h) (by rw [g2]; exact hkC) (by rw [g2]; exact va_assign hcls) rfl rfl hd fun H1 e z oq => ?_
    refine w H1 _ (hR.put z oq rfl (fun q hq => ev_e_pr hq) ?_) (hS.put z oq (Nat.le_add_right _ _))
    rw [ev_e_q (σ := h_pr σ a i.toNatClampNeg (some r)) ht]
    show H1[n_b E + a]? = some (vp_cell _ _)
    rw [e, vp_cell_q, vp_cell_q, arrV_store, h_pr_r]
    congr 2
    funext q
    show (if q = i.toNatClampNeg then _ else _) = va_rf (Option.map _ (if q = i.toNatClampNeg then _ else _))
    by_cases hq : q = i.toNatClampNeg
    · rw [if_pos hq, if_pos hq]; rfl
    · rw [if_neg hq, if_neg hq]) kk
end Writes
