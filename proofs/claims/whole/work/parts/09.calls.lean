/-! CONTRACTS AND CALLS -/
theorem ev_args {E : ev_N} : ∀ (As : List Value) (i k : Nat) (v : Value), As[k]? = some v → (i + k, ev_v E v) ∈ lv_args i (As.map (ev_v E))
  | [], i, k, v, h => by simp at h
  | a :: As, i, 0, v, h => by
    simp at h
    subst h
    exact List.mem_cons_self
  | a :: As, i, k + 1, v, h => by
    have := ev_args (E := E) As (i + 1) k v (by simpa using h)
    show _ ∈ (i, ev_v E a) :: lv_args (if (ev_v E a).category = 2 then i + 2 else i + 1) (As.map (ev_v E))
    rw [ev_v1, if_neg (by decide), show i + (k + 1) = i + 1 + k by omega]
    exact List.mem_cons_of_mem _ this
theorem ev_slen1 {E : ev_N} : ∀ As : List Value, (lg_sl (As.map (ev_v E))).length = As.length
  | [] => rfl
  | a :: As => by
    have := ev_slen1 (E := E) As
    unfold lg_sl at this ⊢
    rw [List.map_cons, List.flatMap_cons, List.length_append, this, ev_v1, if_neg (by decide)]
    simp only [List.length_cons, List.length_nil]
    omega
theorem ev_entry {E : ev_N} {X : ev_M} {As : List Value} (h : As.length ≤ m_loc X) : ev_L E X (ev_en X As) ((lg_sl (As.map (ev_v E)) ++ List.replicate (m_loc X - (lg_sl (As.map (ev_v E))).length) Slot.unset).toArray) := by
  obtain ⟨h1, h2, h3⟩ := lv_entry (As.map (ev_v E)) (n := m_loc X) (by rw [ev_slen1]; exact h)
  refine ⟨h1, h2, fun i v hi => ?_⟩
  have hv : As[i]? = some v := by
    unfold ev_en at hi
    by_cases hl : i < As.length
    · rw [List.getElem?_append_left (by rw [List.length_map]; exact hl), List.getElem?_map, List.getElem?_eq_getElem hl] at hi
      rw [List.getElem?_eq_getElem hl]
      simpa using hi
    · rw [List.getElem?_append_right (by rw [List.length_map]; omega)] at hi
      have := List.mem_of_getElem? hi
      rw [List.mem_replicate] at this
      cases this.2
  have := h3 _ (ev_args (E := E) As 0 i v hv)
  simpa using this
/-- a walk of a method's body gives its contract -/
theorem ev_met {E : ev_N} {X : ev_M} {As : List Value} {σ : ev_H} {o : Option Value × ev_H} (hp : plainName (m_y X).cls = true) (ho : m_own X = (m_y X).cls) (hl : As.length ≤ m_loc X) (k : EV E X 0 (ev_en X As) [] σ o) : ev_T E X As σ o := by
  refine ⟨k.1, Met.ofW (cc := m_code X) (maxL := m_loc X) (ret := m_ret X) hp rfl ?_⟩
  intro p e s m args below meth c s₁ B hml hv
  obtain ⟨rfl, hR, hK, hX⟩ := hv
  have hts := atoms_spec (ws := m_ws X) B.pre
  have hlocks : meth.locks = false := B.notSynchronized
  have hx := B.exec
  have hb := B.bytes
  have hr := B.returns
  have C : ev_C E X p (headSpec (m_ws X) { frames := m_fr X, cells := h_n o.2 - h_n σ, slots := h_s o.2 - h_s σ, locals := m_lw X }).room s m (As.map (ev_v E)).toArray meth c := ⟨B.exec, B.bytes, B.returns, hml, by rw [ho]; exact findClass_of_methodNamed B.named, fun w hw => hts w (List.mem_cons_of_mem _ hw), B.notSynchronized, fun h => (name_of_methodNamed B.named B.method).1.trans h, hK, hX, rfl, rfl⟩
  rw [lg_entry_eq]
  have K := k.2 p e _ s m _ below meth c (MQ below (ev_Q E o) (As.map (ev_v E)).toArray s (h_n o.2 - h_n σ) (h_s o.2 - h_s σ) (n_A E)) (h_n σ) (h_s σ) C ⟨Nat.le_refl _, Nat.le_refl _, Nat.le_refl _, Nat.le_refl _⟩ ?_ s.heap [] _ hR va_S.rf (ev_entry hl)
  · rw [Nat.sub_self, Nat.sub_self] at K
    exact K
  · intro H locs pc ls hR' hS' hok hd
    obtain ⟨v, τ⟩ := o
    have fin : ∀ t : State, t.heap = H → ev_Q E (v, τ) (As.map (ev_v E)).toArray s (.returned (v.map (ev_v E))) t := fun t ht => ⟨rfl, by rw [ht]; exact hR', hS'.F ht⟩
    cases v with
    | none =>
      have hr' : meth.sig.returnType = none := hr.trans hok
      exact W.vret hx hb hr' (fun t ht _ => fin t ht) hS'.2.2 hd
    | some v =>
      by_cases hv : ∃ x, v = .int x
      · obtain ⟨x, rfl⟩ := hv
        obtain ⟨ty, e1, e2⟩ := hok
        exact W.zret hx hb (hr.trans e1) e2 (fun t ht _ => fin t ht) hS'.2.2 hd
      · have hv' : ∀ x, v ≠ .int x := fun x h => hv ⟨x, h⟩
        have hd' : decode (m_code X) pc = .ok (.areturn, 1) := by
          rw [hd]
          cases v <;> first | rfl | exact absurd rfl (hv' _)
        have hok' : (∃ rt, m_ret X = some rt ∧ ((∃ n, rt = .object n) ∨ ∃ t, rt = .array t)) := by
          cases v <;> first | exact hok.1 | exact absurd rfl (hv' _)
        obtain ⟨rt, e1, e2⟩ := hok'
        exact W.aret (v := ev_v E v) hx hb (hr.trans e1) e2 (ev_vref E v hv') (fun t ht _ => fin t ht) hS'.2.2 hd'
theorem ev_blind {E : ev_N} {As : List Value} {σ : ev_H} : FrameBlind (va_Pc As (ev_B E σ)) := fun a U g mk q => ⟨q.1, q.2.1, va_K.moved (u := U) (U := U.calling g mk a) (Vm.Alike.refl U.vm) q.2.2.1, q.2.2.2.calling⟩
theorem ev_go {E : ev_N} {X : ev_M} {pc : Nat} {L : List (Option Value)} {S rest : List Value} {σ τ : ev_H} {v : Option Value} {o : Option Value × ev_H} (hm : h_n σ ≤ h_n τ ∧ h_s σ ≤ h_s τ)
    (run : ∀ (p : Program) (e : Env) (R : Room) (s : State) (m : MethodId) (args : Array Value) (below : List Frame) (meth : Method) (c : Code) (H : Heap) (locs : List Loc) (cells slots : Nat) (ls : Array Slot),
      ev_C E X p R s m args meth c → ev_Rep E σ H → va_S (n_A E) s.heap H locs → ev_L E X L ls → cells + (h_n τ - h_n σ) ≤ R.cells → slots + (h_s τ - h_s σ) ≤ R.slots →
      ∃ a, va_Run p (n_l E) e R s m args below meth c H locs cells slots (h_n τ - h_n σ) (h_s τ - h_s σ) (F0 m pc ls (S.map (ev_v E))) (rest.map (ev_v E)) (ev_Q E (v, τ) a) (n_A E))
    (k : EV E X (pc + 3) L (v.toList ++ rest) τ o) : EV E X pc L S σ o := by
  have k1 := k.1
  refine ⟨⟨by omega, by omega⟩, ?_⟩
  intro p e R s m args below meth c Q n0 s0 C hb hret H locs ls hR hS hL
  obtain ⟨a, hr⟩ := run p e R s m args below meth c H locs (h_n σ - n0) (h_s σ - s0) ls C hR hS hL (by omega) (by omega)
  intro T hT Y
  obtain ⟨v', st₀, t, T', L', h0, Y', hL', e1, e2, ⟨hv, hR1, hz, hk⟩, st⟩ := hr T hT Y
  rw [h0] at hz hk
  have hv : v' = v.map (ev_v E) := by injection hv
  have hw : v'.toList ++ rest.map (ev_v E) = (v.toList ++ rest).map (ev_v E) := by rw [hv]; cases v <;> rfl
  rw [hw] at st
  have K := k.2 p e R s m args below meth c Q n0 s0 C ⟨by omega, by omega, hb.2.2⟩ hret T'.heap (locs ++ L') ls (by rw [e1]; exact hR1) ⟨Nat.le_trans hS.1 (by rw [e1]; exact hz), fun q h1 h2 => by rw [e1, hk q (Nat.lt_of_lt_of_le h1 hS.1) h2]; exact hS.2.1 q h1 h2, fun q hq => by
      rcases List.mem_append.mp hq with h | h
      · exact hS.2.2 q h
      · exact hL' q h⟩ hL
  have K2 := W.cs (cells := (h_n σ - n0) + (h_n τ - h_n σ)) (slots := (h_s σ - s0) + (h_s τ - h_s σ)) (by omega) (by omega) K
  obtain ⟨t2, a1, b1⟩ := K2 T' rfl Y'
  exact ⟨t2, st t2 a1, b1⟩
/-- the tables on a method: an instance method, a static one, a maker; n: how many parameters -/
def ev_mN (Y : ev_M) (n : Nat) : Prop := m_word Y ∈ ev_G ∧ Cond.initialized (m_own Y) ∈ ev_G ∧ (m_y Y).cls = m_own Y ∧ (m_y Y).cls ≠ "java/lang/invoke/MethodHandle" ∧ (m_y Y).cls ≠ "java/lang/invoke/VarHandle" ∧ (parseMethodDescriptor (m_y Y).desc).map (fun d => d.parameters.length) = some n
def ev_mV (Y : ev_M) (n : Nat) : Prop := ev_mN Y n ∧ Cond.instanceMethod (m_y Y) ∈ ev_G ∧ Cond.selects (m_own Y) (m_y Y) (m_y Y) ∈ ev_G
def ev_mS (Y : ev_M) (n : Nat) : Prop := ev_mN Y n ∧ Cond.static (m_y Y) ∈ ev_G
def ev_mI (Y : ev_M) (n : Nat) : Prop := ev_mN Y n ∧ Cond.instanceMethod (m_y Y) ∈ ev_G ∧ (m_y Y).name = "<init>"
/-- the callee's room fits -/
def ev_fit (X Y : ev_M) : Prop := m_fr Y + 1 ≤ m_fr X ∧ 8 + (m_loc Y + 11) + m_lw Y ≤ m_lw X
theorem ev_goodG (l : List Cond) (h : ∀ w ∈ l, w ∈ ev_G) : GoodIn ev_G l := fun w hw => ⟨h w hw, good_of_word (ev_Gg (h w hw))⟩
theorem ev_goodW {Y : ev_M} {n : Nat} (h : ev_mN Y n) : GoodIn ev_G (m_ws Y) := ev_goodG _ (fun w hw => (List.mem_cons.mp hw).elim (fun e => by rw [e]; exact h.1) id)
section Calls9
variable {E : ev_N} {X Y : ev_M} {pc idx n : Nat} {L : List (Option Value)} {S rest As : List Value} {σ τ : ev_H} {v : Option Value} {o : Option Value × ev_H}
theorem ev_callV {a ci : Nat} (hd : decode (m_code X) pc = .ok (.invokevirtual idx, 3)) (hl : Cond.methodLink (m_own X) idx (m_y Y) ∈ ev_G) (hY : ev_mV Y n) (hfit : ev_fit X Y) (hci : ci < 10) (hC : k_C ci = m_own Y) (ha : a < h_n σ) (ht : h_t σ a = ci) (hn : As.length = n) (hr8 : rest.length ≤ 8)
    (hT : ev_T E Y (.ref a :: As) σ (v, τ)) (hS : S = As.reverse ++ .ref a :: rest) (k : EV E X (pc + 3) L (v.toList ++ rest) τ o) : EV E X pc L S σ o := by
  refine ev_go hT.1 (fun p e R s m args below meth c H locs cells slots ls C hR hS' hL hce hsl => ⟨(Value.ref (n_b E + a) :: As.map (ev_v E)).toArray, ?_⟩) k
  obtain ⟨hx, hb, hr, hml, hown, hts, hlo, hnm, hK, hX, hfr, hlw⟩ := C
  obtain ⟨hN, hi, hse⟩ := hY
  refine va_runV (C := m_own Y) (As := As.map (ev_v E)) (b := n_b E + a) ⟨hx, hb, hml, hown, hts⟩ hT.2 (cwV n hts (ev_goodG _ (fun w hw => ?_)) rfl rfl rfl ⟨hN.2.2.1, hN.2.2.2.1, hN.2.2.2.2.1, hN.2.2.2.2.2⟩ ⟨by rw [hfr]; exact hfit.1, by rw [hlw]; exact hfit.2⟩) ⟨ev_blind, ?_, fun U hU hW => ⟨rfl, by rw [hU]; exact hR, va_K.moved hW.alike hK, hX.to hS' hU hW⟩⟩ rfl (by rw [List.length_map]; exact hn) hL.1 (by rw [hS]; show List.map _ _ = _; rw [List.map_append, List.map_reverse]; rfl) (by rw [ev_sum]; show 2 * 0 + _ ≤ 8; omega) hd ⟨hce, hsl⟩
  · rcases List.mem_append.mp hw with h | h
    · simp only [List.mem_cons, List.not_mem_nil, or_false] at h
      rcases h with rfl | rfl | rfl | rfl
      · exact hl
      · exact hi
      · exact hse
      · exact hN.2.1
    · exact (ev_goodW hN w h).1
  · have := va_recv hK (ev_P1 hR ha (ev_e_o ht hci)) (k_cl ci hci) (q0 := 0) rfl
    rw [← hC]
    exact this
theorem ev_callS (hd : decode (m_code X) pc = .ok (.invokestatic idx, 3)) (hl : Cond.methodLink (m_own X) idx (m_y Y) ∈ ev_G) (hY : ev_mS Y n) (hfit : ev_fit X Y) (hn : As.length = n) (hr8 : rest.length ≤ 8)
    (hT : ev_T E Y As σ (v, τ)) (hS : S = As.reverse ++ rest) (k : EV E X (pc + 3) L (v.toList ++ rest) τ o) : EV E X pc L S σ o := by
  refine ev_go hT.1 (fun p e R s m args below meth c H locs cells slots ls C hR hS' hL hce hsl => ⟨(As.map (ev_v E)).toArray, ?_⟩) k
  obtain ⟨hx, hb, hr, hml, hown, hts, hlo, hnm, hK, hX, hfr, hlw⟩ := C
  obtain ⟨hN, hst⟩ := hY
  refine va_runS (As := As.map (ev_v E)) ⟨hx, hb, hml, hown, hts⟩ hT.2 (va_cwS n hts (ev_goodG _ (fun w hw => ?_)) rfl rfl rfl ⟨hN.2.2.2.1, hN.2.2.2.2.1, hN.2.2.2.2.2⟩ ⟨by rw [hfr]; exact hfit.1, by rw [hlw]; exact hfit.2⟩) ⟨ev_blind, fun U hU hW => ⟨rfl, by rw [hU]; exact hR, va_K.moved hW.alike hK, hX.to hS' hU hW⟩⟩ rfl (by rw [List.length_map]; exact hn) hL.1 (by rw [hS]; show List.map _ _ = _; rw [List.map_append, List.map_reverse]) (by rw [ev_sum]; show 2 * 0 + _ ≤ 8; omega) hd ⟨hce, hsl⟩
  rcases List.mem_append.mp hw with h | h
  · simp only [List.mem_cons, List.not_mem_nil, or_false] at h
    rcases h with rfl | rfl | rfl
    · exact hl
    · exact hst
    · rw [hN.2.2.1]; exact hN.2.1
  · exact (ev_goodW hN w h).1
theorem ev_callI {a : Nat} (hd : decode (m_code X) pc = .ok (.invokespecial idx, 3)) (hl : Cond.methodLink (m_own X) idx (m_y Y) ∈ ev_G) (hY : ev_mI Y n) (hret : m_ret Y = none) (hfit : ev_fit X Y) (hn : As.length = n) (hr8 : rest.length ≤ 8)
    (hT : ev_T E Y (.ref a :: As) σ (v, τ)) (hS : S = As.reverse ++ .ref a :: rest) (k : EV E X (pc + 3) L (v.toList ++ rest) τ o) : EV E X pc L S σ o := by
  refine ev_go hT.1 (fun p e R s m args below meth c H locs cells slots ls C hR hS' hL hce hsl => ⟨(Value.ref (n_b E + a) :: As.map (ev_v E)).toArray, ?_⟩) k
  obtain ⟨hx, hb, hr, hml, hown, hts, hlo, hnm, hK, hX, hfr, hlw⟩ := C
  obtain ⟨hN, hi, hy⟩ := hY
  refine va_runI (As := As.map (ev_v E)) (b := n_b E + a) (bytes := m_code Y) (maxL := m_loc Y) ⟨hx, hb, hml, hown, hts⟩ hT.2 (cwI n hts (ev_goodW hN) (by rw [m_ws, m_word, hret]) rfl rfl (by rw [hN.2.2.1]; exact hts _ hN.2.1) (hts _ hl) (hts _ hi) hy ⟨hN.2.2.2.1, hN.2.2.2.2.1, hN.2.2.2.2.2⟩ ⟨by rw [hfr]; exact hfit.1, by rw [hlw]; exact hfit.2⟩) ⟨ev_blind, fun U hU hW => ⟨rfl, by rw [hU]; exact hR, va_K.moved hW.alike hK, hX.to hS' hU hW⟩⟩ rfl (by rw [List.length_map]; exact hn) hL.1 (by rw [hS]; show List.map _ _ = _; rw [List.map_append, List.map_reverse]; rfl) (by rw [ev_sum]; show 2 * 0 + _ ≤ 8; omega) hd ⟨hce, hsl⟩
/-- a nest mate's private maker -/
theorem ev_callN {a : Nat} (q : Nat) (hd : decode (m_code X) pc = .ok (.invokespecial idx, 3)) (hq : ev_nw[q]? = some (m_own X, idx, m_y Y)) (hY : ev_mI Y n) (hret : m_ret Y = none) (hfit : ev_fit X Y) (hn : As.length = n) (hr8 : rest.length ≤ 8)
    (hT : ev_T E Y (.ref a :: As) σ (v, τ)) (hS : S = As.reverse ++ .ref a :: rest) (k : EV E X (pc + 3) L (v.toList ++ rest) τ o) : EV E X pc L S σ o := by
  refine ev_go hT.1 (fun p e R s m args below meth c H locs cells slots ls C hR hS' hL hce hsl => ⟨(Value.ref (n_b E + a) :: As.map (ev_v E)).toArray, ?_⟩) k
  obtain ⟨hx, hb, hr, hml, hown, hts, hlo, hnm, hK, hX, hfr, hlw⟩ := C
  obtain ⟨hN, hi, hy⟩ := hY
  refine va_runIN (As := As.map (ev_v E)) (b := n_b E + a) (bytes := m_code Y) (maxL := m_loc Y) (host := "ChainVotes") ⟨hx, hb, hml, hown, hts⟩ hT.2 ⟨va_cnB n hts (ev_goodW hN) (by rw [m_ws, m_word, hret]) rfl rfl (hX.2.2.1 _ (List.mem_of_getElem? hq)) (by rw [hN.2.2.1]; exact hts _ hN.2.1) ⟨hN.2.2.2.1, hN.2.2.2.2.1, hN.2.2.2.2.2⟩ ⟨by rw [hfr]; exact hfit.1, by rw [hlw]; exact hfit.2⟩, hy, hts _ hi⟩ ⟨ev_blind, fun U hU hW => ⟨rfl, by rw [hU]; exact hR, va_K.moved hW.alike hK, hX.to hS' hU hW⟩⟩ rfl (by rw [List.length_map]; exact hn) hL.1 (by rw [hS]; show List.map _ _ = _; rw [List.map_append, List.map_reverse]; rfl) (by rw [ev_sum]; show 2 * 0 + _ ≤ 8; omega) hd ⟨hce, hsl⟩
end Calls9
