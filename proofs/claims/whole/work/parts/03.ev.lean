/-! THE ROWS' OWN MACHINE: 'EV E X pc L S σ o' says: from any state of the machine in which method X stands at pc with locals L, operand stack S and a heap that holds σ, the method comes to its end with the answer o.1 and a heap that holds o.2. σ holds the cells from n_b on, in the order in which they were made: class or array kind, length, ints, references (as places in that order). -/
def ev_G : List Cond := lw_tbl.filter goodWord
theorem ev_mem {w : Cond} (h : w ∈ lw_tbl) (hg : goodWord w = true) : w ∈ ev_G := List.mem_filter.mpr ⟨h, hg⟩
theorem ev_tk {w : Cond} {T : List Cond} (hT : ∀ x ∈ T, x ∈ tables_1) (i : Nat) (h : T[i]? = some w) (hg : goodWord w = true) : w ∈ ev_G := ev_mem (List.mem_append_right _ (hT w (List.mem_of_getElem? h))) hg
theorem tk1 : ∀ x ∈ tables_1_1, x ∈ tables_1 := fun _ h => List.mem_append_left _ h
theorem tk2 : ∀ x ∈ tables_1_2, x ∈ tables_1 := fun _ h => List.mem_append_right _ (List.mem_append_left _ h)
theorem tk3 : ∀ x ∈ tables_1_3, x ∈ tables_1 := fun _ h => List.mem_append_right _ (List.mem_append_right _ (List.mem_append_left _ h))
theorem tk4 : ∀ x ∈ tables_1_4, x ∈ tables_1 := fun _ h => List.mem_append_right _ (List.mem_append_right _ (List.mem_append_right _ (List.mem_append_left _ h)))
theorem tk5 : ∀ x ∈ tables_1_5, x ∈ tables_1 := fun _ h => List.mem_append_right _ (List.mem_append_right _ (List.mem_append_right _ (List.mem_append_right _ (List.mem_append_left _ h))))
theorem tk6 : ∀ x ∈ tables_1_6, x ∈ tables_1 := fun _ h => List.mem_append_right _ (List.mem_append_right _ (List.mem_append_right _ (List.mem_append_right _ (List.mem_append_right _ (List.mem_append_left _ h)))))
theorem tk7 : ∀ x ∈ tables_1_7, x ∈ tables_1 := fun _ h => List.mem_append_right _ (List.mem_append_right _ (List.mem_append_right _ (List.mem_append_right _ (List.mem_append_right _ (List.mem_append_right _ (List.mem_append_left _ h))))))
theorem tk8 : ∀ x ∈ tables_1_8, x ∈ tables_1 := fun _ h => List.mem_append_right _ (List.mem_append_right _ (List.mem_append_right _ (List.mem_append_right _ (List.mem_append_right _ (List.mem_append_right _ (List.mem_append_right _ h))))))
theorem ev_tb {w : Cond} (i : Nat) (h : tables_1[i]? = some w) (hg : goodWord w = true) : w ∈ ev_G := ev_mem (List.mem_append_right _ (List.mem_of_getElem? h)) hg
theorem ev_sl {w : Cond} (i : Nat) (h : (k2_sels lw_privs)[i]? = some w) (hg : goodWord w = true) : w ∈ ev_G := ev_mem (List.mem_append_left _ (List.mem_of_getElem? h)) hg
theorem ev_Gin {w : Cond} (h : w ∈ ev_G) : w ∈ lw_tbl := (List.mem_filter.mp h).1
theorem ev_Gg {w : Cond} (h : w ∈ ev_G) : goodWord w = true := (List.mem_filter.mp h).2
/-- a method: class, name, bytes, locals, return type, frames and locals' words that it needs below it -/
abbrev ev_M : Type := String × MethodName × ByteArray × Nat × Option FieldType × Nat × Nat
def m_own (X : ev_M) : String := X.1
def m_y (X : ev_M) : MethodName := X.2.1
def m_code (X : ev_M) : ByteArray := X.2.2.1
def m_loc (X : ev_M) : Nat := X.2.2.2.1
def m_ret (X : ev_M) : Option FieldType := X.2.2.2.2.1
def m_fr (X : ev_M) : Nat := X.2.2.2.2.2.1
def m_lw (X : ev_M) : Nat := X.2.2.2.2.2.2
def m_word (X : ev_M) : Cond := .code (m_y X) (m_code X) (m_loc X) (m_ret X)
def m_ws (X : ev_M) : List Cond := m_word X :: ev_G
/-- the heap: how many cells, how many slots, kind, length, ints, references -/
abbrev ev_H : Type := Nat × Nat × (Nat → Nat) × (Nat → Nat) × (Nat → Nat → Int32) × (Nat → Nat → Option Nat)
def h_n (σ : ev_H) : Nat := σ.1
def h_s (σ : ev_H) : Nat := σ.2.1
def h_t (σ : ev_H) : Nat → Nat := σ.2.2.1
def h_z (σ : ev_H) : Nat → Nat := σ.2.2.2.1
def h_i (σ : ev_H) : Nat → Nat → Int32 := σ.2.2.2.2.1
def h_r (σ : ev_H) : Nat → Nat → Option Nat := σ.2.2.2.2.2
def ev_u2 {α : Type} (f : Nat → Nat → α) (o k : Nat) (v : α) : Nat → Nat → α := fun a j => if a = o ∧ j = k then v else f a j
def ev_u1 {α : Type} (f : Nat → α) (o : Nat) (v : α) : Nat → α := fun a => if a = o then v else f a
/-- an int is written, a whole row of ints, a reference; a cell is made -/
def h_pi (σ : ev_H) (o k : Nat) (v : Int32) : ev_H := (h_n σ, h_s σ, h_t σ, h_z σ, ev_u2 (h_i σ) o k v, h_r σ)
def h_pw (σ : ev_H) (o : Nat) (f : Nat → Int32) : ev_H := (h_n σ, h_s σ, h_t σ, h_z σ, ev_u1 (h_i σ) o f, h_r σ)
def h_pr (σ : ev_H) (o k : Nat) (r : Option Nat) : ev_H := (h_n σ, h_s σ, h_t σ, h_z σ, h_i σ, ev_u2 (h_r σ) o k r)
def h_mk (σ : ev_H) (t z N : Nat) : ev_H := (h_n σ + 1, h_s σ + N, ev_u1 (h_t σ) (h_n σ) t, ev_u1 (h_z σ) (h_n σ) z, ev_u1 (h_i σ) (h_n σ) (fun _ => 0), ev_u1 (h_r σ) (h_n σ) (fun _ => none))
/-- what stays the same over a whole run: launch, the classes' numbers and slots, the array classes, the first cell of the run, the script, the text constants -/
abbrev ev_N : Type := Launch × va_G × (ClassId × ClassId × ClassId) × Nat × (Nat × Nat × (Nat → Int32)) × (Nat → Nat) × (Nat → Nat)
def n_l (E : ev_N) : Launch := E.1
def n_D (E : ev_N) : va_G := E.2.1
def n_cI (E : ev_N) : ClassId := E.2.2.1.1
def n_cB (E : ev_N) : ClassId := E.2.2.1.2.1
def n_cM (E : ev_N) : ClassId := E.2.2.1.2.2
def n_b (E : ev_N) : Nat := E.2.2.2.1
def n_sb (E : ev_N) : Nat := E.2.2.2.2.1.1
def n_sl (E : ev_N) : Nat := E.2.2.2.2.1.2.1
def n_sx (E : ev_N) : Nat → Int32 := E.2.2.2.2.1.2.2
def n_aK (E : ev_N) : Nat → Nat := E.2.2.2.2.2.1
def n_aV (E : ev_N) : Nat → Nat := E.2.2.2.2.2.2
def n_A (E : ev_N) : Nat → Prop := fun q => n_b E ≤ q
def ev_ty (E : ev_N) : List (ClassId × FieldType) := [(n_cI E, .int), (n_cB E, .byte), (n_cM E, .object "ChainVotes$Member")]
/-- a value of the rows as the machine has it: a place is an address from n_b on, .float is the script, .double k the k-th text constant, .long k its bytes, .retAddr a the address a itself -/
def ev_v (E : ev_N) : Value → Value
  | .int i => .int i
  | .ref o => .ref (n_b E + o)
  | .float _ => .ref (n_sb E)
  | .double k => .ref (n_aK E k.toNat)
  | .long k => .ref (n_aV E k.toNatClampNeg)
  | .retAddr a => .ref a
  | .null => .null
theorem ev_v1 (E : ev_N) (v : Value) : (ev_v E v).category = 1 := by cases v <;> rfl
def ev_rv (r : Option Nat) : Value := match r with
  | none => .null
  | some a => .ref a
theorem ev_v_rv (E : ev_N) (r : Option Nat) : ev_v E (ev_rv r) = va_rf (r.map (n_b E + ·)) := by cases r <;> rfl
/-- which fields of a class hold ints (true), which hold references -/
def ev_kd : Nat → List Bool
  | 0 => [false, false]
  | 1 => [true, false, false, false, false, false, false, false, false]
  | 2 => [true, true, false]
  | 3 => [true, true, true, true, true, true, true, true, true, true, true, false, false, false, false]
  | 4 => [true, true, true, true, true, false, false]
  | 5 => [true, true, false, false, false, false]
  | 6 => [false, true, true, true, false, true, true, true]
  | 7 => [true, true, true, false, false, false, false, false, false]
  | 8 => [false, false, false, false, false]
  | 9 => [true, false, false, false, false, false, false, false, true, true, true, true, true, false, true, true, true, true, true, false, true, false]
  | _ => []
def ev_fl (E : ev_N) (kd : List Bool) (f : Nat → Int32) (g : Nat → Option Nat) : List Value := kd.mapIdx (fun j b => if b = true then .int (f j) else va_rf ((g j).map (n_b E + ·)))
def ev_e (E : ev_N) (σ : ev_H) (k : Nat) : va_E :=
  if h_t σ k = 100 then .inl (n_cI E, h_z σ k, .inl (h_i σ k))
  else if h_t σ k = 101 then .inl (n_cB E, h_z σ k, .inl (h_i σ k))
  else if h_t σ k = 102 then .inl (n_cM E, h_z σ k, .inr (.inr (.inr (.inr (fun j => (h_r σ k j).map (n_b E + ·))))))
  else .inr (h_t σ k, ev_fl E (ev_kd (h_t σ k)) (h_i σ k) (h_r σ k))
def ev_Rep (E : ev_N) (σ : ev_H) (H : Heap) : Prop := H.size = n_b E + h_n σ ∧ ∀ k, k < h_n σ → va_at (n_D E) vwCl (n_b E + k, ev_e E σ k) H
/-- the text constants: place in Tape's pool, text, number -/
def ev_tx : List (Nat × String × Nat) := [(115, "propose", 0), (117, "deliver", 1), (119, "drop", 2), (121, "lose", 3), (123, "turn", 4), (125, "timeout", 5), (127, "calm", 6), (129, "lie", 7), (131, "mark", 8), (133, "block", 9), (135, "", 10), (137, "NP", 11), (139, "K", 12), (141, "N", 13), (143, "M", 14), (145, "R", 15), (147, "NB", 16), (149, "NBV", 17), (151, "NV", 18)]
def ev_by : List (List Int32) := ev_tx.map (fun q => q.2.1.toList.map (fun c => Int32.ofNat c.toNat))
def ev_ln : List Nat := ev_by.map List.length
/-- words on a nest mate's private makers -/
def ev_nw : List (String × Nat × MethodName) := [(RX8, 26, yX4_init), (RX8, 45, yX5_init), (RX7, 17, yX5_init), (RX9, 25, yX0_init)]
/-- what else is known of a state: the script, arrays over Member, nest words, texts, statics of the text classes -/
def ev_X (E : ev_N) (U : State) : Prop :=
  (va_X (n_sb E) (n_sl E) (n_sx E) U U.heap ∧ n_sb E < n_b E ∧ n_b E ≤ U.heap.size) ∧ va_AO "ChainVotes$Member" U ∧ (∀ q ∈ ev_nw, va_Nw (.methodLinkNest q.1 q.2.1 q.2.2 "ChainVotes") U) ∧
  (∀ q ∈ ev_tx, vk_R "ChainVotes$Tape" q.1 q.2.1 (n_aK E q.2.2) U) ∧ vk_S 19 ev_ln ev_by (n_aK E) (n_aV E) (n_A E) U U.heap ∧ va_Z "java/lang/String" "COMPACT_STRINGS" "Z" (.int 1) (n_A E) U U.heap ∧ va_Zq "jdk/internal/util/Preconditions" "SIOOBE_FORMATTER" "Ljava/util/function/BiFunction;" (n_A E) U U.heap
theorem ev_X.to {E : ev_N} {s U : State} {H : Heap} {locs : List Loc} (h : ev_X E s) (hS : va_S (n_A E) s.heap H locs) (hU : U.heap = H) (hW : s.WarmedH U.vm) : ev_X E U := by
  obtain ⟨⟨h1, h2, h3⟩, h4, h5, h6, h7, h8, h9⟩ := h
  have hk : ∀ a : Nat, a < s.heap.size → ¬ n_A E a → U.heap[a]? = s.heap[a]? := fun a ha hn => by rw [hU]; exact hS.2.1 a ha hn
  refine ⟨⟨(h1.moved hW.alike).kept (hk _ (Nat.lt_of_lt_of_le h2 h3) (Nat.not_le.mpr h2)), h2, Nat.le_trans h3 (by rw [hU]; exact hS.1)⟩, h4.moved hW.alike, fun q hq => va_Nw.warmM hW (h5 q hq), fun q hq => vk_R.warm hW (h6 q hq), (h7.moved hW.alike).kept hk, (h8.moved hW.alike).kept hk, (h9.moved hW.alike).kept hk⟩
theorem ev_X.calling {E : ev_N} {U : State} {g : JFrame} {mk : MethodId} {a : Array Value} (h : ev_X E U) : ev_X E (U.calling g mk a) := by
  obtain ⟨⟨h1, h2, h3⟩, h4, h5, h6, h7, h8, h9⟩ := h
  exact ⟨⟨h1.moved (Vm.Alike.refl U.vm), h2, h3⟩, h4.moved (u := U) (Vm.Alike.refl U.vm), fun q hq => va_Nw.same rfl (u := U) rfl (h5 q hq), fun q hq => vk_R.same (u := U) rfl (h6 q hq), h7.moved (u := U) (Vm.Alike.refl U.vm), h8.moved (u := U) (Vm.Alike.refl U.vm), h9.moved (u := U) (Vm.Alike.refl U.vm)⟩
/-- the locals -/
def ev_L (E : ev_N) (X : ev_M) (L : List (Option Value)) (ls : Array Slot) : Prop := ls.size = m_loc X ∧ lv_wf ls ∧ ∀ (i : Nat) (v : Value), L[i]? = some (some v) → ls[i]? = some (.val (ev_v E v))
/-- where a method stands -/
def ev_C (E : ev_N) (X : ev_M) (p : Program) (R : Room) (s : State) (m : MethodId) (args : Array Value) (meth : Method) (c : Code) : Prop :=
  p.tables.exec = Jvm.exec ∧ c.code = m_code X ∧ meth.sig.returnType = m_ret X ∧ c.maxLocals = m_loc X ∧ s.vm.findClass (m_own X) = some m.cls ∧ (∀ w ∈ ev_G, w.before args s = true) ∧ meth.locks = false ∧ ((m_y X).name = "<init>" → meth.name = "<init>") ∧ va_K (n_D E) vwCl (ev_ty E) s ∧ ev_X E s ∧ R.frames = m_fr X ∧ R.locals = m_lw X
def ev_rop (v : Option Value) : Instr := match v with
  | none => .return_
  | some (.int _) => .ireturn
  | some _ => .areturn
def ev_rok (r : Option FieldType) (v : Option Value) : Prop := match v with
  | none => r = none
  | some (.int x) => ∃ ty, r = some ty ∧ narrow ty (.int x) = .int x
  | some v => (∃ rt, r = some rt ∧ ((∃ n, rt = .object n) ∨ ∃ t, rt = .array t)) ∧ (v = .null ∨ (∃ a, v = .ref a) ∨ ∃ a, v = .double a)
def EV (E : ev_N) (X : ev_M) (pc : Nat) (L : List (Option Value)) (S : List Value) (σ : ev_H) (o : Option Value × ev_H) : Prop :=
  (h_n σ ≤ h_n o.2 ∧ h_s σ ≤ h_s o.2) ∧
  ∀ (p : Program) (e : Env) (R : Room) (s : State) (m : MethodId) (args : Array Value) (below : List Frame) (meth : Method) (c : Code) (Q : State → Prop) (n0 s0 : Nat),
    ev_C E X p R s m args meth c → (n0 ≤ h_n σ ∧ s0 ≤ h_s σ ∧ h_n o.2 - n0 ≤ R.cells ∧ h_s o.2 - s0 ≤ R.slots) →
    (∀ (H : Heap) (locs : List Loc) (pc : Nat) (ls : Array Slot), ev_Rep E o.2 H → va_S (n_A E) s.heap H locs → ev_rok (m_ret X) o.1 → decode (m_code X) pc = .ok (ev_rop o.1, 1) →
      W p (n_l E) e R s m args below meth c H locs (h_n o.2 - n0) (h_s o.2 - s0) Q (F0 m pc ls (o.1.map (ev_v E)).toList)) →
    ∀ (H : Heap) (locs : List Loc) (ls : Array Slot), ev_Rep E σ H → va_S (n_A E) s.heap H locs → ev_L E X L ls →
      W p (n_l E) e R s m args below meth c H locs (h_n σ - n0) (h_s σ - s0) Q (F0 m pc ls (S.map (ev_v E)))
/-- a method's contract -/
def ev_B (E : ev_N) (σ : ev_H) (U : State) : Prop := ev_Rep E σ U.heap ∧ va_K (n_D E) vwCl (ev_ty E) U ∧ ev_X E U
def ev_Q (E : ev_N) (o : Option Value × ev_H) : Array Value → State → Outcome → State → Prop := fun _ st oc t => oc = .returned (o.1.map (ev_v E)) ∧ ev_Rep E o.2 t.heap ∧ va_F (n_A E) st t
def ev_T (E : ev_N) (X : ev_M) (As : List Value) (σ : ev_H) (o : Option Value × ev_H) : Prop :=
  (h_n σ ≤ h_n o.2 ∧ h_s σ ≤ h_s o.2) ∧ Met (n_l E) (m_y X) (m_ws X) { frames := m_fr X, cells := h_n o.2 - h_n σ, slots := h_s o.2 - h_s σ, locals := m_lw X } (va_Pc (As.map (ev_v E)) (ev_B E σ)) (ev_Q E o) (h_n o.2 - h_n σ) (h_s o.2 - h_s σ) (n_A E)
/-- the locals at a method's entry -/
def ev_en (X : ev_M) (As : List Value) : List (Option Value) := As.map some ++ List.replicate (m_loc X - As.length) none
