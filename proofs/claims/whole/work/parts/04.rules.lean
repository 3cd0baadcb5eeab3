/-! ROWS FOR INSTRUCTIONS THAT LEAVE THE HEAP -/
/-- one instruction that leaves heap and locals -/
theorem ev_pure {E : ev_N} {X : ev_M} {pc pc' : Nat} {L : List (Option Value)} {S S' : List Value} {σ : ev_H} {o : Option Value × ev_H}
    (h : ∀ (p : Program) (e : Env) (R : Room) (s : State) (m : MethodId) (args : Array Value) (below : List Frame) (meth : Method) (c : Code) (Q : State → Prop) (H : Heap) (locs : List Loc) (cells slots : Nat) (ls : Array Slot),
      ev_C E X p R s m args meth c → ev_Rep E σ H → va_S (n_A E) s.heap H locs → ev_L E X L ls → cells ≤ R.cells → slots ≤ R.slots →
      W p (n_l E) e R s m args below meth c H locs cells slots Q (F0 m pc' ls (S'.map (ev_v E))) → W p (n_l E) e R s m args below meth c H locs cells slots Q (F0 m pc ls (S.map (ev_v E))))
    (k : EV E X pc' L S' σ o) : EV E X pc L S σ o := by
  refine ⟨k.1, ?_⟩
  intro p e R s m args below meth c Q n0 s0 C hb hret H locs ls hR hS hL
  have k1 := k.1
  exact h p e R s m args below meth c Q H locs _ _ ls C hR hS hL (by omega) (by omega) (k.2 p e R s m args below meth c Q n0 s0 C hb hret H locs ls hR hS hL)
section Rules
variable {E : ev_N} {X : ev_M} {pc : Nat} {L : List (Option Value)} {rest : List Value} {σ : ev_H} {o : Option Value × ev_H}
theorem ev_iconst {n : Int} {v : Int32} (hd : decode (m_code X) pc = .ok (.iconst n, 1)) (hv : Int32.ofInt n = v) (k : EV E X (pc + 1) L (.int v :: rest) σ o) : EV E X pc L rest σ o :=
  ev_pure (fun _ _ _ _ _ _ _ _ _ _ _ _ _ _ _ C _ _ _ _ _ w => lv_iconst C.1 C.2.1 hd hv w) k
theorem ev_bipush {n : Int} {v : Int32} (hd : decode (m_code X) pc = .ok (.bipush n, 2)) (hv : (Int8.ofInt n).toInt32 = v) (k : EV E X (pc + 2) L (.int v :: rest) σ o) : EV E X pc L rest σ o :=
  ev_pure (fun _ _ _ _ _ _ _ _ _ _ _ _ _ _ _ C _ _ _ _ _ w => lv_bipush C.1 C.2.1 hd hv w) k
theorem ev_sipush {n : Int} {v : Int32} (hd : decode (m_code X) pc = .ok (.sipush n, 3)) (hv : (Int16.ofInt n).toInt32 = v) (k : EV E X (pc + 3) L (.int v :: rest) σ o) : EV E X pc L rest σ o :=
  ev_pure (fun _ _ _ _ _ _ _ _ _ _ _ _ _ _ _ C _ _ _ _ _ w => lv_sipush C.1 C.2.1 hd hv w) k
theorem ev_null (hd : decode (m_code X) pc = .ok (.aconst_null, 1)) (k : EV E X (pc + 1) L (.null :: rest) σ o) : EV E X pc L rest σ o :=
  ev_pure (fun _ _ _ _ _ _ _ _ _ _ _ _ _ _ _ C _ _ _ _ _ w => lv_null C.1 C.2.1 hd w) k
theorem ev_ldc {i : Nat} {v : Int32} (hd : decode (m_code X) pc = .ok (.ldc i, 2)) (hw : Cond.constant (m_own X) i v ∈ ev_G) (k : EV E X (pc + 2) L (.int v :: rest) σ o) : EV E X pc L rest σ o :=
  ev_pure (fun _ _ _ _ _ _ _ _ _ _ _ _ _ _ _ C _ _ _ _ _ w => lv_ldc C.1 C.2.1 C.2.2.2.2.1 (C.2.2.2.2.2.1 _ hw) hd w) k
theorem ev_ldcw {i : Nat} {v : Int32} (hd : decode (m_code X) pc = .ok (.ldc_w i, 3)) (hw : Cond.constant (m_own X) i v ∈ ev_G) (k : EV E X (pc + 3) L (.int v :: rest) σ o) : EV E X pc L rest σ o :=
  ev_pure (fun _ _ _ _ _ _ _ _ _ _ _ _ _ _ _ C _ _ _ _ _ w => lv_ldcw C.1 C.2.1 C.2.2.2.2.1 (C.2.2.2.2.2.1 _ hw) hd w) k
/-- a text constant -/
theorem ev_ldcs {i : Nat} (q : Nat) {tx : String} {n : Nat} (hd : decode (m_code X) pc = .ok (.ldc i, 2)) (hX : m_own X = "ChainVotes$Tape") (hq : ev_tx[q]? = some (i, tx, n)) (u : UInt64) (hu : u.toNat = n) (k : EV E X (pc + 2) L (.double u :: rest) σ o) : EV E X pc L rest σ o :=
  ev_pure (fun _ _ _ _ _ _ _ _ _ _ _ _ _ _ _ C _ _ _ _ _ w => va_ldcS C.1 C.2.1 (hX ▸ C.2.2.2.2.1) (by have := C.2.2.2.2.2.2.2.2.2.1.2.2.2.1 _ (List.mem_of_getElem? hq); rw [hu]; exact this) hd w) k
theorem ev_iload_n {i : Fin 4} {x : Int32} (hd : decode (m_code X) pc = .ok (.iload_n i, 1)) (hl : L[i.val]? = some (some (.int x))) (k : EV E X (pc + 1) L (.int x :: rest) σ o) : EV E X pc L rest σ o :=
  ev_pure (fun _ _ _ _ _ _ _ _ _ _ _ _ _ _ _ C _ _ hL _ _ w => lv_iload_n C.1 C.2.1 hd rfl (hL.2.2 _ _ hl) w) k
theorem ev_iload {i : Nat} {x : Int32} (hd : decode (m_code X) pc = .ok (.iload i, 2)) (hl : L[i]? = some (some (.int x))) (k : EV E X (pc + 2) L (.int x :: rest) σ o) : EV E X pc L rest σ o :=
  ev_pure (fun _ _ _ _ _ _ _ _ _ _ _ _ _ _ _ C _ _ hL _ _ w => lv_iload C.1 C.2.1 hd (hL.2.2 _ _ hl) w) k
theorem ev_vref (E : ev_N) (v : Value) (h : ∀ x, v ≠ .int x) : ev_v E v = .null ∨ ∃ a, ev_v E v = .ref a := by
  cases v with
  | int i => exact absurd rfl (h i)
  | ref a => exact Or.inr ⟨_, rfl⟩
  | float a => exact Or.inr ⟨_, rfl⟩
  | double a => exact Or.inr ⟨_, rfl⟩
  | long a => exact Or.inr ⟨_, rfl⟩
  | null => exact Or.inl rfl
  | retAddr a => exact Or.inr ⟨_, rfl⟩
theorem ev_aload_n {i : Fin 4} {v : Value} (hd : decode (m_code X) pc = .ok (.aload_n i, 1)) (hl : L[i.val]? = some (some v)) (hv : ∀ x, v ≠ .int x) (k : EV E X (pc + 1) L (v :: rest) σ o) : EV E X pc L rest σ o :=
  ev_pure (fun _ _ _ _ _ _ _ _ _ _ _ _ _ _ _ C _ _ hL _ _ w => by
    have h := hL.2.2 _ _ hl
    rw [List.map_cons] at w
    rcases ev_vref E v hv with e | ⟨a, e⟩
    · rw [e] at h w
      exact lv_aload_nN C.1 C.2.1 hd rfl h w
    · rw [e] at h w
      exact lv_aload_n C.1 C.2.1 hd rfl h w) k
theorem ev_aload {i : Nat} {v : Value} (hd : decode (m_code X) pc = .ok (.aload i, 2)) (hl : L[i]? = some (some v)) (hv : ∀ x, v ≠ .int x) (k : EV E X (pc + 2) L (v :: rest) σ o) : EV E X pc L rest σ o :=
  ev_pure (fun _ _ _ _ _ _ _ _ _ _ _ _ _ _ _ C _ _ hL _ _ w => by
    have h := hL.2.2 _ _ hl
    rw [List.map_cons] at w
    rcases ev_vref E v hv with e | ⟨a, e⟩
    · rw [e] at h w
      exact lv_aloadN C.1 C.2.1 hd h w
    · rw [e] at h w
      exact lv_aload C.1 C.2.1 hd h w) k
theorem ev_iadd {x y : Int32} (hd : decode (m_code X) pc = .ok (.iadd, 1)) (k : EV E X (pc + 1) L (.int (x + y) :: rest) σ o) : EV E X pc L (.int y :: .int x :: rest) σ o :=
  ev_pure (fun _ _ _ _ _ _ _ _ _ _ _ _ _ _ _ C _ _ _ _ _ w => lv_iadd C.1 C.2.1 hd w) k
theorem ev_isub {x y : Int32} (hd : decode (m_code X) pc = .ok (.isub, 1)) (k : EV E X (pc + 1) L (.int (x - y) :: rest) σ o) : EV E X pc L (.int y :: .int x :: rest) σ o :=
  ev_pure (fun _ _ _ _ _ _ _ _ _ _ _ _ _ _ _ C _ _ _ _ _ w => lv_isub C.1 C.2.1 hd w) k
theorem ev_imul {x y : Int32} (hd : decode (m_code X) pc = .ok (.imul, 1)) (k : EV E X (pc + 1) L (.int (x * y) :: rest) σ o) : EV E X pc L (.int y :: .int x :: rest) σ o :=
  ev_pure (fun _ _ _ _ _ _ _ _ _ _ _ _ _ _ _ C _ _ _ _ _ w => lv_imul C.1 C.2.1 hd w) k
theorem ev_iand {x y : Int32} (hd : decode (m_code X) pc = .ok (.iand, 1)) (k : EV E X (pc + 1) L (.int (x &&& y) :: rest) σ o) : EV E X pc L (.int y :: .int x :: rest) σ o :=
  ev_pure (fun _ _ _ _ _ _ _ _ _ _ _ _ _ _ _ C _ _ _ _ _ w => lv_iand C.1 C.2.1 hd w) k
theorem ev_ior {x y : Int32} (hd : decode (m_code X) pc = .ok (.ior, 1)) (k : EV E X (pc + 1) L (.int (x ||| y) :: rest) σ o) : EV E X pc L (.int y :: .int x :: rest) σ o :=
  ev_pure (fun _ _ _ _ _ _ _ _ _ _ _ _ _ _ _ C _ _ _ _ _ w => lv_ior C.1 C.2.1 hd w) k
theorem ev_ixor {x y : Int32} (hd : decode (m_code X) pc = .ok (.ixor, 1)) (k : EV E X (pc + 1) L (.int (x ^^^ y) :: rest) σ o) : EV E X pc L (.int y :: .int x :: rest) σ o :=
  ev_pure (fun _ _ _ _ _ _ _ _ _ _ _ _ _ _ _ C _ _ _ _ _ w => lv_ixor C.1 C.2.1 hd w) k
theorem ev_ishl {x y : Int32} (hd : decode (m_code X) pc = .ok (.ishl, 1)) (k : EV E X (pc + 1) L (.int (x <<< (y &&& 31)) :: rest) σ o) : EV E X pc L (.int y :: .int x :: rest) σ o :=
  ev_pure (fun _ _ _ _ _ _ _ _ _ _ _ _ _ _ _ C _ _ _ _ _ w => lv_ishl C.1 C.2.1 hd w) k
theorem ev_ishr {x y : Int32} (hd : decode (m_code X) pc = .ok (.ishr, 1)) (k : EV E X (pc + 1) L (.int (x >>> (y &&& 31)) :: rest) σ o) : EV E X pc L (.int y :: .int x :: rest) σ o :=
  ev_pure (fun _ _ _ _ _ _ _ _ _ _ _ _ _ _ _ C _ _ _ _ _ w => lv_ishr C.1 C.2.1 hd w) k
theorem ev_iushr {x y : Int32} (hd : decode (m_code X) pc = .ok (.iushr, 1)) (k : EV E X (pc + 1) L (.int (x.toUInt32 >>> (y.toUInt32 &&& Int32.toUInt32 31)).toInt32 :: rest) σ o) : EV E X pc L (.int y :: .int x :: rest) σ o :=
  ev_pure (fun _ _ _ _ _ _ _ _ _ _ _ _ _ _ _ C _ _ _ _ _ w => lv_iushr C.1 C.2.1 hd rfl w) k
theorem ev_idiv {x y : Int32} (hd : decode (m_code X) pc = .ok (.idiv, 1)) (hy : ¬ y = 0) (k : EV E X (pc + 1) L (.int (x / y) :: rest) σ o) : EV E X pc L (.int y :: .int x :: rest) σ o :=
  ev_pure (fun _ _ _ _ _ _ _ _ _ _ _ _ _ _ _ C _ _ _ _ _ w => lv_idiv C.1 C.2.1 hd hy w) k
theorem ev_irem {x y : Int32} (hd : decode (m_code X) pc = .ok (.irem, 1)) (hy : ¬ y = 0) (k : EV E X (pc + 1) L (.int (x - x / y * y) :: rest) σ o) : EV E X pc L (.int y :: .int x :: rest) σ o :=
  ev_pure (fun _ _ _ _ _ _ _ _ _ _ _ _ _ _ _ C _ _ _ _ _ w => lv_irem C.1 C.2.1 hd hy w) k
theorem ev_ineg {x : Int32} (hd : decode (m_code X) pc = .ok (.ineg, 1)) (k : EV E X (pc + 1) L (.int (-x) :: rest) σ o) : EV E X pc L (.int x :: rest) σ o :=
  ev_pure (fun _ _ _ _ _ _ _ _ _ _ _ _ _ _ _ C _ _ _ _ _ w => lv_ineg C.1 C.2.1 hd w) k
theorem ev_i2b {x : Int32} (hd : decode (m_code X) pc = .ok (.i2b, 1)) (k : EV E X (pc + 1) L (.int x.toInt8.toInt32 :: rest) σ o) : EV E X pc L (.int x :: rest) σ o :=
  ev_pure (fun _ _ _ _ _ _ _ _ _ _ _ _ _ _ _ C _ _ _ _ _ w => lv_i2b C.1 C.2.1 hd rfl w) k
theorem ev_dup {v : Value} (hd : decode (m_code X) pc = .ok (.dup, 1)) (k : EV E X (pc + 1) L (v :: v :: rest) σ o) : EV E X pc L (v :: rest) σ o :=
  ev_pure (fun _ _ _ _ _ _ _ _ _ _ _ _ _ _ _ C _ _ _ _ _ w => lv_dup C.1 C.2.1 hd (ev_v1 E v) w) k
theorem ev_dup2 {v u : Value} (hd : decode (m_code X) pc = .ok (.dup2, 1)) (k : EV E X (pc + 1) L (v :: u :: v :: u :: rest) σ o) : EV E X pc L (v :: u :: rest) σ o :=
  ev_pure (fun _ _ _ _ _ _ _ _ _ _ _ _ _ _ _ C _ _ _ _ _ w => lv_dup2_11 C.1 C.2.1 hd (ev_v1 E v) (ev_v1 E u) w) k
theorem ev_pop {v : Value} (hd : decode (m_code X) pc = .ok (.pop, 1)) (k : EV E X (pc + 1) L rest σ o) : EV E X pc L (v :: rest) σ o :=
  ev_pure (fun _ _ _ _ _ _ _ _ _ _ _ _ _ _ _ C _ _ _ _ _ w => lv_pop C.1 C.2.1 hd (ev_v1 E v) w) k
theorem ev_goto {off : Int} {tgt : Nat} (hd : decode (m_code X) pc = .ok (.goto off, 3)) (ht : (pc : Int) + off = (tgt : Int)) (k : EV E X tgt L rest σ o) : EV E X pc L rest σ o :=
  ev_pure (fun _ _ _ _ _ _ _ _ _ _ _ _ _ _ _ C _ _ _ _ _ w => lv_goto C.1 C.2.1 hd ht w) k
theorem ev_ifnonnull {v : Value} {off : Int} {tgt : Nat} (hd : decode (m_code X) pc = .ok (.ifnonnull off, 3)) (ht : (pc : Int) + off = (tgt : Int)) (a : Nat) (hv : v = .ref a) (k : EV E X tgt L rest σ o) : EV E X pc L (v :: rest) σ o := by
  subst hv
  exact ev_pure (fun _ _ _ _ _ _ _ _ _ _ _ _ _ _ _ C _ _ _ _ _ w => lv_ifnonnull C.1 C.2.1 hd ht w) k
theorem ev_ifnonnullN {off : Int} (hd : decode (m_code X) pc = .ok (.ifnonnull off, 3)) (k : EV E X (pc + 3) L rest σ o) : EV E X pc L (.null :: rest) σ o :=
  ev_pure (fun _ _ _ _ _ _ _ _ _ _ _ _ _ _ _ C _ _ _ _ _ w => lv_ifnonnullN C.1 C.2.1 hd w) k
theorem ev_ifnull {a : Nat} {off : Int} (hd : decode (m_code X) pc = .ok (.ifnull off, 3)) (k : EV E X (pc + 3) L rest σ o) : EV E X pc L (.ref a :: rest) σ o :=
  ev_pure (fun _ _ _ _ _ _ _ _ _ _ _ _ _ _ _ C _ _ _ _ _ w => lv_ifnull C.1 C.2.1 hd w) k
theorem ev_ifnullN {off : Int} {tgt : Nat} (hd : decode (m_code X) pc = .ok (.ifnull off, 3)) (ht : (pc : Int) + off = (tgt : Int)) (k : EV E X tgt L rest σ o) : EV E X pc L (.null :: rest) σ o :=
  ev_pure (fun _ _ _ _ _ _ _ _ _ _ _ _ _ _ _ C _ _ _ _ _ w => lv_ifnullN C.1 C.2.1 hd ht w) k
/-- a switch: where it goes -/
theorem ev_table {dflt lo hi : Int} {offs : Array Int} {len : Nat} {x : Int32} {tgt : Nat} (hd : decode (m_code X) pc = .ok (.tableswitch dflt lo hi offs, len))
    (ht : (pc : Int) + (if x.toInt < lo ∨ hi < x.toInt then dflt else offs.getD (x.toInt - lo).toNat 0) = (tgt : Int)) (hz : (hi - lo + 1).toNat = offs.size) (k : EV E X tgt L rest σ o) : EV E X pc L (.int x :: rest) σ o :=
  ev_pure (fun _ _ _ _ _ _ _ _ _ _ _ _ _ _ _ C _ _ _ _ _ w => by
    by_cases h : x.toInt < lo ∨ hi < x.toInt
    · rw [if_pos h] at ht
      exact lv_tableOut C.1 C.2.1 hd h ht w
    · rw [if_neg h] at ht
      have h1 : ¬ x.toInt < lo := fun q => h (Or.inl q)
      have h2 : ¬ hi < x.toInt := fun q => h (Or.inr q)
      have hlt : (x.toInt - lo).toNat < offs.size := by omega
      exact lv_tableIn C.1 C.2.1 hd h1 h2 (by rw [Array.getD_eq_getD_getElem?] at ht; rw [Array.getElem?_eq_getElem hlt]) (by rw [Array.getD_eq_getD_getElem?, Array.getElem?_eq_getElem hlt] at ht; exact ht) w) k
theorem ev_lookup {dflt : Int} {ps : Array (Int × Int)} {len : Nat} {x : Int32} {tgt : Nat} (hd : decode (m_code X) pc = .ok (.lookupswitch dflt ps, len)) (hp : (ps.toList.zip (ps.toList.drop 1)).all (fun (a, next) => a.1 < next.1) = true) (ht : (pc : Int) + Op.lookupswitch.offset ps.toList dflt x.toInt = (tgt : Int))
    (k : EV E X tgt L rest σ o) : EV E X pc L (.int x :: rest) σ o :=
  ev_pure (fun _ _ _ _ _ _ _ _ _ _ _ _ _ _ _ C _ _ _ _ _ w => lv_lookup C.1 C.2.1 hd hp rfl ht w) k
end Rules
