/-! THE CLASSES BY THEIR NUMBERS -/
def k_C : Nat → String
  | 0 => RX0 | 1 => RX1 | 2 => RX2 | 3 => RX3 | 4 => RX4 | 5 => RX5 | 6 => RX7 | 7 => RX8 | 8 => RX9 | _ => RX10
def k_T : Nat → u_T
  | 0 => TX0 | 1 => TX1 | 2 => TX2 | 3 => TX3 | 4 => TX4 | 5 => TX5 | 6 => TX7 | 7 => TX8 | 8 => TX9 | _ => TX10
def k_N : Nat → Nat
  | 0 => 2 | 1 => 9 | 2 => 3 | 3 => 15 | 4 => 7 | 5 => 6 | 6 => 8 | 7 => 9 | 8 => 5 | _ => 22
def k_ty : Nat → Nat → FieldType
  | 0 => tyX0 | 1 => tyX1 | 2 => tyX2 | 3 => tyX3 | 4 => tyX4 | 5 => tyX5 | 6 => tyX7 | 7 => tyX8 | 8 => tyX9 | _ => tyX10
theorem k_case {P : Nat → Prop} (h0 : P 0) (h1 : P 1) (h2 : P 2) (h3 : P 3) (h4 : P 4) (h5 : P 5) (h6 : P 6) (h7 : P 7) (h8 : P 8) (h9 : P 9) : ∀ ci, ci < 10 → P ci
  | 0, _ => h0 | 1, _ => h1 | 2, _ => h2 | 3, _ => h3 | 4, _ => h4 | 5, _ => h5 | 6, _ => h6 | 7, _ => h7 | 8, _ => h8 | 9, _ => h9
  | n + 10, h => absurd h (by omega)
theorem k_cl : ∀ ci, ci < 10 → vwCl[ci]? = some (k_C ci, k_T ci, k_N ci) := k_case rfl rfl rfl rfl rfl rfl rfl rfl rfl rfl
theorem k_tyok : ∀ ci, ci < 10 → ∀ k, k < k_N ci → parseFieldDescriptor (k_T ci k).2.2.1 = some (k_ty ci k) := k_case tyX0_ok tyX1_ok tyX2_ok tyX3_ok tyX4_ok tyX5_ok tyX7_ok tyX8_ok tyX9_ok tyX10_ok
theorem k_nm : ∀ ci, ci < 10 → ∀ a, a < k_N ci → ∀ b, b < k_N ci → a ≠ b → (k_T ci a).2.1 ≠ (k_T ci b).2.1 := k_case nmX0 nmX1 nmX2 nmX3 nmX4 nmX5 nmX7 nmX8 nmX9 nmX10
theorem k_len : ∀ ci, ci < 10 → (ev_kd ci).length = k_N ci := k_case rfl rfl rfl rfl rfl rfl rfl rfl rfl rfl
theorem k_in0 : (u_ws RX0 TX0 2).all (fun w => decide (w ∈ tables_1) && goodWord w) = true := by decide +kernel
theorem k_in1 : (u_ws RX1 TX1 9).all (fun w => decide (w ∈ tables_1) && goodWord w) = true := by decide +kernel
theorem k_in2 : (u_ws RX2 TX2 3).all (fun w => decide (w ∈ tables_1) && goodWord w) = true := by decide +kernel
theorem k_in3 : (u_ws RX3 TX3 15).all (fun w => decide (w ∈ tables_1) && goodWord w) = true := by decide +kernel
theorem k_in4 : (u_ws RX4 TX4 7).all (fun w => decide (w ∈ tables_1) && goodWord w) = true := by decide +kernel
theorem k_in5 : (u_ws RX5 TX5 6).all (fun w => decide (w ∈ tables_1) && goodWord w) = true := by decide +kernel
theorem k_in7 : (u_ws RX7 TX7 8).all (fun w => decide (w ∈ tables_1) && goodWord w) = true := by decide +kernel
theorem k_in8 : (u_ws RX8 TX8 9).all (fun w => decide (w ∈ tables_1) && goodWord w) = true := by decide +kernel
theorem k_in9 : (u_ws RX9 TX9 5).all (fun w => decide (w ∈ tables_1) && goodWord w) = true := by decide +kernel
theorem k_in10 : (u_ws RX10 TX10 22).all (fun w => decide (w ∈ tables_1) && goodWord w) = true := by decide +kernel
theorem k_inA {l : List Cond} (h : l.all (fun w => decide (w ∈ tables_1) && goodWord w) = true) : ∀ w ∈ l, w ∈ ev_G := fun w hw => by
  have h1 := List.all_eq_true.mp h w hw
  simp only [Bool.and_eq_true, decide_eq_true_eq] at h1
  exact ev_mem (List.mem_append_right _ h1.1) h1.2
theorem k_in : ∀ ci, ci < 10 → ∀ w ∈ u_ws (k_C ci) (k_T ci) (k_N ci), w ∈ ev_G := k_case (k_inA k_in0) (k_inA k_in1) (k_inA k_in2) (k_inA k_in3) (k_inA k_in4) (k_inA k_in5) (k_inA k_in7) (k_inA k_in8) (k_inA k_in9) (k_inA k_in10)
/-- a word of the tables on a field: class own, place idx of its pool, field k of class ci -/
def ev_fd (own : String) (idx ci k : Nat) : Prop := Cond.fieldLink own idx (k_T ci k).1 (k_T ci k).2.1 (k_T ci k).2.2.1 ∈ ev_G ∧ ci < 10 ∧ k < k_N ci
theorem ev_fd.of {own : String} {idx ci k : Nat} (i : Nat) (h : tables_1[i]? = some (Cond.fieldLink own idx (k_T ci k).1 (k_T ci k).2.1 (k_T ci k).2.2.1)) (h1 : ci < 10) (h2 : k < k_N ci) : ev_fd own idx ci k := ⟨ev_tb i h rfl, h1, h2⟩
theorem ev_fd.ok {own : String} {idx ci k : Nat} (h : Cond.fieldLink own idx (k_T ci k).1 (k_T ci k).2.1 (k_T ci k).2.2.1 ∈ ev_G) (h1 : ci < 10) (h2 : k < k_N ci) : ev_fd own idx ci k := ⟨h, h1, h2⟩
/-! CELLS -/
theorem ev_e_o {E : ev_N} {σ : ev_H} {k ci : Nat} (h : h_t σ k = ci) (hc : ci < 10) : ev_e E σ k = .inr (ci, ev_fl E (ev_kd ci) (h_i σ k) (h_r σ k)) := by
  unfold ev_e
  rw [if_neg (by omega), if_neg (by omega), if_neg (by omega), h]
theorem ev_e_i {E : ev_N} {σ : ev_H} {k : Nat} (h : h_t σ k = 100) : ev_e E σ k = .inl (n_cI E, h_z σ k, .inl (h_i σ k)) := by
  unfold ev_e
  rw [if_pos h]
theorem ev_e_b {E : ev_N} {σ : ev_H} {k : Nat} (h : h_t σ k = 101) : ev_e E σ k = .inl (n_cB E, h_z σ k, .inl (h_i σ k)) := by
  unfold ev_e
  rw [if_neg (by omega), if_pos h]
theorem ev_e_q {E : ev_N} {σ : ev_H} {k : Nat} (h : h_t σ k = 102) : ev_e E σ k = .inl (n_cM E, h_z σ k, .inr (.inr (.inr (.inr (fun j => (h_r σ k j).map (n_b E + ·)))))) := by
  unfold ev_e
  rw [if_neg (by omega), if_neg (by omega), if_pos h]
theorem ev_e_eq {E : ev_N} {σ τ : ev_H} {k : Nat} (h1 : h_t τ k = h_t σ k) (h2 : h_z τ k = h_z σ k) (h3 : h_i τ k = h_i σ k) (h4 : h_r τ k = h_r σ k) : ev_e E τ k = ev_e E σ k := by
  unfold ev_e
  rw [h1, h2, h3, h4]
theorem ev_P1 {E : ev_N} {σ : ev_H} {H : Heap} {o : Nat} {q : va_E} (h : ev_Rep E σ H) (ho : o < h_n σ) (hq : ev_e E σ o = q) : va_P (n_D E) vwCl [(n_b E + o, q)] H := by
  intro k x hx
  have hz : k < 1 := (List.getElem?_eq_some_iff.mp hx).1
  rw [show k = 0 by omega] at hx
  cases hx
  rw [← hq]
  exact h.2 o ho
theorem ev_fl_get {E : ev_N} {kd : List Bool} {f : Nat → Int32} {g : Nat → Option Nat} {k : Nat} {b : Bool} (h : kd[k]? = some b) : (ev_fl E kd f g)[k]? = some (if b = true then .int (f k) else va_rf ((g k).map (n_b E + ·))) := by
  unfold ev_fl
  rw [List.getElem?_mapIdx, h]
  rfl
theorem ev_fl_len {E : ev_N} {kd : List Bool} {f : Nat → Int32} {g : Nat → Option Nat} : (ev_fl E kd f g).length = kd.length := by
  unfold ev_fl
  rw [List.length_mapIdx]
theorem ev_Rep.put {E : ev_N} {σ τ : ev_H} {H H1 : Heap} {o : Nat} (h : ev_Rep E σ H) (z : H1.size = H.size) (oq : ∀ q : Nat, q ≠ n_b E + o → H1[q]? = H[q]?) (hn : h_n τ = h_n σ) (he : ∀ k, k ≠ o → ev_e E τ k = ev_e E σ k) (ha : va_at (n_D E) vwCl (n_b E + o, ev_e E τ o) H1) : ev_Rep E τ H1 := by
  refine ⟨by rw [z, h.1, hn], fun k hk => ?_⟩
  by_cases hko : k = o
  · subst hko
    exact ha
  · rw [he k hko]
    exact (h.2 k (by rw [← hn]; exact hk)).kept (oq _ (by show n_b E + k ≠ n_b E + o; omega))
theorem ev_Rep.push {E : ev_N} {σ τ : ev_H} {H H1 : Heap} (h : ev_Rep E σ H) (z : H1.size = H.size + 1) (oq : ∀ q : Nat, q < H.size → H1[q]? = H[q]?) (hn : h_n τ = h_n σ + 1) (he : ∀ k, k < h_n σ → ev_e E τ k = ev_e E σ k) (ha : va_at (n_D E) vwCl (n_b E + h_n σ, ev_e E τ (h_n σ)) H1) : ev_Rep E τ H1 := by
  refine ⟨by rw [z, h.1, hn]; omega, fun k hk => ?_⟩
  by_cases hko : k = h_n σ
  · subst hko
    exact ha
  · have hk' : k < h_n σ := by omega
    rw [he k hk']
    exact (h.2 k hk').kept (oq _ (by show n_b E + k < H.size; rw [h.1]; omega))
theorem ev_mut {E : ev_N} {X : ev_M} {pc pc' : Nat} {L : List (Option Value)} {S S' : List Value} {σ τ : ev_H} {o : Option Value × ev_H} (hn : h_n τ = h_n σ) (hs : h_s τ = h_s σ)
    (h : ∀ (p : Program) (e : Env) (R : Room) (s : State) (m : MethodId) (args : Array Value) (below : List Frame) (meth : Method) (c : Code) (Q : State → Prop) (H : Heap) (locs : List Loc) (cells slots : Nat) (ls : Array Slot),
      ev_C E X p R s m args meth c → ev_Rep E σ H → va_S (n_A E) s.heap H locs → ev_L E X L ls →
      (∀ (H1 : Heap) (locs1 : List Loc), ev_Rep E τ H1 → va_S (n_A E) s.heap H1 locs1 → W p (n_l E) e R s m args below meth c H1 locs1 cells slots Q (F0 m pc' ls (S'.map (ev_v E)))) →
      W p (n_l E) e R s m args below meth c H locs cells slots Q (F0 m pc ls (S.map (ev_v E))))
    (k : EV E X pc' L S' τ o) : EV E X pc L S σ o := by
  refine ⟨⟨by rw [← hn]; exact k.1.1, by rw [← hs]; exact k.1.2⟩, ?_⟩
  intro p e R s m args below meth c Q n0 s0 C hb hret H locs ls hR hS hL
  refine h p e R s m args below meth c Q H locs _ _ ls C hR hS hL (fun H1 locs1 hR1 hS1 => ?_)
  have := k.2 p e R s m args below meth c Q n0 s0 C (by rw [hn, hs]; exact hb) hret H1 locs1 ls hR1 hS1 hL
  rw [hn, hs] at this
  exact this
theorem ev_grow {E : ev_N} {X : ev_M} {pc pc' : Nat} {L : List (Option Value)} {S S' : List Value} {σ τ : ev_H} {o : Option Value × ev_H} {N : Nat} (hn : h_n τ = h_n σ + 1) (hs : h_s τ = h_s σ + N)
    (h : ∀ (p : Program) (e : Env) (R : Room) (s : State) (m : MethodId) (args : Array Value) (below : List Frame) (meth : Method) (c : Code) (Q : State → Prop) (H : Heap) (locs : List Loc) (cells slots : Nat) (ls : Array Slot),
      ev_C E X p R s m args meth c → ev_Rep E σ H → va_S (n_A E) s.heap H locs → ev_L E X L ls → cells + 1 ≤ R.cells → slots + N ≤ R.slots →
      (∀ (H1 : Heap) (locs1 : List Loc), ev_Rep E τ H1 → va_S (n_A E) s.heap H1 locs1 → W p (n_l E) e R s m args below meth c H1 locs1 (cells + 1) (slots + N) Q (F0 m pc' ls (S'.map (ev_v E)))) →
      W p (n_l E) e R s m args below meth c H locs cells slots Q (F0 m pc ls (S.map (ev_v E))))
    (k : EV E X pc' L S' τ o) : EV E X pc L S σ o := by
  have k1 := k.1
  refine ⟨⟨by omega, by omega⟩, ?_⟩
  intro p e R s m args below meth c Q n0 s0 C hb hret H locs ls hR hS hL
  refine h p e R s m args below meth c Q H locs _ _ ls C hR hS hL (by omega) (by omega) (fun H1 locs1 hR1 hS1 => ?_)
  have := k.2 p e R s m args below meth c Q n0 s0 C ⟨by omega, by omega, hb.2.2⟩ hret H1 locs1 ls hR1 hS1 hL
  exact W.cs (by omega) (by omega) this
section Heap
variable {E : ev_N} {X : ev_M} {pc : Nat} {L : List (Option Value)} {rest : List Value} {σ : ev_H} {o : Option Value × ev_H}
/-- getfield -/
theorem ev_get {a idx ci k : Nat} {b : Bool} (hd : decode (m_code X) pc = .ok (.getfield idx, 3)) (hf : ev_fd (m_own X) idx ci k) (hb : (ev_kd ci)[k]? = some b) (ha : a < h_n σ) (ht : h_t σ a = ci)
    (kk : EV E X (pc + 3) L ((if b = true then .int (h_i σ a k) else ev_rv (h_r σ a k)) :: rest) σ o) : EV E X pc L (.ref a :: rest) σ o :=
  ev_pure (fun _ _ _ _ _ _ _ _ _ _ _ _ _ _ _ C hR _ _ _ _ w => by
    refine va_get C.1 C.2.1 C.2.2.2.2.2.1 (k_in ci hf.2.1) C.2.2.2.2.1 C.2.2.2.2.2.2.2.2.1 (ev_P1 hR ha (ev_e_o ht hf.2.1)) 0 rfl (k_cl ci hf.2.1) k hf.2.2 (C.2.2.2.2.2.1 _ hf.1) (fun _ h9 => h9) (ev_fl_get hb) hd ?_
    cases b
    · rw [List.map_cons] at w
      simp only [Bool.false_eq_true, if_false, ev_v_rv] at w ⊢
      exact w
    · exact w) kk
theorem ev_geti {a idx ci k : Nat} (hd : decode (m_code X) pc = .ok (.getfield idx, 3)) (hf : ev_fd (m_own X) idx ci k) (hb : (ev_kd ci)[k]? = some true) (ha : a < h_n σ) (ht : h_t σ a = ci) (kk : EV E X (pc + 3) L (.int (h_i σ a k) :: rest) σ o) : EV E X pc L (.ref a :: rest) σ o := ev_get hd hf hb ha ht kk
theorem ev_getr {a idx ci k : Nat} {r : Nat} (hd : decode (m_code X) pc = .ok (.getfield idx, 3)) (hf : ev_fd (m_own X) idx ci k) (hb : (ev_kd ci)[k]? = some false) (ha : a < h_n σ) (ht : h_t σ a = ci) (hr : h_r σ a k = some r) (kk : EV E X (pc + 3) L (.ref r :: rest) σ o) : EV E X pc L (.ref a :: rest) σ o := ev_get hd hf hb ha ht (by simp only [Bool.false_eq_true, if_false, hr]; exact kk)
theorem ev_getn {a idx ci k : Nat} (hd : decode (m_code X) pc = .ok (.getfield idx, 3)) (hf : ev_fd (m_own X) idx ci k) (hb : (ev_kd ci)[k]? = some false) (ha : a < h_n σ) (ht : h_t σ a = ci) (hr : h_r σ a k = none) (kk : EV E X (pc + 3) L (.null :: rest) σ o) : EV E X pc L (.ref a :: rest) σ o := ev_get hd hf hb ha ht (by simp only [Bool.false_eq_true, if_false, hr]; exact kk)
end Heap
