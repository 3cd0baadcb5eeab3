/-! HELP FOR THE PRINTED WALKS -/
section Help
variable {E : ev_N} {X Y : ev_M} {pc idx n : Nat} {L L' : List (Option Value)} {S rest As : List Value} {σ τ : ev_H} {I : ev_I} {o : Option Value × ev_H}
theorem ev_L0 (h : L = L') (k : EV E X pc L' S σ o) : EV E X pc L S σ o := h ▸ k
theorem sb_0 {b : List (Option Value)} : ev_sub [] b := by unfold ev_sub; trivial
theorem sb_n {a b : List (Option Value)} {x : Option Value} (h : ev_sub a b) : ev_sub (none :: a) (x :: b) := h
theorem sb_s {a b : List (Option Value)} {v : Value} (h : ev_sub a b) : ev_sub (some v :: a) (some v :: b) := ⟨rfl, h⟩
theorem ew_istn {i : Fin 4} {x : Int32} (hd : decode (m_code X) pc = .ok (.istore_n i, 1)) (hi : i.val < m_loc X) (hL : L.set i.val (some (.int x)) = L') (k : EV E X (pc + 1) L' rest σ o) : EV E X pc L (.int x :: rest) σ o := by subst hL; exact ev_istore_n hd hi k
theorem ew_ist {i : Nat} {x : Int32} (hd : decode (m_code X) pc = .ok (.istore i, 2)) (hi : i < m_loc X) (hL : L.set i (some (.int x)) = L') (k : EV E X (pc + 2) L' rest σ o) : EV E X pc L (.int x :: rest) σ o := by subst hL; exact ev_istore hd hi k
theorem ew_astn {i : Fin 4} {v : Value} (hd : decode (m_code X) pc = .ok (.astore_n i, 1)) (hi : i.val < m_loc X) (hv : ∀ x, v ≠ .int x) (hL : L.set i.val (some v) = L') (k : EV E X (pc + 1) L' rest σ o) : EV E X pc L (v :: rest) σ o := by subst hL; exact ev_astore_n hd hi hv k
theorem ew_ast {i : Nat} {v : Value} (hd : decode (m_code X) pc = .ok (.astore i, 2)) (hi : i < m_loc X) (hv : ∀ x, v ≠ .int x) (hL : L.set i (some v) = L') (k : EV E X (pc + 2) L' rest σ o) : EV E X pc L (v :: rest) σ o := by subst hL; exact ev_astore hd hi hv k
theorem ew_iinc {i : Nat} {k0 : Int} {x y c : Int32} (hd : decode (m_code X) pc = .ok (.iinc i k0, 3)) (hi : i < m_loc X) (hl : L[i]? = some (some (.int x))) (hc : Int32.ofInt k0 = c) (he : y = x + c) (hL : L.set i (some (.int y)) = L') (k : EV E X (pc + 3) L' rest σ o) : EV E X pc L rest σ o := by subst hL; subst he; subst hc; exact ev_iinc hd hi hl k
theorem ew_get0 {T : ev_tab} {q t z ci j : Nat} {rs : List (Option Nat)} (hd : decode (m_code X) pc = .ok (.getfield idx, 3)) (hf : ev_fd (m_own X) idx ci j) (hs : shp T σ q) (hk : T[0]? = some (t, z, rs)) (ht : t = ci) (hb : (ev_kd ci)[j]? = some true) (kk : EV E X (pc + 3) L (.int (I q j) :: rest) (h_w σ I) o) : EV E X pc L (.ref q :: rest) (h_w σ I) o := ev_geti hd hf hb (shp_n hs 0 hk) ((shp_t hs 0 hk).trans ht) kk
theorem ew_getr0 {T : ev_tab} {q t z ci j r : Nat} {rs : List (Option Nat)} (hd : decode (m_code X) pc = .ok (.getfield idx, 3)) (hf : ev_fd (m_own X) idx ci j) (hs : shp T σ q) (hk : T[0]? = some (t, z, rs)) (ht : t = ci) (hb : (ev_kd ci)[j]? = some false) (hj : rs[j]? = some (some r)) (kk : EV E X (pc + 3) L (.ref (q + r) :: rest) (h_w σ I) o) : EV E X pc L (.ref q :: rest) (h_w σ I) o := ev_getr hd hf hb (shp_n hs 0 hk) ((shp_t hs 0 hk).trans ht) (shp_r hs 0 hk j hj) kk
theorem ew_put0 {T : ev_tab} {q t z ci j : Nat} {rs : List (Option Nat)} {v : Int32} (hd : decode (m_code X) pc = .ok (.putfield idx, 3)) (hf : ev_fd (m_own X) idx ci j) (hs : shp T σ q) (hk : T[0]? = some (t, z, rs)) (ht : t = ci) (hb : (ev_kd ci)[j]? = some true) (hfin : (k_T ci j).2.2.2 = false) (hn : narrow (k_ty ci j) (.int v) = .int v) (hfit : fits (k_ty ci j) (.int v) = true) (kk : EV E X (pc + 3) L rest (h_w σ (ev_u2 I q j v)) o) : EV E X pc L (.int v :: .ref q :: rest) (h_w σ I) o := ev_puti hd hf hb (shp_n hs 0 hk) ((shp_t hs 0 hk).trans ht) (Or.inl hfin) hn hfit kk
theorem er_i {v : Int32} {ty : FieldType} (hd : decode (m_code X) pc = .ok (.ireturn, 1)) (hr : m_ret X = some ty) (hn : narrow ty (.int v) = .int v) : EV E X pc L [.int v] σ (some (.int v), σ) := ev_ret (some (.int v)) _ hd ⟨ty, hr, hn⟩ rfl
theorem er_v (hd : decode (m_code X) pc = .ok (.return_, 1)) (hr : m_ret X = none) : EV E X pc L [] σ (none, σ) := ev_ret none _ hd hr rfl
theorem ec_Vi {a ci : Nat} {r : Int32} (hd : decode (m_code X) pc = .ok (.invokevirtual idx, 3)) (hl : Cond.methodLink (m_own X) idx (m_y Y) ∈ ev_G) (hY : ev_mV Y n) (hfit : m_fr Y + 1 ≤ m_fr X ∧ 8 + (m_loc Y + 11) + m_lw Y ≤ m_lw X) (hci : ci < 10) (hC : k_C ci = m_own Y) (ha : a < h_n σ) (ht : h_t σ a = ci) (hn : As.length = n) (hr8 : rest.length ≤ 8)
    (hT : ev_T E Y (.ref a :: As) σ (some (.int r), τ)) (hS : S = As.reverse ++ .ref a :: rest) (k : EV E X (pc + 3) L (.int r :: rest) τ o) : EV E X pc L S σ o := ev_callV hd hl hY hfit hci hC ha ht hn hr8 hT hS k
theorem ec_Vv {a ci : Nat} (hd : decode (m_code X) pc = .ok (.invokevirtual idx, 3)) (hl : Cond.methodLink (m_own X) idx (m_y Y) ∈ ev_G) (hY : ev_mV Y n) (hfit : m_fr Y + 1 ≤ m_fr X ∧ 8 + (m_loc Y + 11) + m_lw Y ≤ m_lw X) (hci : ci < 10) (hC : k_C ci = m_own Y) (ha : a < h_n σ) (ht : h_t σ a = ci) (hn : As.length = n) (hr8 : rest.length ≤ 8)
    (hT : ev_T E Y (.ref a :: As) σ (none, τ)) (hS : S = As.reverse ++ .ref a :: rest) (k : EV E X (pc + 3) L rest τ o) : EV E X pc L S σ o := ev_callV hd hl hY hfit hci hC ha ht hn hr8 hT hS k
theorem ec_Si {r : Int32} (hd : decode (m_code X) pc = .ok (.invokestatic idx, 3)) (hl : Cond.methodLink (m_own X) idx (m_y Y) ∈ ev_G) (hY : ev_mS Y n) (hfit : m_fr Y + 1 ≤ m_fr X ∧ 8 + (m_loc Y + 11) + m_lw Y ≤ m_lw X) (hn : As.length = n) (hr8 : rest.length ≤ 8)
    (hT : ev_T E Y As σ (some (.int r), τ)) (hS : S = As.reverse ++ rest) (k : EV E X (pc + 3) L (.int r :: rest) τ o) : EV E X pc L S σ o := ev_callS hd hl hY hfit hn hr8 hT hS k
theorem ec_Sv (hd : decode (m_code X) pc = .ok (.invokestatic idx, 3)) (hl : Cond.methodLink (m_own X) idx (m_y Y) ∈ ev_G) (hY : ev_mS Y n) (hfit : m_fr Y + 1 ≤ m_fr X ∧ 8 + (m_loc Y + 11) + m_lw Y ≤ m_lw X) (hn : As.length = n) (hr8 : rest.length ≤ 8)
    (hT : ev_T E Y As σ (none, τ)) (hS : S = As.reverse ++ rest) (k : EV E X (pc + 3) L rest τ o) : EV E X pc L S σ o := ev_callS hd hl hY hfit hn hr8 hT hS k
theorem sw_out (lo hi : Int) (x : Int32) (h : ∀ i : Int, lo ≤ i → i ≤ hi → ∃ k : Int32, Int32.ofInt i = k ∧ ¬ x = k) : x.toInt < lo ∨ hi < x.toInt := by
  rcases Int.lt_or_le x.toInt lo with q | q
  · exact Or.inl q
  · rcases Int.lt_or_le hi x.toInt with r | r
    · exact Or.inr r
    · obtain ⟨k, e, hk⟩ := h x.toInt q r
      exact absurd (by rw [← e]; exact (Int32.ofInt_toInt x).symm) hk
theorem sw_lk {ps : List (Int × Int)} {d : Int} {x : Int32} (h : ∀ q ∈ ps, ∃ k : Int32, Int32.ofInt q.1 = k ∧ ¬ x = k) : Op.lookupswitch.offset ps d x.toInt = d := by
  induction ps with
  | nil => rfl
  | cons q ps ih =>
    obtain ⟨a, b⟩ := q
    show (if a = x.toInt then b else Op.lookupswitch.offset ps d x.toInt) = d
    rw [if_neg (fun e => ?_), ih (fun q hq => h q (List.mem_cons_of_mem _ hq))]
    obtain ⟨k, e1, e2⟩ := h (a, b) List.mem_cons_self
    exact e2 (by rw [← e1, e]; exact (Int32.ofInt_toInt x).symm)
end Help
