/-! MAKERS: heaps that grow; the outcome is named at the end ('EX': there is an outcome with P) -/
def EX (E : ev_N) (X : ev_M) (pc : Nat) (L : List (Option Value)) (S : List Value) (σ : ev_H) (P : Option Value × ev_H → Prop) : Prop := ∃ o, P o ∧ EV E X pc L S σ o
theorem ex_up {E : ev_N} {X : ev_M} {pc pc' : Nat} {L L' : List (Option Value)} {S S' : List Value} {σ σ' : ev_H} {P : Option Value × ev_H → Prop} (f : ∀ o, EV E X pc' L' S' σ' o → EV E X pc L S σ o) (k : EX E X pc' L' S' σ' P) : EX E X pc L S σ P := by
  obtain ⟨o, h, k⟩ := k
  exact ⟨o, h, f o k⟩
abbrev ev_K : Type := Nat × Nat × (Nat → Int32) × (Nat → Option Nat)
def cell9 (σ : ev_H) (k : Nat) : ev_K := (h_t σ k, h_z σ k, h_i σ k, h_r σ k)
def nc (t z : Nat) : ev_K := (t, z, fun _ => 0, fun _ => none)
/-- from a on the cells are CS; below a they are as in σ0; c slots were made since σ0 -/
def rg (σ0 : ev_H) (a c : Nat) (CS : List ev_K) (σ : ev_H) : Prop := h_n σ = a + CS.length ∧ (∀ k q, CS[k]? = some q → cell9 σ (a + k) = q) ∧ (∀ k, k < a → cell9 σ k = cell9 σ0 k) ∧ h_s σ = h_s σ0 + c
theorem rg_t {σ0 σ : ev_H} {a c : Nat} {CS : List ev_K} (R : rg σ0 a c CS σ) {k t z : Nat} {f : Nat → Int32} {g : Nat → Option Nat} (h : CS[k]? = some (t, z, f, g)) : a + k < h_n σ ∧ h_t σ (a + k) = t ∧ h_z σ (a + k) = z ∧ h_i σ (a + k) = f ∧ h_r σ (a + k) = g := by
  have hl : k < CS.length := (List.getElem?_eq_some_iff.mp h).1
  have e := R.2.1 k _ h
  unfold cell9 at e
  simp only [Prod.mk.injEq] at e
  exact ⟨by rw [R.1]; omega, e⟩
theorem rg_mk {σ0 σ : ev_H} {a c : Nat} {CS : List ev_K} (R : rg σ0 a c CS σ) (t z N : Nat) : rg σ0 a (c + N) (CS ++ [nc t z]) (h_mk σ t z N) := by
  refine ⟨?_, fun k q hk => ?_, fun k hk => ?_, ?_⟩
  · show h_n σ + 1 = _
    rw [R.1, List.length_append]
    show a + CS.length + 1 = a + (CS.length + 1)
    omega
  · by_cases hl : k < CS.length
    · rw [List.getElem?_append_left hl] at hk
      obtain ⟨h1, h2, h3, h4⟩ := h_mk_o (σ := σ) (t := t) (z := z) (N := N) (k := a + k) (by rw [R.1]; omega)
      rw [← R.2.1 k q hk]
      unfold cell9
      rw [h1, h2, h3, h4]
    · rw [List.getElem?_append_right (by omega)] at hk
      have hz : k - CS.length < 1 := (List.getElem?_eq_some_iff.mp hk).1
      rw [show k - CS.length = 0 by omega] at hk
      cases hk
      have e : a + k = h_n σ := by rw [R.1]; omega
      unfold cell9 nc
      rw [e, h_mk_t, h_mk_z, h_mk_i, h_mk_r]
  · rw [← R.2.2.1 k hk]
    obtain ⟨h1, h2, h3, h4⟩ := h_mk_o (σ := σ) (t := t) (z := z) (N := N) (k := k) (by rw [R.1]; omega)
    unfold cell9
    rw [h1, h2, h3, h4]
  · show h_s σ + N = _
    rw [R.2.2.2]
    omega
theorem rg_set {σ0 σ τ : ev_H} {a c k : Nat} {CS : List ev_K} {q : ev_K} (R : rg σ0 a c CS σ) (hk : k < CS.length) (h1 : h_n τ = h_n σ) (h2 : h_s τ = h_s σ) (h3 : ∀ j, j ≠ a + k → cell9 τ j = cell9 σ j) (h4 : cell9 τ (a + k) = q) : rg σ0 a c (CS.set k q) τ := by
  refine ⟨by rw [h1, R.1, List.length_set], fun j p hj => ?_, fun j hj => ?_, by rw [h2, R.2.2.2]⟩
  · by_cases e : j = k
    · subst e
      rw [List.getElem?_set_self hk] at hj
      cases hj
      exact h4
    · rw [List.getElem?_set_ne (Ne.symm e)] at hj
      rw [h3 _ (by omega)]
      exact R.2.1 j p hj
  · rw [h3 _ (by omega)]
    exact R.2.2.1 j hj
theorem rg_pi {σ0 σ : ev_H} {a c k t z : Nat} {f : Nat → Int32} {g : Nat → Option Nat} {CS : List ev_K} (R : rg σ0 a c CS σ) (h : CS[k]? = some (t, z, f, g)) (j : Nat) (v : Int32) : rg σ0 a c (CS.set k (t, z, ev_u1 f j v, g)) (h_pi σ (a + k) j v) := by
  obtain ⟨-, e1, e2, e3, e4⟩ := rg_t R h
  refine rg_set R (List.getElem?_eq_some_iff.mp h).1 rfl rfl (fun q hq => ?_) ?_
  · unfold cell9
    rw [h_pi_o hq]
    rfl
  · unfold cell9
    rw [h_pi_i, e3]
    show (h_t σ (a + k), h_z σ (a + k), _, h_r σ (a + k)) = _
    rw [e1, e2, e4]
    rfl
theorem rg_pr {σ0 σ : ev_H} {a c k t z : Nat} {f : Nat → Int32} {g : Nat → Option Nat} {CS : List ev_K} (R : rg σ0 a c CS σ) (h : CS[k]? = some (t, z, f, g)) (j : Nat) (v : Option Nat) : rg σ0 a c (CS.set k (t, z, f, ev_u1 g j v)) (h_pr σ (a + k) j v) := by
  obtain ⟨-, e1, e2, e3, e4⟩ := rg_t R h
  refine rg_set R (List.getElem?_eq_some_iff.mp h).1 rfl rfl (fun q hq => ?_) ?_
  · unfold cell9
    rw [h_pr_o hq]
    rfl
  · unfold cell9
    rw [h_pr_r, e4]
    show (h_t σ (a + k), h_z σ (a + k), h_i σ (a + k), _) = _
    rw [e1, e2, e3]
    rfl
/-- a region made behind another one -/
theorem rg_app {σ0 σ τ : ev_H} {a c d : Nat} {C1 C2 : List ev_K} {q : ev_K} (R : rg σ0 a c (C1 ++ [q]) σ) (R2 : rg σ (a + C1.length) d C2 τ) : rg σ0 a (c + d) (C1 ++ C2) τ := by
  refine ⟨?_, fun k p hk => ?_, fun k hk => ?_, ?_⟩
  · rw [R2.1, List.length_append]
    omega
  · by_cases hl : k < C1.length
    · rw [List.getElem?_append_left hl] at hk
      rw [R2.2.2.1 (a + k) (by omega)]
      exact R.2.1 k p (by rw [List.getElem?_append_left hl]; exact hk)
    · rw [List.getElem?_append_right (by omega)] at hk
      have := R2.2.1 _ p hk
      rw [show a + C1.length + (k - C1.length) = a + k by omega] at this
      exact this
  · rw [R2.2.2.1 k (by omega)]
    exact R.2.2.1 k hk
  · rw [R2.2.2.2, R.2.2.2]
    omega
theorem rg_last {σ0 σ : ev_H} {a c : Nat} {C1 : List ev_K} {q : ev_K} (R : rg σ0 a c (C1 ++ [q]) σ) : rg σ (a + C1.length) 0 [q] σ := by
  refine ⟨?_, fun k p hk => ?_, fun _ _ => rfl, rfl⟩
  · rw [R.1, List.length_append]
    show a + (C1.length + 1) = a + C1.length + 1
    omega
  · have hz : k < 1 := (List.getElem?_eq_some_iff.mp hk).1
    rw [show k = 0 by omega] at hk ⊢
    cases hk
    exact R.2.1 C1.length q (by rw [List.getElem?_append_right (Nat.le_refl _), Nat.sub_self]; rfl)
section Mk
variable {E : ev_N} {X Y : ev_M} {pc idx n a c d k ci j r : Nat} {L : List (Option Value)} {S rest As : List Value} {σ0 σ : ev_H} {P : Option Value × ev_H → Prop} {CS C1 C2 : List ev_K} {t z : Nat} {f : Nat → Int32} {g : Nat → Option Nat}
theorem en_new (R : rg σ0 a c CS σ) (hd : decode (m_code X) pc = .ok (.new idx, 3)) (hc : ci < 10) (h1 : Cond.classLink (m_own X) idx (k_C ci) ∈ ev_G) (h2 : Cond.instantiable (k_C ci) (k_N ci) ∈ ev_G ∧ Cond.initialized (k_C ci) ∈ ev_G)
    (kk : ∀ τ, rg σ0 a (c + k_N ci) (CS ++ [nc ci 0]) τ → EX E X (pc + 3) L (.ref (a + CS.length) :: rest) τ P) : EX E X pc L rest σ P := by
  obtain ⟨o, hP, k⟩ := kk _ (rg_mk R ci 0 (k_N ci))
  exact ⟨o, hP, ev_new hd hc h1 h2.1 h2.2 (by rw [R.1]; exact k)⟩
theorem en_newi {m : Int32} (R : rg σ0 a c CS σ) (hd : decode (m_code X) pc = .ok (.newarray .int, 2)) (hn : ¬ m < 0) (hm : m.toNatClampNeg = z) (hz : z ≤ 100000)
    (kk : ∀ τ, rg σ0 a (c + z) (CS ++ [nc 100 z]) τ → EX E X (pc + 2) L (.ref (a + CS.length) :: rest) τ P) : EX E X pc L (.int m :: rest) σ P := by
  subst hm
  obtain ⟨o, hP, k⟩ := kk _ (rg_mk R 100 _ _)
  exact ⟨o, hP, ev_newi hd zI hn hz (by rw [R.1]; exact k)⟩
theorem en_newb {m : Int32} (R : rg σ0 a c CS σ) (hd : decode (m_code X) pc = .ok (.newarray .byte, 2)) (hn : ¬ m < 0) (hm : m.toNatClampNeg = z) (hz : z ≤ 100000)
    (kk : ∀ τ, rg σ0 a (c + z) (CS ++ [nc 101 z]) τ → EX E X (pc + 2) L (.ref (a + CS.length) :: rest) τ P) : EX E X pc L (.int m :: rest) σ P := by
  subst hm
  obtain ⟨o, hP, k⟩ := kk _ (rg_mk R 101 _ _)
  exact ⟨o, hP, ev_newb hd zB hn hz (by rw [R.1]; exact k)⟩
theorem en_newq {m : Int32} (R : rg σ0 a c CS σ) (hd : decode (m_code X) pc = .ok (.anewarray idx, 3)) (hw : Cond.classLink (m_own X) idx "ChainVotes$Member" ∈ ev_G) (hn : ¬ m < 0) (hm : m.toNatClampNeg = z) (hz : z ≤ 100000)
    (kk : ∀ τ, rg σ0 a (c + z) (CS ++ [nc 102 z]) τ → EX E X (pc + 3) L (.ref (a + CS.length) :: rest) τ P) : EX E X pc L (.int m :: rest) σ P := by
  subst hm
  obtain ⟨o, hP, k⟩ := kk _ (rg_mk R 102 _ _)
  exact ⟨o, hP, ev_newq hd hw hn hz (by rw [R.1]; exact k)⟩
theorem en_putr (R : rg σ0 a c CS σ) (k : Nat) (hk : CS[k]? = some (ci, z, f, g)) (hd : decode (m_code X) pc = .ok (.putfield idx, 3)) (hf : ev_fd (m_own X) idx ci j) (hb : (ev_kd ci)[j]? = some false) (hfin : (k_T ci j).2.2.2 = false ∨ ((m_y X).name = "<init>" ∧ (k_T ci j).1 = m_own X)) (hty : (∃ n, k_ty ci j = .object n) ∨ ∃ t, k_ty ci j = .array t)
    (kk : ∀ τ, rg σ0 a c (CS.set k (ci, z, f, ev_u1 g j (some r))) τ → EX E X (pc + 3) L rest τ P) : EX E X pc L (.ref r :: .ref (a + k) :: rest) σ P := by
  obtain ⟨e0, e1, -⟩ := rg_t R hk
  obtain ⟨o, hP, kk⟩ := kk _ (rg_pr R hk j (some r))
  exact ⟨o, hP, ev_putr (r := some r) hd hf hb e0 e1 hfin hty kk⟩
theorem en_putn (R : rg σ0 a c CS σ) (k : Nat) (hk : CS[k]? = some (ci, z, f, g)) (hd : decode (m_code X) pc = .ok (.putfield idx, 3)) (hf : ev_fd (m_own X) idx ci j) (hb : (ev_kd ci)[j]? = some false) (hfin : (k_T ci j).2.2.2 = false ∨ ((m_y X).name = "<init>" ∧ (k_T ci j).1 = m_own X)) (hty : (∃ n, k_ty ci j = .object n) ∨ ∃ t, k_ty ci j = .array t)
    (kk : ∀ τ, rg σ0 a c (CS.set k (ci, z, f, ev_u1 g j none)) τ → EX E X (pc + 3) L rest τ P) : EX E X pc L (.null :: .ref (a + k) :: rest) σ P := by
  obtain ⟨e0, e1, -⟩ := rg_t R hk
  obtain ⟨o, hP, kk⟩ := kk _ (rg_pr R hk j none)
  exact ⟨o, hP, ev_putr (r := none) hd hf hb e0 e1 hfin hty kk⟩
theorem en_puti {v : Int32} (R : rg σ0 a c CS σ) (k : Nat) (hk : CS[k]? = some (ci, z, f, g)) (hd : decode (m_code X) pc = .ok (.putfield idx, 3)) (hf : ev_fd (m_own X) idx ci j) (hb : (ev_kd ci)[j]? = some true) (hfin : (k_T ci j).2.2.2 = false ∨ ((m_y X).name = "<init>" ∧ (k_T ci j).1 = m_own X)) (hn : narrow (k_ty ci j) (.int v) = .int v) (hfit : fits (k_ty ci j) (.int v) = true)
    (kk : ∀ τ, rg σ0 a c (CS.set k (ci, z, ev_u1 f j v, g)) τ → EX E X (pc + 3) L rest τ P) : EX E X pc L (.int v :: .ref (a + k) :: rest) σ P := by
  obtain ⟨e0, e1, -⟩ := rg_t R hk
  obtain ⟨o, hP, kk⟩ := kk _ (rg_pi R hk j v)
  exact ⟨o, hP, ev_puti hd hf hb e0 e1 hfin hn hfit kk⟩
theorem en_getr (R : rg σ0 a c CS σ) (k : Nat) (hk : CS[k]? = some (ci, z, f, g)) (hd : decode (m_code X) pc = .ok (.getfield idx, 3)) (hf : ev_fd (m_own X) idx ci j) (hb : (ev_kd ci)[j]? = some false) (hg : g j = some r) (kk : EX E X (pc + 3) L (.ref r :: rest) σ P) : EX E X pc L (.ref (a + k) :: rest) σ P := by
  obtain ⟨e0, e1, -, -, e4⟩ := rg_t R hk
  exact ex_up (fun _ q => ev_getr hd hf hb e0 e1 (by rw [e4]; exact hg) q) kk
theorem en_iast {i v : Int32} (R : rg σ0 a c CS σ) (k : Nat) (hk : CS[k]? = some (100, z, f, g)) (hd : decode (m_code X) pc = .ok (.iastore, 1)) (hi : ev_in i z = true) (kk : ∀ τ, rg σ0 a c (CS.set k (100, z, ev_u1 f i.toNatClampNeg v, g)) τ → EX E X (pc + 1) L rest τ P) : EX E X pc L (.int v :: .int i :: .ref (a + k) :: rest) σ P := by
  obtain ⟨e0, e1, e2, -⟩ := rg_t R hk
  obtain ⟨o, hP, kk⟩ := kk _ (rg_pi R hk i.toNatClampNeg v)
  exact ⟨o, hP, ev_iast hd e0 e1 (by rw [e2]; exact ev_inE hi) kk⟩
theorem en_aast {i : Int32} (R : rg σ0 a c CS σ) (k : Nat) (hk : CS[k]? = some (102, z, f, g)) {z' : Nat} {f' : Nat → Int32} {g' : Nat → Option Nat} (hr : CS[r]? = some (3, z', f', g')) (hd : decode (m_code X) pc = .ok (.aastore, 1)) (hi : ev_in i z = true) (kk : ∀ τ, rg σ0 a c (CS.set k (102, z, f, ev_u1 g i.toNatClampNeg (some (a + r)))) τ → EX E X (pc + 1) L rest τ P) : EX E X pc L (.ref (a + r) :: .int i :: .ref (a + k) :: rest) σ P := by
  obtain ⟨e0, e1, e2, -⟩ := rg_t R hk
  obtain ⟨d0, d1, -⟩ := rg_t R hr
  obtain ⟨o, hP, kk⟩ := kk _ (rg_pr R hk i.toNatClampNeg (some (a + r)))
  exact ⟨o, hP, ev_aast hd e0 e1 (by rw [e2]; exact ev_inE hi) d0 d1 kk⟩
/-- what a maker does on a fresh cell -/
def mkr (E : ev_N) (Y : ev_M) (ci : Nat) (As : List Value) (d : Nat) (cs : Nat → List ev_K) : Prop := ∀ (σ : ev_H) (a : Nat), rg σ a 0 [nc ci 0] σ → ∃ τ, rg σ a d (cs a) τ ∧ ev_T E Y (.ref a :: As) σ (none, τ)
theorem en_ctor {cs : Nat → List ev_K} (R : rg σ0 a c (C1 ++ [nc ci 0]) σ) (hd : decode (m_code X) pc = .ok (.invokespecial idx, 3)) (hl : Cond.methodLink (m_own X) idx (m_y Y) ∈ ev_G) (hY : ev_mI Y n) (hret : m_ret Y = none) (hfit : m_fr Y + 1 ≤ m_fr X ∧ 8 + (m_loc Y + 11) + m_lw Y ≤ m_lw X) (hn : As.length = n) (hr8 : rest.length ≤ 8) (hM : mkr E Y ci As d cs) (hS : S = As.reverse ++ .ref (a + C1.length) :: rest)
    (kk : ∀ τ, rg σ0 a (c + d) (C1 ++ cs (a + C1.length)) τ → EX E X (pc + 3) L rest τ P) : EX E X pc L S σ P := by
  obtain ⟨τ, R2, hT⟩ := hM σ (a + C1.length) (rg_last R)
  obtain ⟨o, hP, kk⟩ := kk τ (rg_app R R2)
  exact ⟨o, hP, ev_callI hd hl hY hret hfit hn hr8 hT hS kk⟩
theorem en_ctorN {cs : Nat → List ev_K} (q : Nat) (R : rg σ0 a c (C1 ++ [nc ci 0]) σ) (hd : decode (m_code X) pc = .ok (.invokespecial idx, 3)) (hq : ev_nw[q]? = some (m_own X, idx, m_y Y)) (hY : ev_mI Y n) (hret : m_ret Y = none) (hfit : m_fr Y + 1 ≤ m_fr X ∧ 8 + (m_loc Y + 11) + m_lw Y ≤ m_lw X) (hn : As.length = n) (hr8 : rest.length ≤ 8) (hM : mkr E Y ci As d cs) (hS : S = As.reverse ++ .ref (a + C1.length) :: rest)
    (kk : ∀ τ, rg σ0 a (c + d) (C1 ++ cs (a + C1.length)) τ → EX E X (pc + 3) L rest τ P) : EX E X pc L S σ P := by
  obtain ⟨τ, R2, hT⟩ := hM σ (a + C1.length) (rg_last R)
  obtain ⟨o, hP, kk⟩ := kk τ (rg_app R R2)
  exact ⟨o, hP, ev_callN q hd hq hY hret hfit hn hr8 hT hS kk⟩
theorem en_met {ci : Nat} {cs : Nat → List ev_K} (hp : plainName (m_y X).cls = true) (ho : m_own X = (m_y X).cls) (hl : As.length + 1 ≤ m_loc X) (h : ∀ (σ : ev_H) (a : Nat), rg σ a 0 [nc ci 0] σ → EX E X 0 (ev_en X (.ref a :: As)) [] σ (fun o => o.1 = none ∧ rg σ a d (cs a) o.2)) : mkr E X ci As d cs := by
  intro σ a R
  obtain ⟨⟨v, τ⟩, ⟨hv, hR⟩, k⟩ := h σ a R
  have hv : v = none := hv
  subst hv
  exact ⟨τ, hR, ev_met hp ho hl k⟩
end Mk
