/-! PURE PROGRAMS: what a method does to the ints, over cells whose kinds, lengths and references stay (σ) -/
abbrev ev_I : Type := Nat → Nat → Int32
def h_w (σ : ev_H) (I : ev_I) : ev_H := (h_n σ, h_s σ, h_t σ, h_z σ, I, h_r σ)
theorem h_w_self (σ : ev_H) : h_w σ (h_i σ) = σ := rfl
/-- a test that must hold; a name for a value -/
def ev_ck {α : Type} (b : Bool) (a : Option α) : Option α := match b with
  | true => a
  | false => none
theorem ev_ckE {α : Type} {b : Bool} {a : Option α} {o : α} (h : ev_ck b a = some o) : b = true ∧ a = some o := by
  cases b with
  | true => exact ⟨rfl, h⟩
  | false => cases h
theorem ev_ckT {α : Type} {b : Bool} {a : Option α} (h : b = true) : ev_ck b a = a := by rw [h]; rfl
def ev_lt {α β : Type} (a : α) (f : α → β) : β := f a
theorem ev_ltE {α β : Type} {a : α} {f : α → β} {o : β} (h : ev_lt a f = o) : ∃ x, x = a ∧ f x = o := ⟨a, rfl, h⟩
theorem ev_bnE {α β : Type} {a : Option α} {f : α → Option β} {o : β} (h : a.bind f = some o) : ∃ x, a = some x ∧ f x = some o := by
  cases a with
  | none => cases h
  | some x => exact ⟨x, rfl, h⟩
theorem ev_ifT {α : Type} {c : Prop} {i : Decidable c} {a b : α} {o : α} (h : (if c then a else b) = o) (hc : c) : a = o := by rw [if_pos hc] at h; exact h
theorem ev_ifF {α : Type} {c : Prop} {i : Decidable c} {a b : α} {o : α} (h : (if c then a else b) = o) (hc : ¬ c) : b = o := by rw [if_neg hc] at h; exact h
/-- an index in its row -/
def ev_in (i : Int32) (n : Nat) : Bool := decide (0 ≤ i.toInt) && decide (i.toInt < n)
theorem ev_inE {i : Int32} {n : Nat} (h : ev_in i n = true) : vp_in i n := by
  unfold ev_in at h
  simp only [Bool.and_eq_true, decide_eq_true_eq] at h
  exact vp_in_iff.mpr h
theorem ev_inT {i : Int32} {n : Nat} (h : vp_in i n) : ev_in i n = true := by
  unfold ev_in
  simp only [Bool.and_eq_true, decide_eq_true_eq]
  exact vp_in_iff.mp h
theorem ev_inL {i : Int32} {n : Nat} (h : ev_in i n = true) : i.toNatClampNeg < n := Nat.not_le.mp fun q => ev_inE h (Or.inr q)
theorem ev_inN {k n : Nat} (h : k < n) (hn : n < 2 ^ 31) : ev_in (nI k) n = true := ev_inT (vp_in_nI h hn)
def ev_01 (v : Int32) : Bool := decide (v = 0 ∨ v = 1)
theorem ev_01E {v : Int32} (h : ev_01 v = true) : narrow .boolean (.int v) = .int v ∧ fits .boolean (.int v) = true := by
  unfold ev_01 at h
  simp only [decide_eq_true_eq] at h
  rcases h with rfl | rfl <;> exact ⟨rfl, rfl⟩
def ev_nz (v : Int32) : Bool := decide (¬ v = 0)
theorem ev_nzE {v : Int32} (h : ev_nz v = true) : ¬ v = 0 := by
  unfold ev_nz at h
  simpa using h
def ev_ps (v : Int32) : Bool := decide (¬ v < 0)
theorem ev_psE {v : Int32} (h : ev_ps v = true) : ¬ v < 0 := by
  unfold ev_ps at h
  simpa using h
def ev_le (a b : Nat) : Bool := decide (a ≤ b)
theorem ev_leE {a b : Nat} (h : ev_le a b = true) : a ≤ b := by
  unfold ev_le at h
  simpa using h
/-- shapes: cells from q on, by a table of kinds, lengths, references (as distances from q) -/
abbrev ev_tab : Type := List (Nat × Nat × List (Option Nat))
def shp (T : ev_tab) (σ : ev_H) (q : Nat) : Prop := ∀ (k t z : Nat) (rs : List (Option Nat)), T[k]? = some (t, z, rs) → q + k < h_n σ ∧ h_t σ (q + k) = t ∧ h_z σ (q + k) = z ∧ ∀ j r, rs[j]? = some (some r) → h_r σ (q + k) j = some (q + r)
theorem shp_n {T : ev_tab} {σ : ev_H} {q : Nat} (h : shp T σ q) (k : Nat) {t z : Nat} {rs : List (Option Nat)} (hk : T[k]? = some (t, z, rs)) : q + k < h_n σ := (h k t z rs hk).1
theorem shp_t {T : ev_tab} {σ : ev_H} {q : Nat} (h : shp T σ q) (k : Nat) {t z : Nat} {rs : List (Option Nat)} (hk : T[k]? = some (t, z, rs)) : h_t σ (q + k) = t := (h k t z rs hk).2.1
theorem shp_z {T : ev_tab} {σ : ev_H} {q : Nat} (h : shp T σ q) (k : Nat) {t z : Nat} {rs : List (Option Nat)} (hk : T[k]? = some (t, z, rs)) : h_z σ (q + k) = z := (h k t z rs hk).2.2.1
theorem shp_r {T : ev_tab} {σ : ev_H} {q : Nat} (h : shp T σ q) (k : Nat) {t z : Nat} {rs : List (Option Nat)} (hk : T[k]? = some (t, z, rs)) (j : Nat) {r : Nat} (hj : rs[j]? = some (some r)) : h_r σ (q + k) j = some (q + r) := (h k t z rs hk).2.2.2 j r hj
/-- an array of ints (100) or bytes (101) -/
def sar (t : Nat) (σ : ev_H) (a z : Nat) : Prop := a < h_n σ ∧ h_t σ a = t ∧ h_z σ a = z
theorem shp_a {T : ev_tab} {σ : ev_H} {q : Nat} (h : shp T σ q) (k : Nat) {t z : Nat} {rs : List (Option Nat)} (hk : T[k]? = some (t, z, rs)) : sar t σ (q + k) z := ⟨shp_n h k hk, shp_t h k hk, shp_z h k hk⟩
theorem shp_sub {T T' : ev_tab} {σ : ev_H} {q : Nat} (h : shp T σ q) (d : Nat) (hd : ∀ k, k < T'.length → (T[d + k]?) = (T'[k]?).map (fun r => (r.1, r.2.1, r.2.2.map (Option.map (d + ·))))) : shp T' σ (q + d) := by
  intro k t z rs hk
  have hl : k < T'.length := (List.getElem?_eq_some_iff.mp hk).1
  have e := hd k hl
  rw [hk] at e
  obtain ⟨h1, h2, h3, h4⟩ := h (d + k) t z (rs.map (Option.map (d + ·))) e
  rw [show q + d + k = q + (d + k) by omega]
  refine ⟨h1, h2, h3, fun j r hj => ?_⟩
  rw [h4 j (d + r) (by rw [List.getElem?_map, hj]; rfl), show q + (d + r) = q + d + r by omega]
def tbA (z : Nat) : Nat × Nat × List (Option Nat) := (100, z, [])
def tb0 : ev_tab := [(0, 0, [some 1, some 2]), tbA 5, tbA 100]
def tb1 : ev_tab := [(1, 0, [none, some 1, some 2, some 3, some 4, some 5, some 6, some 7, some 8]), tbA 100, tbA 100, tbA 100, tbA 100, tbA 100, tbA 100, tbA 100, tbA 100]
def tb2 (z : Nat) : ev_tab := [(2, 0, [none, none, some 1]), tbA z]
def tb3 : ev_tab := [(3, 0, [none, none, none, none, none, none, none, none, none, none, none, some 1, some 2, some 3, some 4]), tbA 100, tbA 100, tbA 100, tbA 201]
def tb4 : ev_tab := [(4, 0, [none, none, none, none, none, some 1, some 2]), tbA 200, tbA 7]
def tb5 : ev_tab := [(5, 0, [none, none, some 1, some 2, some 3, some 4]), tbA 24, tbA 24, tbA 24, tbA 24]
def tb6 : ev_tab := [(6, 0, [some 1, none, none, none, some 2, none, none, none]), (101, 400, []), (5, 0, [none, none, some 3, some 4, some 5, some 6]), tbA 24, tbA 24, tbA 24, tbA 24]
def tb3at (d : Nat) : ev_tab := [(3, 0, [none, none, none, none, none, none, none, none, none, none, none, some (d + 1), some (d + 2), some (d + 3), some (d + 4)]), tbA 100, tbA 100, tbA 100, tbA 201]
def tb7 : ev_tab := [(7, 0, [none, none, none, some 1, some 10, some 11, some 14, some 16, some 18]),
  (1, 0, [none, some 2, some 3, some 4, some 5, some 6, some 7, some 8, some 9]), tbA 100, tbA 100, tbA 100, tbA 100, tbA 100, tbA 100, tbA 100, tbA 100,
  (102, 7, [some 23, some 28, some 33, some 38, some 43, some 48, some 53]),
  (4, 0, [none, none, none, none, none, some 12, some 13]), tbA 200, tbA 7,
  (2, 0, [none, none, some 15]), tbA 300, (2, 0, [none, none, some 17]), tbA 500,
  (5, 0, [none, none, some 19, some 20, some 21, some 22]), tbA 24, tbA 24, tbA 24, tbA 24] ++ tb3at 23 ++ tb3at 28 ++ tb3at 33 ++ tb3at 38 ++ tb3at 43 ++ tb3at 48 ++ tb3at 53
def tb8 : ev_tab := [(8, 0, [some 1, some 59, some 66, none, none])] ++ tb7.map (fun r => (r.1, r.2.1, r.2.2.map (Option.map (1 + ·)))) ++ tb6.map (fun r => (r.1, r.2.1, r.2.2.map (Option.map (59 + ·)))) ++ tb0.map (fun r => (r.1, r.2.1, r.2.2.map (Option.map (66 + ·))))
def tb9 : ev_tab := [(9, 0, [none, some 1, some 2, some 3, some 4, some 5, some 6, some 7, none, none, none, none, none, some 8, none, none, none, none, none, some 9, none, some 10]), tbA 6010, tbA 6010, tbA 5, tbA 1000, tbA 7, tbA 5, tbA 400, tbA 60, tbA 240, tbA 6131]
section Subs
variable {σ : ev_H} {q : Nat}
theorem s71 (h : shp tb7 σ q) : shp tb1 σ (q + 1) := shp_sub h 1 (by decide)
theorem s74 (h : shp tb7 σ q) : shp tb4 σ (q + 11) := shp_sub h 11 (by decide)
theorem s72e (h : shp tb7 σ q) : shp (tb2 300) σ (q + 14) := shp_sub h 14 (by decide)
theorem s72v (h : shp tb7 σ q) : shp (tb2 500) σ (q + 16) := shp_sub h 16 (by decide)
theorem s75 (h : shp tb7 σ q) : shp tb5 σ (q + 18) := shp_sub h 18 (by decide)
theorem s65 (h : shp tb6 σ q) : shp tb5 σ (q + 2) := shp_sub h 2 (by decide)
theorem s87 (h : shp tb8 σ q) : shp tb7 σ (q + 1) := shp_sub h 1 (by decide)
theorem s86 (h : shp tb8 σ q) : shp tb6 σ (q + 59) := shp_sub h 59 (by decide)
theorem s80 (h : shp tb8 σ q) : shp tb0 σ (q + 66) := shp_sub h 66 (by decide)
theorem s73 (h : shp tb7 σ q) {n : Nat} (hn : n < 7) : shp tb3 σ (q + (23 + 5 * n)) := by
  match n, hn with
  | 0, _ => exact shp_sub h 23 (by decide)
  | 1, _ => exact shp_sub h 28 (by decide)
  | 2, _ => exact shp_sub h 33 (by decide)
  | 3, _ => exact shp_sub h 38 (by decide)
  | 4, _ => exact shp_sub h 43 (by decide)
  | 5, _ => exact shp_sub h 48 (by decide)
  | 6, _ => exact shp_sub h 53 (by decide)
theorem s73r (h : shp tb7 σ q) {n : Nat} (hn : n < 7) : h_r σ (q + 10) n = some (q + (23 + 5 * n)) := by
  match n, hn with
  | 0, _ => exact shp_r h 10 rfl 0 rfl
  | 1, _ => exact shp_r h 10 rfl 1 rfl
  | 2, _ => exact shp_r h 10 rfl 2 rfl
  | 3, _ => exact shp_r h 10 rfl 3 rfl
  | 4, _ => exact shp_r h 10 rfl 4 rfl
  | 5, _ => exact shp_r h 10 rfl 5 rfl
  | 6, _ => exact shp_r h 10 rfl 6 rfl
end Subs
/-- less is known of the locals -/
def ev_sub : List (Option Value) → List (Option Value) → Prop
  | [], _ => True
  | none :: a, [] => ev_sub a []
  | none :: a, _ :: b => ev_sub a b
  | some v :: a, some u :: b => v = u ∧ ev_sub a b
  | some _ :: _, _ => False
theorem ev_subE : ∀ (a b : List (Option Value)), ev_sub a b → ∀ (i : Nat) (v : Value), a[i]? = some (some v) → b[i]? = some (some v)
  | [], _, _, i, v, h => by simp at h
  | none :: a, [], hs, 0, v, h => by simp at h
  | none :: a, [], hs, i + 1, v, h => by
    have := ev_subE a [] hs i v (by simpa using h)
    simp at this
  | none :: a, u :: b, hs, 0, v, h => by simp at h
  | none :: a, u :: b, hs, i + 1, v, h => by
    have := ev_subE a b hs i v (by simpa using h)
    simpa using this
  | some w :: a, some u :: b, hs, 0, v, h => by
    obtain ⟨e, -⟩ := hs
    subst e
    exact h
  | some w :: a, some u :: b, hs, i + 1, v, h => by
    have := ev_subE a b hs.2 i v (by simpa using h)
    simpa using this
theorem ev_weak {E : ev_N} {X : ev_M} {pc : Nat} {L L' : List (Option Value)} {S : List Value} {σ : ev_H} {o : Option Value × ev_H} (hs : ev_sub L' L) (k : EV E X pc L' S σ o) : EV E X pc L S σ o := by
  refine ⟨k.1, ?_⟩
  intro p e R s m args below meth c Q n0 s0 C hb hret H locs ls hR hS hL
  exact k.2 p e R s m args below meth c Q n0 s0 C hb hret H locs ls hR hS ⟨hL.1, hL.2.1, fun i v h => hL.2.2 i v (ev_subE _ _ hs i v h)⟩
section Wrap
variable {E : ev_N} {X : ev_M} {pc : Nat} {L : List (Option Value)} {rest : List Value} {σ : ev_H} {I : ev_I} {o : Option Value × ev_H}
theorem ew_nm {x e : Int32} (h : x = e) (k : EV E X pc L (.int x :: rest) (h_w σ I) o) : EV E X pc L (.int e :: rest) (h_w σ I) o := h ▸ k
theorem ew_nh {J : ev_I} (h : J = I) (k : EV E X pc L rest (h_w σ J) o) : EV E X pc L rest (h_w σ I) o := h ▸ k
theorem ew_geti {T : ev_tab} {q k t z idx ci j : Nat} {rs : List (Option Nat)} (hd : decode (m_code X) pc = .ok (.getfield idx, 3)) (hf : ev_fd (m_own X) idx ci j) (hs : shp T σ q) (hk : T[k]? = some (t, z, rs)) (ht : t = ci) (hb : (ev_kd ci)[j]? = some true) (kk : EV E X (pc + 3) L (.int (I (q + k) j) :: rest) (h_w σ I) o) : EV E X pc L (.ref (q + k) :: rest) (h_w σ I) o := ev_geti hd hf hb (shp_n hs k hk) ((shp_t hs k hk).trans ht) kk
theorem ew_getr {T : ev_tab} {q k t z idx ci j r : Nat} {rs : List (Option Nat)} (hd : decode (m_code X) pc = .ok (.getfield idx, 3)) (hf : ev_fd (m_own X) idx ci j) (hs : shp T σ q) (hk : T[k]? = some (t, z, rs)) (ht : t = ci) (hb : (ev_kd ci)[j]? = some false) (hj : rs[j]? = some (some r)) (kk : EV E X (pc + 3) L (.ref (q + r) :: rest) (h_w σ I) o) : EV E X pc L (.ref (q + k) :: rest) (h_w σ I) o := ev_getr hd hf hb (shp_n hs k hk) ((shp_t hs k hk).trans ht) (shp_r hs k hk j hj) kk
theorem ew_puti {T : ev_tab} {q k t z idx ci j : Nat} {rs : List (Option Nat)} {v : Int32} (hd : decode (m_code X) pc = .ok (.putfield idx, 3)) (hf : ev_fd (m_own X) idx ci j) (hs : shp T σ q) (hk : T[k]? = some (t, z, rs)) (ht : t = ci) (hb : (ev_kd ci)[j]? = some true) (hfin : (k_T ci j).2.2.2 = false) (hn : narrow (k_ty ci j) (.int v) = .int v) (hfit : fits (k_ty ci j) (.int v) = true) (kk : EV E X (pc + 3) L rest (h_w σ (ev_u2 I (q + k) j v)) o) : EV E X pc L (.int v :: .ref (q + k) :: rest) (h_w σ I) o := ev_puti hd hf hb (shp_n hs k hk) ((shp_t hs k hk).trans ht) (Or.inl hfin) hn hfit kk
theorem ew_iald {a z : Nat} {i : Int32} (hd : decode (m_code X) pc = .ok (.iaload, 1)) (hs : sar 100 σ a z) (hi : ev_in i z = true) (kk : EV E X (pc + 1) L (.int (I a i.toNatClampNeg) :: rest) (h_w σ I) o) : EV E X pc L (.int i :: .ref a :: rest) (h_w σ I) o := ev_iald hd hs.1 hs.2.1 (by have := ev_inE hi; rw [← hs.2.2] at this; exact this) kk
theorem ew_bald {a z : Nat} {i : Int32} (hd : decode (m_code X) pc = .ok (.baload, 1)) (hs : sar 101 σ a z) (hi : ev_in i z = true) (kk : EV E X (pc + 1) L (.int (I a i.toNatClampNeg) :: rest) (h_w σ I) o) : EV E X pc L (.int i :: .ref a :: rest) (h_w σ I) o := ev_bald hd hs.1 hs.2.1 (by have := ev_inE hi; rw [← hs.2.2] at this; exact this) kk
theorem ew_iast {a z : Nat} {i x : Int32} (hd : decode (m_code X) pc = .ok (.iastore, 1)) (hs : sar 100 σ a z) (hi : ev_in i z = true) (kk : EV E X (pc + 1) L rest (h_w σ (ev_u2 I a i.toNatClampNeg x)) o) : EV E X pc L (.int x :: .int i :: .ref a :: rest) (h_w σ I) o := ev_iast hd hs.1 hs.2.1 (by have := ev_inE hi; rw [← hs.2.2] at this; exact this) kk
theorem ew_bast {a z : Nat} {i x : Int32} (hd : decode (m_code X) pc = .ok (.bastore, 1)) (hs : sar 101 σ a z) (hi : ev_in i z = true) (kk : EV E X (pc + 1) L rest (h_w σ (ev_u2 I a i.toNatClampNeg (vp_nar .byte x))) o) : EV E X pc L (.int x :: .int i :: .ref a :: rest) (h_w σ I) o := ev_bast hd hs.1 hs.2.1 (by have := ev_inE hi; rw [← hs.2.2] at this; exact this) kk
theorem ew_alen {a z : Nat} (hd : decode (m_code X) pc = .ok (.arraylength, 1)) (hs : sar 100 σ a z) (kk : EV E X (pc + 1) L (.int (Int32.ofNat z) :: rest) (h_w σ I) o) : EV E X pc L (.ref a :: rest) (h_w σ I) o := ev_alen hd hs.1 hs.2.1 (by have e : h_z (h_w σ I) a = z := hs.2.2; rw [e]; exact kk)
theorem ew_memb {q : Nat} {i : Int32} (hd : decode (m_code X) pc = .ok (.aaload, 1)) (hs : shp tb7 σ q) (hi : ev_in i 7 = true) (kk : EV E X (pc + 1) L (.ref (q + (23 + 5 * i.toNatClampNeg)) :: rest) (h_w σ I) o) : EV E X pc L (.int i :: .ref (q + 10) :: rest) (h_w σ I) o := ev_aald hd (shp_n hs 10 rfl) (shp_t hs 10 rfl) (by have := ev_inE hi; rw [← shp_z hs 10 rfl] at this; exact this) (s73r hs (ev_inL hi)) kk
theorem ew_copy {idx a b za zb : Nat} {sp dp n : Int32} (hd : decode (m_code X) pc = .ok (.invokestatic idx, 3)) (h1 : Cond.methodLink (m_own X) idx arraycopyName ∈ ev_G) (h2 : Cond.native arraycopyName ∈ ev_G) (h3 : Cond.static arraycopyName ∈ ev_G) (h4 : Cond.initialized "java/lang/System" ∈ ev_G)
    (ha : sar 100 σ a za) (hb : sar 100 σ b zb) (g1 : ev_ps sp = true) (g2 : ev_ps dp = true) (g3 : ev_ps n = true) (g4 : ev_le (sp.toNatClampNeg + n.toNatClampNeg) za = true) (g5 : ev_le (dp.toNatClampNeg + n.toNatClampNeg) zb = true) (hf : 1 ≤ m_fr X) (hl : rest.length + (nativeFrameWords "java/lang/System" "arraycopy" 5 + 11) ≤ m_lw X)
    (kk : EV E X (pc + 3) L rest (h_w σ (ev_u1 I b (va_cpy (I a) (I b) sp.toNatClampNeg dp.toNatClampNeg n.toNatClampNeg))) o) : EV E X pc L (.int n :: .int dp :: .ref b :: .int sp :: .ref a :: rest) (h_w σ I) o :=
  ev_copy hd h1 h2 h3 h4 ha.1 hb.1 ha.2.1 hb.2.1 (ev_psE g1) (ev_psE g2) (ev_psE g3) (by have e : h_z (h_w σ I) a = za := ha.2.2; rw [e]; exact ev_leE g4) (by have e : h_z (h_w σ I) b = zb := hb.2.2; rw [e]; exact ev_leE g5) hf hl kk
end Wrap
