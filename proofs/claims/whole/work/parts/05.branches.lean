/-! BRANCHES AND STORES -/
theorem ev_br {E : ev_N} {X : ev_M} {pc t f : Nat} {L : List (Option Value)} {S rest : List Value} {σ : ev_H} {o : Option Value × ev_H} (c : Prop)
    (h : ∀ (p : Program) (e : Env) (R : Room) (s : State) (m : MethodId) (args : Array Value) (below : List Frame) (meth : Method) (cd : Code) (Q : State → Prop) (H : Heap) (locs : List Loc) (cells slots : Nat) (ls : Array Slot),
      ev_C E X p R s m args meth cd → (c → W p (n_l E) e R s m args below meth cd H locs cells slots Q (F0 m t ls (rest.map (ev_v E)))) → (¬ c → W p (n_l E) e R s m args below meth cd H locs cells slots Q (F0 m f ls (rest.map (ev_v E)))) →
      W p (n_l E) e R s m args below meth cd H locs cells slots Q (F0 m pc ls (S.map (ev_v E))))
    (kt : c → EV E X t L rest σ o) (kf : ¬ c → EV E X f L rest σ o) : EV E X pc L S σ o := by
  refine ⟨(Classical.em c).elim (fun q => (kt q).1) (fun q => (kf q).1), ?_⟩
  intro p e R s m args below meth cd Q n0 s0 C hb hret H locs ls hR hS hL
  exact h p e R s m args below meth cd Q H locs _ _ ls C (fun q => (kt q).2 p e R s m args below meth cd Q n0 s0 C hb hret H locs ls hR hS hL) (fun q => (kf q).2 p e R s m args below meth cd Q n0 s0 C hb hret H locs ls hR hS hL)
section Branches
variable {E : ev_N} {X : ev_M} {pc : Nat} {L : List (Option Value)} {rest : List Value} {σ : ev_H} {o : Option Value × ev_H}
theorem ev_if_eq {x : Int32} {off : Int} {tgt : Nat} (hd : decode (m_code X) pc = .ok (.ifCond .eq off, 3)) (ht : (pc : Int) + off = (tgt : Int)) (kt : x = 0 → EV E X tgt L rest σ o) (kf : ¬ x = 0 → EV E X (pc + 3) L rest σ o) : EV E X pc L (.int x :: rest) σ o :=
  ev_br (x = 0) (fun _ _ _ _ _ _ _ _ _ _ _ _ _ _ _ C a b => lv_if_eq C.1 C.2.1 hd ht a b) kt kf
theorem ev_if_ne {x : Int32} {off : Int} {tgt : Nat} (hd : decode (m_code X) pc = .ok (.ifCond .ne off, 3)) (ht : (pc : Int) + off = (tgt : Int)) (kt : ¬ x = 0 → EV E X tgt L rest σ o) (kf : x = 0 → EV E X (pc + 3) L rest σ o) : EV E X pc L (.int x :: rest) σ o :=
  ev_br (x = 0) (fun _ _ _ _ _ _ _ _ _ _ _ _ _ _ _ C a b => lv_if_ne C.1 C.2.1 hd ht b a) kf kt
theorem ev_if_lt {x : Int32} {off : Int} {tgt : Nat} (hd : decode (m_code X) pc = .ok (.ifCond .lt off, 3)) (ht : (pc : Int) + off = (tgt : Int)) (kt : x < 0 → EV E X tgt L rest σ o) (kf : ¬ x < 0 → EV E X (pc + 3) L rest σ o) : EV E X pc L (.int x :: rest) σ o :=
  ev_br (x < 0) (fun _ _ _ _ _ _ _ _ _ _ _ _ _ _ _ C a b => lv_if_lt C.1 C.2.1 hd ht a b) kt kf
theorem ev_if_ge {x : Int32} {off : Int} {tgt : Nat} (hd : decode (m_code X) pc = .ok (.ifCond .ge off, 3)) (ht : (pc : Int) + off = (tgt : Int)) (kt : 0 ≤ x → EV E X tgt L rest σ o) (kf : ¬ 0 ≤ x → EV E X (pc + 3) L rest σ o) : EV E X pc L (.int x :: rest) σ o :=
  ev_br (0 ≤ x) (fun _ _ _ _ _ _ _ _ _ _ _ _ _ _ _ C a b => lv_if_ge C.1 C.2.1 hd ht a b) kt kf
theorem ev_if_gt {x : Int32} {off : Int} {tgt : Nat} (hd : decode (m_code X) pc = .ok (.ifCond .gt off, 3)) (ht : (pc : Int) + off = (tgt : Int)) (kt : 0 < x → EV E X tgt L rest σ o) (kf : ¬ 0 < x → EV E X (pc + 3) L rest σ o) : EV E X pc L (.int x :: rest) σ o :=
  ev_br (0 < x) (fun _ _ _ _ _ _ _ _ _ _ _ _ _ _ _ C a b => lv_if_gt C.1 C.2.1 hd ht a b) kt kf
theorem ev_if_le {x : Int32} {off : Int} {tgt : Nat} (hd : decode (m_code X) pc = .ok (.ifCond .le off, 3)) (ht : (pc : Int) + off = (tgt : Int)) (kt : x ≤ 0 → EV E X tgt L rest σ o) (kf : ¬ x ≤ 0 → EV E X (pc + 3) L rest σ o) : EV E X pc L (.int x :: rest) σ o :=
  ev_br (x ≤ 0) (fun _ _ _ _ _ _ _ _ _ _ _ _ _ _ _ C a b => lv_if_le C.1 C.2.1 hd ht a b) kt kf
theorem ev_icmp_eq {x y : Int32} {off : Int} {tgt : Nat} (hd : decode (m_code X) pc = .ok (.if_icmp .eq off, 3)) (ht : (pc : Int) + off = (tgt : Int)) (kt : x = y → EV E X tgt L rest σ o) (kf : ¬ x = y → EV E X (pc + 3) L rest σ o) : EV E X pc L (.int y :: .int x :: rest) σ o :=
  ev_br (x = y) (fun _ _ _ _ _ _ _ _ _ _ _ _ _ _ _ C a b => lv_icmp_eq C.1 C.2.1 hd ht a b) kt kf
theorem ev_icmp_ne {x y : Int32} {off : Int} {tgt : Nat} (hd : decode (m_code X) pc = .ok (.if_icmp .ne off, 3)) (ht : (pc : Int) + off = (tgt : Int)) (kt : ¬ x = y → EV E X tgt L rest σ o) (kf : x = y → EV E X (pc + 3) L rest σ o) : EV E X pc L (.int y :: .int x :: rest) σ o :=
  ev_br (x = y) (fun _ _ _ _ _ _ _ _ _ _ _ _ _ _ _ C a b => lv_icmp_ne C.1 C.2.1 hd ht b a) kf kt
theorem ev_icmp_lt {x y : Int32} {off : Int} {tgt : Nat} (hd : decode (m_code X) pc = .ok (.if_icmp .lt off, 3)) (ht : (pc : Int) + off = (tgt : Int)) (kt : x < y → EV E X tgt L rest σ o) (kf : ¬ x < y → EV E X (pc + 3) L rest σ o) : EV E X pc L (.int y :: .int x :: rest) σ o :=
  ev_br (x < y) (fun _ _ _ _ _ _ _ _ _ _ _ _ _ _ _ C a b => lv_icmp_lt C.1 C.2.1 hd ht a b) kt kf
theorem ev_icmp_ge {x y : Int32} {off : Int} {tgt : Nat} (hd : decode (m_code X) pc = .ok (.if_icmp .ge off, 3)) (ht : (pc : Int) + off = (tgt : Int)) (kt : y ≤ x → EV E X tgt L rest σ o) (kf : ¬ y ≤ x → EV E X (pc + 3) L rest σ o) : EV E X pc L (.int y :: .int x :: rest) σ o :=
  ev_br (y ≤ x) (fun _ _ _ _ _ _ _ _ _ _ _ _ _ _ _ C a b => lv_icmp_ge C.1 C.2.1 hd ht a b) kt kf
theorem ev_icmp_gt {x y : Int32} {off : Int} {tgt : Nat} (hd : decode (m_code X) pc = .ok (.if_icmp .gt off, 3)) (ht : (pc : Int) + off = (tgt : Int)) (kt : y < x → EV E X tgt L rest σ o) (kf : ¬ y < x → EV E X (pc + 3) L rest σ o) : EV E X pc L (.int y :: .int x :: rest) σ o :=
  ev_br (y < x) (fun _ _ _ _ _ _ _ _ _ _ _ _ _ _ _ C a b => lv_icmp_gt C.1 C.2.1 hd ht a b) kt kf
theorem ev_icmp_le {x y : Int32} {off : Int} {tgt : Nat} (hd : decode (m_code X) pc = .ok (.if_icmp .le off, 3)) (ht : (pc : Int) + off = (tgt : Int)) (kt : x ≤ y → EV E X tgt L rest σ o) (kf : ¬ x ≤ y → EV E X (pc + 3) L rest σ o) : EV E X pc L (.int y :: .int x :: rest) σ o :=
  ev_br (x ≤ y) (fun _ _ _ _ _ _ _ _ _ _ _ _ _ _ _ C a b => lv_icmp_le C.1 C.2.1 hd ht a b) kt kf
end Branches
/-- the list of locals as the kit's rows have it -/
def ev_lv (E : ev_N) : Nat → List (Option Value) → List (Nat × Value)
  | _, [] => []
  | i, none :: l => ev_lv E (i + 1) l
  | i, some v :: l => (i, ev_v E v) :: ev_lv E (i + 1) l
theorem ev_lv_mem {E : ev_N} : ∀ (l : List (Option Value)) (i : Nat) (q : Nat × Value), q ∈ ev_lv E i l → ∃ k v, q = (i + k, ev_v E v) ∧ l[k]? = some (some v)
  | [], i, q, h => by cases h
  | none :: l, i, q, h => by
    obtain ⟨k, v, e, hk⟩ := ev_lv_mem l (i + 1) q h
    exact ⟨k + 1, v, by rw [e]; congr 1; omega, hk⟩
  | some w :: l, i, q, h => by
    rcases List.mem_cons.mp h with h | h
    · exact ⟨0, w, h, rfl⟩
    · obtain ⟨k, v, e, hk⟩ := ev_lv_mem l (i + 1) q h
      exact ⟨k + 1, v, by rw [e]; congr 1; omega, hk⟩
theorem ev_lv_of {E : ev_N} : ∀ (l : List (Option Value)) (i k : Nat) (v : Value), l[k]? = some (some v) → (i + k, ev_v E v) ∈ ev_lv E i l
  | [], i, k, v, h => by simp at h
  | none :: l, i, 0, v, h => by simp at h
  | none :: l, i, k + 1, v, h => by
    have := ev_lv_of (E := E) l (i + 1) k v (by simpa using h)
    rw [show i + (k + 1) = i + 1 + k by omega]
    exact this
  | some w :: l, i, 0, v, h => by
    simp at h
    subst h
    exact List.mem_cons_self
  | some w :: l, i, k + 1, v, h => by
    have := ev_lv_of (E := E) l (i + 1) k v (by simpa using h)
    rw [show i + (k + 1) = i + 1 + k by omega]
    exact List.mem_cons_of_mem _ this
theorem ev_lv_has {E : ev_N} {X : ev_M} {L : List (Option Value)} {ls : Array Slot} (h : ev_L E X L ls) : lv_has ls (m_loc X) (ev_lv E 0 L) := by
  refine ⟨h.1, h.2.1, fun q hq => ?_⟩
  obtain ⟨k, v, e, hk⟩ := ev_lv_mem L 0 q hq
  rw [e]
  simpa using h.2.2 k v hk
/-- behind a store -/
theorem ev_lv_put {E : ev_N} {X : ev_M} {L : List (Option Value)} {ls' : Array Slot} {i : Nat} {v : Value} (h : lv_has ls' (m_loc X) ((i, ev_v E v) :: (ev_lv E 0 L).filter (fun q => !(q.1 == i) && !(q.1 + 1 == i && q.2.category == 2)))) : ev_L E X (L.set i (some v)) ls' := by
  refine ⟨h.1, h.2.1, fun k w hk => ?_⟩
  by_cases hki : k = i
  · subst hki
    have hw : w = v := by
      by_cases hl : k < L.length
      · rw [List.getElem?_set_self hl] at hk
        exact (Option.some.inj (Option.some.inj hk)).symm
      · rw [List.getElem?_eq_none (by rw [List.length_set]; omega)] at hk
        cases hk
    subst hw
    exact h.2.2 _ List.mem_cons_self
  · rw [List.getElem?_set_ne (Ne.symm hki)] at hk
    refine h.2.2 (k, ev_v E w) (List.mem_cons_of_mem _ (List.mem_filter.mpr ⟨by simpa using ev_lv_of L 0 k w hk, ?_⟩))
    have h1 : (k == i) = false := by simpa using hki
    have h2 : ((ev_v E w).category == 2) = false := by rw [ev_v1]; rfl
    simp [h1, h2]
theorem ev_store {E : ev_N} {X : ev_M} {pc pc' i : Nat} {v : Value} {L : List (Option Value)} {S S' : List Value} {σ : ev_H} {o : Option Value × ev_H}
    (h : ∀ (p : Program) (e : Env) (R : Room) (s : State) (m : MethodId) (args : Array Value) (below : List Frame) (meth : Method) (c : Code) (Q : State → Prop) (H : Heap) (locs : List Loc) (cells slots : Nat) (ls : Array Slot),
      ev_C E X p R s m args meth c → ev_L E X L ls →
      (∀ ls' : Array Slot, lv_has ls' (m_loc X) ((i, ev_v E v) :: (ev_lv E 0 L).filter (fun q => !(q.1 == i) && !(q.1 + 1 == i && q.2.category == 2))) → W p (n_l E) e R s m args below meth c H locs cells slots Q (F0 m pc' ls' (S'.map (ev_v E)))) →
      W p (n_l E) e R s m args below meth c H locs cells slots Q (F0 m pc ls (S.map (ev_v E))))
    (k : EV E X pc' (L.set i (some v)) S' σ o) : EV E X pc L S σ o := by
  refine ⟨k.1, ?_⟩
  intro p e R s m args below meth c Q n0 s0 C hb hret H locs ls hR hS hL
  exact h p e R s m args below meth c Q H locs _ _ ls C hL (fun ls' hl' => k.2 p e R s m args below meth c Q n0 s0 C hb hret H locs ls' hR hS (ev_lv_put hl'))
section Stores
variable {E : ev_N} {X : ev_M} {pc : Nat} {L : List (Option Value)} {rest : List Value} {σ : ev_H} {o : Option Value × ev_H}
theorem ev_istore_n {i : Fin 4} {x : Int32} (hd : decode (m_code X) pc = .ok (.istore_n i, 1)) (hi : i.val < m_loc X) (k : EV E X (pc + 1) (L.set i.val (some (.int x))) rest σ o) : EV E X pc L (.int x :: rest) σ o :=
  ev_store (fun _ _ _ _ _ _ _ _ _ _ _ _ _ _ _ C hL w => lv_istore_n C.1 C.2.1 hd rfl (ev_lv_has hL) hi rfl w) k
theorem ev_istore {i : Nat} {x : Int32} (hd : decode (m_code X) pc = .ok (.istore i, 2)) (hi : i < m_loc X) (k : EV E X (pc + 2) (L.set i (some (.int x))) rest σ o) : EV E X pc L (.int x :: rest) σ o :=
  ev_store (fun _ _ _ _ _ _ _ _ _ _ _ _ _ _ _ C hL w => lv_istore C.1 C.2.1 hd (ev_lv_has hL) hi rfl w) k
theorem ev_astore_n {i : Fin 4} {v : Value} (hd : decode (m_code X) pc = .ok (.astore_n i, 1)) (hi : i.val < m_loc X) (hv : ∀ x, v ≠ .int x) (k : EV E X (pc + 1) (L.set i.val (some v)) rest σ o) : EV E X pc L (v :: rest) σ o :=
  ev_store (v := v) (fun _ _ _ _ _ _ _ _ _ _ _ _ _ _ _ C hL w => by
    rw [List.map_cons]
    rcases ev_vref E v hv with e | ⟨a, e⟩
    · rw [e] at w ⊢
      exact lv_astore_nN C.1 C.2.1 hd rfl (ev_lv_has hL) hi rfl w
    · rw [e] at w ⊢
      exact lv_astore_n C.1 C.2.1 hd rfl (ev_lv_has hL) hi rfl w) k
theorem ev_astore {i : Nat} {v : Value} (hd : decode (m_code X) pc = .ok (.astore i, 2)) (hi : i < m_loc X) (hv : ∀ x, v ≠ .int x) (k : EV E X (pc + 2) (L.set i (some v)) rest σ o) : EV E X pc L (v :: rest) σ o :=
  ev_store (v := v) (fun _ _ _ _ _ _ _ _ _ _ _ _ _ _ _ C hL w => by
    rw [List.map_cons]
    rcases ev_vref E v hv with e | ⟨a, e⟩
    · rw [e] at w ⊢
      exact lv_astoreN C.1 C.2.1 hd (ev_lv_has hL) hi rfl w
    · rw [e] at w ⊢
      exact lv_astore C.1 C.2.1 hd (ev_lv_has hL) hi rfl w) k
theorem ev_iinc {i : Nat} {n : Int} {x : Int32} (hd : decode (m_code X) pc = .ok (.iinc i n, 3)) (hi : i < m_loc X) (hl : L[i]? = some (some (.int x))) (k : EV E X (pc + 3) (L.set i (some (.int (x + Int32.ofInt n)))) rest σ o) : EV E X pc L rest σ o :=
  ev_store (fun _ _ _ _ _ _ _ _ _ _ _ _ _ _ _ C hL w => by
    have hm : (i, ev_v E (.int x)) ∈ ev_lv E 0 L := by simpa using ev_lv_of L 0 i (.int x) hl
    obtain ⟨k, hk⟩ := List.getElem?_of_mem hm
    exact lv_iinc C.1 C.2.1 hd (ev_lv_has hL) hk rfl hi rfl w) k
/-- the ends -/
theorem ev_ret (v : Option Value) (S : List Value) (hd : decode (m_code X) pc = .ok (ev_rop v, 1)) (hok : ev_rok (m_ret X) v) (hS : S = v.toList) : EV E X pc L S σ (v, σ) := by
  refine ⟨⟨Nat.le_refl _, Nat.le_refl _⟩, ?_⟩
  intro p e R s m args below meth c Q n0 s0 C hb hret H locs ls hR hS' hL
  have := hret H locs pc ls hR hS' hok hd
  subst hS
  cases v <;> exact this
end Stores
