/-! RUN: one line -/
def lnAt (I : ev_I) (w l : Nat) (x : Nat × Nat × Nat × Nat) : Prop := I (w + 18 + 1) l = nI x.1 ∧ I (w + 18 + 2) l = nI x.2.1 ∧ I (w + 18 + 3) l = nI x.2.2.1 ∧ I (w + 18 + 4) l = nI x.2.2.2
/-- the first ones are dropped, up to m -/
def sTN : Nat → (Nat → Nat) → (Nat → Nat)
  | 0, s => s
  | m + 1, s => if s 4 = 0 then s else sTN m (sTake s 0)
theorem ok_TN : ∀ (m : Nat) (s : Nat → Nat), okS s → okS (sTN m s) ∧ (okX s → okX (sTN m s)) ∧ sTN m s 9 = s 9
  | 0, s, h => ⟨h, id, rfl⟩
  | m + 1, s, h => by
    by_cases c : s 4 = 0
    · rw [show sTN (m + 1) s = s from if_pos c]
      exact ⟨h, id, rfl⟩
    · rw [show sTN (m + 1) s = sTN m (sTake s 0) from if_neg c]
      obtain ⟨a, b, d⟩ := ok_TN m (sTake s 0) (ok_take h (by omega))
      exact ⟨a, fun x => b (okX_take h x), d.trans (sTake_o h.2.2.1.2.2.1 (by omega))⟩
section Ln
variable {n w q z h : Nat} {I : ev_I} {s : Nat → Nat} {r : Nat → Int32}
theorem okR_t0 (hr : okR s h r) (h4 : s 4 ≤ 200) (hk : 0 < s 4) : okR (sTake s 0) ((h + 1) % 200) r := by
  obtain ⟨hh, hR, hT⟩ := hr
  refine ⟨by omega, fun j hj => ?_, sTake_t h4 hT⟩
  rw [sTake_4] at hj
  rw [sTake_p hj, if_neg (by omega), ← hR (j + 1) (by omega)]
  congr 1
  omega
theorem tn_all : ∀ (m : Nat) (s : Nat → Nat) (h : Nat), okS s → okR s h r → okR (sTN m s) ((h + (if s 4 < m then s 4 else m)) % 200) r ∧ sTN m s 4 = s 4 - (if s 4 < m then s 4 else m) ∧ ∀ k, k ≠ 4 → k < 816 ∨ 1816 ≤ k → sTN m s k = s k
  | 0, s, h, hs, hr => by
    rw [if_neg (by omega), Nat.add_zero, Nat.mod_eq_of_lt hr.1]
    exact ⟨hr, rfl, fun _ _ _ => rfl⟩
  | m + 1, s, h, hs, hr => by
    have h4 := hs.2.2.1.2.2.1
    by_cases c : s 4 = 0
    · rw [show sTN (m + 1) s = s from if_pos c, if_pos (by omega), c, Nat.add_zero, Nat.mod_eq_of_lt hr.1]
      exact ⟨hr, rfl, fun _ _ _ => rfl⟩
    · rw [show sTN (m + 1) s = sTN m (sTake s 0) from if_neg c]
      obtain ⟨a, b, d⟩ := tn_all m (sTake s 0) ((h + 1) % 200) (ok_take hs (by omega)) (okR_t0 hr h4 (by omega))
      rw [sTake_4] at a b
      have e : (if s 4 < m + 1 then s 4 else m + 1) = (if s 4 - 1 < m then s 4 - 1 else m) + 1 := by
        by_cases g : s 4 < m + 1
        · rw [if_pos g, if_pos (by omega)]; omega
        · rw [if_neg g, if_neg (by omega)]
      rw [e]
      refine ⟨?_, by omega, fun k k4 hk => ?_⟩
      · rw [show (h + ((if s 4 - 1 < m then s 4 - 1 else m) + 1)) % 200 = ((h + 1) % 200 + (if s 4 - 1 < m then s 4 - 1 else m)) % 200 by omega]
        exact a
      · rw [d k k4 hk]
        exact sTake_o h4 (by omega)
theorem c_takeFirst (hs : okS s) (hr : okR s h r) {f : Nat} (hf : f < 1000) : ∃ h', pX4_takeFirst n (w + 11) (nI f) (C w I s h r) = some (nI (if s 4 < f then s 4 else f), C w I (sTN f s) h' r) ∧ okR (sTN f s) h' r := by
  have h4 := hs.2.2.1.2.2.1
  obtain ⟨a, b, d⟩ := tn_all f s h hs hr
  have hh := hr.1
  refine ⟨_, ?_, a⟩
  unfold pX4_takeFirst
  have ev : (if nI (s 4) < nI f then nI (s 4) else nI f) = nI (if s 4 < f then s 4 else f) := by
    by_cases g : s 4 < f
    · rw [if_pos (nI_lt g (by omega)), if_pos g]
    · rw [if_neg (nI_nlt (by omega) (by omega)), if_neg g]
  have eb : (if s 4 < f then s 4 else f) ≤ s 4 := by
    by_cases g : s 4 < f
    · rw [if_pos g]; omega
    · rw [if_neg g]; omega
  generalize hm : (if s 4 < f then s 4 else f) = m at *
  simp (disch := omega) only [cg_head, cg_nc, li, ev, nI_add, pk_rem, lt_b, cp_head, pk_sub, cp_nc]
  congr 2
  exact C_c (fun k hk => by
    by_cases g : k = 4
    · rw [g, up_s, b]
    · rw [up_o g, d k g hk])
theorem c_delF (hs : okS s) (hr : okR s h r) {f : Nat} (hf : f < 1000) (hn : 3000 ≤ n) : ∃ h' r', pX8_deliverSome n w (0 : Int32) (nI f) (C w I s h r) = some (nI (dnN f s), C w I (sDN f s) h' r') ∧ okR (sDN f s) h' r' := by
  obtain ⟨h', r', e, hr'⟩ := c_DA (w := w) (I := I) (T := f) (by omega) f n 0 0 h r s hs hr (Or.inl (by omega)) (by omega)
  rw [Nat.zero_add] at e
  exact ⟨h', r', e, hr'⟩
theorem dn_0 {f : Nat} (hf : 1 ≤ f) : (dnN f s = 0 ↔ s 4 = 0) := by
  obtain ⟨m, rfl⟩ : ∃ m, f = m + 1 := ⟨f - 1, by omega⟩
  by_cases c : s 4 = 0
  · rw [show dnN (m + 1) s = 0 from if_pos c]; omega
  · rw [show dnN (m + 1) s = dnN m (sDel s 0) + 1 from if_neg c]; omega
theorem dn_b : ∀ (m : Nat) (s : Nat → Nat), dnN m s ≤ m
  | 0, _ => Nat.le_refl _
  | m + 1, s => by
    have := dn_b m (sDel s 0)
    by_cases c : s 4 = 0
    · rw [show dnN (m + 1) s = 0 from if_pos c]; omega
    · rw [show dnN (m + 1) s = dnN m (sDel s 0) + 1 from if_neg c]; omega
theorem r_hdD {b : Nat} (hb : b = 0 ∨ b = 1) {f : Nat} (hf : f < 1000) : ∀ (m i n : Nat) (I : ev_I) (s : Nat → Nat), okS s → i + m = f → m + 1100 < n → ∃ J, lX10_handles_18 q n (nI f) 0 (nI b) (nI i) (M q I s) = some (nI b, M q J (sDN m s)) ∧ Sc q I J := by
  have e1 : ∀ x : Option (Int32 × ev_I), ev_ck (ev_01 (nI b)) x = x := fun x => by rcases hb with rfl | rfl <;> rfl
  intro m
  induction m with
  | zero =>
    intro i n I s hs hi hn
    obtain ⟨n, rfl⟩ : ∃ k, n = k + 1 := ⟨n - 1, by omega⟩
    refine ⟨I, ?_, Sc_r⟩
    show cX10_handles_18 q _ n _ _ _ _ _ = _
    unfold cX10_handles_18
    rw [if_pos (nI_le (by omega) (by omega)), e1]
    rfl
  | succ m ih =>
    intro i n I s hs hi hn
    obtain ⟨n, rfl⟩ : ∃ k, n = k + 1 := ⟨n - 1, by omega⟩
    have h4 := hs.2.2.1.2.2.1
    have e0 : lX10_handles_18 q (n + 1) (nI f) 0 (nI b) (nI i) (M q I s) = cX10_handles_18 q (lX10_handles_18 q n) n (nI f) 0 (nI b) (nI i) (M q I s) := rfl
    rw [e0]
    unfold cX10_handles_18
    rw [if_neg (nI_ge (by omega) (by omega)), e1, show (4 : Int32).toNatClampNeg = 4 from rfl, M_get]
    by_cases c : s 4 = 0
    · rw [show sDN (m + 1) s = s from if_pos c, c, if_pos (by decide)]
      exact ⟨I, rfl, Sc_r⟩
    · rw [show sDN (m + 1) s = sDN m (sDel s 0) from if_neg c, if_neg (show ¬ nI (s 4) ≤ 0 from nI_ge (a := 0) (by omega) (by omega))]
      have hb := r_del (n := n) (q := q) (I := I) hs (k := 0) (by omega) (by omega)
      obtain ⟨J, e, hJ⟩ := ih (i + 1) n (Tk q I (s (816 + 5 * 0)) (s (816 + 5 * 0 + 1)) (s (816 + 5 * 0 + 2)) (s (816 + 5 * 0 + 3)) (s (816 + 5 * 0 + 4))) (sDel s 0) (ok_del hs (by omega)) (by omega) (by omega)
      refine ⟨J, ?_, Sc_t Sc_k hJ⟩
      rw [show (0 : Int32) = nI 0 from rfl]
      cases e5 : pX10_takesOut n q (nI 0) (M q I s) with
      | none => rw [e5] at hb; cases hb
      | some y =>
        rw [e5, bn_s] at hb
        rw [bn_s, if_pos rfl, hb, bn_s]
        unfold cX10_handles_46
        rw [lt_b, nI_1]
        exact e
theorem r_hdT {b : Nat} (hb : b = 0 ∨ b = 1) {f : Nat} (hf : f < 1000) : ∀ (m i n : Nat) (I : ev_I) (s : Nat → Nat), okS s → i + m = f → m + 1100 < n → ∃ J, lX10_handles_18 q n (nI f) 1 (nI b) (nI i) (M q I s) = some (nI b, M q J (sTN m s)) ∧ Sc q I J := by
  have e1 : ∀ x : Option (Int32 × ev_I), ev_ck (ev_01 (nI b)) x = x := fun x => by rcases hb with rfl | rfl <;> rfl
  intro m
  induction m with
  | zero =>
    intro i n I s hs hi hn
    obtain ⟨n, rfl⟩ : ∃ k, n = k + 1 := ⟨n - 1, by omega⟩
    refine ⟨I, ?_, Sc_r⟩
    show cX10_handles_18 q _ n _ _ _ _ _ = _
    unfold cX10_handles_18
    rw [if_pos (nI_le (by omega) (by omega)), e1]
    rfl
  | succ m ih =>
    intro i n I s hs hi hn
    obtain ⟨n, rfl⟩ : ∃ k, n = k + 1 := ⟨n - 1, by omega⟩
    have h4 := hs.2.2.1.2.2.1
    have e0 : lX10_handles_18 q (n + 1) (nI f) 1 (nI b) (nI i) (M q I s) = cX10_handles_18 q (lX10_handles_18 q n) n (nI f) 1 (nI b) (nI i) (M q I s) := rfl
    rw [e0]
    unfold cX10_handles_18
    rw [if_neg (nI_ge (by omega) (by omega)), e1, show (4 : Int32).toNatClampNeg = 4 from rfl, M_get]
    by_cases c : s 4 = 0
    · rw [show sTN (m + 1) s = s from if_pos c, c, if_pos (by decide)]
      exact ⟨I, rfl, Sc_r⟩
    · rw [show sTN (m + 1) s = sTN m (sTake s 0) from if_neg c, if_neg (show ¬ nI (s 4) ≤ 0 from nI_ge (a := 0) (by omega) (by omega))]
      obtain ⟨J, e, hJ⟩ := ih (i + 1) n (Tk q I (s (816 + 5 * 0)) (s (816 + 5 * 0 + 1)) (s (816 + 5 * 0 + 2)) (s (816 + 5 * 0 + 3)) (s (816 + 5 * 0 + 4))) (sTake s 0) (ok_take hs (by omega)) (by omega) (by omega)
      refine ⟨J, ?_, Sc_t Sc_k hJ⟩
      rw [show (0 : Int32) = nI 0 from rfl, r_takesOut (k := 0) h4 (by omega) (by omega), bn_s, if_neg (show ¬ (1 : Int32) = nI 0 by decide)]
      unfold cX10_handles_46
      rw [lt_b, nI_1]
      exact e
theorem r_hd {y : Int32} : pX10_handles n q (nI z) y (M q I s) = lX10_handles_18 q n (nI z) y (nI (if s 4 = 0 then 0 else 1)) (nI 0) (M q I s) ∨ ¬ s 4 ≤ 200 := by
  by_cases c4 : s 4 ≤ 200
  · left
    unfold pX10_handles cX10_handles_14
    rw [show (4 : Int32).toNatClampNeg = 4 from rfl, M_get]
    by_cases c : s 4 = 0
    · rw [c, if_pos (show nI 0 ≤ (0 : Int32) by decide), if_pos rfl]; rfl
    · rw [if_neg (show ¬ nI (s 4) ≤ 0 from nI_ge (a := 0) (by omega) (by omega)), if_neg c]; rfl
  · exact Or.inr c4
end Ln
