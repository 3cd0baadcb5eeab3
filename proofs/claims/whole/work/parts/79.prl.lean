/-! RUN: one line, both sides -/
theorem src_pl {k j : Nat} (hk : 1 ≤ k ∧ k ≤ 4) : src (18 + k) j = none := by
  obtain rfl | rfl | rfl | rfl : k = 1 ∨ k = 2 ∨ k = 3 ∨ k = 4 := by omega
  all_goals rfl
theorem bs {x : Option (Int32 × ev_I)} {y : Int32 × ev_I} (h : (x.bind fun z => some (z.1, z.2)) = some y) : x = some y := by
  cases x with
  | none => cases h
  | some a => exact h
theorem ck_sm {α : Type} {c : Bool} {x : Option α} {y : α} (h : ev_ck c x = some y) : c = true ∧ x = some y := by
  cases c with
  | true => exact ⟨rfl, h⟩
  | false => cases h
theorem i01 {x : Int32} (h : ev_01 x = true) : x = nI 0 ∨ x = nI 1 := by
  unfold ev_01 at h
  have h : x = 0 ∨ x = 1 := by simpa using h
  exact h
def PRl (n : Nat) (x : Nat × Nat × Nat × Nat) (s : Nat → Nat) (h : Nat) (r : Nat → Int32) : Prop := ∃ b s', (b = 0 ∨ b = 1) ∧ (okS s' ∧ (okX s → okX s')) ∧ s' 9 = s 9 ∧ (∀ (I : ev_I) z l v, l < 24 → lnAt I (z + 1) l x → ∃ h' r', pX8_runLine n (z + 1) (nI l) (cu (z + 1 + 18) v (C (z + 1) I s h r)) = some (nI b, cu (z + 1 + 18) v (C (z + 1) I s' h' r')) ∧ okR s' h' r') ∧ ∀ (I : ev_I) q k, k + 5 ≤ 240 → LR x (I (q + 9)) k → I q 0 = 0 → ∃ J, pX10_runsLine n q (nI k) (M q I s) = some (nI b, M q J s') ∧ Sc q I J
section Pl
variable {n w q z h l k o f c d : Nat} {I : ev_I} {s : Nat → Nat} {r : Nat → Int32} {v : Int32}
theorem C_pl {i j : Nat} (hi : 1 ≤ i ∧ i ≤ 4) : C w I s h r (w + 18 + i) j = I (w + 18 + i) j := by
  unfold C
  rw [if_pos (by omega), show w + 18 + i - w = 18 + i by omega, src_pl hi]
  show (if w + 18 + i = w + 11 ∧ j = 1 then _ else _) = _
  rw [if_neg (by omega), if_neg (by omega), if_neg (by omega), if_neg (by omega)]
theorem c_ln {i j : Nat} (hi : 1 ≤ i ∧ i ≤ 4) : cu (w + 18) v (C w I s h r) (w + 18 + i) j = I (w + 18 + i) j := (cu_g (by omega)).trans (C_pl hi)
theorem cv1 {ans : Int32} {J : ev_I} : ((some (ans, J)).bind fun z : Int32 × ev_I => if z.1 = (-1 : Int32) then some ((0 : Int32), z.2) else some ((1 : Int32), z.2)) = some (nI (if ans = -1 then 0 else 1), J) := by
  rw [bn_s]
  by_cases g : ans = -1
  · rw [if_pos g, if_pos g]; rfl
  · rw [if_neg g, if_neg g]; rfl
theorem b_01 {p : Prop} [Decidable p] : (if p then 0 else 1) = 0 ∨ (if p then 0 else 1) = 1 := by
  by_cases g : p
  · rw [if_pos g]; exact Or.inl rfl
  · rw [if_neg g]; exact Or.inr rfl
/-- reads of the reference's line -/
theorem r_ln {i : Nat} : M q I s (q + 9) i = I (q + 9) i := by rw [M_oth (by omega)]
theorem prl_1 (hs : okS s) (hr : okR s h r) (hn : 7000 ≤ n) : PRl n (1, f, c, d) s h r := by
  obtain ⟨ans, s', ok, h9, hc, hg⟩ := pa_propose (n := n) hs hr (x := nI f) (y := nI c) (by omega)
  refine ⟨if ans = -1 then 0 else 1, s', b_01, ok, h9, fun I z l v hl hx => ?_, fun I q k hk hL h0 => ?_⟩
  · obtain ⟨h', r', e, hr'⟩ := hc I z
    refine ⟨h', r', ?_, hr'⟩
    have e := bs e
    unfold pX8_runLine
    rw [ck_in hl (by omega), lt_b, ck_in hl (by omega), lt_b, ck_in hl (by omega), lt_b, nI_clamp (by omega), c_ln (by omega), c_ln (by omega), c_ln (by omega), hx.1, hx.2.1, hx.2.2.1, if_pos (show nI 1 = (1 : Int32) from rfl), kpX8_proposeBy, e]
    exact cv1
  · obtain ⟨J, e, hJ⟩ := hg I q h0
    refine ⟨J, ?_, hJ⟩
    rcases hL with ⟨g, a⟩ | ⟨g, a⟩ | ⟨g, a⟩ | ⟨g, a⟩ | ⟨g, a⟩ | ⟨g, a⟩
    · unfold pX10_runsLine
      rw [n_2, n_3, ck_in (by omega) (by omega), lt_b, ck_in (by omega) (by omega), lt_b, ck_in (by omega) (by omega), nI_clamp (by omega), nI_clamp (by omega), nI_clamp (by omega), r_ln, r_ln, r_ln, a.1, a.2.1, a.2.2, if_pos (show nI 0 = (0 : Int32) from rfl)]
      have e : pX10_propose n q (nI f) (nI c) (M q I s) = some (ans, M q J s') := e
      rw [e]
      exact cv1
    all_goals exact absurd g (by simp)
/-- the reference's line from its second number on -/
theorem r_rl {p : Nat} (hk : k + 5 ≤ 240) (e0 : I (q + 9) k = nI p) (e2 : I (q + 9) (k + 2) = nI f) (hp : p ≠ 0) (hp' : p < 10) : pX10_runsLine n q (nI k) (M q I s) = if nI p = (1 : Int32) then cX10_runsLine_53 q n (nI p) (nI f) (M q I s) else if nI p = (2 : Int32) then cX10_runsLine_53 q n (nI p) (nI f) (M q I s) else if nI p = (3 : Int32) then ((pX10_lose n q (nI f) (M q I s)).bind fun z => if z.1 = (-1 : Int32) then some ((0 : Int32), z.2) else some ((1 : Int32), z.2)) else if nI p = (4 : Int32) then ((pX10_turn n q (nI f) (M q I s)).bind fun z => ev_ck (ev_01 z.1) <| some (z.1, z.2)) else if nI p = (5 : Int32) then ((pX10_timeout n q (nI f) (M q I s)).bind fun z => ev_ck (ev_01 z.1) <| some (z.1, z.2)) else if nI p = (6 : Int32) then ((pX10_lie n q (nI f) (I (q + 9) (k + 1)) (I (q + 9) (k + 3)) (I (q + 9) (k + 4)) 0 (M q I s)).bind fun z => if z.1 = (-1 : Int32) then some ((0 : Int32), z.2) else some ((1 : Int32), z.2)) else ((pX10_calm n q (nI f) (M q I s)).bind fun z => if z.1 = (-1 : Int32) then some ((0 : Int32), z.2) else some ((1 : Int32), z.2)) := by
  unfold pX10_runsLine
  rw [n_1, n_2, n_3, n_4, ck_in (by omega) (by omega), lt_b, ck_in (by omega) (by omega), lt_b, ck_in (by omega) (by omega), ck_in (by omega) (by omega), ck_in (by omega) (by omega), nI_clamp (by omega), nI_clamp (by omega), nI_clamp (by omega), nI_clamp (by omega), nI_clamp (by omega), r_ln, r_ln, r_ln, r_ln, r_ln, e0, e2, if_neg (nI_ne0 (by omega) (by omega)), ck_in (by omega) (by omega)]
theorem c_rl (hl : l < 24) (hx : lnAt I w l (o, f, c, d)) : pX8_runLine n w (nI l) (cu (w + 18) v (C w I s h r)) = if nI o = (1 : Int32) then ((pX8_proposeBy n w (nI f) (nI c) (cu (w + 18) v (C w I s h r))).bind fun z => if z.1 = (-1 : Int32) then some ((0 : Int32), z.2) else some ((1 : Int32), z.2)) else if nI o = (2 : Int32) then ((pX8_deliverSome n w (0 : Int32) (nI f) (cu (w + 18) v (C w I s h r))).bind fun z => if z.1 ≤ 0 then some ((0 : Int32), z.2) else some ((1 : Int32), z.2)) else if nI o = (3 : Int32) then ((pX4_takeFirst n (w + 11) (nI f) (cu (w + 18) v (C w I s h r))).bind fun z => if z.1 ≤ 0 then some ((0 : Int32), z.2) else some ((1 : Int32), z.2)) else if nI o = (4 : Int32) then ((pX8_hasNode n w (nI f) (cu (w + 18) v (C w I s h r))).bind fun z => if z = 0 then some ((0 : Int32), cu (w + 18) v (C w I s h r)) else (pX4_takeAllTo n (w + 11) (nI f) (cu (w + 18) v (C w I s h r))).bind fun z => if z.1 < 0 then some ((0 : Int32), z.2) else some ((1 : Int32), z.2)) else if nI o = (5 : Int32) then ((pX4_turnFirst n (w + 11) (nI f) (cu (w + 18) v (C w I s h r))).bind fun z => ev_ck (ev_01 z.1) <| some (z.1, z.2)) else if nI o = (6 : Int32) then ((pX8_timeOutBy n w (nI f) (cu (w + 18) v (C w I s h r))).bind fun z => ev_ck (ev_01 z.1) <| some (z.1, z.2)) else if nI o = (7 : Int32) then ((pX8_calmRounds n w (nI f) (cu (w + 18) v (C w I s h r))).bind fun z => if z.1 < 0 then some ((0 : Int32), z.2) else some ((1 : Int32), z.2)) else if nI o = (8 : Int32) then some ((0 : Int32), cu (w + 18) v (C w I s h r)) else if nI o = (9 : Int32) then ((pX8_lieBy n w (nI f) (0 : Int32) (nI c) (0 : Int32) (0 : Int32) (cu (w + 18) v (C w I s h r))).bind fun z => if z.1 = (-1 : Int32) then some ((0 : Int32), z.2) else some ((1 : Int32), z.2)) else if nI o = (10 : Int32) then ((pX8_lieBy n w (nI f) (1 : Int32) (nI c) (nI d) (0 : Int32) (cu (w + 18) v (C w I s h r))).bind fun z => if z.1 = (-1 : Int32) then some ((0 : Int32), z.2) else some ((1 : Int32), z.2)) else if nI o = (11 : Int32) then ((pX8_lieBy n w (nI f) (2 : Int32) (0 : Int32) (nI c) (0 : Int32) (cu (w + 18) v (C w I s h r))).bind fun z => if z.1 = (-1 : Int32) then some ((0 : Int32), z.2) else some ((1 : Int32), z.2)) else some ((0 : Int32), cu (w + 18) v (C w I s h r)) := by
  unfold pX8_runLine
  rw [ck_in hl (by omega), lt_b, ck_in hl (by omega), lt_b, ck_in hl (by omega), lt_b, ck_in hl (by omega), nI_clamp (by omega), c_ln (by omega), c_ln (by omega), c_ln (by omega), c_ln (by omega), hx.1, hx.2.1, hx.2.2.1, hx.2.2.2]
theorem kb {F : Option (Int32 × ev_I)} {a : Nat} {ans : Int32} {J : ev_I} (e : F = some (ans, J)) : Option.map (cu2 a v) F = some (ans, cu a v J) := by rw [e]; rfl
theorem cv0 {m : Nat} (hm : m < 2 ^ 31) {J : ev_I} : ((some (nI m, J)).bind fun z : Int32 × ev_I => if z.1 ≤ 0 then some ((0 : Int32), z.2) else some ((1 : Int32), z.2)) = some (nI (if m = 0 then 0 else 1), J) := by
  rw [bn_s]
  by_cases g : m = 0
  · rw [g, if_pos (show nI 0 ≤ (0 : Int32) by decide), if_pos rfl]; rfl
  · rw [if_neg (show ¬ nI m ≤ 0 from nI_ge (a := 0) (by omega) hm), if_neg g]; rfl
theorem cvL {m : Nat} (hm : m < 2 ^ 31) {J : ev_I} : ((some (nI m, J)).bind fun z : Int32 × ev_I => if z.1 < 0 then some ((0 : Int32), z.2) else some ((1 : Int32), z.2)) = some (1, J) := by
  rw [bn_s, if_neg (nI_pos hm)]
theorem ck_b {b : Nat} (hb : b = 0 ∨ b = 1) {J : ev_I} : ((some (nI b, J)).bind fun z : Int32 × ev_I => ev_ck (ev_01 z.1) <| some (z.1, z.2)) = some (nI b, J) := by
  rcases hb with rfl | rfl <;> rfl
theorem prl_2 (hs : okS s) (hr : okR s h r) (hn : 7000 ≤ n) (hf : 1 ≤ f) (hf' : f < 1000) : PRl n (2, f, c, d) s h r := by
  have h4 := hs.2.2.1.2.2.1
  refine ⟨if s 4 = 0 then 0 else 1, sDN f s, b_01, ⟨ok_DN f s hs, fun x => okX_DN f s hs x⟩, (Mo_DN f s hs).2.2 9 (by omega), fun I z l v hl hx => ?_, fun I q k hk hL h0 => ?_⟩
  · obtain ⟨h', r', e, hr'⟩ := c_delF (n := n) (w := z + 1) (I := I) hs hr hf' (by omega)
    refine ⟨h', r', ?_, hr'⟩
    rw [c_rl hl hx, if_neg (by decide), if_pos (show nI 2 = (2 : Int32) from rfl), kpX8_deliverSome, kb e, cv0 (by have := dn_b f s; omega)]
    by_cases g : s 4 = 0
    · rw [if_pos ((dn_0 hf).mpr g), if_pos g]
    · rw [if_neg (fun q => g ((dn_0 hf).mp q)), if_neg g]
  · rcases hL with ⟨g, a⟩ | ⟨g, a⟩ | ⟨g, a⟩ | ⟨g, a⟩ | ⟨g, a⟩ | ⟨g, a⟩
    · exact absurd g (by simp)
    · obtain ⟨J, e, hJ⟩ := r_hdD (q := q) (b := if s 4 = 0 then 0 else 1) b_01 hf' f 0 n I s hs (by omega) (by omega)
      refine ⟨J, ?_, hJ⟩
      rw [r_rl (p := 1) hk a.1 a.2 (by omega) (by omega), if_pos (show nI 1 = (1 : Int32) from rfl)]
      unfold cX10_runsLine_53 cX10_runsLine_65
      rcases r_hd (n := n) (q := q) (z := f) (I := I) (s := s) (y := 0) with g1 | g1
      · rw [if_neg (by decide), g1, e]
        exact ck_b b_01
      · exact absurd h4 g1
    all_goals exact absurd g (by simp)
theorem prl_3 (hs : okS s) (hr : okR s h r) (hn : 7000 ≤ n) (hf : 1 ≤ f) (hf' : f < 1000) : PRl n (3, f, c, d) s h r := by
  have h4 := hs.2.2.1.2.2.1
  obtain ⟨o1, o2, o3⟩ := ok_TN f s hs
  refine ⟨if s 4 = 0 then 0 else 1, sTN f s, b_01, ⟨o1, o2⟩, o3, fun I z l v hl hx => ?_, fun I q k hk hL h0 => ?_⟩
  · obtain ⟨h', e, hr'⟩ := c_takeFirst (n := n) (w := z + 1) (I := I) hs hr hf'
    refine ⟨h', r, ?_, hr'⟩
    have em : (if s 4 < f then s 4 else f) < 1000 := by
      by_cases g : s 4 < f
      · rw [if_pos g]; omega
      · rw [if_neg g]; omega
    rw [c_rl hl hx, if_neg (by decide), if_neg (by decide), if_pos (show nI 3 = (3 : Int32) from rfl), kpX4_takeFirst (by omega), kb e, cv0 (by omega)]
    by_cases g : s 4 = 0
    · rw [if_pos g, if_pos (show (if s 4 < f then s 4 else f) = 0 by rw [if_pos (by omega)]; exact g)]
    · rw [if_neg g, if_neg (show ¬ (if s 4 < f then s 4 else f) = 0 from fun e => by
        by_cases q : s 4 < f
        · rw [if_pos q] at e; omega
        · rw [if_neg q] at e; omega)]
  · rcases hL with ⟨g, a⟩ | ⟨g, a⟩ | ⟨g, a⟩ | ⟨g, a⟩ | ⟨g, a⟩ | ⟨g, a⟩
    · exact absurd g (by simp)
    · obtain ⟨J, e, hJ⟩ := r_hdT (q := q) (b := if s 4 = 0 then 0 else 1) b_01 hf' f 0 n I s hs (by omega) (by omega)
      refine ⟨J, ?_, hJ⟩
      rw [r_rl (p := 2) hk a.1 a.2 (by omega) (by omega), if_neg (by decide), if_pos (show nI 2 = (2 : Int32) from rfl)]
      unfold cX10_runsLine_53 cX10_runsLine_65
      rcases r_hd (n := n) (q := q) (z := f) (I := I) (s := s) (y := 1) with g1 | g1
      · rw [if_pos (show nI 2 = (2 : Int32) from rfl), g1, e]
        exact ck_b b_01
      · exact absurd h4 g1
    all_goals exact absurd g (by simp)
theorem prl_4 (hs : okS s) (hr : okR s h r) (hn : 7000 ≤ n) : PRl n (4, f, c, d) s h r := by
  have h0 := hs.2.2.1.1
  have h4 := hs.2.2.1.2.2.1
  obtain ⟨ans, s', ok, h9, hc, hg⟩ := pa_lose (n := n) hs hr (x := nI f) (by omega)
  refine ⟨if ans = -1 then 0 else 1, s', b_01, ok, h9, fun I z l v hl hx => ?_, fun I q k hk hL h0 => ?_⟩
  · obtain ⟨h', r', e, hr'⟩ := hc I z
    refine ⟨h', r', ?_, hr'⟩
    have e : pX9_lose n z (nI f) (C (z + 1) I s h r) = some (ans, C (z + 1) I s' h' r') := e
    unfold pX9_lose at e
    rw [c_rl hl hx, if_neg (by decide), if_neg (by decide), if_neg (by decide), if_pos (show nI 4 = (4 : Int32) from rfl), kpX8_hasNode, c_node, bn_s, if_b]
    rw [c_node, bn_s, if_b] at e
    by_cases g : gd (nI f) (s 0 + 4) = true
    · rw [if_pos g] at e ⊢
      obtain ⟨k, hk, ek⟩ := gd_e g (by omega)
      obtain ⟨r2, e2, _⟩ := c_lose (n := n) (w := z + 1) (I := I) hs hr (k := k) (by omega) (by omega)
      have e := bs e
      rw [ek, e2] at e
      injection e with e
      injection e with ea eb
      have nb := nt_le (s := s) (k := k) (s 4)
      rw [kpX4_takeAllTo (by omega), ek, kb e2, cvL (by omega), ← ea, if_neg (nI_m1 (by omega)), eb]
      rfl
    · rw [if_neg g] at e ⊢
      injection e with e
      injection e with ea eb
      rw [← ea, if_pos rfl, eb]
      rfl
  · obtain ⟨J, e, hJ⟩ := hg I q h0
    refine ⟨J, ?_, hJ⟩
    have e : pX10_lose n q (nI f) (M q I s) = some (ans, M q J s') := e
    rcases hL with ⟨g, a⟩ | ⟨g, a⟩ | ⟨g, a⟩ | ⟨g, a⟩ | ⟨g, a⟩ | ⟨g, a⟩
    · exact absurd g (by simp)
    · rw [r_rl (p := 3) hk a.1 a.2 (by omega) (by omega), if_neg (by decide), if_neg (by decide), if_pos (show nI 3 = (3 : Int32) from rfl), e]
      exact cv1
    all_goals exact absurd g (by simp)
theorem ans01 {F : Option (Int32 × ev_I)} {ans : Int32} {J : ev_I} (e : (F.bind fun z => ev_ck (ev_01 z.1) <| some (z.1, z.2)) = some (ans, J)) : F = some (ans, J) ∧ (ans = nI 0 ∨ ans = nI 1) := by
  cases F with
  | none => cases e
  | some y =>
    rw [bn_s] at e
    obtain ⟨e1, e2⟩ := ck_sm e
    have e2 : some y = some (ans, J) := e2
    refine ⟨e2, ?_⟩
    injection e2 with e2
    rw [e2] at e1
    exact i01 e1
theorem prl_5 (hs : okS s) (hr : okR s h r) (hn : 7000 ≤ n) : PRl n (5, f, c, d) s h r := by
  obtain ⟨ans, s', ok, h9, hc, hg⟩ := pa_turn (n := n) hs hr (x := nI f) (by omega)
  obtain ⟨b, hb, rfl⟩ : ∃ b : Nat, (b = 0 ∨ b = 1) ∧ ans = nI b := by
    obtain ⟨_, _, e, _⟩ := hc (fun _ _ => 0) 0
    have e : pX9_turn n 0 (nI f) _ = _ := e
    unfold pX9_turn at e
    rcases (ans01 e).2 with g | g
    · exact ⟨0, Or.inl rfl, g⟩
    · exact ⟨1, Or.inr rfl, g⟩
  refine ⟨b, s', hb, ok, h9, fun I z l v hl hx => ?_, fun I q k hk hL h0 => ?_⟩
  · obtain ⟨h', r', e, hr'⟩ := hc I z
    refine ⟨h', r', ?_, hr'⟩
    have e : pX9_turn n z (nI f) _ = _ := e
    unfold pX9_turn at e
    have e := (ans01 e).1
    rw [c_rl hl hx, if_neg (by decide), if_neg (by decide), if_neg (by decide), if_neg (by decide), if_pos (show nI 5 = (5 : Int32) from rfl), kpX4_turnFirst (by omega), kb e]
    exact ck_b hb
  · obtain ⟨J, e, hJ⟩ := hg I q h0
    refine ⟨J, ?_, hJ⟩
    have e : pX10_turn n q (nI f) (M q I s) = some (nI b, M q J s') := e
    rcases hL with ⟨g, a⟩ | ⟨g, a⟩ | ⟨g, a⟩ | ⟨g, a⟩ | ⟨g, a⟩ | ⟨g, a⟩
    · exact absurd g (by simp)
    · rw [r_rl (p := 4) hk a.1 a.2 (by omega) (by omega), if_neg (by decide), if_neg (by decide), if_neg (by decide), if_pos (show nI 4 = (4 : Int32) from rfl), e]
      exact ck_b hb
    all_goals exact absurd g (by simp)
theorem prl_6 (hs : okS s) (hr : okR s h r) (hn : 7000 ≤ n) : PRl n (6, f, c, d) s h r := by
  obtain ⟨ans, s', ok, h9, hc, hg⟩ := pa_timeout (n := n) hs hr (x := nI f) (by omega)
  obtain ⟨b, hb, rfl⟩ : ∃ b : Nat, (b = 0 ∨ b = 1) ∧ ans = nI b := by
    obtain ⟨_, _, e, _⟩ := hc (fun _ _ => 0) 0
    have e : pX9_timeout n 0 (nI f) _ = _ := e
    unfold pX9_timeout at e
    rcases (ans01 e).2 with g | g
    · exact ⟨0, Or.inl rfl, g⟩
    · exact ⟨1, Or.inr rfl, g⟩
  refine ⟨b, s', hb, ok, h9, fun I z l v hl hx => ?_, fun I q k hk hL h0 => ?_⟩
  · obtain ⟨h', r', e, hr'⟩ := hc I z
    refine ⟨h', r', ?_, hr'⟩
    have e : pX9_timeout n z (nI f) _ = _ := e
    unfold pX9_timeout at e
    have e := (ans01 e).1
    rw [c_rl hl hx, if_neg (by decide), if_neg (by decide), if_neg (by decide), if_neg (by decide), if_neg (by decide), if_pos (show nI 6 = (6 : Int32) from rfl), kpX8_timeOutBy, kb e]
    exact ck_b hb
  · obtain ⟨J, e, hJ⟩ := hg I q h0
    refine ⟨J, ?_, hJ⟩
    have e : pX10_timeout n q (nI f) (M q I s) = some (nI b, M q J s') := e
    rcases hL with ⟨g, a⟩ | ⟨g, a⟩ | ⟨g, a⟩ | ⟨g, a⟩ | ⟨g, a⟩ | ⟨g, a⟩
    · exact absurd g (by simp)
    · rw [r_rl (p := 5) hk a.1 a.2 (by omega) (by omega), if_neg (by decide), if_neg (by decide), if_neg (by decide), if_neg (by decide), if_pos (show nI 5 = (5 : Int32) from rfl), e]
      exact ck_b hb
    all_goals exact absurd g (by simp)
theorem prl_7 (hs : okS s) (hr : okR s h r) (hn : 7000 ≤ n) (hf : 1 ≤ f ∧ f ≤ 20) : PRl n (7, f, c, d) s h r := by
  have h0 := hs.2.2.1.1
  obtain ⟨ans, s', ok, h9, hc, hg⟩ := pa_calm (n := n) hs hr (x := nI f) (by omega)
  have ex : ∀ (I : ev_I) z h' r', pX9_calm n z (nI f) (C (z + 1) I s h r) = some (ans, C (z + 1) I s' h' r') → pX8_calmRounds n (z + 1) (nI f) (C (z + 1) I s h r) = some (ans, C (z + 1) I s' h' r') := fun I z h' r' e => by
    unfold pX9_calm at e
    rw [if_neg (show ¬ nI f < (1 : Int32) from nI_nlt (b := 1) hf.1 (by omega)), if_pos (show nI f ≤ (20 : Int32) from nI_le (b := 20) hf.2 (by omega))] at e
    exact bs e
  obtain ⟨m, hm, rfl⟩ : ∃ m : Nat, m < 1000 ∧ ans = nI m := by
    obtain ⟨h', r', e, _⟩ := hc (fun _ _ => 7) 0
    have e := ex _ _ _ _ e
    have a := ok_Rds f 0 s hs (by omega)
    obtain ⟨h2, r2, e2, _⟩ := c_calmL (w := 0 + 1) (I := fun _ _ => 7) hf.2 (was := nI (lgN s (s 0 + 4))) f 0 n h r s hs hr (by omega) (by omega)
    unfold pX8_calmRounds at e
    rw [c_lg hs (by omega), bn_s, show (0 : Int32) = nI 0 from rfl, e2] at e
    injection e with e
    injection e with ea eb
    have mo := Mo_t a.2 (Mo_DN 400 _ a.1)
    have l1 := lgN_m mo (s 0 + 4) (by omega)
    have l2 := lgN_b (ok_DN 400 _ a.1) (s 0 + 4) (by omega)
    exact ⟨lgN (sDN 400 (sRds f 0 s)) (s 0 + 4) - lgN s (s 0 + 4), by omega, by rw [← ea, pk_sub l1]⟩
  refine ⟨1, s', Or.inr rfl, ok, h9, fun I z l v hl hx => ?_, fun I q k hk hL h0 => ?_⟩
  · obtain ⟨h', r', e, hr'⟩ := hc I z
    refine ⟨h', r', ?_, hr'⟩
    have e := ex _ _ _ _ e
    rw [c_rl hl hx, if_neg (by decide), if_neg (by decide), if_neg (by decide), if_neg (by decide), if_neg (by decide), if_neg (by decide), if_pos (show nI 7 = (7 : Int32) from rfl), kpX8_calmRounds, kb e, cvL (by omega)]
    rfl
  · obtain ⟨J, e, hJ⟩ := hg I q h0
    refine ⟨J, ?_, hJ⟩
    have e : pX10_calm n q (nI f) (M q I s) = some (nI m, M q J s') := e
    rcases hL with ⟨g, a⟩ | ⟨g, a⟩ | ⟨g, a⟩ | ⟨g, a⟩ | ⟨g, a⟩ | ⟨g, a⟩
    · exact absurd g (by simp)
    · exact absurd g (by simp)
    · rw [r_rl (p := 9) hk a.1 a.2 (by omega) (by omega), if_neg (by decide), if_neg (by decide), if_neg (by decide), if_neg (by decide), if_neg (by decide), if_neg (by decide), e]
      refine cv1.trans ?_
      rw [if_neg (nI_m1 (by omega))]
    all_goals exact absurd g (by simp)
theorem prl_9 (hs : okS s) (hr : okR s h r) (hn : 7000 ≤ n) (ho : 9 ≤ o ∧ o ≤ 11) : PRl n (o, f, c, d) s h r := by
  obtain rfl | rfl | rfl : o = 9 ∨ o = 10 ∨ o = 11 := by omega
  · obtain ⟨ans, s', ok, h9, hc, hg⟩ := pa_lie (n := n) hs hr (x := nI f) (y := 0) (a := nI c) (v := 0) (p := 0) (by omega)
    refine ⟨if ans = -1 then 0 else 1, s', b_01, ok, h9, fun I z l v hl hx => ?_, fun I q k hk hL h0 => ?_⟩
    · obtain ⟨h', r', e, hr'⟩ := hc I z
      refine ⟨h', r', ?_, hr'⟩
      have e := bs e
      rw [c_rl hl hx, if_neg (by decide), if_neg (by decide), if_neg (by decide), if_neg (by decide), if_neg (by decide), if_neg (by decide), if_neg (by decide), if_neg (by decide), if_pos (show nI 9 = (9 : Int32) from rfl), kpX8_lieBy, kb e]
      exact cv1
    · obtain ⟨J, e, hJ⟩ := hg I q h0
      refine ⟨J, ?_, hJ⟩
      have e : pX10_lie n q (nI f) 0 (nI c) 0 0 (M q I s) = some (ans, M q J s') := e
      rcases hL with ⟨g, a⟩ | ⟨g, a⟩ | ⟨g, a⟩ | ⟨g, a⟩ | ⟨g, a⟩ | ⟨g, a⟩
      · exact absurd g (by simp)
      · exact absurd g (by simp)
      · exact absurd g (by simp)
      · rw [r_rl (p := 6) hk a.1 a.2.2.1 (by omega) (by omega), if_neg (by decide), if_neg (by decide), if_neg (by decide), if_neg (by decide), if_neg (by decide), if_pos (show nI 6 = (6 : Int32) from rfl), a.2.1, a.2.2.2.1, a.2.2.2.2]
        refine Eq.trans ?_ (cv1 (ans := ans) (J := M q J s'))
        rw [← e]
        rfl
      all_goals exact absurd g (by simp)
  · obtain ⟨ans, s', ok, h9, hc, hg⟩ := pa_lie (n := n) hs hr (x := nI f) (y := 1) (a := nI c) (v := nI d) (p := 0) (by omega)
    refine ⟨if ans = -1 then 0 else 1, s', b_01, ok, h9, fun I z l v hl hx => ?_, fun I q k hk hL h0 => ?_⟩
    · obtain ⟨h', r', e, hr'⟩ := hc I z
      refine ⟨h', r', ?_, hr'⟩
      have e := bs e
      rw [c_rl hl hx, if_neg (by decide), if_neg (by decide), if_neg (by decide), if_neg (by decide), if_neg (by decide), if_neg (by decide), if_neg (by decide), if_neg (by decide), if_neg (by decide), if_pos (show nI 10 = (10 : Int32) from rfl), kpX8_lieBy, kb e]
      exact cv1
    · obtain ⟨J, e, hJ⟩ := hg I q h0
      refine ⟨J, ?_, hJ⟩
      have e : pX10_lie n q (nI f) 1 (nI c) (nI d) 0 (M q I s) = some (ans, M q J s') := e
      rcases hL with ⟨g, a⟩ | ⟨g, a⟩ | ⟨g, a⟩ | ⟨g, a⟩ | ⟨g, a⟩ | ⟨g, a⟩
      · exact absurd g (by simp)
      · exact absurd g (by simp)
      · exact absurd g (by simp)
      · exact absurd g (by simp)
      · rw [r_rl (p := 6) hk a.1 a.2.2.1 (by omega) (by omega), if_neg (by decide), if_neg (by decide), if_neg (by decide), if_neg (by decide), if_neg (by decide), if_pos (show nI 6 = (6 : Int32) from rfl), a.2.1, a.2.2.2.1, a.2.2.2.2]
        refine Eq.trans ?_ (cv1 (ans := ans) (J := M q J s'))
        rw [← e]
        rfl
      all_goals exact absurd g (by simp)
  · obtain ⟨ans, s', ok, h9, hc, hg⟩ := pa_lie (n := n) hs hr (x := nI f) (y := 2) (a := 0) (v := nI c) (p := 0) (by omega)
    refine ⟨if ans = -1 then 0 else 1, s', b_01, ok, h9, fun I z l v hl hx => ?_, fun I q k hk hL h0 => ?_⟩
    · obtain ⟨h', r', e, hr'⟩ := hc I z
      refine ⟨h', r', ?_, hr'⟩
      have e := bs e
      rw [c_rl hl hx, if_neg (by decide), if_neg (by decide), if_neg (by decide), if_neg (by decide), if_neg (by decide), if_neg (by decide), if_neg (by decide), if_neg (by decide), if_neg (by decide), if_neg (by decide), if_pos (show nI 11 = (11 : Int32) from rfl), kpX8_lieBy, kb e]
      exact cv1
    · obtain ⟨J, e, hJ⟩ := hg I q h0
      refine ⟨J, ?_, hJ⟩
      have e : pX10_lie n q (nI f) 2 0 (nI c) 0 (M q I s) = some (ans, M q J s') := e
      rcases hL with ⟨g, a⟩ | ⟨g, a⟩ | ⟨g, a⟩ | ⟨g, a⟩ | ⟨g, a⟩ | ⟨g, a⟩
      · exact absurd g (by simp)
      · exact absurd g (by simp)
      · exact absurd g (by simp)
      · exact absurd g (by simp)
      · exact absurd g (by simp)
      · rw [r_rl (p := 6) hk a.1 a.2.2.1 (by omega) (by omega), if_neg (by decide), if_neg (by decide), if_neg (by decide), if_neg (by decide), if_neg (by decide), if_pos (show nI 6 = (6 : Int32) from rfl), a.2.1, a.2.2.2.1, a.2.2.2.2]
        refine Eq.trans ?_ (cv1 (ans := ans) (J := M q J s'))
        rw [← e]
        rfl
theorem prl_all (hs : okS s) (hr : okR s h r) (hn : 7000 ≤ n) {x : Nat × Nat × Nat × Nat} (hx : okLn x) : PRl n x s h r := by
  obtain ⟨o, f, c, d⟩ := x
  obtain ⟨ho, hf, hc, hd, hF1, hF2⟩ := hx
  have ho : (1 ≤ o ∧ o ≤ 7) ∨ (9 ≤ o ∧ o ≤ 11) := ho
  have hf : f < 1000 := hf
  have hF1 : (o = 2 ∨ o = 3) → 1 ≤ f := hF1
  have hF2 : o = 7 → 1 ≤ f ∧ f ≤ 20 := hF2
  by_cases g : 9 ≤ o
  · exact prl_9 hs hr hn (by omega)
  · obtain rfl | rfl | rfl | rfl | rfl | rfl | rfl : o = 1 ∨ o = 2 ∨ o = 3 ∨ o = 4 ∨ o = 5 ∨ o = 6 ∨ o = 7 := by omega
    · exact prl_1 hs hr hn
    · exact prl_2 hs hr hn (hF1 (Or.inl rfl)) hf
    · exact prl_3 hs hr hn (hF1 (Or.inr rfl)) hf
    · exact prl_4 hs hr hn
    · exact prl_5 hs hr hn
    · exact prl_6 hs hr hn
    · exact prl_7 hs hr hn (hF2 rfl)
end Pl
