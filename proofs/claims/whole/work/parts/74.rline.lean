/-! THE TAPE: the reference reads lines -/
def AtR (q L : Nat) (T : Nat → Nat) (b : Nat) (I : ev_I) : Prop := (TpR q L T I ∧ b ≤ L) ∧ I q 9 = nI (ent L T b) ∧ I q 10 = nI (stt L T b) ∧ I q 11 = nI (krf L T b) ∧ (kct L T b = 1 → I q 12 = wo (wv T (stt L T b) (ent L T b))) ∧ (kct L T b = 2 → I q 12 = nI (nvl L T b))
def FaR (q : Nat) (e : Nat × Nat) (I : ev_I) : Prop := I q 14 = nI e.1 ∧ I q 15 = nI e.2
def F6 (q k : Nat) (I J : ev_I) : Prop := ∀ a j, ¬ (a = q ∧ 9 ≤ j ∧ j ≤ 15) → ¬ (a = q + 9 ∧ k < j ∧ j < k + 5) → J a j = I a j
theorem F6_t {q k : Nat} {I J K : ev_I} (h1 : F6 q k I J) (h2 : F6 q k J K) : F6 q k I K := fun a j g1 g2 => (h2 a j g1 g2).trans (h1 a j g1 g2)
theorem F6_r {q k : Nat} {I : ev_I} : F6 q k I I := fun _ _ _ _ => rfl
theorem F6_w {q k j : Nat} {I : ev_I} {v : Int32} (h : k < j ∧ j < k + 5) : F6 q k I (ev_u2 I (q + 9) j v) := fun a i _ g2 => u2_o (by omega)
theorem F6_4 {q k : Nat} {I J : ev_I} (h : F4 q I J) : F6 q k I J := fun a j g _ => h a j (by omega)
def F5 (q : Nat) (I J : ev_I) : Prop := ∀ a j, ¬ (a = q ∧ 9 ≤ j ∧ j ≤ 15) → J a j = I a j
theorem F6_5 {q k : Nat} {I J : ev_I} (h : F5 q I J) : F6 q k I J := fun a j g _ => h a j g
theorem AtR_w {q L b j : Nat} {T : Nat → Nat} {I : ev_I} {v : Int32} (h : AtR q L T b I) : AtR q L T b (ev_u2 I (q + 9) j v) := by
  have o : ∀ a i, a ≠ q + 9 → ev_u2 I (q + 9) j v a i = I a i := fun a i g => u2_o (by omega)
  refine ⟨⟨⟨by rw [o _ _ (by omega)]; exact h.1.1.1, fun i hi => by rw [o _ _ (by omega)]; exact h.1.1.2.1 i hi, fun i hi => by rw [o _ _ (by omega)]; exact h.1.1.2.2 i hi⟩, h.1.2⟩, ?_, ?_, ?_, ?_, ?_⟩
  · rw [o _ _ (by omega)]; exact h.2.1
  · rw [o _ _ (by omega)]; exact h.2.2.1
  · rw [o _ _ (by omega)]; exact h.2.2.2.1
  · rw [o _ _ (by omega)]; exact h.2.2.2.2.1
  · rw [o _ _ (by omega)]; exact h.2.2.2.2.2
theorem FaR_w {q j : Nat} {e : Nat × Nat} {I : ev_I} {v : Int32} (h : FaR q e I) : FaR q e (ev_u2 I (q + 9) j v) := ⟨(u2_o (by omega)).trans h.1, (u2_o (by omega)).trans h.2⟩
/-- a line of the class against a line of the reference -/
def LR (x : Nat × Nat × Nat × Nat) (P : Nat → Int32) (k : Nat) : Prop :=
  (x.1 = 1 ∧ P k = nI 0 ∧ P (k + 2) = nI x.2.1 ∧ P (k + 3) = nI x.2.2.1) ∨
  ((2 ≤ x.1 ∧ x.1 ≤ 6) ∧ P k = nI (x.1 - 1) ∧ P (k + 2) = nI x.2.1) ∨
  (x.1 = 7 ∧ P k = nI 9 ∧ P (k + 2) = nI x.2.1) ∨
  (x.1 = 9 ∧ P k = nI 6 ∧ P (k + 1) = nI 0 ∧ P (k + 2) = nI x.2.1 ∧ P (k + 3) = nI x.2.2.1 ∧ P (k + 4) = nI 0) ∨
  (x.1 = 10 ∧ P k = nI 6 ∧ P (k + 1) = nI 1 ∧ P (k + 2) = nI x.2.1 ∧ P (k + 3) = nI x.2.2.1 ∧ P (k + 4) = nI x.2.2.2) ∨
  (x.1 = 11 ∧ P k = nI 6 ∧ P (k + 1) = nI 2 ∧ P (k + 2) = nI x.2.1 ∧ P (k + 3) = nI 0 ∧ P (k + 4) = nI x.2.2.1)
theorem bd_as {α β γ : Type} {a : Sum (Nat × Nat) α} {f : α → Sum (Nat × Nat) β} {g : β → Sum (Nat × Nat) γ} : bd (bd a f) g = bd a (fun x => bd (f x) g) := by cases a <;> rfl
theorem bd_i {α β : Type} {a : α} {f : α → Sum (Nat × Nat) β} : bd (.inr a) f = f a := rfl
def pre (L : Nat) (T : Nat → Nat) (w b : Nat) : Sum (Nat × Nat) ((Nat × Nat × Nat × Nat) × Nat) := bd (n1 L T w b) fun x => bd (opr L T w x.2) fun y => bd (n2 L T y.1 y.2) fun s => bd (n3 L T y.1 s.2) fun d => .inr ((y.1, x.1, s.1, d.1), d.2)
theorem pln_e {L b p : Nat} {T : Nat → Nat} : pln L T p b = if bad (wix L T b) = true then .inl (1, stt L T b) else if p = 24 then .inl (3, stt L T b) else bd (pre L T (wix L T b) (ent L T b)) fun u => bd (sem L T u.2) fun c => .inr (u.1, c) := by
  unfold pln pre rst
  simp only [bd_as, bd_i]
section Rl
variable {n q L b k : Nat} {T : Nat → Nat} {I : ev_I}
theorem n_2 {k : Nat} : nI k + (2 : Int32) = nI (k + 2) := nI_add k 2
theorem n_3 {k : Nat} : nI k + (3 : Int32) = nI (k + 3) := nI_add k 3
theorem n_4 {k : Nat} : nI k + (4 : Int32) = nI (k + 4) := nI_add k 4
theorem r_rd' (hT : okT L T) (hI : AtR q L T b I) (hn : 1000 ≤ n) : ∃ J, pX10_reads n q I = some J ∧ AtR q L T (ent L T b) J ∧ F4 q I J := by
  have e := ent_b (T := T) hI.1.2
  obtain ⟨J, h1, h2, h3, h4, h5, h6, h7⟩ := r_reads hT hI.1.1 e.2 hI.2.1 hn
  exact ⟨J, h1, ⟨⟨TpR_F hI.1.1 h7, e.2⟩, h2, h3, h4, h5, h6⟩, h7⟩
theorem r_errs {x : Nat} (hI : AtR q L T b I) : ∃ J, pX10_errs n q (nI x) I = some (-1, J) ∧ FaR q (x, stt L T b) J ∧ F5 q I J := by
  unfold pX10_errs
  rw [lt_b, lt_b, u2_o (by omega), hI.2.2.1]
  exact ⟨_, rfl, ⟨(u2_o (by omega)).trans u2_s, u2_s⟩, fun a j g => (u2_o (by omega)).trans (u2_o (by omega))⟩
theorem krf_3 : krf L T b = 3 ↔ kct L T b = 2 := by
  unfold krf
  constructor
  · intro h
    by_cases c0 : kct L T b = 0
    · rw [if_pos c0] at h; omega
    · rw [if_neg c0] at h
      by_cases c1 : kct L T b = 1
      · rw [if_pos c1] at h
        by_cases d : wv T (stt L T b) (ent L T b) = 10
        · rw [if_pos d] at h; omega
        · rw [if_neg d] at h; omega
      · rw [if_neg c1] at h
        by_cases c2 : kct L T b = 2
        · exact c2
        · rw [if_neg c2] at h
          by_cases c3 : kct L T b = 3
          · rw [if_pos c3] at h; omega
          · rw [if_neg c3] at h; omega
  · intro h
    rw [h]; rfl
theorem krf_4 : krf L T b = 4 ↔ kct L T b = 3 := by
  unfold krf
  constructor
  · intro h
    by_cases c0 : kct L T b = 0
    · rw [if_pos c0] at h; omega
    · rw [if_neg c0] at h
      by_cases c1 : kct L T b = 1
      · rw [if_pos c1] at h
        by_cases d : wv T (stt L T b) (ent L T b) = 10
        · rw [if_pos d] at h; omega
        · rw [if_neg d] at h; omega
      · rw [if_neg c1] at h
        by_cases c2 : kct L T b = 2
        · rw [if_pos c2] at h; omega
        · rw [if_neg c2] at h
          by_cases c3 : kct L T b = 3
          · exact c3
          · rw [if_neg c3] at h; omega
  · intro h
    rw [h]; rfl
theorem krf_0 : krf L T b = 0 ↔ kct L T b = 0 := by
  unfold krf
  constructor
  · intro h
    by_cases c0 : kct L T b = 0
    · exact c0
    · rw [if_neg c0] at h
      by_cases c1 : kct L T b = 1
      · rw [if_pos c1] at h
        by_cases d : wv T (stt L T b) (ent L T b) = 10
        · rw [if_pos d] at h; omega
        · rw [if_neg d] at h; omega
      · rw [if_neg c1] at h
        by_cases c2 : kct L T b = 2
        · rw [if_pos c2] at h; omega
        · rw [if_neg c2] at h
          by_cases c3 : kct L T b = 3
          · rw [if_pos c3] at h; omega
          · rw [if_neg c3] at h; omega
  · intro h
    rw [h]; rfl
theorem krf_2 : krf L T b = 2 ↔ wix L T b < 10 := by
  unfold krf wix
  constructor
  · intro h
    by_cases c0 : kct L T b = 0
    · rw [if_pos c0] at h; omega
    · rw [if_neg c0] at h
      by_cases c1 : kct L T b = 1
      · rw [if_pos c1] at h
        rw [if_pos c1]
        by_cases d : wv T (stt L T b) (ent L T b) = 10
        · rw [if_pos d] at h; omega
        · rcases wv_s (T := T) (a := stt L T b) (e := ent L T b) with g | g
          · exact absurd g.1 d
          · exact g.1
      · rw [if_neg c1] at h
        by_cases c2 : kct L T b = 2
        · rw [if_pos c2] at h; omega
        · rw [if_neg c2] at h
          by_cases c3 : kct L T b = 3
          · rw [if_pos c3] at h; omega
          · rw [if_neg c3] at h; omega
  · intro h
    by_cases c1 : kct L T b = 1
    · rw [if_pos c1] at h
      rw [if_neg (by omega), if_pos c1, if_neg (by omega)]
    · rw [if_neg c1] at h; omega
theorem krf_b : krf L T b ≤ 4 := by
  unfold krf
  by_cases c0 : kct L T b = 0
  · rw [if_pos c0]; omega
  · rw [if_neg c0]
    by_cases c1 : kct L T b = 1
    · rw [if_pos c1]
      by_cases d : wv T (stt L T b) (ent L T b) = 10
      · rw [if_pos d]; omega
      · rw [if_neg d]; omega
    · rw [if_neg c1]
      by_cases c2 : kct L T b = 2
      · rw [if_pos c2]; omega
      · rw [if_neg c2]
        by_cases c3 : kct L T b = 3
        · rw [if_pos c3]; omega
        · rw [if_neg c3]; omega
theorem at_12 (hI : AtR q L T b I) (h : wix L T b < 10) : I q 12 = nI (wix L T b) := by
  have c1 : kct L T b = 1 := by
    by_cases c1 : kct L T b = 1
    · exact c1
    · unfold wix at h; rw [if_neg c1] at h; omega
  have e : wix L T b = wv T (stt L T b) (ent L T b) := by unfold wix; rw [if_pos c1]
  rw [hI.2.2.2.2.1 c1, e]
  unfold wo
  rw [if_neg (by omega)]
/-- what became of a reading that yields a number, reference side -/
def RsR (q L : Nat) (T : Nat → Nat) (I : ev_I) (r : Sum (Nat × Nat) (Nat × Nat)) (x : Option (Int32 × ev_I)) : Prop := (∃ e J, r = .inl e ∧ x = some (-1, J) ∧ FaR q e J ∧ F5 q I J) ∨ (∃ v b' J, r = .inr (v, b') ∧ v < 1000 ∧ x = some (nI v, J) ∧ AtR q L T b' J ∧ F5 q I J)
theorem r_num {lo hi : Nat} (hT : okT L T) (hI : AtR q L T b I) (hn : 1000 ≤ n) (h1 : lo < 1000) (h2 : hi < 1000) : RsR q L T I (nmr L T lo hi b) (pX10_readNumber n q (nI lo) (nI hi) I) := by
  have kb := krf_b (L := L) (T := T) (b := b)
  unfold pX10_readNumber nmr
  rw [hI.2.2.2.1]
  by_cases c : kct L T b = 2
  · have nb := nvl_b hT hI.1.2 c
    rw [if_pos c, if_pos (show nI (krf L T b) = (3 : Int32) from congrArg nI (krf_3.mpr c)), hI.2.2.2.2.2 c]
    unfold pX10_isIn
    by_cases d : lo ≤ nvl L T b
    · rw [if_neg (nI_nlt d (by omega))]
      by_cases e : nvl L T b ≤ hi
      · rw [if_neg (nI_nlt e (by omega)), bn_s, if_pos ⟨d, e⟩, if_neg (show ¬ (1 : Int32) = 0 by decide), lt_b]
        obtain ⟨J, e1, e2, e3⟩ := r_rd' hT hI hn
        rw [e1]
        exact Or.inr ⟨_, _, J, rfl, by omega, rfl, e2, fun a j g => e3 a j (by omega)⟩
      · rw [if_pos (nI_lt (by omega) (by omega)), bn_s, if_neg (fun g => e g.2), if_pos rfl]
        obtain ⟨J, e1, e2, e3⟩ := r_errs (n := n) (x := 2) hI
        rw [show (2 : Int32) = nI 2 from rfl, e1]
        exact Or.inl ⟨_, J, rfl, rfl, e2, e3⟩
    · rw [if_pos (nI_lt (by omega) (by omega)), bn_s, if_neg (fun g => d g.1), if_pos rfl]
      obtain ⟨J, e1, e2, e3⟩ := r_errs (n := n) (x := 2) hI
      rw [show (2 : Int32) = nI 2 from rfl, e1]
      exact Or.inl ⟨_, J, rfl, rfl, e2, e3⟩
  · rw [if_neg c, if_neg (show ¬ nI (krf L T b) = (3 : Int32) from fun g => c (krf_3.mp ((nI_eq (b := 3) (by omega) (by omega)).mp g)))]
    obtain ⟨J, e1, e2, e3⟩ := r_errs (n := n) (x := 1) hI
    rw [show (1 : Int32) = nI 1 from rfl, e1]
    exact Or.inl ⟨_, J, rfl, rfl, e2, e3⟩
/-- what became of a line's numbers -/
def RsM (q L : Nat) (T : Nat → Nat) (k : Nat) (I : ev_I) (r : Sum (Nat × Nat) ((Nat × Nat × Nat × Nat) × Nat)) (x : Option (Int32 × ev_I)) : Prop := (∃ e J, r = .inl e ∧ x = some (-1, J) ∧ FaR q e J ∧ F6 q k I J) ∨ (∃ y c v J, r = .inr (y, c) ∧ v < 1000 ∧ x = some (nI v, J) ∧ AtR q L T c J ∧ LR y (J (q + 9)) k ∧ F6 q k I J)
theorem r_67 (hT : okT L T) (hI : AtR q L T b I) (hn : 1000 ≤ n) {w : Nat} (hk : k + 5 ≤ 240) (hw : w ≤ 5 ∨ w = 9) (hw0 : I (q + 9) k = nI w) : RsM q L T k I (pre L T w b) (cX10_readNumbers_67 q n (nI k) (nI w) (nI (loL.getD w 0)) (nI (hiL.getD w 0)) I) := by
  have lo : loL.getD w 0 < 1000 ∧ hiL.getD w 0 < 1000 := by
    obtain rfl | rfl | rfl | rfl | rfl | rfl | rfl : w = 0 ∨ w = 1 ∨ w = 2 ∨ w = 3 ∨ w = 4 ∨ w = 5 ∨ w = 9 := by omega
    all_goals decide
  unfold cX10_readNumbers_67 pre n1
  rcases r_num hT hI hn lo.1 lo.2 with ⟨e, J, r1, r2, r3, r4⟩ | ⟨f, b2, J, r1, rb, r2, r3, r4⟩
  · rw [r1, r2, bn_s, n_2, ck_in (by omega) (by omega), lt_b, ck_in (by omega) (by omega), nI_clamp (by omega), u2_s, if_pos rfl]
    exact Or.inl ⟨e, _, rfl, rfl, FaR_w r3, F6_t (F6_5 r4) (F6_w (by omega))⟩
  · rw [r1, r2, bn_s, n_2, ck_in (by omega) (by omega), lt_b, ck_in (by omega) (by omega), nI_clamp (by omega), u2_s, if_neg (nI_m1 (by omega)), n_3]
    have w6 : w ≠ 6 := by omega
    unfold opr
    simp only [bd_i]
    rw [if_neg w6]
    simp only [bd_i]
    have a1 : AtR q L T b2 (ev_u2 J (q + 9) (k + 2) (nI f)) := AtR_w r3
    have f1 : F6 q k I (ev_u2 J (q + 9) (k + 2) (nI f)) := F6_t (F6_5 r4) (F6_w (by omega))
    by_cases c : w = 0
    · rw [c, if_pos (show nI 0 = (0 : Int32) from rfl)]
      rw [c] at hw0
      rcases r_num (lo := 0) (hi := 999) hT a1 hn (by omega) (by omega) with ⟨e, K, s1, s2, s3, s4⟩ | ⟨s, b3, K, s1, sb', s2, s3, s4⟩
      · rw [show (0 : Int32) = nI 0 from rfl, show (999 : Int32) = nI 999 from rfl, s2, bn_s]
        unfold cX10_readNumbers_121
        rw [ck_in (by omega) (by omega), lt_b, n_3, ck_in (by omega) (by omega), nI_clamp (by omega), u2_s]
        refine Or.inl ⟨e, _, ?_, rfl, FaR_w s3, F6_t f1 (F6_t (F6_5 s4) (F6_w (by omega)))⟩
        show bd (n2 L T 1 b2) _ = _
        rw [show n2 L T 1 b2 = .inl e from s1]
        rfl
      · rw [show (0 : Int32) = nI 0 from rfl, show (999 : Int32) = nI 999 from rfl, s2, bn_s]
        unfold cX10_readNumbers_121
        rw [ck_in (by omega) (by omega), lt_b, n_3, ck_in (by omega) (by omega), nI_clamp (by omega), u2_s]
        refine Or.inr ⟨(1, f, s, 0), b3, s, _, ?_, sb', rfl, AtR_w s3, Or.inl ⟨rfl, ?_, ?_, ?_⟩, F6_t f1 (F6_t (F6_5 s4) (F6_w (by omega)))⟩
        · show bd (n2 L T 1 b2) _ = _
          rw [show n2 L T 1 b2 = .inr (s, b3) from s1]
          rfl
        · exact (u2_o (by omega)).trans ((s4 _ _ (by omega)).trans ((u2_o (by omega)).trans ((r4 _ _ (by omega)).trans hw0)))
        · exact (u2_o (by omega)).trans ((s4 _ _ (by omega)).trans u2_s)
        · rw [u2_s]
    · rw [if_neg (show ¬ nI w = (0 : Int32) from nI_ne0 (by omega) (by omega))]
      unfold cX10_readNumbers_121
      rw [ck_in (by omega) (by omega), lt_b, n_3, ck_in (by omega) (by omega), nI_clamp (by omega), u2_s]
      have e2 : n2 L T (tx w + 1) b2 = .inr (0, b2) ∧ n3 L T (tx w + 1) b2 = .inr (0, b2) := by
        obtain rfl | rfl | rfl | rfl | rfl | rfl : w = 1 ∨ w = 2 ∨ w = 3 ∨ w = 4 ∨ w = 5 ∨ w = 9 := by omega
        all_goals exact ⟨rfl, rfl⟩
      rw [e2.1, bd_i, e2.2, bd_i]
      refine Or.inr ⟨(tx w + 1, f, 0, 0), b2, 0, _, rfl, by omega, rfl, AtR_w a1, ?_, F6_t f1 (F6_w (by omega))⟩
      have p0 : ev_u2 (ev_u2 J (q + 9) (k + 2) (nI f)) (q + 9) (k + 3) 0 (q + 9) k = nI w := by rw [u2_o (by omega), u2_o (by omega), r4 _ _ (by omega)]; exact hw0
      have p2 : ev_u2 (ev_u2 J (q + 9) (k + 2) (nI f)) (q + 9) (k + 3) 0 (q + 9) (k + 2) = nI f := by rw [u2_o (by omega), u2_s]
      by_cases d : w = 9
      · refine Or.inr (Or.inr (Or.inl ⟨by rw [d]; rfl, by rw [p0, d], p2⟩))
      · have e : tx w + 1 = w + 1 ∧ w ≤ 5 := by
          obtain rfl | rfl | rfl | rfl | rfl : w = 1 ∨ w = 2 ∨ w = 3 ∨ w = 4 ∨ w = 5 := by omega
          all_goals decide
        refine Or.inr (Or.inl ⟨?_, ?_, p2⟩)
        · show 2 ≤ tx w + 1 ∧ tx w + 1 ≤ 6
          omega
        · rw [p0]
          show nI w = nI (tx w + 1 - 1)
          rw [e.1]
          rfl
end Rl
