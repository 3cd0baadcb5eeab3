/-! THE TAPE: the reference reads a lie, a line, a plan -/
section Rp
variable {n q L b k : Nat} {T : Nat → Nat} {I : ev_I}
theorem n_1 {k : Nat} : nI k + (1 : Int32) = nI (k + 1) := nI_add k 1
/-- the last number of a lie -/
theorem r_180 {v : Int32} (hk : k + 5 ≤ 240) : cX10_readLie_180 q n (nI k) (nI k + 4) v I = some (v, ev_u2 I (q + 9) (k + 4) v) := by
  unfold cX10_readLie_180
  rw [n_4, ck_in (by omega) (by omega), nI_clamp (by omega), lt_b, ck_in (by omega) (by omega), u2_s]
theorem r_140z {v : Nat} (hv : v < 1000) (hk : k + 5 ≤ 240) : cX10_readLie_140 q n (nI k) 7 (nI k + 3) (nI v) I = some (nI 0, ev_u2 (ev_u2 I (q + 9) (k + 3) (nI v)) (q + 9) (k + 4) 0) := by
  unfold cX10_readLie_140
  rw [n_3, ck_in (by omega) (by omega), nI_clamp (by omega), lt_b, ck_in (by omega) (by omega), u2_s, if_neg (nI_m1 (by omega)), if_pos rfl, r_180 hk]
  rfl
theorem r_140e {w : Int32} (hk : k + 5 ≤ 240) : cX10_readLie_140 q n (nI k) w (nI k + 3) (-1) I = some (-1, ev_u2 I (q + 9) (k + 3) (-1)) := by
  unfold cX10_readLie_140
  rw [n_3, ck_in (by omega) (by omega), nI_clamp (by omega), lt_b, ck_in (by omega) (by omega), u2_s, if_pos rfl]
theorem r_140v {v : Nat} {w : Int32} (hw : w ≠ 7) (hv : v < 1000) (hT : okT L T) (hI : AtR q L T b I) (hn : 1000 ≤ n) (hk : k + 5 ≤ 240) : (∃ e J, nmr L T 1 200 b = .inl e ∧ cX10_readLie_140 q n (nI k) w (nI k + 3) (nI v) I = some (-1, J) ∧ FaR q e J ∧ F6 q k I J) ∨ (∃ d c J, nmr L T 1 200 b = .inr (d, c) ∧ d < 1000 ∧ cX10_readLie_140 q n (nI k) w (nI k + 3) (nI v) I = some (nI d, J) ∧ AtR q L T c J ∧ (J (q + 9) (k + 3) = nI v ∧ J (q + 9) (k + 4) = nI d ∧ ∀ j, j < k + 3 → J (q + 9) j = I (q + 9) j) ∧ F6 q k I J) := by
  unfold cX10_readLie_140
  rw [n_3, ck_in (by omega) (by omega), nI_clamp (by omega), lt_b, ck_in (by omega) (by omega), u2_s, if_neg (nI_m1 (by omega)), if_neg hw]
  have a1 : AtR q L T b (ev_u2 I (q + 9) (k + 3) (nI v)) := AtR_w hI
  have f1 : F6 q k I (ev_u2 I (q + 9) (k + 3) (nI v)) := F6_w (by omega)
  rcases r_num (lo := 1) (hi := 200) hT a1 hn (by omega) (by omega) with ⟨e, K, s1, s2, s3, s4⟩ | ⟨s, b3, K, s1, sb', s2, s3, s4⟩
  · rw [show (1 : Int32) = nI 1 from rfl, show (200 : Int32) = nI 200 from rfl, s2, bn_s, r_180 hk]
    exact Or.inl ⟨e, _, s1, rfl, FaR_w s3, F6_t f1 (F6_t (F6_5 s4) (F6_w (by omega)))⟩
  · rw [show (1 : Int32) = nI 1 from rfl, show (200 : Int32) = nI 200 from rfl, s2, bn_s, r_180 hk]
    refine Or.inr ⟨s, b3, _, s1, sb', rfl, AtR_w s3, ⟨?_, u2_s, fun j hj => ?_⟩, F6_t f1 (F6_t (F6_5 s4) (F6_w (by omega)))⟩
    · exact (u2_o (by omega)).trans ((s4 _ _ (by omega)).trans u2_s)
    · exact (u2_o (by omega)).trans ((s4 _ _ (by omega)).trans (u2_o (by omega)))
theorem r_lie (hT : okT L T) (hI : AtR q L T b I) (hn : 1000 ≤ n) (hk : k + 5 ≤ 240) (hw0 : I (q + 9) k = nI 6) : RsM q L T k I (pre L T 6 b) (pX10_readLie n q (nI k) I) := by
  unfold pX10_readLie pre n1
  rcases r_num (lo := 0) (hi := 6) hT hI hn (by omega) (by omega) with ⟨e, J, r1, r2, r3, r4⟩ | ⟨f, b2, J, r1, rb, r2, r3, r4⟩
  · rw [show nmr L T (loL.getD 6 0) (hiL.getD 6 0) b = .inl e from r1, show (0 : Int32) = nI 0 from rfl, show (6 : Int32) = nI 6 from rfl, r2, bn_s, n_2, ck_in (by omega) (by omega), lt_b, ck_in (by omega) (by omega), nI_clamp (by omega), u2_s, if_pos rfl]
    exact Or.inl ⟨e, _, rfl, rfl, FaR_w r3, F6_t (F6_5 r4) (F6_w (by omega))⟩
  · rw [show nmr L T (loL.getD 6 0) (hiL.getD 6 0) b = .inr (f, b2) from r1, show (0 : Int32) = nI 0 from rfl, show (6 : Int32) = nI 6 from rfl, r2, bn_s, n_2, ck_in (by omega) (by omega), lt_b, ck_in (by omega) (by omega), nI_clamp (by omega), u2_s, if_neg (nI_m1 (by omega))]
    simp only [bd_i]
    unfold opr
    rw [if_pos rfl]
    generalize hG : ev_u2 J (q + 9) (k + 2) (nI f) = G
    have a1 : AtR q L T b2 G := by rw [← hG]; exact AtR_w r3
    have f1 : F6 q k I G := by rw [← hG]; exact F6_t (F6_5 r4) (F6_w (by omega))
    have g0 : G (q + 9) k = nI 6 := by rw [← hG]; exact (u2_o (by omega)).trans ((r4 _ _ (by omega)).trans hw0)
    have g2 : G (q + 9) (k + 2) = nI f := by rw [← hG]; exact u2_s
    have kb := krf_b (L := L) (T := T) (b := b2)
    rw [a1.2.2.2.1]
    by_cases c : wix L T b2 < 10
    · rw [if_pos (show nI (krf L T b2) = (2 : Int32) from congrArg nI (krf_2.mpr c)), at_12 a1 c]
      unfold cX10_readLie_63 cX10_readLie_67 cX10_readLie_68
      rw [if_neg (show ¬ (1 : Int32) = 0 by decide), if_pos (show (0 : Int32) = 0 from rfl), lt_b, at_12 a1 c]
      have st : ∀ v : Nat, ∃ Z, pX10_reads n q (ev_u2 G (q + 9) (k + 1) (nI v)) = some Z ∧ AtR q L T (ent L T b2) Z ∧ F6 q k I Z ∧ Z (q + 9) k = nI 6 ∧ Z (q + 9) (k + 1) = nI v ∧ Z (q + 9) (k + 2) = nI f := fun v => by
        obtain ⟨Z, z1, z2, z3⟩ := r_rd' hT (AtR_w (j := k + 1) (v := nI v) a1) hn
        exact ⟨Z, z1, z2, F6_t f1 (F6_t (F6_w (by omega)) (F6_4 z3)), (z3 _ _ (by omega)).trans ((u2_o (by omega)).trans g0), (z3 _ _ (by omega)).trans u2_s, (z3 _ _ (by omega)).trans ((u2_o (by omega)).trans g2)⟩
      by_cases g7 : wix L T b2 = 7
      · have e7 : nI (wix L T b2) = (7 : Int32) := congrArg nI g7
        rw [if_pos g7, if_pos e7, if_pos e7, e7]
        unfold cX10_readLie_112
        obtain ⟨Z, z1, z2, z3, z4, z5, z6⟩ := st 0
        rw [n_1, ck_in (by omega) (by omega), nI_clamp (by omega), lt_b, show (0 : Int32) = nI 0 from rfl, z1, bn_s, if_neg (by decide)]
        rcases r_num (lo := 0) (hi := 99) hT z2 hn (by omega) (by omega) with ⟨e, K, s1, s2, s3, s4⟩ | ⟨s, b3, K, s1, sb', s2, s3, s4⟩
        · rw [show (99 : Int32) = nI 99 from rfl, s2, bn_s, r_140e hk]
          refine Or.inl ⟨e, _, ?_, rfl, FaR_w s3, F6_t z3 (F6_t (F6_5 s4) (F6_w (by omega)))⟩
          show bd (n2 L T 9 (ent L T b2)) _ = _
          rw [show n2 L T 9 (ent L T b2) = .inl e from s1]
          rfl
        · rw [show (99 : Int32) = nI 99 from rfl, s2, bn_s, r_140z sb' hk]
          refine Or.inr ⟨(9, f, s, 0), b3, 0, _, ?_, by omega, rfl, AtR_w (AtR_w s3), Or.inr (Or.inr (Or.inr (Or.inl ⟨rfl, ?_, ?_, ?_, ?_, ?_⟩))), F6_t z3 (F6_t (F6_5 s4) (F6_t (F6_w (by omega)) (F6_w (by omega))))⟩
          · show bd (n2 L T 9 (ent L T b2)) _ = _
            rw [show n2 L T 9 (ent L T b2) = .inr (s, b3) from s1]
            rfl
          · exact (u2_o (by omega)).trans ((u2_o (by omega)).trans ((s4 _ _ (by omega)).trans z4))
          · exact (u2_o (by omega)).trans ((u2_o (by omega)).trans ((s4 _ _ (by omega)).trans z5))
          · exact (u2_o (by omega)).trans ((u2_o (by omega)).trans ((s4 _ _ (by omega)).trans z6))
          · exact (u2_o (by omega)).trans u2_s
          · exact u2_s
      · have e7 : ¬ nI (wix L T b2) = (7 : Int32) := fun g => g7 ((nI_eq (b := 7) (by omega) (by omega)).mp g)
        rw [if_neg g7, if_neg e7, if_neg e7]
        by_cases g8 : wix L T b2 = 8
        · have e8 : nI (wix L T b2) = (8 : Int32) := congrArg nI g8
          rw [if_pos g8, if_pos e8, if_pos e8, e8]
          unfold cX10_readLie_112
          obtain ⟨Z, z1, z2, z3, z4, z5, z6⟩ := st 1
          rw [n_1, ck_in (by omega) (by omega), nI_clamp (by omega), lt_b, show (1 : Int32) = nI 1 from rfl, z1, bn_s, if_neg (by decide)]
          rcases r_num (lo := 0) (hi := 99) hT z2 hn (by omega) (by omega) with ⟨e, K, s1, s2, s3, s4⟩ | ⟨s, b3, K, s1, sb', s2, s3, s4⟩
          · rw [show (0 : Int32) = nI 0 from rfl, show (99 : Int32) = nI 99 from rfl, s2, bn_s, r_140e hk]
            refine Or.inl ⟨e, _, ?_, rfl, FaR_w s3, F6_t z3 (F6_t (F6_5 s4) (F6_w (by omega)))⟩
            show bd (n2 L T 10 (ent L T b2)) _ = _
            rw [show n2 L T 10 (ent L T b2) = .inl e from s1]
            rfl
          · rw [show (0 : Int32) = nI 0 from rfl, show (99 : Int32) = nI 99 from rfl, s2, bn_s]
            rcases r_140v (w := 8) (k := k) (by decide) sb' hT s3 hn hk with ⟨e, Y, y1, y2, y3, y4⟩ | ⟨d, c', Y, y1, yb, y2, y3, y4, y5⟩
            · rw [y2]
              refine Or.inl ⟨e, Y, ?_, rfl, y3, F6_t z3 (F6_t (F6_5 s4) y4)⟩
              show bd (n2 L T 10 (ent L T b2)) _ = _
              rw [show n2 L T 10 (ent L T b2) = .inr (s, b3) from s1, bd_i]
              show bd (n3 L T 10 b3) _ = _
              rw [show n3 L T 10 b3 = .inl e from y1]
              rfl
            · rw [y2]
              refine Or.inr ⟨(10, f, s, d), c', d, Y, ?_, yb, rfl, y3, Or.inr (Or.inr (Or.inr (Or.inr (Or.inl ⟨rfl, ?_, ?_, ?_, y4.1, y4.2.1⟩)))), F6_t z3 (F6_t (F6_5 s4) y5)⟩
              · show bd (n2 L T 10 (ent L T b2)) _ = _
                rw [show n2 L T 10 (ent L T b2) = .inr (s, b3) from s1, bd_i]
                show bd (n3 L T 10 b3) _ = _
                rw [show n3 L T 10 b3 = .inr (d, c') from y1]
                rfl
              · exact (y4.2.2 _ (by omega)).trans ((s4 _ _ (by omega)).trans z4)
              · exact (y4.2.2 _ (by omega)).trans ((s4 _ _ (by omega)).trans z5)
              · exact (y4.2.2 _ (by omega)).trans ((s4 _ _ (by omega)).trans z6)
        · have e8 : ¬ nI (wix L T b2) = (8 : Int32) := fun g => g8 ((nI_eq (b := 8) (by omega) (by omega)).mp g)
          rw [if_neg g8, if_neg e8, if_neg e8]
          by_cases g5 : wix L T b2 = 5
          · have e5 : nI (wix L T b2) = (5 : Int32) := congrArg nI g5
            rw [if_pos g5, if_pos e5, e5]
            unfold cX10_readLie_112
            obtain ⟨Z, z1, z2, z3, z4, z5, z6⟩ := st 2
            rw [n_1, ck_in (by omega) (by omega), nI_clamp (by omega), lt_b, show (2 : Int32) = nI 2 from rfl, z1, bn_s, if_pos rfl]
            rcases r_140v (w := 5) (k := k) (v := 0) (by decide) (by omega) hT z2 hn hk with ⟨e, Y, y1, y2, y3, y4⟩ | ⟨d, c', Y, y1, yb, y2, y3, y4, y5⟩
            · rw [show (0 : Int32) = nI 0 from rfl, y2]
              refine Or.inl ⟨e, Y, ?_, rfl, y3, F6_t z3 y4⟩
              show bd (n2 L T 11 (ent L T b2)) _ = _
              rw [show n2 L T 11 (ent L T b2) = .inl e from y1]
              rfl
            · rw [show (0 : Int32) = nI 0 from rfl, y2]
              refine Or.inr ⟨(11, f, d, 0), c', d, Y, ?_, yb, rfl, y3, Or.inr (Or.inr (Or.inr (Or.inr (Or.inr ⟨rfl, ?_, ?_, ?_, y4.1, y4.2.1⟩)))), F6_t z3 y5⟩
              · show bd (n2 L T 11 (ent L T b2)) _ = _
                rw [show n2 L T 11 (ent L T b2) = .inr (d, c') from y1]
                rfl
              · exact (y4.2.2 _ (by omega)).trans z4
              · exact (y4.2.2 _ (by omega)).trans z5
              · exact (y4.2.2 _ (by omega)).trans z6
          · have e5 : ¬ nI (wix L T b2) = (5 : Int32) := fun g => g5 ((nI_eq (b := 5) (by omega) (by omega)).mp g)
            rw [if_neg g5, if_neg e5]
            obtain ⟨Z, z1, z2, z3⟩ := r_errs (n := n) (x := 1) a1
            rw [show (1 : Int32) = nI 1 from rfl, z1, bn_s]
            exact Or.inl ⟨_, Z, rfl, rfl, z2, F6_t f1 (F6_5 z3)⟩
    · rw [if_neg (show ¬ nI (krf L T b2) = (2 : Int32) from fun g => c (krf_2.mp ((nI_eq (b := 2) (by omega) (by omega)).mp g)))]
      unfold cX10_readLie_67 cX10_readLie_68
      rw [if_pos (show (0 : Int32) = 0 from rfl), if_neg (show ¬ wix L T b2 = 7 by omega), if_neg (show ¬ wix L T b2 = 8 by omega), if_neg (show ¬ wix L T b2 = 5 by omega)]
      obtain ⟨Z, z1, z2, z3⟩ := r_errs (n := n) (x := 1) a1
      rw [show (1 : Int32) = nI 1 from rfl, z1, bn_s]
      exact Or.inl ⟨_, Z, rfl, rfl, z2, F6_t f1 (F6_5 z3)⟩
theorem r_numbers (hT : okT L T) (hI : AtR q L T b I) (hn : 1000 ≤ n) {w : Nat} (hk : k + 5 ≤ 240) (hw : w ≤ 10) (hb : ¬ bad w = true) (hw0 : I (q + 9) k = nI w) : RsM q L T k I (pre L T w b) (pX10_readNumbers n q (nI k) (nI w) I) := by
  have hb' : w ≠ 7 ∧ w ≠ 8 ∧ w ≠ 10 := by
    simp [bad] at hb
    omega
  by_cases c : w = 6
  · subst c
    have h := r_lie hT hI hn hk hw0
    have e : pX10_readNumbers n q (nI k) (nI 6) I = pX10_readLie n q (nI k) I := by
      unfold pX10_readNumbers
      rw [if_pos (show nI 6 = (6 : Int32) from rfl)]
      cases pX10_readLie n q (nI k) I <;> rfl
    rw [e]; exact h
  · have h := r_67 hT hI hn hk (by omega) hw0
    have e : pX10_readNumbers n q (nI k) (nI w) I = cX10_readNumbers_67 q n (nI k) (nI w) (nI (loL.getD w 0)) (nI (hiL.getD w 0)) I := by
      obtain rfl | rfl | rfl | rfl | rfl | rfl | rfl : w = 0 ∨ w = 1 ∨ w = 2 ∨ w = 3 ∨ w = 4 ∨ w = 5 ∨ w = 9 := by omega
      all_goals rfl
    rw [e]; exact h
/-- what a line may change -/
def F7 (q k : Nat) (I J : ev_I) : Prop := ∀ a j, ¬ (a = q ∧ 9 ≤ j ∧ j ≤ 15) → ¬ (a = q + 9 ∧ k ≤ j ∧ j < k + 5) → J a j = I a j
theorem F7_6 {I J : ev_I} (h : F6 q k I J) : F7 q k I J := fun a j g1 g2 => h a j g1 (by omega)
theorem F7_t {I J K : ev_I} (h1 : F7 q k I J) (h2 : F7 q k J K) : F7 q k I K := fun a j g1 g2 => (h2 a j g1 g2).trans (h1 a j g1 g2)
theorem LR_F {x : Nat × Nat × Nat × Nat} {P Q : Nat → Int32} (h : LR x P k) (e : ∀ j, k ≤ j → j < k + 5 → Q j = P j) : LR x Q k := by
  unfold LR at h ⊢
  rw [e k (by omega) (by omega), e (k + 1) (by omega) (by omega), e (k + 2) (by omega) (by omega), e (k + 3) (by omega) (by omega), e (k + 4) (by omega) (by omega)]
  exact h
theorem r_line {p : Nat} (hT : okT L T) (hI : AtR q L T b I) (hn : 1000 ≤ n) (hp : p ≤ 24) : (∃ e J, pln L T p b = .inl e ∧ pX10_readLine n q (nI p) I = some (-1, J) ∧ FaR q e J ∧ F7 q (120 + 5 * p) I J) ∨ (∃ x c J, pln L T p b = .inr (x, c) ∧ pX10_readLine n q (nI p) I = some (0, J) ∧ AtR q L T c J ∧ LR x (J (q + 9)) (120 + 5 * p) ∧ F7 q (120 + 5 * p) I J) := by
  have kb := krf_b (L := L) (T := T) (b := b)
  have wb := wix_b (L := L) (T := T) (b := b)
  rw [pln_e]
  unfold pX10_readLine cX10_readLine_26
  rw [hI.2.2.2.1]
  have er : ∃ J, (pX10_errs n q 1 I).bind (fun z1 => some (z1.1, z1.2)) = some (-1, J) ∧ FaR q (1, stt L T b) J ∧ F7 q (120 + 5 * p) I J := by
    obtain ⟨J, e1, e2, e3⟩ := r_errs (n := n) (x := 1) hI
    exact ⟨J, by rw [show (1 : Int32) = nI 1 from rfl, e1]; rfl, e2, F7_6 (F6_5 e3)⟩
  obtain ⟨J, j1, j2, j3⟩ := er
  rw [j1]
  by_cases c : wix L T b < 10
  · rw [if_pos (show nI (krf L T b) = (2 : Int32) from congrArg nI (krf_2.mpr c)), at_12 hI c]
    by_cases d : bad (wix L T b) = true
    · rw [if_pos d]
      have d' : wix L T b = 7 ∨ wix L T b = 8 := by
        simp [bad] at d
        omega
      refine Or.inl ⟨_, J, rfl, ?_, j2, j3⟩
      rcases d' with d' | d'
      · rw [if_pos (show nI (wix L T b) = (7 : Int32) from congrArg nI d')]
      · rw [d', if_neg (by decide), if_pos (show nI 8 = (8 : Int32) from rfl)]
    · rw [if_neg d]
      have d' : wix L T b ≠ 7 ∧ wix L T b ≠ 8 := by
        simp [bad] at d
        omega
      rw [if_neg (show ¬ nI (wix L T b) = (7 : Int32) from fun g => d'.1 ((nI_eq (b := 7) (by omega) (by omega)).mp g)), if_neg (show ¬ nI (wix L T b) = (8 : Int32) from fun g => d'.2 ((nI_eq (b := 8) (by omega) (by omega)).mp g))]
      by_cases e : p = 24
      · rw [if_pos e, if_pos (show nI p = (24 : Int32) from congrArg nI e)]
        obtain ⟨K, e1, e2, e3⟩ := r_errs (n := n) (x := 3) hI
        rw [show (3 : Int32) = nI 3 from rfl, e1, bn_s]
        exact Or.inl ⟨_, K, rfl, rfl, e2, F7_6 (F6_5 e3)⟩
      · rw [if_neg e, if_neg (show ¬ nI p = (24 : Int32) from fun g => e ((nI_eq (b := 24) (by omega) (by omega)).mp g)), lt_b, lt_b, show (120 : Int32) + (5 : Int32) * nI p = nI (120 + 5 * p) by rw [show (120 : Int32) = nI 120 from rfl, show (5 : Int32) = nI 5 from rfl, pk_mul, nI_add], ck_in (by omega) (by omega), nI_clamp (by omega), lt_b]
        obtain ⟨Z, z1, z2, z3⟩ := r_rd' hT (AtR_w (j := 120 + 5 * p) (v := nI (wix L T b)) hI) hn
        have zw : Z (q + 9) (120 + 5 * p) = nI (wix L T b) := (z3 _ _ (by omega)).trans u2_s
        have fz : F7 q (120 + 5 * p) I Z := fun a j g1 g2 => (z3 a j (by omega)).trans (u2_o (by omega))
        rw [z1, bn_s]
        rcases r_numbers hT z2 hn (by omega) wb d zw with ⟨e, Y, y1, y2, y3, y4⟩ | ⟨x, c', v, Y, y1, yb, y2, y3, y4, y5⟩
        · rw [y1, y2, bn_s, if_pos rfl]
          exact Or.inl ⟨e, Y, rfl, rfl, y3, F7_t fz (F7_6 y4)⟩
        · rw [y1, y2, bn_s, if_neg (nI_m1 (by omega)), bd_i]
          have kc := krf_b (L := L) (T := T) (b := c')
          unfold sem
          simp only []
          rw [y3.2.2.2.1]
          by_cases g : kct L T c' = 3
          · rw [if_pos g, if_pos (show nI (krf L T c') = (4 : Int32) from congrArg nI (krf_4.mpr g)), bd_i]
            obtain ⟨X, x1, x2, x3⟩ := r_rd' hT y3 hn
            rw [x1, bn_s]
            exact Or.inr ⟨x, _, X, rfl, rfl, x2, LR_F y4 (fun j _ _ => x3 _ _ (by omega)), F7_t fz (F7_t (F7_6 y5) (F7_6 (F6_4 x3)))⟩
          · rw [if_neg g, if_neg (show ¬ nI (krf L T c') = (4 : Int32) from fun h => g (krf_4.mp ((nI_eq (b := 4) (by omega) (by omega)).mp h)))]
            obtain ⟨X, x1, x2, x3⟩ := r_errs (n := n) (x := 1) y3
            rw [show (1 : Int32) = nI 1 from rfl, x1, bn_s]
            exact Or.inl ⟨_, X, rfl, rfl, x2, F7_t fz (F7_t (F7_6 y5) (F7_6 (F6_5 x3)))⟩
  · rw [if_neg (show ¬ nI (krf L T b) = (2 : Int32) from fun g => c (krf_2.mp ((nI_eq (b := 2) (by omega) (by omega)).mp g))), if_pos (show bad (wix L T b) = true by rw [show wix L T b = 10 by omega]; rfl)]
    exact Or.inl ⟨_, J, rfl, rfl, j2, j3⟩
/-- lines of the reference from k on -/
def RLn (k p : Nat) (F : Nat → Nat × Nat × Nat × Nat) (P : Nat → Int32) : Prop := ∀ i, i < p → LR (F i) P (k + 5 * i)
def F8 (q : Nat) (I J : ev_I) : Prop := ∀ a j, ¬ (a = q ∧ 9 ≤ j ∧ j ≤ 15) → ¬ (a = q + 9 ∧ 120 ≤ j) → J a j = I a j
theorem F8_7 {p : Nat} {I J : ev_I} (h : F7 q (120 + 5 * p) I J) : F8 q I J := fun a j g1 g2 => h a j g1 (by omega)
theorem F8_t {I J K : ev_I} (h1 : F8 q I J) (h2 : F8 q J K) : F8 q I K := fun a j g1 g2 => (h2 a j g1 g2).trans (h1 a j g1 g2)
theorem r_rd (hT : okT L T) : ∀ (m p b n : Nat) (F : Nat → Nat × Nat × Nat × Nat) (I : ev_I), p + m = 25 → p ≤ 24 → AtR q L T b I → RLn 120 p F (I (q + 9)) → m + 1010 < n → (∃ e J, prs L T m p b F = .inl e ∧ lX10_readPlan_11 q n (nI p) I = some (-1, J) ∧ FaR q e J ∧ F8 q I J) ∨ (∃ p' F' J, prs L T m p b F = .inr (p', F') ∧ p' ≤ 24 ∧ lX10_readPlan_11 q n (nI p) I = some (nI p', J) ∧ RLn 120 p' F' (J (q + 9)) ∧ F8 q I J) := by
  intro m
  induction m with
  | zero =>
    intro p b n F I hm hp
    omega
  | succ m ih =>
    intro p b n F I hm hp hI hR hn
    obtain ⟨n, rfl⟩ : ∃ k, n = k + 1 := ⟨n - 1, by omega⟩
    have kb := krf_b (L := L) (T := T) (b := b)
    have e0 : lX10_readPlan_11 q (n + 1) (nI p) I = cX10_readPlan_11 q (lX10_readPlan_11 q n) n (nI p) I := rfl
    rw [e0]
    unfold cX10_readPlan_11
    rw [hI.2.2.2.1]
    by_cases c : kct L T b = 0
    · rw [show prs L T (m + 1) p b F = .inr (p, F) from if_pos c, if_pos (show nI (krf L T b) = (0 : Int32) from congrArg nI (krf_0.mpr c))]
      exact Or.inr ⟨p, F, I, rfl, hp, rfl, hR, fun _ _ _ _ => rfl⟩
    · rw [show prs L T (m + 1) p b F = bd (pln L T p b) (fun x => prs L T m (p + 1) x.2 (fun i => if i = p then x.1 else F i)) from if_neg c, if_neg (show ¬ nI (krf L T b) = (0 : Int32) from fun g => c (krf_0.mp ((nI_eq (b := 0) (by omega) (by omega)).mp g)))]
      rcases r_line hT hI (show 1000 ≤ n by omega) hp with ⟨e, J, r1, r2, r3, r4⟩ | ⟨x, c', J, r1, r2, r3, r4, r5⟩
      · rw [r1, r2, bn_s, if_pos rfl]
        exact Or.inl ⟨e, J, rfl, rfl, r3, F8_7 r4⟩
      · have hp' : p ≠ 24 := by
          intro h
          rw [pln_e] at r1
          by_cases g : bad (wix L T b) = true
          · rw [if_pos g] at r1; cases r1
          · rw [if_neg g, if_pos h] at r1; cases r1
        rw [r1, r2, bn_s, if_neg (show ¬ (0 : Int32) = -1 by decide), lt_b, nI_1, bd_i]
        have hR' : RLn 120 (p + 1) (fun i => if i = p then x else F i) (J (q + 9)) := fun i hi => by
          by_cases g : i = p
          · simp only [g, if_true]; exact r4
          · simp only [g, if_false]
            exact LR_F (hR i (by omega)) (fun j h1 h2 => r5 _ _ (by omega) (by omega))
        rcases ih (p + 1) c' n _ J (by omega) (by omega) r3 hR' (by omega) with ⟨e, K, k0, k1, k2, k3⟩ | ⟨p', F', K, k0, kp, k1, k2, k3⟩
        · exact Or.inl ⟨e, K, k0, k1, k2, F8_t (F8_7 r5) k3⟩
        · exact Or.inr ⟨p', F', K, k0, kp, k1, k2, F8_t (F8_7 r5) k3⟩
theorem r_cpL {p : Nat} {Q : Nat → Int32} (hp : p ≤ 24) : ∀ (m i n : Nat) (I : ev_I), i + m = 5 * p → (∀ j, j < i → I (q + 9) j = Q (120 + j)) → (∀ j, 120 ≤ j → I (q + 9) j = Q j) → m < n → ∃ J, lX10_plan_55 q n (nI p) (nI i) I = some (nI p, J) ∧ J q 18 = nI p ∧ (∀ j, j < 5 * p → J (q + 9) j = Q (120 + j)) ∧ J (q + 1) 9 = 0 ∧ ∀ a j, ¬ (a = q ∧ j = 18) → ¬ a = q + 9 → ¬ (a = q + 1 ∧ j = 9) → J a j = I a j := by
  intro m
  induction m with
  | zero =>
    intro i n I hi h1 h2 hn
    obtain ⟨n, rfl⟩ : ∃ k, n = k + 1 := ⟨n - 1, by omega⟩
    have e0 : lX10_plan_55 q (n + 1) (nI p) (nI i) I = cX10_plan_55 q (lX10_plan_55 q n) n (nI p) (nI i) I := rfl
    rw [e0]
    unfold cX10_plan_55
    rw [show (5 : Int32) = nI 5 from rfl, pk_mul, if_pos (nI_le (by omega) (by omega)), lt_b, lt_b]
    refine ⟨_, rfl, (u2_o (by omega)).trans u2_s, fun j hj => ?_, u2_s, fun a j g1 g2 g3 => ?_⟩
    · rw [u2_o (by omega), u2_o (by omega)]; exact h1 j (by omega)
    · exact (u2_o (fun g => g3 ⟨g.1, g.2⟩)).trans (u2_o (fun g => g1 ⟨g.1, g.2⟩))
  | succ m ih =>
    intro i n I hi h1 h2 hn
    obtain ⟨n, rfl⟩ : ∃ k, n = k + 1 := ⟨n - 1, by omega⟩
    have e0 : lX10_plan_55 q (n + 1) (nI p) (nI i) I = cX10_plan_55 q (lX10_plan_55 q n) n (nI p) (nI i) I := rfl
    rw [e0]
    unfold cX10_plan_55
    rw [show (5 : Int32) = nI 5 from rfl, pk_mul, if_neg (nI_ge (by omega) (by omega)), show (120 : Int32) = nI 120 from rfl, nI_add, ck_in (by omega) (by omega), ck_in (by omega) (by omega), lt_b, lt_b, nI_clamp (by omega), nI_clamp (by omega), nI_1]
    obtain ⟨J, e1, e2, e3, e4, e5⟩ := ih (i + 1) n (ev_u2 I (q + 9) i (I (q + 9) (120 + i))) (by omega) (fun j hj => by
      by_cases c : j = i
      · rw [c, u2_s]; exact h2 _ (by omega)
      · rw [u2_o (by omega)]; exact h1 j (by omega)) (fun j hj => by rw [u2_o (by omega)]; exact h2 j hj) (by omega)
    exact ⟨J, e1, e2, e3, e4, fun a j g1 g2 g3 => (e5 a j g1 g2 g3).trans (u2_o (fun g => g2 g.1))⟩
theorem r_plan (hT : okT L T) (hI : TpR q L T I) (hn : 3000 ≤ n) : (∃ e J, PP L T = .inl e ∧ pX10_plan n q I = some (-1, J) ∧ J q 0 = 0 ∧ J q 8 = 0 ∧ J q 16 = nI e.1 ∧ J q 17 = nI e.2 ∧ ∀ a j, ¬ (a = q ∧ (j = 0 ∨ (8 ≤ j ∧ j ≤ 17))) → ¬ (a = q + 9 ∧ 120 ≤ j) → J a j = I a j) ∨ (∃ p F J, PP L T = .inr (p, F) ∧ p ≤ 24 ∧ pX10_plan n q I = some (nI p, J) ∧ J q 0 = 0 ∧ J q 8 = 0 ∧ J q 16 = 0 ∧ J q 17 = -1 ∧ J q 18 = nI p ∧ RLn 0 p F (J (q + 9)) ∧ J (q + 1) 9 = 0 ∧ ∀ a j, ¬ (a = q ∧ (j = 0 ∨ (8 ≤ j ∧ j ≤ 18))) → ¬ a = q + 9 → ¬ (a = q + 1 ∧ j = 9) → J a j = I a j) := by
  unfold pX10_plan pX10_readPlan
  rw [lt_b, lt_b, lt_b, lt_b]
  generalize hK : ev_u2 (ev_u2 (ev_u2 (ev_u2 I q 0 0) q 16 0) q 17 (-1)) q 9 0 = K
  have f0 : ∀ a j, ¬ (a = q ∧ (j = 0 ∨ j = 16 ∨ j = 17 ∨ j = 9)) → K a j = I a j := fun a j g => by
    rw [← hK, u2_o (by omega), u2_o (by omega), u2_o (by omega), u2_o (by omega)]
  have k0 : K q 0 = 0 := by rw [← hK, u2_o (by omega), u2_o (by omega), u2_o (by omega), u2_s]
  have k16 : K q 16 = 0 := by rw [← hK, u2_o (by omega), u2_o (by omega), u2_s]
  have k17 : K q 17 = -1 := by rw [← hK, u2_o (by omega), u2_s]
  have k9 : K q 9 = nI 0 := by rw [← hK, u2_s]; rfl
  have tK : TpR q L T K := ⟨by rw [f0 _ _ (by omega)]; exact hI.1, fun j hj => by rw [f0 _ _ (by omega)]; exact hI.2.1 j hj, fun j hj => by rw [f0 _ _ (by omega)]; exact hI.2.2 j hj⟩
  obtain ⟨Z, z1, z2, z3, z4, z5, z6, z7⟩ := r_reads hT tK (Nat.zero_le L) k9 (show 1000 ≤ n by omega)
  have aZ : AtR q L T 0 Z := ⟨⟨TpR_F tK z7, Nat.zero_le L⟩, z2, z3, z4, z5, z6⟩
  have fZ : F8 q K Z := fun a j g1 g2 => z7 a j (by omega)
  rw [z1, bn_s]
  rcases r_rd hT 25 0 0 n (fun _ => (0, 0, 0, 0)) Z (by omega) (by omega) aZ (fun i hi => by omega) (by omega) with ⟨e, J, r1, r2, r3, r4⟩ | ⟨p', F', J, r1, rp, r2, r3, r4⟩
  · rw [show (0 : Int32) = nI 0 from rfl, r2, bn_s, if_pos rfl, lt_b, lt_b]
    unfold cX10_plan_41
    rw [lt_b, if_pos rfl]
    have fJ := F8_t fZ r4
    refine Or.inl ⟨e, _, r1, rfl, ?_, u2_s, ?_, ?_, fun a j g1 g2 => ?_⟩
    · exact (u2_o (by omega)).trans ((u2_o (by omega)).trans ((u2_o (by omega)).trans ((fJ _ _ (by omega) (by omega)).trans k0)))
    · exact (u2_o (by omega)).trans ((u2_o (by omega)).trans (u2_s.trans r3.1))
    · exact (u2_o (by omega)).trans (u2_s.trans ((u2_o (by omega)).trans r3.2))
    · exact (u2_o (by omega)).trans ((u2_o (by omega)).trans ((u2_o (by omega)).trans ((fJ _ _ (by omega) (by omega)).trans (f0 a j (by omega)))))
  · rw [show (0 : Int32) = nI 0 from rfl, r2, bn_s, if_neg (nI_m1 (by omega))]
    unfold cX10_plan_41
    rw [lt_b, if_neg (nI_m1 (by omega))]
    have fJ := F8_t fZ r4
    obtain ⟨Y, y1, y2, y3, y4, y5⟩ := r_cpL (q := q) (Q := J (q + 9)) rp (5 * p') 0 n (ev_u2 J q 8 0) (by omega) (fun j hj => by omega) (fun j hj => u2_o (by omega)) (by omega)
    refine Or.inr ⟨p', F', Y, r1, rp, y1, ?_, ?_, ?_, ?_, y2, fun i hi => ?_, y4, fun a j g1 g2 g3 => ?_⟩
    · exact (y5 _ _ (by omega) (by omega) (by omega)).trans ((u2_o (by omega)).trans ((fJ _ _ (by omega) (by omega)).trans k0))
    · exact (y5 _ _ (by omega) (by omega) (by omega)).trans u2_s
    · exact (y5 _ _ (by omega) (by omega) (by omega)).trans ((u2_o (by omega)).trans ((fJ _ _ (by omega) (by omega)).trans k16))
    · exact (y5 _ _ (by omega) (by omega) (by omega)).trans ((u2_o (by omega)).trans ((fJ _ _ (by omega) (by omega)).trans k17))
    · have h := r3 i hi
      unfold LR at h ⊢
      rw [y3 _ (by omega), y3 _ (by omega), y3 _ (by omega), y3 _ (by omega), y3 _ (by omega)]
      simp only [show 120 + (0 + 5 * i) = 120 + 5 * i by omega, show 120 + (0 + 5 * i + 1) = 120 + 5 * i + 1 by omega, show 120 + (0 + 5 * i + 2) = 120 + 5 * i + 2 by omega, show 120 + (0 + 5 * i + 3) = 120 + 5 * i + 3 by omega, show 120 + (0 + 5 * i + 4) = 120 + 5 * i + 4 by omega]
      exact h
    · exact (y5 _ _ (by omega) g2 g3).trans ((u2_o (by omega)).trans ((fJ _ _ (by omega) (by omega)).trans (f0 a j (by omega))))
end Rp
