/-! THE TAPE: the class reads a plan -/
section Cr
variable {n t L b p : Nat} {T : Nat → Nat} {I : ev_I} {F : Nat → Nat × Nat × Nat × Nat}
theorem tx_8 : ∀ w, w < 11 → ¬ bad w = true → (tx w + 1 = 8 ↔ w = 6) ∧ tx w + 1 ≤ 8 ∧ 1 ≤ tx w + 1 := by decide +kernel
theorem nmr_r {lo hi v b' : Nat} (h : nmr L T lo hi b = .inr (v, b')) : lo ≤ v ∧ v ≤ hi := by
  unfold nmr at h
  by_cases c : kct L T b = 2
  · rw [if_pos c] at h
    by_cases d : lo ≤ nvl L T b ∧ nvl L T b ≤ hi
    · rw [if_pos d] at h
      cases h
      exact d
    · rw [if_neg d] at h; cases h
  · rw [if_neg c] at h; cases h
theorem c_line (hT : okT L T) (hI : AtC t L T b I) (hn : 1000 ≤ n) (hC : CLn (t + 2) p F I) (hp : p ≤ 24) : (∃ e J, pln L T p b = .inl e ∧ pX7_readLine n t I = some J ∧ FaC t e J ∧ FD t I J) ∨ (∃ x c J, pln L T p b = .inr (x, c) ∧ p < 24 ∧ okLn x ∧ pX7_readLine n t I = some J ∧ AtC t L T c J ∧ CLn (t + 2) (p + 1) (fun i => if i = p then x else F i) J ∧ FD t I J) := by
  have wb := wix_b (L := L) (T := T) (b := b)
  unfold pX7_readLine pln
  rw [c_wa1 hT hI hn, bn_s]
  simp only []
  by_cases c : bad (wix L T b) = true
  · obtain ⟨J, e1, e2, e3⟩ := c_fail (n := n) (x := 1) (by omega) hT hI
    rw [if_pos c, if_pos c, if_pos (show nI 0 = (0 : Int32) from rfl)]
    exact Or.inl ⟨_, J, rfl, by rw [show (1 : Int32) = nI 1 from rfl, e1]; rfl, e2, FD_C e3⟩
  · rw [if_neg c, if_neg c]
    generalize hw : wix L T b = w at *
    obtain ⟨t1, t2, t3⟩ := tx_8 w (by omega) c
    rw [if_neg (show ¬ nI (tx w + 1) = (0 : Int32) from nI_ne0 (by omega) (by omega))]
    unfold pX5_isFull
    rw [hC.1]
    by_cases d : p = 24
    · obtain ⟨J, e1, e2, e3⟩ := c_fail (n := n) (x := 3) (by omega) hT hI
      rw [if_pos d, if_neg (show ¬ nI p < (24 : Int32) from nI_nlt (b := 24) (by omega) (by omega)), bn_s, if_neg (show ¬ (1 : Int32) = 0 by decide)]
      exact Or.inl ⟨_, J, rfl, by rw [show (3 : Int32) = nI 3 from rfl, e1]; rfl, e2, FD_C e3⟩
    · obtain ⟨J, e1, e2, e3⟩ := c_step' hT hI hn
      rw [if_neg d, if_pos (show nI p < (24 : Int32) from nI_lt (b := 24) (by omega) (by omega)), bn_s, if_pos (show (0 : Int32) = 0 from rfl), e1, bn_s]
      have hCJ := CLn_F hC e3
      rcases c_n1 hT e2 hn wb c with ⟨e, K, r1, r2, r3, r4⟩ | ⟨f, b2, K, r1, rb, r2, r3, r4⟩
      · rw [r1, r2, bn_s, c_63F r3]
        refine Or.inl ⟨e, K, rfl, ?_, r3, FD_C (FC_t e3 r4)⟩
        by_cases g : nI (tx w + 1) = (8 : Int32)
        · rw [if_pos g, if_neg (FaC_0 r3)]
        · rw [if_neg g]
      · rw [r1, r2, bn_s]
        simp only [bd]
        have hCK := CLn_F hCJ r4
        by_cases g : w = 6
        · have g8 : nI (tx w + 1) = (8 : Int32) := congrArg nI (t1.mpr g)
          rw [if_pos g8, if_pos (show K t 2 = 0 from r3.2.1)]
          unfold pX7_readLie opr
          rw [c_wa9 hT r3 hn, bn_s]
          simp only []
          rw [if_pos g]
          have fin : ∀ o, okO o → (9 ≤ o ∧ o < 100) → (∃ e J, bd (bd (Sum.inr (o, ent L T b2)) fun y => bd (rst L T y.1 y.2) fun z => (Sum.inr ((y.1, f, z.1, z.2.1), z.2.2) : Sum (Nat × Nat) ((Nat × Nat × Nat × Nat) × Nat))) (fun x => Sum.inr x) = .inl e ∧ ((if nI o = 0 then (pX7_fail n t 1 K).bind fun z4 => some ((8 : Int32), z4) else (pX7_step n t K).bind fun z3 => some (nI o, z3)).bind fun z14 => cX7_readLine_63 t n z14.1 (nI f) z14.2) = some J ∧ FaC t e J ∧ FD t I J) ∨ (∃ x c J, bd (bd (Sum.inr (o, ent L T b2)) fun y => bd (rst L T y.1 y.2) fun z => (Sum.inr ((y.1, f, z.1, z.2.1), z.2.2) : Sum (Nat × Nat) ((Nat × Nat × Nat × Nat) × Nat))) (fun x => Sum.inr x) = .inr (x, c) ∧ p < 24 ∧ okLn x ∧ ((if nI o = 0 then (pX7_fail n t 1 K).bind fun z4 => some ((8 : Int32), z4) else (pX7_step n t K).bind fun z3 => some (nI o, z3)).bind fun z14 => cX7_readLine_63 t n z14.1 (nI f) z14.2) = some J ∧ AtC t L T c J ∧ CLn (t + 2) (p + 1) (fun i => if i = p then x else F i) J ∧ FD t I J) := by
            intro o ho ho'
            have o0 : 0 < o := by unfold okO at ho; omega
            obtain ⟨Z, z1, z2, z3⟩ := c_step' hT r3 hn
            rw [if_neg (nI_ne0 o0 (by omega)), z1, bn_s, bn_s]
            simp only [bd]
            have fI := FC_t e3 (FC_t r4 z3)
            rcases c_63 hT z2 hn ho rb (show okFn o f by unfold okFn; unfold okO at ho; exact ⟨fun g => by omega, fun g => by omega⟩) (CLn_F hCK z3) (by omega) with ⟨e, Y, y1, y2, y3, y4⟩ | ⟨s, d', c', Y, y1, yo, y2, y3, y4, y5⟩
            · rw [y1, y2]
              exact Or.inl ⟨e, Y, rfl, rfl, y3, FD_t (FD_C fI) y4⟩
            · rw [y1, y2]
              exact Or.inr ⟨_, _, Y, rfl, by omega, yo, rfl, y3, y4, FD_t (FD_C fI) y5⟩
          have bd_r : ∀ x : Sum (Nat × Nat) ((Nat × Nat × Nat × Nat) × Nat), bd x (fun x => Sum.inr x) = x := fun x => by cases x <;> rfl
          simp only [bd_r] at fin
          by_cases g7 : wix L T b2 = 7
          · rw [if_pos g7, if_pos g7]
            exact fin 9 (by unfold okO; omega) (by omega)
          · rw [if_neg g7, if_neg g7]
            by_cases g8 : wix L T b2 = 8
            · rw [if_pos g8, if_pos g8]
              exact fin 10 (by unfold okO; omega) (by omega)
            · rw [if_neg g8, if_neg g8]
              by_cases g5 : wix L T b2 = 5
              · rw [if_pos g5, if_pos g5]
                exact fin 11 (by unfold okO; omega) (by omega)
              · rw [if_neg g5, if_neg g5, if_pos (show nI 0 = (0 : Int32) from rfl)]
                obtain ⟨Z, z1, z2, z3⟩ := c_fail (n := n) (x := 1) (by omega) hT r3
                rw [show (1 : Int32) = nI 1 from rfl, z1, bn_s, bn_s]
                exact Or.inl ⟨_, Z, rfl, c_63F z2, z2, FD_C (FC_t e3 (FC_t r4 z3))⟩
        · have g8 : ¬ nI (tx w + 1) = (8 : Int32) := fun q => g (t1.mp ((nI_eq (b := 8) (by omega) (by omega)).mp q))
          rw [if_neg g8]
          unfold opr
          rw [if_neg g]
          simp only [bd]
          have ho : okO (tx w + 1) := by
            unfold okO
            have : tx w + 1 ≠ 8 := fun q => g (t1.mp q)
            omega
          have hF : okFn (tx w + 1) f := by
            have nb := nmr_r r1
            have hb' : w ≠ 7 ∧ w ≠ 8 ∧ w ≠ 10 := by
              simp [bad] at c
              omega
            obtain rfl | rfl | rfl | rfl | rfl | rfl | rfl : w = 0 ∨ w = 1 ∨ w = 2 ∨ w = 3 ∨ w = 4 ∨ w = 5 ∨ w = 9 := by omega
            all_goals (have e1 : loL.getD 1 0 = 1 := rfl; have e2 : loL.getD 2 0 = 1 := rfl; have e9 : loL.getD 9 0 = 1 := rfl; have g9 : hiL.getD 9 0 = 20 := rfl; have t0 : tx 0 = 0 := rfl; have t1 : tx 1 = 1 := rfl; have t2 : tx 2 = 2 := rfl; have t3 : tx 3 = 3 := rfl; have t4 : tx 4 = 4 := rfl; have t5 : tx 5 = 5 := rfl; have t9 : tx 9 = 6 := rfl; exact ⟨fun _ => by omega, fun _ => by omega⟩)
          rcases c_63 hT r3 hn ho rb hF hCK (by omega) with ⟨e, Y, y1, y2, y3, y4⟩ | ⟨s, d', c', Y, y1, yo, y2, y3, y4, y5⟩
          · rw [y1, y2]
            exact Or.inl ⟨e, Y, rfl, rfl, y3, FD_t (FD_C (FC_t e3 r4)) y4⟩
          · rw [y1, y2]
            exact Or.inr ⟨_, _, Y, rfl, by omega, yo, rfl, y3, y4, FD_t (FD_C (FC_t e3 r4)) y5⟩
/-- what is not the tape's -/
def FE (t : Nat) (I J : ev_I) : Prop := (∀ a j, a < t ∨ t + 6 < a → J a j = I a j) ∧ (∀ j, J (t + 1) j = I (t + 1) j) ∧ J (t + 2) 1 = I (t + 2) 1
theorem FE_D {I J : ev_I} (h : FD t I J) : FE t I J := ⟨fun a j g => h a j (by omega) (by omega) (by omega), fun j => h (t + 1) j (by omega) (by omega) (by omega), h (t + 2) 1 (by omega) (by omega) (by omega)⟩
theorem FE_t {I J K : ev_I} (h1 : FE t I J) (h2 : FE t J K) : FE t I K := ⟨fun a j g => (h2.1 a j g).trans (h1.1 a j g), fun j => (h2.2.1 j).trans (h1.2.1 j), h2.2.2.trans h1.2.2⟩
theorem FE_u {k : Nat} {v : Int32} : FE t I (ev_u2 I t k v) := ⟨fun a j g => u2_o (by omega), fun j => u2_o (by omega), u2_o (by omega)⟩
theorem c_58F {e : Nat × Nat} (h : FaC t e I) : ∃ J, cX7_read_58 t n I = some (0, J) ∧ J t 1 = 0 ∧ J t 2 = nI e.1 ∧ J t 3 = nI e.2 ∧ FE t I J := by
  unfold cX7_read_58
  rw [lt_b, if_neg (show ¬ ev_u2 I t 1 0 t 2 = 0 by rw [u2_o (by omega)]; exact FaC_0 h)]
  exact ⟨_, rfl, u2_s, (u2_o (by omega)).trans h.2.1, (u2_o (by omega)).trans h.2.2, FE_u⟩
theorem c_rd (hT : okT L T) : ∀ (m p b n : Nat) (F : Nat → Nat × Nat × Nat × Nat) (I : ev_I), p + m = 25 → p ≤ 24 → (∀ i, i < p → okLn (F i)) → AtC t L T b I → CLn (t + 2) p F I → m + 1010 < n → (∃ e J, prs L T m p b F = .inl e ∧ (0 < e.1 ∧ e.1 < 4 ∧ e.2 < 2 ^ 31) ∧ lX7_read_28 t n (nI p) I = some (0, J) ∧ J t 1 = 0 ∧ J t 2 = nI e.1 ∧ J t 3 = nI e.2 ∧ FE t I J) ∨ (∃ p' F' J, prs L T m p b F = .inr (p', F') ∧ p' ≤ 24 ∧ (∀ i, i < p' → okLn (F' i)) ∧ lX7_read_28 t n (nI p) I = some (1, J) ∧ J t 1 = 0 ∧ J t 2 = 0 ∧ J t 3 = -1 ∧ CLn (t + 2) p' F' J ∧ FE t I J) := by
  intro m
  induction m with
  | zero =>
    intro p b n F I hm hp
    omega
  | succ m ih =>
    intro p b n F I hm hp hF hI hC hn
    obtain ⟨n, rfl⟩ : ∃ k, n = k + 1 := ⟨n - 1, by omega⟩
    have kb := kct_b (L := L) (T := T) (b := b)
    have e0 : lX7_read_28 t (n + 1) (nI p) I = cX7_read_28 t (lX7_read_28 t n) n (nI p) I := rfl
    rw [e0]
    unfold cX7_read_28
    rw [if_neg (show ¬ (24 : Int32) < nI p from nI_nlt (a := 24) hp (by omega)), if_pos (show I t 2 = 0 from hI.2.1), hI.2.2.2.2.1]
    by_cases c : kct L T b = 0
    · rw [show prs L T (m + 1) p b F = .inr (p, F) from if_pos c, if_pos (show nI (kct L T b) = (0 : Int32) from congrArg nI c)]
      unfold cX7_read_58
      rw [lt_b, if_pos (show ev_u2 I t 1 0 t 2 = 0 by rw [u2_o (by omega)]; exact hI.2.1)]
      refine Or.inr ⟨p, F, _, rfl, hp, hF, rfl, u2_s, (u2_o (by omega)).trans hI.2.1, (u2_o (by omega)).trans hI.2.2.2.2.2, ⟨(u2_o (by omega)).trans hC.1, fun i hi => ?_⟩, FE_u⟩
      rw [u2_o (by omega), u2_o (by omega), u2_o (by omega), u2_o (by omega)]
      exact hC.2 i hi
    · rw [show prs L T (m + 1) p b F = bd (pln L T p b) (fun x => prs L T m (p + 1) x.2 (fun i => if i = p then x.1 else F i)) from if_neg c, if_neg (show ¬ nI (kct L T b) = (0 : Int32) from nI_ne0 (by omega) (by omega))]
      rcases c_line hT hI (show 1000 ≤ n by omega) hC hp with ⟨e, J, r1, r2, r3, r4⟩ | ⟨x, c', J, r1, rp, rx, r2, r3, r4, r5⟩
      · rw [r1, r2, bn_s, lt_b]
        obtain ⟨K, k1, k2, k3, k4, k5⟩ := c_58F (n := n - 1) r3
        refine Or.inl ⟨e, K, rfl, r3.1, ?_, k2, k3, k4, FE_t (FE_D r4) k5⟩
        obtain ⟨n, rfl⟩ : ∃ k, n = k + 1 := ⟨n - 1, by omega⟩
        show cX7_read_28 t _ n _ _ = _
        unfold cX7_read_28
        have k1' : cX7_read_58 t n J = some (0, K) := k1
        rw [k1', if_neg (FaC_0 r3), ite_self]
      · rw [r1, r2, bn_s, lt_b, nI_1]
        simp only [bd]
        have hF' : ∀ i, i < p + 1 → okLn ((fun i => if i = p then x else F i) i) := fun i hi => by
          by_cases g : i = p
          · simp only [g, if_true]; exact rx
          · simp only [g, if_false]; exact hF i (by omega)
        rcases ih (p + 1) c' n _ J (by omega) (by omega) hF' r3 r4 (by omega) with ⟨e, K, k0, k1, k2, k3, k4, k5, k6⟩ | ⟨p', F', K, k0, k1, k2, k3, k4, k5, k6, k7, k8⟩
        · exact Or.inl ⟨e, K, k0, k1, k2, k3, k4, k5, FE_t (FE_D r5) k6⟩
        · exact Or.inr ⟨p', F', K, k0, k1, k2, k3, k4, k5, k6, k7, FE_t (FE_D r5) k8⟩
/-- the whole tape -/
def PP (L : Nat) (T : Nat → Nat) : Sum (Nat × Nat) (Nat × (Nat → Nat × Nat × Nat × Nat)) := prs L T 25 0 0 (fun _ => (0, 0, 0, 0))
theorem c_read (hT : okT L T) (hI : TpC t L T I) (hn : 3000 ≤ n) : (∃ e J, PP L T = .inl e ∧ (0 < e.1 ∧ e.1 < 4 ∧ e.2 < 2 ^ 31) ∧ pX7_read n t I = some (0, J) ∧ J t 1 = 0 ∧ J t 2 = nI e.1 ∧ J t 3 = nI e.2 ∧ ∀ a j, a < t ∨ t + 6 < a → J a j = I a j) ∨ (∃ p' F' J, PP L T = .inr (p', F') ∧ p' ≤ 24 ∧ (∀ i, i < p' → okLn (F' i)) ∧ pX7_read n t I = some (1, J) ∧ J t 1 = 0 ∧ J t 2 = 0 ∧ J t 3 = -1 ∧ CLn (t + 2) p' F' J ∧ J (t + 2) 1 = 0 ∧ ∀ a j, a < t ∨ t + 6 < a → J a j = I a j) := by
  unfold pX7_read pX5_clear
  rw [lt_b, lt_b, lt_b, lt_b, lt_b, bn_s]
  generalize hK : ev_u2 (ev_u2 (ev_u2 (ev_u2 (ev_u2 I t 2 0) t 3 (-1)) t 6 0) (t + 2) 0 0) (t + 2) 1 0 = K
  have f0 : ∀ a j, ¬ a = t → ¬ a = t + 2 → K a j = I a j := fun a j g1 g2 => by
    rw [← hK, u2_o (by omega), u2_o (by omega), u2_o (by omega), u2_o (by omega), u2_o (by omega)]
  have k1 : K t 1 = nI L := by rw [← hK, u2_o (by omega), u2_o (by omega), u2_o (by omega), u2_o (by omega), u2_o (by omega)]; exact hI.1
  have k2 : K t 2 = 0 := by rw [← hK, u2_o (by omega), u2_o (by omega), u2_o (by omega), u2_o (by omega), u2_s]
  have k3 : K t 3 = -1 := by rw [← hK, u2_o (by omega), u2_o (by omega), u2_o (by omega), u2_s]
  have k6 : K t 6 = nI 0 := by rw [← hK, u2_o (by omega), u2_o (by omega), u2_s]; rfl
  have kc : K (t + 2) 0 = nI 0 := by rw [← hK, u2_o (by omega), u2_s]; rfl
  have kd : K (t + 2) 1 = 0 := by rw [← hK, u2_s]
  have tK : TpC t L T K := ⟨k1, fun j hj => by rw [f0 (t + 1) j (by omega) (by omega)]; exact hI.2 j hj⟩
  obtain ⟨Z, z1, z2, z3, z4, z5⟩ := c_stp hT tK (Nat.zero_le L) k6 (show 1000 ≤ n by omega)
  have aZ : AtC t L T 0 Z := ⟨⟨TpC_F tK z5, Nat.zero_le L⟩, by rw [z5 t 2 (by omega)]; exact k2, z2, z3, z4, by rw [z5 t 3 (by omega)]; exact k3⟩
  have cZ : CLn (t + 2) 0 (fun _ => (0, 0, 0, 0)) Z := ⟨by rw [z5 (t + 2) 0 (by omega)]; exact kc, fun i hi => by omega⟩
  have fZ : FE t K Z := FE_D (FD_C (FC_3 z5))
  rw [z1, bn_s]
  rcases c_rd hT 25 0 0 n _ Z (by omega) (by omega) (fun i hi => by omega) aZ cZ (by omega) with ⟨e, J, r1, r2, r3, r4, r5, r6, r7⟩ | ⟨p', F', J, r1, r2, r3, r4, r5, r6, r7, r8, r9⟩
  · exact Or.inl ⟨e, J, r1, r2, r3, r4, r5, r6, fun a j g => ((FE_t fZ r7).1 a j g).trans (f0 a j (by omega) (by omega))⟩
  · exact Or.inr ⟨p', F', J, r1, r2, r3, r4, r5, r6, r7, r8, by rw [(FE_t fZ r9).2.2]; exact kd, fun a j g => ((FE_t fZ r9).1 a j g).trans (f0 a j (by omega) (by omega))⟩
theorem cpyv {f g : Nat → Int32} {k : Nat} : va_cpy f g (0 : Int32).toNatClampNeg (0 : Int32).toNatClampNeg (24 : Int32).toNatClampNeg k = if k < 24 then f k else g k := by
  show (if 0 ≤ k ∧ k < 0 + 24 then f (0 + (k - 0)) else g k) = _
  by_cases c : k < 24
  · rw [if_pos (by omega), if_pos c, show 0 + (k - 0) = k by omega]
  · rw [if_neg (by omega), if_neg c]
theorem c_cp5 {w v : Nat} (hv : w + 5 ≤ v ∨ v + 5 ≤ w) (h : CLn v p F I) (hp : p ≤ 24) : ∃ J, pX5_copyFrom n w v I = some J ∧ CLn w p F J ∧ J w 1 = I v 1 ∧ ∀ a j, a < w ∨ w + 4 < a → J a j = I a j := by
  unfold pX5_copyFrom
  simp only [lt_b]
  generalize h2 : ev_u2 (ev_u2 I w 0 (I v 0)) w 1 (ev_u2 I w 0 (I v 0) v 1) = I2
  have o2 : ∀ a j, a ≠ w → I2 a j = I a j := fun a j g => by rw [← h2, u2_o (by omega), u2_o (by omega)]
  have w0 : I2 w 0 = nI p := by rw [← h2, u2_o (by omega), u2_s]; exact h.1
  have w1 : I2 w 1 = I v 1 := by rw [← h2, u2_s, u2_o (by omega)]
  generalize h3 : ev_u1 I2 (w + 1) (va_cpy (I2 (v + 1)) (I2 (w + 1)) (0 : Int32).toNatClampNeg (0 : Int32).toNatClampNeg (24 : Int32).toNatClampNeg) = I3
  have o3 : ∀ a, a ≠ w + 1 → I3 a = I2 a := fun a g => by rw [← h3, u1_o g]
  have p3 : ∀ j, j < 24 → I3 (w + 1) j = I (v + 1) j := fun j hj => by rw [← h3, u1_g, cpyv, if_pos hj, o2 _ _ (by omega)]
  generalize h4 : ev_u1 I3 (w + 2) (va_cpy (I3 (v + 2)) (I3 (w + 2)) (0 : Int32).toNatClampNeg (0 : Int32).toNatClampNeg (24 : Int32).toNatClampNeg) = I4
  have o4 : ∀ a, a ≠ w + 2 → I4 a = I3 a := fun a g => by rw [← h4, u1_o g]
  have p4 : ∀ j, j < 24 → I4 (w + 2) j = I (v + 2) j := fun j hj => by rw [← h4, u1_g, cpyv, if_pos hj, o3 _ (by omega), o2 _ _ (by omega)]
  generalize h5 : ev_u1 I4 (w + 3) (va_cpy (I4 (v + 3)) (I4 (w + 3)) (0 : Int32).toNatClampNeg (0 : Int32).toNatClampNeg (24 : Int32).toNatClampNeg) = I5
  have o5 : ∀ a, a ≠ w + 3 → I5 a = I4 a := fun a g => by rw [← h5, u1_o g]
  have p5 : ∀ j, j < 24 → I5 (w + 3) j = I (v + 3) j := fun j hj => by rw [← h5, u1_g, cpyv, if_pos hj, o4 _ (by omega), o3 _ (by omega), o2 _ _ (by omega)]
  refine ⟨_, rfl, ⟨?_, fun i hi => ?_⟩, ?_, fun a j g => ?_⟩
  · rw [u1_o (by omega), o5 _ (by omega), o4 _ (by omega), o3 _ (by omega)]; exact w0
  · have g := h.2 i hi
    rw [u1_o (by omega), o5 _ (by omega), o4 _ (by omega), p3 i (by omega), u1_o (by omega), o5 _ (by omega), p4 i (by omega), u1_o (by omega), p5 i (by omega), u1_g, cpyv, if_pos (by omega), o5 _ (by omega), o4 _ (by omega), o3 _ (by omega), o2 _ _ (by omega)]
    exact g
  · rw [u1_o (by omega), o5 _ (by omega), o4 _ (by omega), o3 _ (by omega)]; exact w1
  · rw [u1_o (by omega), o5 _ (by omega), o4 _ (by omega), o3 _ (by omega), o2 _ _ (by omega)]
theorem c_plan {z : Nat} (hT : okT L T) (hI : TpC (z + 59) L T I) (hn : 3000 ≤ n) : (∃ e J, PP L T = .inl e ∧ (0 < e.1 ∧ e.1 < 4 ∧ e.2 < 2 ^ 31) ∧ pX9_plan n z I = some (-1, J) ∧ J (z + 59) 1 = 0 ∧ J (z + 59) 2 = nI e.1 ∧ J (z + 59) 3 = nI e.2 ∧ ∀ a j, a < z + 59 ∨ z + 65 < a → J a j = I a j) ∨ (∃ p F J, PP L T = .inr (p, F) ∧ p ≤ 24 ∧ (∀ i, i < p → okLn (F i)) ∧ pX9_plan n z I = some (nI p, J) ∧ J (z + 59) 1 = 0 ∧ J (z + 59) 2 = 0 ∧ J (z + 59) 3 = -1 ∧ CLn (z + 19) p F J ∧ J (z + 19) 1 = 0 ∧ ∀ a j, a < z + 59 ∨ z + 65 < a → a < z + 19 ∨ z + 23 < a → J a j = I a j) := by
  unfold pX9_plan
  rcases c_read hT hI hn with ⟨e, J, r1, r2, r3, r4, r5, r6, r7⟩ | ⟨p', F', J, r1, r2, r3, r4, r5, r6, r7, r8, r9, r10⟩
  · rw [r3, bn_s, if_pos rfl]
    exact Or.inl ⟨e, J, r1, r2, rfl, r4, r5, r6, r7⟩
  · rw [r4, bn_s, if_neg (show ¬ (1 : Int32) = 0 by decide)]
    obtain ⟨K, k1, k2, k3, k4⟩ := c_cp5 (n := n) (w := z + 1 + 18) (v := z + 59 + 2) (by omega) r8 r2
    simp only []
    rw [k1, bn_s, k2.1]
    refine Or.inr ⟨p', F', K, r1, r2, r3, rfl, by rw [k4 _ _ (by omega)]; exact r5, by rw [k4 _ _ (by omega)]; exact r6, by rw [k4 _ _ (by omega)]; exact r7, ?_, ?_, fun a j g1 g2 => by rw [k4 _ _ (by omega), r10 a j (by omega)]⟩
    · rw [show z + 19 = z + 1 + 18 by omega]; exact k2
    · rw [show z + 19 = z + 1 + 18 by omega, k3]; exact r9
end Cr
