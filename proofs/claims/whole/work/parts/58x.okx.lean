/-! MORE THAT ALWAYS HOLDS: no marks of blocks that aren't there; who is accused is a node -/
def okX (s : Nat → Nat) : Prop := (∀ k, k < 7 → ∀ b, s 3 < b → b < 100 → s (2416 + 513 * k + 212 + b) = 0) ∧ ∀ i, i < s 7 → s (1816 + 5 * i + 1) < 7
section Ox
variable {s : Nat → Nat}
theorem okX_c {s t : Nat → Nat} (h : okX s) (h7 : s 7 ≤ 60) (e3 : s 3 ≤ t 3) (e : ∀ k, k < 7 → ∀ b, s 3 < b → b < 100 → t (2416 + 513 * k + 212 + b) = s (2416 + 513 * k + 212 + b)) (e7 : t 7 = s 7) (e2 : ∀ j, 1816 ≤ j → j < 2116 → t j = s j) : okX t := by
  refine ⟨fun k hk b h1 h2 => ?_, fun i hi => ?_⟩
  · rw [e k hk b (by omega) h2]
    exact h.1 k hk b (by omega) h2
  · rw [e7] at hi
    rw [e2 _ (by omega) (by omega)]
    exact h.2 i hi
theorem okX_acc (h : okX s) (h7 : s 7 ≤ 60) {c d e f g : Nat} (hd : d < 7) : okX (sAcc s c d e f g) := by
  refine ⟨fun k hk b h1 h2 => ?_, fun i hi => ?_⟩
  · have e3 : sAcc s c d e f g 3 = s 3 := sAcc_o (by omega) h7
    rw [e3] at h1
    rw [sAcc_o (by omega) h7]
    exact h.1 k hk b h1 h2
  · by_cases c1 : evF s c d e f g 0 (s 7) = true
    · have E : sAcc s c d e f g = s := by unfold sAcc; rw [if_pos c1]
      rw [E] at hi ⊢
      exact h.2 i hi
    · by_cases c2 : s 7 = 60
      · have E : sAcc s c d e f g = s := by unfold sAcc; rw [if_neg c1, if_pos c2]
        rw [E] at hi ⊢
        exact h.2 i hi
      · have E : sAcc s c d e f g = up (up (up (up (up (up s (1816 + 5 * s 7) c) (1816 + 5 * s 7 + 1) d) (1816 + 5 * s 7 + 2) e) (1816 + 5 * s 7 + 3) f) (1816 + 5 * s 7 + 4) g) 7 (s 7 + 1) := by unfold sAcc; rw [if_neg c1, if_neg c2]
        rw [E] at hi ⊢
        rw [up_s] at hi
        by_cases c3 : i = s 7
        · rw [c3, up_o (by omega), up_o (by omega), up_o (by omega), up_o (by omega), up_s]
          exact hd
        · rw [up_o (by omega), up_o (by omega), up_o (by omega), up_o (by omega), up_o (by omega), up_o (by omega)]
          exact h.2 i (by omega)
theorem okX_tell (hs : okS s) (h : okX s) {a b c : Nat} : okX (sTell s a b c) := by
  have h8 := hs.2.2.1.2.2.2
  exact okX_c h hs.2.2.2.2.2.1 (Nat.le_of_eq (sTell_o (by omega) h8).symm) (fun k hk b _ _ => sTell_o (by omega) h8) (sTell_o (by omega) h8) (fun j _ _ => sTell_o (by omega) h8)
theorem okX_send (hs : okS s) (h : okX s) {f t kd w hu : Nat} : okX (sSend s f t kd w hu) := by
  have h4 := hs.2.2.1.2.2.1
  exact okX_c h hs.2.2.2.2.2.1 (Nat.le_of_eq (sSend_o (by omega) h4).symm) (fun k hk b _ _ => sSend_o (by omega) h4) (sSend_o (by omega) h4) (fun j _ _ => sSend_o (by omega) h4)
theorem okX_SA (hs : okS s) (h : okX s) {f kd w hu k : Nat} : okX (sSA s f kd w hu k) := by
  have h4 := hs.2.2.1.2.2.1
  exact okX_c h hs.2.2.2.2.2.1 (Nat.le_of_eq (sSA_o (by omega) h4 k).symm) (fun i hi b _ _ => sSA_o (by omega) h4 k) (sSA_o (by omega) h4 k) (fun j _ _ => sSA_o (by omega) h4 k)
theorem okX_take (hs : okS s) (h : okX s) {k : Nat} : okX (sTake s k) := by
  have h4 := hs.2.2.1.2.2.1
  exact okX_c h hs.2.2.2.2.2.1 (Nat.le_of_eq (sTake_o h4 (by omega)).symm) (fun i hi b _ _ => sTake_o h4 (by omega)) (sTake_o h4 (by omega)) (fun j _ _ => sTake_o h4 (by omega))
theorem okX_up (hs : okS s) (h : okX s) {i v : Nat} (hi : i ≠ 3 ∧ i ≠ 7 ∧ (i < 1816 ∨ 2116 ≤ i)) (hm : ∀ k b, k < 7 → s 3 < b → b < 100 → i ≠ 2416 + 513 * k + 212 + b) : okX (up s i v) :=
  okX_c h hs.2.2.2.2.2.1 (Nat.le_of_eq (up_o (by omega)).symm) (fun k hk b h1 h2 => up_o (Ne.symm (hm k b hk h1 h2))) (up_o (by omega)) (fun j _ _ => up_o (by omega))
theorem okX_nd (hs : okS s) (h : okX s) {k d v : Nat} (hk : k < 7) (hd : d < 212 ∨ (312 ≤ d ∧ d < 513)) : okX (up s (2416 + 513 * k + d) v) := okX_up hs h (by omega) (fun k' b h1 h2 h3 => by omega)
theorem okX_learn (hs : okS s) (h : okX s) {k c : Nat} (hk : k < 7) (hc : c ≤ s 3) : okX (sLearn s k c) :=
  okX_c h hs.2.2.2.2.2.1 (Nat.le_of_eq (sLearn_o hs hk hc (by omega)).symm) (fun i hi b _ _ => sLearn_o hs hk hc (by omega)) (sLearn_o hs hk hc (by omega)) (fun j _ _ => sLearn_o hs hk hc (by omega))
theorem okX_rv (hs : okS s) (h : okX s) {k b : Nat} (hb : b ≤ s 3) {o : Option Nat} : okX (sRv s k b o) := by
  cases o with
  | none => exact h
  | some x =>
    have := (hs.2.1.2.2.2.2.2.1 b hb).2.2.2.1
    exact okX_acc h hs.2.2.2.2.2.1 (by omega)
theorem okX_give (hs : okS s) (h : okX s) {k b : Nat} (hk : k < 7) (hb : b ≤ s 3) : okX (sGive s k b) := by
  have h3 := hs.b3
  have h7 := hs.2.2.2.2.2.1
  have hg := (hs.2.2.2.1 k hk).2.2.1
  unfold sGive
  split
  · exact okX_rv hs h hb
  · have x := okX_rv hs h hb (k := k) (o := rv s k b 0 (s (2416 + 513 * k + 10)))
    have e7 : sRv s k b (rv s k b 0 (s (2416 + 513 * k + 10))) 7 ≤ 60 := by
      have : okS (sRv s k b (rv s k b 0 (s (2416 + 513 * k + 10)))) := ok_rv hs hk hb (fun x hx => (rv_ok (hs.2.2.2.1 k hk).2.2 _ 0 x (by omega) hx).2)
      exact this.2.2.2.2.2.1
    have eg : sRv s k b (rv s k b 0 (s (2416 + 513 * k + 10))) (2416 + 513 * k + 10) = s (2416 + 513 * k + 10) := sRv_o h7 (by omega)
    have e3 : sRv s k b (rv s k b 0 (s (2416 + 513 * k + 10))) 3 = s 3 := sRv_o h7 (by omega)
    unfold sApp
    rw [eg]
    exact okX_c x e7 (by rw [up_o (by omega), up_o (by omega)]; exact Nat.le_refl _) (fun i hi b' h1 h2 => by rw [up_o (by omega), up_o (by omega)]) (by rw [up_o (by omega), up_o (by omega)]) (fun j h1 h2 => by rw [up_o (by omega), up_o (by omega)])
theorem okX_vote (hs : okS s) (h : okX s) {k b : Nat} (hk : k < 7) (hb : b ≤ s 3) : okX (sVote s k b) := by
  have := hs.view hb
  unfold sVote
  split
  · exact h
  · split
    · exact okX_tell hs h
    · have h2 : okS (up s (2416 + 513 * k + 2) (s (16 + b))) := ok_nd hs (d := 2) hk (by omega)
      exact okX_send (ok_tell h2 _ _ _) (okX_tell h2 (okX_nd hs h hk (by omega)))
theorem okX_HB (hs : okS s) (h : okX s) {k b : Nat} (hk : k < 7) (h1 : 1 ≤ b) (hb : b ≤ s 3) : okX (sHB s k b) := by
  obtain ⟨g1, g2, g3, g4⟩ := sGL hs hk h1 hb
  have l1 := ok_learn g1 hk g4
  have e3 : sLearn (sGive s k b) k (s (216 + b)) 3 = s 3 := by rw [sLearn_o g1 hk g4 (by omega), g2]
  have c1 := ok_come l1 (k := k) (b := b) hk (by rw [e3]; exact hb)
  exact okX_vote c1 (okX_nd l1 (okX_learn g1 (okX_give hs h hk hb) hk g4) hk (by omega)) hk (by unfold sCome; rw [up_o (by omega), e3]; exact hb)
theorem okX_go (hs : okS s) (h : okX s) {k v : Nat} (hk : k < 7) : okX (sGo s k v) := by
  unfold sGo
  split
  · exact okX_nd hs h hk (by omega)
  · exact h
theorem okX_cert (hs : okS s) (h : okX s) {k b : Nat} (hk : k < 7) (hb : b ≤ s 3) : okX (sCert s k b) := by
  have h3 := hs.b3
  have h8 := hs.2.2.1.2.2.2
  have c0 := ok_cert hs hb
  have c1 := ok_tell c0 2 k b
  have e3 : sTell (up s (716 + b) 1) 2 k b 3 = s 3 := by rw [sTellUp_o h8 (by omega) (by omega), up_o (by omega)]
  have hc : b ≤ sTell (up s (716 + b) 1) 2 k b 3 := by rw [e3]; exact hb
  exact okX_go (ok_learn c1 hk hc) (okX_learn c1 (okX_tell c0 (okX_up hs h (by omega) (fun k' b' _ _ _ => by omega))) hk hc) hk
theorem okX_M2 (hs : okS s) (h : okX s) {k j b : Nat} (hk : k < 7) (hj : j < 7) (hb : b ≤ s 3) : okX (sM2 s k j b) := by
  have h3 := hs.b3
  have f10 := (hs.2.2.2.1 k hk).1.2.2.2.2.2.2.2.2.2.1 b (by omega)
  have u1 : okS (up s (2416 + 513 * k + 212 + b) (s (2416 + 513 * k + 212 + b) ||| 2 ^ j)) := by
    have := ok_nd hs (k := k) (d := 212 + b) (v := s (2416 + 513 * k + 212 + b) ||| 2 ^ j) hk (by have := or_b _ f10 j hj; omega)
    rw [← Nat.add_assoc] at this
    exact this
  have x1 : okX (up s (2416 + 513 * k + 212 + b) (s (2416 + 513 * k + 212 + b) ||| 2 ^ j)) := okX_up hs h (by omega) (fun k' b' _ _ _ => by omega)
  unfold sM2
  split
  · exact okX_cert u1 x1 hk (by rw [up_o (by omega)]; exact hb)
  · exact x1
theorem okX_HM (hs : okS s) (h : okX s) {k j b : Nat} (hk : k < 7) (hj : j < 7) (hb : b ≤ s 3) : okX (sHM s k j b) := by
  unfold sHM
  split
  · refine okX_M2 (ok_mr hs hk hj hb (fun x hx => mr_ok _ 0 x (by omega) hx)) ?_ hk hj (by rw [sMr_o hs.2.2.2.2.2.1 (by omega)]; exact hb)
    cases mr s k j b 0 (s 3 + 1) with
    | none => exact h
    | some x => exact okX_acc h hs.2.2.2.2.2.1 hj
  · exact h
theorem okX_HT (hs : okS s) (h : okX s) {k j v c : Nat} (hk : k < 7) (hj : j < 7) (hv : v ≤ 200) (hc : c ≤ s 3) : okX (sHT s k j v c) := by
  have l1 := ok_learn hs hk hc
  have x1 := okX_learn hs h hk hc
  unfold sHT
  generalize sLearn s k c = t at l1 x1
  have f11 := (l1.2.2.2.1 k hk).1.2.2.2.2.2.2.2.2.2.2 v hv
  have u1 : okS (up t (2416 + 513 * k + 312 + v) (t (2416 + 513 * k + 312 + v) ||| 2 ^ j)) := by
    have := ok_nd l1 (k := k) (d := 312 + v) (v := t (2416 + 513 * k + 312 + v) ||| 2 ^ j) hk (by have := or_b _ f11 j hj; omega)
    rw [← Nat.add_assoc] at this
    exact this
  have y1 : okX (up t (2416 + 513 * k + 312 + v) (t (2416 + 513 * k + 312 + v) ||| 2 ^ j)) := okX_up l1 x1 (by omega) (fun k' b' _ _ _ => by omega)
  unfold sT3
  split
  · split
    · unfold sProve
      split
      · exact okX_go u1 y1 hk
      · exact okX_go (ok_tell (ok_nd u1 (d := 7) hk (by omega)) _ _ _) (okX_tell (ok_nd u1 (d := 7) hk (by omega)) (okX_nd u1 y1 hk (by omega))) hk
    · exact y1
  · exact x1
theorem okX_Dv (hs : okS s) (h : okX s) {f t kd wh hu : Nat} (hm : okm s f t kd wh hu) : okX (sDv s f t kd wh hu) := by
  obtain ⟨hf, ht, hm⟩ := hm
  have h6 : okS (up s 6 (s 6 + 1)) := ok_up hs (by omega)
  have x6 : okX (up s 6 (s 6 + 1)) := okX_up hs h (by omega) (fun k' b' _ _ _ => by omega)
  have e3 : up s 6 (s 6 + 1) 3 = s 3 := up_o (by omega)
  unfold sDv
  split
  · exact x6
  · split
    · exact okX_HB h6 x6 ht (by omega) (by omega)
    · split
      · exact okX_HM h6 x6 ht hf (by omega)
      · exact okX_HT h6 x6 ht hf (by omega) (by omega)
theorem okX_del (hs : okS s) (h : okX s) {k : Nat} (hk : k < s 4) : okX (sDel s k) := okX_Dv (ok_take hs hk) (okX_take hs h) (okm_take hs hk)
theorem okX_DN : ∀ (m : Nat) (s : Nat → Nat), okS s → okX s → okX (sDN m s)
  | 0, s, _, h => h
  | m + 1, s, hs, h => by
    show okX (if s 4 = 0 then s else sDN m (sDel s 0))
    split
    · exact h
    · exact okX_DN m _ (ok_del hs (by omega)) (okX_del hs h (by omega))
theorem okX_lay (hs : okS s) (h : okX s) {a v pa ju pl pr : Nat} (h3 : s 3 < 99) (ha : a < 7) (hv : 1 ≤ v ∧ v ≤ 200) (hpa : pa ≤ s 3) (hju : ju ≤ s 3) (hpl : pl ≤ 999) (hpr : pr ≤ 1) : okX (sLay s a v pa ju pl pr) := by
  have g3 := (lay9_g (s := s) (a := a) (v := v) (pa := pa) (ju := ju) (pl := pl) (pr := pr) h3).1
  exact okX_SA (ok_lay9 hs h3 ha hv hpa hju hpl hpr) (okX_c h hs.2.2.2.2.2.1 (by omega) (fun k hk b _ _ => lay9_o (by omega)) (lay9_o (by omega)) (fun j _ _ => lay9_o (by omega)))
theorem okX_pro (hs : okS s) (h : okX s) {k p : Nat} (hk : k < 7) (hc : cP s k = true) (hp : p ≤ 999) : okX (sPro s k p) := by
  obtain ⟨u1, u3, s3, f5⟩ := pro_ok hs hk hc
  have c := cP_e hc
  exact okX_lay u1 (okX_nd hs h hk (by omega)) (by omega) hk (by omega) (by omega) (by omega) hp (by split <;> omega)
theorem okX_TO (hs : okS s) (h : okX s) {k : Nat} (hk : k < 7) (hc : cT s k = true) : okX (sTO s k) := by
  have c := cT_e hc
  have h0 := hs.2.2.1.1
  have f5 := (hs.2.2.2.1 k hk).1.2.2.2.2.2.1
  have hS : okS (sSA s k 3 (s (2416 + 513 * k + 1) + 1) (s (2416 + 513 * k + 5) + 1) (s 0 + 4)) := ok_SA hs (fun t ht => ⟨hk, ht, Or.inr ⟨rfl, by omega, by omega, by omega, by omega⟩⟩) _ (by omega)
  unfold sTO sTO2
  exact okX_nd (ok_nd hS (d := 4) hk (by omega)) (okX_nd hS (okX_SA hs h) hk (by omega)) hk (by omega)
theorem okX_P1 {p : Nat} (hp : p ≤ 999) : ∀ (m i : Nat) (a : Bool) (s : Nat → Nat), okS s → okX s → i + m ≤ 7 → okX (sP1 p m i a s).2
  | 0, i, a, s, hs, h, hi => h
  | m + 1, i, a, s, hs, h, hi => by
    show okX (if cP s i = true then sP1 p m (i + 1) true (sPro s i p) else sP1 p m (i + 1) a s).2
    split
    · rename_i c
      exact okX_P1 hp m (i + 1) true _ (ok_pro hs (k := i) (by omega) c hp) (okX_pro hs h (by omega) c hp) (by omega)
    · exact okX_P1 hp m (i + 1) a s hs h (by omega)
theorem okX_T1 : ∀ (m i : Nat) (s : Nat → Nat), okS s → okX s → i + m ≤ 7 → okX (sT1 m i s)
  | 0, i, s, hs, h, hi => h
  | m + 1, i, s, hs, h, hi => by
    show okX (sT1 m (i + 1) (if cT s i = true then sTO s i else s))
    split
    · rename_i c
      exact okX_T1 m (i + 1) _ (ok_TO hs (k := i) (by omega) c) (okX_TO hs h (by omega) c) (by omega)
    · exact okX_T1 m (i + 1) s hs h (by omega)
theorem okX_Rd (hs : okS s) (h : okX s) {p : Nat} (hp : p ≤ 999) : okX (sRd s p) := by
  have h0 := hs.2.2.1.1
  have a := ok_P1 hp (s 0 + 4) 0 false s hs (by omega)
  have x := okX_P1 hp (s 0 + 4) 0 false s hs h (by omega)
  unfold sRd sRe
  split
  · exact x
  · exact okX_T1 (s 0 + 4) 0 _ a.1 x (by omega)
theorem okX_Rds : ∀ (m k : Nat) (s : Nat → Nat), okS s → okX s → k + m ≤ 900 → okX (sRds m k s)
  | 0, k, s, hs, h, hk => h
  | m + 1, k, s, hs, h, hk => okX_Rds m (k + 1) _ (ok_Rd (ok_DN 400 s hs) (p := k) (by omega)).1 (okX_Rd (ok_DN 400 s hs) (okX_DN 400 s hs h) (by omega)) (by omega)
end Ox
