/-! HOW MANY DELIVERIES THERE CAN BE; what never shrinks; all are delivered, both sides -/
def muN (s : Nat → Nat) : Nat → Nat
  | 0 => 0
  | m + 1 => muN s m + (if s (816 + 5 * m + 2) = 1 then 2 else 1)
def mu (s : Nat → Nat) : Nat := muN s (s 4)
theorem muN_b (s : Nat → Nat) : ∀ m, m ≤ muN s m ∧ muN s m ≤ 2 * m
  | 0 => ⟨Nat.le_refl _, Nat.le_refl _⟩
  | m + 1 => by
    have := muN_b s m
    show m + 1 ≤ muN s m + _ ∧ muN s m + _ ≤ _
    split <;> omega
theorem mu_0 {s : Nat → Nat} (h : mu s = 0) : s 4 = 0 := by
  have := (muN_b s (s 4)).1
  unfold mu at h
  omega
theorem muN_c {s t : Nat → Nat} : ∀ m, (∀ i, i < m → t (816 + 5 * i + 2) = s (816 + 5 * i + 2)) → muN t m = muN s m
  | 0, _ => rfl
  | m + 1, h => by
    show muN t m + _ = muN s m + _
    rw [muN_c m (fun i hi => h i (by omega)), h m (by omega)]
theorem mu_c {s t : Nat → Nat} (h4 : s 4 ≤ 200) (e4 : t 4 = s 4) (e : ∀ j, 816 ≤ j → j < 1816 → t j = s j) : mu t = mu s := by
  unfold mu
  rw [e4]
  exact muN_c _ (fun i hi => e _ (by omega) (by omega))
theorem muN_take {s : Nat → Nat} : ∀ m, m + 1 ≤ s 4 → muN (sTake s 0) m + (if s (816 + 2) = 1 then 2 else 1) = muN s (m + 1)
  | 0, h => by show 0 + _ = 0 + _; rfl
  | m + 1, h => by
    have ih := muN_take (s := s) m (by omega)
    have e : sTake s 0 (816 + 5 * m + 2) = s (816 + 5 * (m + 1) + 2) := by
      unfold sTake
      rw [if_pos (by omega)]
      exact congrArg s (by omega)
    show muN (sTake s 0) m + (if sTake s 0 (816 + 5 * m + 2) = 1 then 2 else 1) + _ = muN s (m + 1) + _
    rw [e]
    omega
theorem mu_take {s : Nat → Nat} (h : 0 < s 4) : mu (sTake s 0) + (if s (816 + 2) = 1 then 2 else 1) = mu s := by
  unfold mu
  rw [sTake_4]
  have := muN_take (s := s) (s 4 - 1) (by omega)
  rw [show s 4 - 1 + 1 = s 4 by omega] at this
  exact this
theorem mu_send {s : Nat → Nat} (h4 : s 4 ≤ 200) {f t kd w hu : Nat} (hk : kd ≠ 1) : mu (sSend s f t kd w hu) ≤ mu s + 1 := by
  unfold sSend
  split
  · split
    · rw [mu_c h4 (up_o (by omega)) (fun j _ _ => up_o (by omega))]; omega
    · unfold mu
      rw [up_s]
      show muN _ (s 4) + _ ≤ _
      rw [muN_c (s := s) (s 4) (fun i hi => by unfold sMsg; rw [up_o (by omega), up_o (by omega), up_o (by omega), up_o (by omega), up_o (by omega), up_o (by omega)])]
      have : up (sMsg s (s 4) f t kd w hu) 4 (s 4 + 1) (816 + 5 * s 4 + 2) = kd := by
        unfold sMsg
        rw [up_o (by omega), up_o (by omega), up_o (by omega), up_s]
      rw [this, if_neg hk]
      exact Nat.le_refl _
  · rw [mu_c h4 (up_o (by omega)) (fun j _ _ => up_o (by omega))]; omega
theorem mu_tell {s : Nat → Nat} (h : okS s) {a b c : Nat} : mu (sTell s a b c) = mu s := mu_c h.2.2.1.2.2.1 (sTell_o (by omega) h.2.2.1.2.2.2) (fun j _ _ => sTell_o (by omega) h.2.2.1.2.2.2)
theorem mu_vote {s : Nat → Nat} (h : okS s) {k b : Nat} (hk : k < 7) (hb : b ≤ s 3) : mu (sVote s k b) ≤ mu s + 1 := by
  have := h.view hb
  have h4 := h.2.2.1.2.2.1
  have h8 := h.2.2.1.2.2.2
  unfold sVote
  split
  · omega
  · split
    · rw [mu_tell h]; omega
    · have h2 : okS (up s (2416 + 513 * k + 2) (s (16 + b))) := ok_nd h (d := 2) hk (by omega)
      unfold sMark
      refine Nat.le_trans (mu_send (ok_tell h2 0 k b).2.2.1.2.2.1 (by omega)) ?_
      rw [mu_tell h2, mu_c h4 (up_o (by omega)) (fun j _ _ => up_o (by omega))]
      omega
theorem mu_HB {s : Nat → Nat} (h : okS s) {k b : Nat} (hk : k < 7) (h1 : 1 ≤ b) (hb : b ≤ s 3) : mu (sHB s k b) ≤ mu s + 1 := by
  have h3 := h.b3
  have h7 := h.2.2.2.2.2.1
  have hg := (h.2.2.2.1 k hk).2.2.1
  obtain ⟨g1, g2, g3, g4⟩ := sGL h hk h1 hb
  have l1 := ok_learn g1 hk g4
  have e3 : sLearn (sGive s k b) k (s (216 + b)) 3 = s 3 := by rw [sLearn_o g1 hk g4 (by omega), g2]
  have c1 := ok_come l1 (k := k) (b := b) hk (by rw [e3]; exact hb)
  unfold sHB
  refine Nat.le_trans (mu_vote c1 hk (by unfold sCome; rw [up_o (by omega), e3]; exact hb)) ?_
  have m1 : mu (sCome (sLearn (sGive s k b) k (s (216 + b))) k b) = mu (sLearn (sGive s k b) k (s (216 + b))) := mu_c l1.2.2.1.2.2.1 (up_o (by omega)) (fun j _ _ => up_o (by omega))
  have m2 : mu (sLearn (sGive s k b) k (s (216 + b))) = mu (sGive s k b) := mu_c g1.2.2.1.2.2.1 (sLearn_o g1 hk g4 (by omega)) (fun j _ _ => sLearn_o g1 hk g4 (by omega))
  have m3 : mu (sGive s k b) = mu s := mu_c h.2.2.1.2.2.1 (sGive_o h7 (by omega) (by omega)) (fun j _ _ => sGive_o h7 (by omega) (by omega))
  omega
theorem mu_Dv {s : Nat → Nat} (h : okS s) {f t kd wh hu : Nat} (hm : okm s f t kd wh hu) : mu (sDv s f t kd wh hu) ≤ mu s + (if kd = 1 then 1 else 0) := by
  obtain ⟨hf, ht, hm⟩ := hm
  have h4 := h.2.2.1.2.2.1
  have h6 : okS (up s 6 (s 6 + 1)) := ok_up h (by omega)
  have e3 : up s 6 (s 6 + 1) 3 = s 3 := up_o (by omega)
  have m6 : mu (up s 6 (s 6 + 1)) = mu s := mu_c h4 (up_o (by omega)) (fun j _ _ => up_o (by omega))
  unfold sDv
  split
  · omega
  · split
    · have := mu_HB h6 (k := t) (b := wh) ht (by omega) (by omega)
      omega
    · split
      · rw [mu_c h6.2.2.1.2.2.1 (sHM_o h6 ht hf (by omega) (by omega)) (fun j _ _ => sHM_o h6 ht hf (by omega) (by omega))]; omega
      · rw [mu_c h6.2.2.1.2.2.1 (sHT_o h6 ht hf (by omega) (by omega) (by omega)) (fun j _ _ => sHT_o h6 ht hf (by omega) (by omega) (by omega))]; omega
theorem mu_del {s : Nat → Nat} (h : okS s) (hk : 0 < s 4) : mu (sDel s 0) + 1 ≤ mu s := by
  have a := mu_take hk
  have b := mu_Dv (ok_take h hk) (okm_take h hk)
  unfold sDel
  have e : s (816 + 5 * 0 + 2) = s (816 + 2) := rfl
  rw [e] at b ⊢
  by_cases c : s (816 + 2) = 1
  · rw [if_pos c] at a b
    omega
  · rw [if_neg c] at a b
    omega
theorem mu_le {s : Nat → Nat} (h : okS s) : mu s ≤ 400 := by
  have := (muN_b s (s 4)).2
  have := h.2.2.1.2.2.1
  unfold mu
  omega
/-- the first ones are delivered, up to m -/
def sDN : Nat → (Nat → Nat) → (Nat → Nat)
  | 0, s => s
  | m + 1, s => if s 4 = 0 then s else sDN m (sDel s 0)
def dnN : Nat → (Nat → Nat) → Nat
  | 0, _ => 0
  | m + 1, s => if s 4 = 0 then 0 else dnN m (sDel s 0) + 1
theorem ok_DN : ∀ (m : Nat) (s : Nat → Nat), okS s → okS (sDN m s)
  | 0, s, h => h
  | m + 1, s, h => by
    show okS (if s 4 = 0 then s else sDN m (sDel s 0))
    split
    · exact h
    · exact ok_DN m _ (ok_del h (by omega))
theorem sDN_e : ∀ (m : Nat) (s : Nat → Nat), okS s → mu s ≤ m → sDN m s 4 = 0
  | 0, s, h, hm => show s 4 = 0 from mu_0 (by omega)
  | m + 1, s, h, hm => by
    show (if s 4 = 0 then s else sDN m (sDel s 0)) 4 = 0
    split
    · assumption
    · have := mu_del h (by omega)
      exact sDN_e m _ (ok_del h (by omega)) (by omega)
theorem sDN_z {m : Nat} {s : Nat → Nat} (h : s 4 = 0) : sDN m s = s := by
  cases m with
  | zero => rfl
  | succ m => exact if_pos h
/-- what never shrinks -/
def Mo (s t : Nat → Nat) : Prop := t 0 = s 0 ∧ (∀ k, k < 7 → t (2416 + 513 * k) = s (2416 + 513 * k) ∧ s (2416 + 513 * k + 8) ≤ t (2416 + 513 * k + 8)) ∧ ∀ j, (j = 9 ∨ 6010 ≤ j) → t j = s j
theorem Mo_r {s : Nat → Nat} : Mo s s := ⟨rfl, fun _ _ => ⟨rfl, Nat.le_refl _⟩, fun _ _ => rfl⟩
theorem Mo_t {s t u : Nat → Nat} (h1 : Mo s t) (h2 : Mo t u) : Mo s u := ⟨h2.1.trans h1.1, fun k hk => ⟨((h2.2.1 k hk).1).trans (h1.2.1 k hk).1, Nat.le_trans (h1.2.1 k hk).2 (h2.2.1 k hk).2⟩, fun j hj => (h2.2.2 j hj).trans (h1.2.2 j hj)⟩
theorem Mo_c {s t : Nat → Nat} (e0 : t 0 = s 0) (e : ∀ k, k < 7 → t (2416 + 513 * k) = s (2416 + 513 * k) ∧ t (2416 + 513 * k + 8) = s (2416 + 513 * k + 8)) (e6 : ∀ j, (j = 9 ∨ 6010 ≤ j) → t j = s j) : Mo s t := ⟨e0, fun k hk => ⟨(e k hk).1, Nat.le_of_eq (e k hk).2.symm⟩, e6⟩
theorem Mo_up {s : Nat → Nat} {i v : Nat} (h0 : i ≠ 0 ∧ i ≠ 9 ∧ i < 6010) (hi : ∀ k, k < 7 → i ≠ 2416 + 513 * k ∧ i ≠ 2416 + 513 * k + 8) : Mo s (up s i v) := Mo_c (up_o (by omega)) (fun k hk => by have := hi k hk; exact ⟨up_o (by omega), up_o (by omega)⟩) (fun j hj => up_o (by omega))
theorem Mo_tell {s : Nat → Nat} (h : okS s) {a b c : Nat} : Mo s (sTell s a b c) := Mo_c (sTell_o (by omega) h.2.2.1.2.2.2) (fun k hk => ⟨sTell_o (by omega) h.2.2.1.2.2.2, sTell_o (by omega) h.2.2.1.2.2.2⟩) (fun j hj => sTell_o (by omega) h.2.2.1.2.2.2)
theorem Mo_send {s : Nat → Nat} (h : okS s) {f t kd w hu : Nat} : Mo s (sSend s f t kd w hu) := Mo_c (sSend_o (by omega) h.2.2.1.2.2.1) (fun k hk => ⟨sSend_o (by omega) h.2.2.1.2.2.1, sSend_o (by omega) h.2.2.1.2.2.1⟩) (fun j hj => sSend_o (by omega) h.2.2.1.2.2.1)
theorem Mo_SA {s : Nat → Nat} (h : okS s) {f kd w hu k : Nat} : Mo s (sSA s f kd w hu k) := Mo_c (sSA_o (by omega) h.2.2.1.2.2.1 k) (fun i hi => ⟨sSA_o (by omega) h.2.2.1.2.2.1 k, sSA_o (by omega) h.2.2.1.2.2.1 k⟩) (fun j hj => sSA_o (by omega) h.2.2.1.2.2.1 k)
theorem Mo_take {s : Nat → Nat} (h : okS s) {k : Nat} : Mo s (sTake s k) := Mo_c (sTake_o h.2.2.1.2.2.1 (by omega)) (fun i hi => ⟨sTake_o h.2.2.1.2.2.1 (by omega), sTake_o h.2.2.1.2.2.1 (by omega)⟩) (fun j hj => sTake_o h.2.2.1.2.2.1 (by omega))
theorem Mo_commit {s : Nat → Nat} (h : okS s) {k e : Nat} (hk : k < 7) (he : e ≤ s 3) : Mo s (sCommit s k e) := by
  refine ⟨sCommit_o h hk he (by omega), fun i hi => ⟨sCommit_o h hk he (by omega), ?_⟩, fun j hj => sCommit_o h hk he (by omega)⟩
  by_cases c : i = k
  · subst c
    have h8 := h.2.2.1.2.2.2
    unfold sCommit
    split
    · rw [up_s]; omega
    · split
      · exact Nat.le_refl _
      · rw [sTellUp_o h8 (by omega) (by omega), up_o (by omega)]; exact Nat.le_refl _
  · rw [sCommit_o h hk he (by omega)]; exact Nat.le_refl _
theorem Mo_learn {s : Nat → Nat} (h : okS s) {k c : Nat} (hk : k < 7) (hc : c ≤ s 3) : Mo s (sLearn s k c) := by
  have h1 := ok_hi h hk hc
  have h2 := ok_lk h1 hk (by rw [sHi_o (by omega)]; exact hc)
  have m : Mo s (sLk (sHi s k c) k c) := Mo_c (by rw [sLk_o (by omega), sHi_o (by omega)]) (fun i hi => ⟨by rw [sLk_o (by omega), sHi_o (by omega)], by rw [sLk_o (by omega), sHi_o (by omega)]⟩) (fun j hj => by rw [sLk_o (by omega), sHi_o (by omega)])
  unfold sLearn
  split
  · exact m
  · exact Mo_t m (Mo_commit h2 hk (by rw [sLk_o (by omega), sHi_o (by omega)]; exact cmb_le h hc))
theorem Mo_go {s : Nat → Nat} {k v : Nat} (hk0 : k < 7) : Mo s (sGo s k v) := by
  by_cases hk : k < 7
  · exact Mo_c (sGo_o (by omega)) (fun i hi => ⟨sGo_o (by omega), sGo_o (by omega)⟩) (fun j hj => sGo_o (by omega))
  · exact absurd hk0 hk
theorem Mo_vote {s : Nat → Nat} (h : okS s) {k b : Nat} (hk : k < 7) (hb : b ≤ s 3) : Mo s (sVote s k b) := by
  have := h.view hb
  unfold sVote
  split
  · exact Mo_r
  · split
    · exact Mo_tell h
    · have h2 : okS (up s (2416 + 513 * k + 2) (s (16 + b))) := ok_nd h (d := 2) hk (by omega)
      exact Mo_t (Mo_up (by omega) (fun _ _ => by omega)) (Mo_t (Mo_tell h2) (Mo_send (ok_tell h2 0 k b)))
theorem Mo_HB {s : Nat → Nat} (h : okS s) {k b : Nat} (hk : k < 7) (h1 : 1 ≤ b) (hb : b ≤ s 3) : Mo s (sHB s k b) := by
  have h3 := h.b3
  have h7 := h.2.2.2.2.2.1
  have hg := (h.2.2.2.1 k hk).2.2.1
  obtain ⟨g1, g2, g3, g4⟩ := sGL h hk h1 hb
  have l1 := ok_learn g1 hk g4
  have e3 : sLearn (sGive s k b) k (s (216 + b)) 3 = s 3 := by rw [sLearn_o g1 hk g4 (by omega), g2]
  have c1 := ok_come l1 (k := k) (b := b) hk (by rw [e3]; exact hb)
  exact Mo_t (Mo_c (sGive_o h7 (by omega) (by omega)) (fun i hi => ⟨sGive_o h7 (by omega) (by omega), sGive_o h7 (by omega) (by omega)⟩) (fun j hj => sGive_o h7 (by omega) (by omega))) (Mo_t (Mo_learn g1 hk g4) (Mo_t (Mo_up (by omega) (fun _ _ => by omega)) (Mo_vote c1 hk (by unfold sCome; rw [up_o (by omega), e3]; exact hb))))
theorem Mo_cert {s : Nat → Nat} (h : okS s) {k b : Nat} (hk : k < 7) (hb : b ≤ s 3) : Mo s (sCert s k b) := by
  have h3 := h.b3
  have h8 := h.2.2.1.2.2.2
  have c1 := ok_cert h hb
  have c2 := ok_tell c1 2 k b
  exact Mo_t (Mo_up (by omega) (fun _ _ => by omega)) (Mo_t (Mo_tell c1) (Mo_t (Mo_learn c2 hk (by rw [sTellUp_o h8 (by omega) (by omega), up_o (by omega)]; exact hb)) (Mo_go hk)))
theorem Mo_HM {s : Nat → Nat} (h : okS s) {k j b : Nat} (hk : k < 7) (hj : j < 7) (hb : b ≤ s 3) : Mo s (sHM s k j b) := by
  have h3 := h.b3
  have h7 := h.2.2.2.2.2.1
  have hR := ok_mr h hk hj hb (o := mr s k j b 0 (s 3 + 1)) (fun x hx => mr_ok _ 0 x (by omega) hx)
  have e := fun i hi => sMr_o h7 (k := k) (i := j) (b := b) (j := i) (o := mr s k j b 0 (s 3 + 1)) hi
  unfold sHM
  split
  · refine Mo_t (Mo_c (e 0 (by omega)) (fun i hi => ⟨e _ (by omega), e _ (by omega)⟩) (fun i hi => e _ (by omega))) ?_
    generalize sMr s k j b (mr s k j b 0 (s 3 + 1)) = t at *
    have t3 := e 3 (by omega)
    have f10 := (hR.2.2.2.1 k hk).1.2.2.2.2.2.2.2.2.2.1 b (by omega)
    have u1 : okS (up t (2416 + 513 * k + 212 + b) (t (2416 + 513 * k + 212 + b) ||| 2 ^ j)) := by
      have := ok_nd hR (k := k) (d := 212 + b) (v := t (2416 + 513 * k + 212 + b) ||| 2 ^ j) hk (by have := or_b _ f10 j hj; omega)
      rw [← Nat.add_assoc] at this
      exact this
    unfold sM2
    split
    · exact Mo_t (Mo_up (by omega) (fun _ _ => by omega)) (Mo_cert u1 hk (by rw [up_o (by omega)]; omega))
    · exact Mo_up (by omega) (fun _ _ => by omega)
  · exact Mo_r
theorem Mo_HT {s : Nat → Nat} (h : okS s) {k j v c : Nat} (hk : k < 7) (hj : j < 7) (hv : v ≤ 200) (hc : c ≤ s 3) : Mo s (sHT s k j v c) := by
  refine Mo_t (Mo_learn h hk hc) ?_
  have l1 := ok_learn h hk hc
  unfold sHT
  generalize sLearn s k c = t at *
  have f11 := (l1.2.2.2.1 k hk).1.2.2.2.2.2.2.2.2.2.2 v hv
  have u1 : okS (up t (2416 + 513 * k + 312 + v) (t (2416 + 513 * k + 312 + v) ||| 2 ^ j)) := by
    have := ok_nd l1 (k := k) (d := 312 + v) (v := t (2416 + 513 * k + 312 + v) ||| 2 ^ j) hk (by have := or_b _ f11 j hj; omega)
    rw [← Nat.add_assoc] at this
    exact this
  unfold sT3
  split
  · split
    · refine Mo_t (Mo_up (i := 2416 + 513 * k + 312 + v) (v := t (2416 + 513 * k + 312 + v) ||| 2 ^ j) (by omega) (fun _ _ => by omega)) ?_
      unfold sProve
      refine Mo_t ?_ (Mo_go hk)
      split
      · exact Mo_r
      · exact Mo_t (Mo_up (by omega) (fun _ _ => by omega)) (Mo_tell (ok_nd u1 (d := 7) hk (by omega)))
    · exact Mo_up (by omega) (fun _ _ => by omega)
  · exact Mo_r
theorem Mo_Dv {s : Nat → Nat} (h : okS s) {f t kd wh hu : Nat} (hm : okm s f t kd wh hu) : Mo s (sDv s f t kd wh hu) := by
  obtain ⟨hf, ht, hm⟩ := hm
  have h6 : okS (up s 6 (s 6 + 1)) := ok_up h (by omega)
  have e3 : up s 6 (s 6 + 1) 3 = s 3 := up_o (by omega)
  have m6 : Mo s (up s 6 (s 6 + 1)) := Mo_up (by omega) (fun _ _ => by omega)
  unfold sDv
  split
  · exact m6
  · split
    · exact Mo_t m6 (Mo_HB h6 ht (by omega) (by omega))
    · split
      · exact Mo_t m6 (Mo_HM h6 ht hf (by omega))
      · exact Mo_t m6 (Mo_HT h6 ht hf (by omega) (by omega))
theorem Mo_del {s : Nat → Nat} (h : okS s) {k : Nat} (hk : k < s 4) : Mo s (sDel s k) := Mo_t (Mo_take h) (Mo_Dv (ok_take h hk) (okm_take h hk))
theorem Mo_DN : ∀ (m : Nat) (s : Nat → Nat), okS s → Mo s (sDN m s)
  | 0, s, h => Mo_r
  | m + 1, s, h => by
    show Mo s (if s 4 = 0 then s else sDN m (sDel s 0))
    split
    · exact Mo_r
    · exact Mo_t (Mo_del h (by omega)) (Mo_DN m _ (ok_del h (by omega)))
section Al
variable {q w : Nat}
theorem r_DA : ∀ (m n : Nat) (I : ev_I) (s : Nat → Nat), okS s → mu s ≤ m → m + 1010 < n → ∃ J, lX10_deliversAll_0 q n (M q I s) = some (M q J (sDN m s)) ∧ Sk q I J := by
  intro m
  induction m with
  | zero =>
    intro n I s hs hm hn
    obtain ⟨n, rfl⟩ : ∃ k, n = k + 1 := ⟨n - 1, by omega⟩
    refine ⟨I, ?_, Sk_r⟩
    show cX10_deliversAll_0 q _ n _ = _
    have := mu_0 (s := s) (by omega)
    simp (disch := omega) only [cX10_deliversAll_0, li, nI_clamp, M_get, this]
    rw [if_pos (by decide)]
    rfl
  | succ m ih =>
    intro n I s hs hm hn
    obtain ⟨n, rfl⟩ : ∃ k, n = k + 1 := ⟨n - 1, by omega⟩
    have h4 := hs.2.2.1.2.2.1
    show ∃ J, cX10_deliversAll_0 q _ n _ = some (M q J (if s 4 = 0 then s else sDN m (sDel s 0))) ∧ _
    unfold cX10_deliversAll_0
    by_cases c : s 4 = 0
    · refine ⟨I, ?_, Sk_r⟩
      simp (disch := omega) only [li, nI_clamp, M_get, c]
      rw [if_pos (by decide), if_pos trivial]
    · have hd := mu_del hs (by omega)
      obtain ⟨J, e, hJ⟩ := ih n (Tk q I (s (816 + 5 * 0)) (s (816 + 5 * 0 + 1)) (s (816 + 5 * 0 + 2)) (s (816 + 5 * 0 + 3)) (s (816 + 5 * 0 + 4))) (sDel s 0) (ok_del hs (by omega)) (by omega) (by omega)
      refine ⟨J, ?_, Sk_t Sk_k hJ⟩
      have hb := r_del (n := n) (q := q) (I := I) hs (k := 0) (by omega) (by omega)
      rw [if_neg c]
      simp (disch := omega) only [li, nI_clamp, M_get, nI_leI]
      rw [if_neg (by omega)]
      rw [← Option.bind_assoc, hb, bn_s]
      exact e
theorem r_deliversAll {n : Nat} {I : ev_I} {s : Nat → Nat} (hs : okS s) (hn : 1500 ≤ n) : ∃ J, pX10_deliversAll n q (M q I s) = some (M q J (sDN 400 s)) ∧ Sk q I J := r_DA 400 n I s hs (mu_le hs) (by omega)
theorem c_DA {I : ev_I} {T : Nat} (hT : T < 2 ^ 30) : ∀ (m n i d h : Nat) (r : Nat → Int32) (s : Nat → Nat), okS s → okR s h r → (i + m = T ∨ (mu s ≤ m ∧ i + m < T)) → m + 1010 < n → ∃ h' r', lX8_deliverSome_5 w n (nI 0) (nI T) (nI d) (nI i) (C w I s h r) = some (nI (d + dnN m s), C w I (sDN m s) h' r') ∧ okR (sDN m s) h' r' := by
  intro m
  induction m with
  | zero =>
    intro n i d h r s hs hr ht hn
    obtain ⟨n, rfl⟩ : ∃ k, n = k + 1 := ⟨n - 1, by omega⟩
    refine ⟨h, r, ?_, hr⟩
    show cX8_deliverSome_5 w _ n _ _ _ _ _ = _
    unfold cX8_deliverSome_5
    rcases ht with ht | ⟨ht, ht2⟩
    · rw [if_pos (nI_le (by omega) (by omega))]; rfl
    · have := mu_0 (s := s) (by omega)
      rw [if_neg (nI_ge (by omega) (by omega))]
      have hm4 : pX4_has n (w + 11) (nI 0) (C w I s h r) = some (nI 0) := by
        unfold pX4_has
        rw [if_neg (nI_pos (by omega)), cg_nc, this, if_pos (by decide)]; rfl
      rw [hm4, bn_s, if_pos (by decide)]; rfl
  | succ m ih =>
    intro n i d h r s hs hr ht hn
    obtain ⟨n, rfl⟩ : ∃ k, n = k + 1 := ⟨n - 1, by omega⟩
    have h4 := hs.2.2.1.2.2.1
    show ∃ h' r', cX8_deliverSome_5 w (lX8_deliverSome_5 w n) n _ _ _ _ _ = some (nI (d + (if s 4 = 0 then 0 else dnN m (sDel s 0) + 1)), C w I (if s 4 = 0 then s else sDN m (sDel s 0)) h' r') ∧ okR (if s 4 = 0 then s else sDN m (sDel s 0)) h' r'
    by_cases c : s 4 = 0
    · simp only [if_pos c]
      refine ⟨h, r, ?_, hr⟩
      unfold cX8_deliverSome_5
      rw [if_neg (nI_ge (by omega) (by omega))]
      have hm4 : pX4_has n (w + 11) (nI 0) (C w I s h r) = some (nI 0) := by
        unfold pX4_has
        rw [if_neg (nI_pos (by omega)), cg_nc, c, if_pos (by decide)]; rfl
      rw [hm4, bn_s, if_pos (by decide)]; rfl
    · simp only [if_neg c]
      have hd := mu_del hs (by omega)
      obtain ⟨h1, r1, hr1, hst⟩ := c_step (w := w) (I := I) (n := n) (T := T) (d := d) (i := i) (k := 0) hs hr (by omega) (by omega) hT (by omega)
      obtain ⟨h2, r2, e, hr2⟩ := ih n (i + 1) (d + 1) h1 r1 (sDel s 0) (ok_del hs (by omega)) hr1 (by omega) (by omega)
      refine ⟨h2, r2, ?_, hr2⟩
      rw [hst, e, show d + 1 + dnN m (sDel s 0) = d + (dnN m (sDel s 0) + 1) by omega]
theorem c_deliverAll {n h : Nat} {r : Nat → Int32} {I : ev_I} {s : Nat → Nat} (hs : okS s) (hr : okR s h r) (hn : 1500 ≤ n) : ∃ h' r', pX8_deliverSome n w (0 : Int32) (1000000 : Int32) (C w I s h r) = some (nI (dnN 400 s), C w I (sDN 400 s) h' r') ∧ okR (sDN 400 s) h' r' := by
  obtain ⟨h', r', e, hr'⟩ := c_DA (w := w) (I := I) (T := 1000000) (by omega) 400 n 0 0 h r s hs hr (Or.inr ⟨mu_le hs, by omega⟩) (by omega)
  rw [Nat.zero_add] at e
  exact ⟨h', r', e, hr'⟩
end Al
