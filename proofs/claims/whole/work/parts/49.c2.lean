/-! THE CLASS: evidence, the net, committing -/
theorem src_ne {o j k : Nat} (ho : o < 58) (hs : src o j = some k) : k < 816 ∨ 1816 ≤ k := by
  rcases Nat.lt_or_ge k 816 with q | q
  · exact Or.inl q
  · rcases Nat.lt_or_ge k 1816 with q2 | q2
    · exfalso
      have e := srd_e ho hs (by omega)
      unfold srd at e
      rw [if_neg (by omega), if_neg (by omega), if_neg (by omega), if_neg (by omega), if_neg (by omega), if_neg (by omega), if_neg (by omega), if_neg (by omega), if_neg (by omega), if_pos (by omega)] at e
      injection e with e1 e2
      subst e1
      rw [src_e (by omega)] at hs
      injection hs with hs
      omega
    · exact Or.inr q2
/-- the class's world doesn't look at the reference's messages -/
theorem C_c {w h : Nat} {I : ev_I} {s t : Nat → Nat} {r : Nat → Int32} (e : ∀ k, k < 816 ∨ 1816 ≤ k → t k = s k) : C w I t h r = C w I s h r := by
  funext a j
  unfold C
  by_cases b : w ≤ a ∧ a < w + 58
  · rw [if_pos b, if_pos b]
    cases hs : src (a - w) j with
    | none => rfl
    | some k => show vl _ _ (t k) = vl _ _ (s k); rw [e k (src_ne (by omega) hs)]
  · rw [if_neg b, if_neg b]
/-- a message in one number -/
def pkm (s : Nat → Nat) (k : Nat) : Nat := s (816 + 5 * k) * 2 ^ 20 + s (816 + 5 * k + 1) * 2 ^ 17 + s (816 + 5 * k + 2) * 2 ^ 15 + s (816 + 5 * k + 3) * 2 ^ 7 + s (816 + 5 * k + 4)
def okR (s : Nat → Nat) (h : Nat) (r : Nat → Int32) : Prop := h < 200 ∧ (∀ k, k < s 4 → r ((h + k) % 200) = nI (pkm s k)) ∧ ∀ k, k < s 4 → s (816 + 5 * k + 1) < s 0 + 4
theorem pkm_c {s t : Nat → Nat} {k : Nat} (e : ∀ j, 816 + 5 * k ≤ j → j < 816 + 5 * k + 5 → t j = s j) : pkm t k = pkm s k := by
  unfold pkm
  rw [e _ (by omega) (by omega), e _ (by omega) (by omega), e _ (by omega) (by omega), e _ (by omega) (by omega), e _ (by omega) (by omega)]
theorem okR_c {s t : Nat → Nat} {h : Nat} {r : Nat → Int32} (hr : okR s h r) (h4 : s 4 ≤ 200) (e0 : t 0 = s 0) (e4 : t 4 = s 4) (e : ∀ j, 816 ≤ j → j < 1816 → t j = s j) : okR t h r := by
  refine ⟨hr.1, fun k hk => ?_, fun k hk => ?_⟩
  · rw [e4] at hk
    rw [hr.2.1 k hk, pkm_c (fun j h1 h2 => e j (by omega) (by omega))]
  · rw [e4] at hk
    rw [e _ (by omega) (by omega), e0]
    exact hr.2.2 k hk
theorem or_i {a b i : Nat} (hb : b < 2 ^ i) : nI (2 ^ i * a) ||| nI b = nI (2 ^ i * a + b) := by
  rw [Nat.two_pow_add_eq_or_of_lt hb]
  apply Int32.toBitVec.inj
  show (Int32.ofNat _ ||| Int32.ofNat _).toBitVec = (Int32.ofNat _).toBitVec
  simp only [Int32.toBitVec_or, Int32.toBitVec_ofNat', BitVec.ofNat_or]
theorem pk_msg {f t kd wh hu : Nat} {x : Int32} (hf : f < 8) (ht : t < 8) (hk : kd < 4) (hw : wh < 256) (hh : hu < 128) (hx : x + nI 1 = nI hu) : ((((nI f <<< (nI 20 &&& nI 31)) ||| (nI t <<< (nI 17 &&& nI 31))) ||| (nI kd <<< (nI 15 &&& nI 31))) ||| (nI wh <<< (nI 7 &&& nI 31))) ||| (x + nI 1) = nI (f * 2 ^ 20 + t * 2 ^ 17 + kd * 2 ^ 15 + wh * 2 ^ 7 + hu) := by
  rw [hx, pk_shlN _ 20 (by decide) (by omega), pk_shlN _ 17 (by decide) (by omega), pk_shlN _ 15 (by decide) (by omega), pk_shlN _ 7 (by decide) (by omega)]
  rw [show f * 2 ^ 20 = 2 ^ 20 * f by omega, or_i (i := 20) (by omega), show 2 ^ 20 * f + t * 2 ^ 17 = 2 ^ 17 * (8 * f + t) by omega, or_i (i := 17) (by omega), show 2 ^ 17 * (8 * f + t) + kd * 2 ^ 15 = 2 ^ 15 * (4 * (8 * f + t) + kd) by omega, or_i (i := 15) (by omega), show 2 ^ 15 * (4 * (8 * f + t) + kd) + wh * 2 ^ 7 = 2 ^ 7 * (256 * (4 * (8 * f + t) + kd) + wh) by omega, or_i (i := 7) (by omega)]
theorem nI_m1 {f : Nat} (hf : f < 2 ^ 31) : ¬ nI f = -1 := fun q => by
  have := nI_pos hf
  rw [q] at this
  exact this (by decide)
def ldr (s : Nat → Nat) (v : Nat) : Nat := (if s 1 = 0 then v else if s 1 = 1 then v / 2 else v * v) % (s 0 + 4)
theorem ldr_l {s : Nat → Nat} {v : Nat} (h0 : s 0 ≤ 3) : ldr s v < 7 := by
  unfold ldr
  have := Nat.mod_lt (if s 1 = 0 then v else if s 1 = 1 then v / 2 else v * v) (show 0 < s 0 + 4 by omega)
  omega
theorem ldr_n {s : Nat → Nat} {v : Nat} : ldr s v < s 0 + 4 := Nat.mod_lt _ (by omega)
section C2
variable {n w : Nat} {I : ev_I} {s : Nat → Nat} {h : Nat} {r : Nat → Int32}
theorem c_hasEL (hE : okE s) {c d e f g : Nat} (hc : c < 1000) (hd : d < 1000) (he : e < 1000) (hf : f < 1000) (hg : g < 1000) : ∀ (m i n : Nat), i + m = s 7 → m < n → lX2_has_3 (w + 14) 300 n (nI c) (nI d) (nI e) (nI f) (nI g) (nI (5 * i)) (C w I s h r) = some (nI (if evF s c d e f g i m = true then 1 else 0)) := by
  obtain ⟨h7, hE⟩ := hE
  intro m
  induction m with
  | zero =>
    intro i n hi hn
    obtain ⟨n, rfl⟩ : ∃ k, n = k + 1 := ⟨n - 1, by omega⟩
    show cX2_has_3 (w + 14) 300 _ n _ _ _ _ _ _ _ = _
    unfold cX2_has_3
    simp (disch := omega) only [cg_evc, li, pk_mul, nI_leI]
    rw [if_pos (by omega)]
    rfl
  | succ m ih =>
    intro i n hi hn
    obtain ⟨n, rfl⟩ : ∃ k, n = k + 1 := ⟨n - 1, by omega⟩
    have b0 := hE i (by omega) 0 (by omega)
    have b1 := hE i (by omega) 1 (by omega)
    have b2 := hE i (by omega) 2 (by omega)
    have b3 := hE i (by omega) 3 (by omega)
    have b4 := hE i (by omega) 4 (by omega)
    rw [Nat.add_zero] at b0
    have hr := ih (i + 1) n (by omega) (by omega)
    rw [show 5 * (i + 1) = 5 * i + 5 by omega] at hr
    show cX2_has_3 (w + 14) 300 _ n _ _ _ _ _ _ _ = some (nI (if (evM s i c d e f g || evF s c d e f g (i + 1) m) = true then 1 else 0))
    unfold cX2_has_3 cX2_has_55 cX2_has_56 cX2_has_93
    simp (disch := omega) only [cg_evc, li, pk_mul, nI_leI, nI_add, lt_b, ck_in, nI_clamp, cg_ev, hr]
    simp only [← Nat.add_assoc]
    rw [if_neg (by omega)]
    simp (disch := omega) only [nI_eq, show ((1 : Nat) = 0) = False from by simp, if_true, if_false]
    unfold evM
    by_cases a0 : s (1816 + 5 * i) = c
    · by_cases a1 : s (1816 + 5 * i + 1) = d
      · by_cases a2 : s (1816 + 5 * i + 2) = e
        · by_cases a3 : s (1816 + 5 * i + 3) = f
          · by_cases a4 : s (1816 + 5 * i + 4) = g
            · simp [a0, a1, a2, a3, a4]
            · simp [a0, a1, a2, a3, a4]
          · simp [a0, a1, a2, a3]
        · simp [a0, a1, a2]
      · simp [a0, a1]
    · simp [a0]
theorem c_acc (hE : okE s) {c d e f g : Nat} (hc : c < 1000) (hd : d < 1000) (he : e < 1000) (hf : f < 1000) (hg : g < 1000) (hn : 61 ≤ n) : pX8_accuse n w (nI c) (nI d) (nI e) (nI f) (nI g) (C w I s h r) = some (C w I (sAcc s c d e f g) h r) := by
  have hL := c_hasEL (w := w) (I := I) (h := h) (r := r) hE hc hd he hf hg (s 7) 0 n (by omega) (by have := hE.1; omega)
  have h7 := hE.1
  unfold pX8_accuse pX2_has
  rw [if_neg (nI_m1 (by omega))]
  rw [show (0 : Int32) = nI (5 * 0) from rfl, hL, bn_s]
  unfold sAcc
  by_cases c1 : evF s c d e f g 0 (s 7) = true
  · rw [if_pos c1, if_pos c1, if_neg (by decide)]
  · rw [if_neg c1, if_neg c1, if_pos (by decide)]
    unfold pX2_add
    rw [cg_evc, cg_lim1]
    simp (disch := omega) only [nI_ltI]
    by_cases c2 : s 7 = 60
    · rw [if_pos c2, if_neg (by omega)]; rfl
    · rw [if_neg c2, if_pos (by omega)]
      simp (disch := omega) only [li, pk_mul, nI_add, lt_b, ck_in, nI_clamp, cp_ev, cg_evc, up_o, cp_evc, bn_s]
      simp only [← Nat.add_assoc]
theorem c_accN {a b c d : Int32} : pX8_accuse n w a b c (-1) d (C w I s h r) = some (C w I s h r) := by
  unfold pX8_accuse
  rw [if_pos rfl]
theorem c_isCut {a b : Nat} (ha : a < 7) (hb : b < 7) (hc : s (2416 + 513 * a + 11) < 128) : pX4_isCut n (w + 11) (nI a) (nI b) (C w I s h r) = some (nI (s (2416 + 513 * a + 11) / 2 ^ b % 2)) := by
  unfold pX4_isCut
  simp (disch := omega) only [ck_in, nI_clamp, cg_cuts, li, bit_n _ hc b hb]
  have : s (2416 + 513 * a + 11) / 2 ^ b % 2 = 0 ∨ s (2416 + 513 * a + 11) / 2 ^ b % 2 = 1 := by omega
  rcases this with q | q <;> rw [q] <;> rfl
theorem c_at {k : Nat} (hh : h < 200) (hk : k < 1000) : pX4_at n (w + 11) (nI k) (C w I s h r) = some (r ((h + k) % 200)) := by
  unfold pX4_at
  simp (disch := omega) only [cg_head, li, nI_add, pk_rem, ck_in, nI_clamp, cg_ring]
theorem c_put {k : Nat} {x : Int32} (hh : h < 200) (hk : k < 1000) : pX4_put n (w + 11) (nI k) x (C w I s h r) = some (C w I s h (upr r ((h + k) % 200) x)) := by
  unfold pX4_put
  simp (disch := omega) only [cg_head, li, nI_add, pk_rem, ck_in, nI_clamp, cp_ring, lt_b]
theorem c_send {f t kd wh hu : Nat} {x : Int32} (hr : okR s h r) (hf : f < 7) (h0 : s 0 ≤ 3) (ht : t < s 0 + 4) (hk : kd < 4) (hw : wh < 256) (hu' : hu < 128) (hx : x + nI 1 = nI hu) (hc : s (2416 + 513 * f + 11) < 128) (h4 : s 4 ≤ 200) : ∃ r', pX4_send n (w + 11) (nI f) (nI t) (nI kd) (nI wh) x (C w I s h r) = some (C w I (sSend s f t kd wh hu) h r') ∧ okR (sSend s f t kd wh hu) h r' := by
  have hp := pk_msg (x := x) (f := f) (t := t) (kd := kd) (wh := wh) (hu := hu) (by omega) (by omega) hk hw hu' hx
  obtain ⟨hh, hR, hT⟩ := hr
  simp (disch := omega) only [pX4_send, li, hp, c_isCut, bn_s, cg_nc, cg_lost, cg_coff, lt_b, nI_add, nI_eq, nI_ltI, cp_lost, cp_coff, c_put, cp_nc]
  unfold sSend
  by_cases c1 : s (2416 + 513 * f + 11) / 2 ^ t % 2 = 0
  · rw [if_pos c1, if_pos c1]
    by_cases c2 : s 4 = 200
    · rw [if_pos c2, if_neg (by omega)]
      exact ⟨r, rfl, okR_c ⟨hh, hR, hT⟩ h4 (up_o (by omega)) (up_o (by omega)) (fun j _ _ => up_o (by omega))⟩
    · rw [if_neg c2, if_pos (by omega)]
      refine ⟨_, congrArg some (C_c (fun k hk => ?_)).symm, hh, fun k hk => ?_, fun k hk => ?_⟩
      · unfold sMsg up
        split
        · rfl
        · rw [if_neg (by omega), if_neg (by omega), if_neg (by omega), if_neg (by omega), if_neg (by omega)]
      · rw [up_s] at hk
        by_cases hk4 : k = s 4
        · subst hk4
          rw [upr_s]
          refine congrArg nI ?_
          unfold pkm sMsg
          rw [up_o (by omega), up_o (by omega), up_o (by omega), up_o (by omega), up_o (by omega), up_s, up_o (by omega), up_o (by omega), up_o (by omega), up_o (by omega), up_s, up_o (by omega), up_o (by omega), up_o (by omega), up_s, up_o (by omega), up_o (by omega), up_s, up_o (by omega), up_s]
        · rw [upr_o (by omega), hR k (by omega)]
          refine congrArg nI ?_
          refine (pkm_c (fun j h1 h2 => ?_)).symm
          unfold sMsg
          rw [up_o (by omega), up_o (by omega), up_o (by omega), up_o (by omega), up_o (by omega), up_o (by omega)]
      · rw [up_s] at hk
        unfold sMsg
        rw [show up (up (up (up (up (up s (816 + 5 * s 4) f) (816 + 5 * s 4 + 1) t) (816 + 5 * s 4 + 2) kd) (816 + 5 * s 4 + 3) wh) (816 + 5 * s 4 + 4) hu) 4 (s 4 + 1) 0 = s 0 from by rw [up_o (by omega), up_o (by omega), up_o (by omega), up_o (by omega), up_o (by omega), up_o (by omega)]]
        by_cases hk4 : k = s 4
        · subst hk4
          rw [up_o (by omega), up_o (by omega), up_o (by omega), up_o (by omega), up_s]
          exact ht
        · rw [up_o (by omega), up_o (by omega), up_o (by omega), up_o (by omega), up_o (by omega), up_o (by omega)]
          exact hT k (by omega)
  · rw [if_neg c1, if_neg c1]
    exact ⟨r, rfl, okR_c ⟨hh, hR, hT⟩ h4 (up_o (by omega)) (up_o (by omega)) (fun j _ _ => up_o (by omega))⟩
theorem c_SAL {f kd wh hu : Nat} {x : Int32} (hf : f < 7) (hk : kd < 4) (hw : wh < 256) (hu' : hu < 128) (hx : x + nI 1 = nI hu) (hc : s (2416 + 513 * f + 11) < 128) (h0 : s 0 ≤ 3) (h4 : s 4 ≤ 200) : ∀ (m i n : Nat) (r : Nat → Int32), okR (sSA s f kd wh hu i) h r → i + m = s 0 + 4 → m < n → ∃ r', lX8_sendToAll_3 w n (nI f) (nI kd) (nI wh) x (nI i) (C w I (sSA s f kd wh hu i) h r) = some (C w I (sSA s f kd wh hu (s 0 + 4)) h r') ∧ okR (sSA s f kd wh hu (s 0 + 4)) h r' := by
  intro m
  induction m with
  | zero =>
    intro i n r hr hi hn
    obtain ⟨n, rfl⟩ : ∃ k, n = k + 1 := ⟨n - 1, by omega⟩
    have e0 := sSA_o (s := s) (f := f) (kd := kd) (w := wh) (hu := hu) (j := 0) (by omega) h4 i
    have hi' : i = s 0 + 4 := by omega
    refine ⟨r, ?_, hi' ▸ hr⟩
    show cX8_sendToAll_3 w _ n _ _ _ _ _ _ = _
    simp (disch := omega) only [cX8_sendToAll_3, cg_size, e0, nI_leI]
    rw [if_pos (by omega), ← hi']
  | succ m ih =>
    intro i n r hr hi hn
    obtain ⟨n, rfl⟩ : ∃ k, n = k + 1 := ⟨n - 1, by omega⟩
    have e0 := sSA_o (s := s) (f := f) (kd := kd) (w := wh) (hu := hu) (j := 0) (by omega) h4 i
    have e1 := sSA_o (s := s) (f := f) (kd := kd) (w := wh) (hu := hu) (j := 2416 + 513 * f + 11) (by omega) h4 i
    obtain ⟨r1, hs, hr1⟩ := c_send (n := n) (w := w) (I := I) (t := i) hr hf (by omega) (by omega) hk hw hu' hx (by rw [e1]; exact hc) (sSA_4 h4 i)
    obtain ⟨r2, hl, hr2⟩ := ih (i + 1) n r1 hr1 (by omega) (by omega)
    refine ⟨r2, ?_, hr2⟩
    show cX8_sendToAll_3 w _ n _ _ _ _ _ _ = _
    simp (disch := omega) only [cX8_sendToAll_3, cg_size, e0, nI_leI, hs, bn_s, lt_b, li, nI_add]
    rw [if_neg (by omega)]
    exact hl
theorem c_SA {f kd wh hu : Nat} {x : Int32} (hr : okR s h r) (hf : f < 7) (hk : kd < 4) (hw : wh < 256) (hu' : hu < 128) (hx : x + nI 1 = nI hu) (hc : s (2416 + 513 * f + 11) < 128) (h0 : s 0 ≤ 3) (h4 : s 4 ≤ 200) (hn : 8 ≤ n) : ∃ r', pX8_sendToAll n w (nI f) (nI kd) (nI wh) x (C w I s h r) = some (C w I (sSA s f kd wh hu (s 0 + 4)) h r') ∧ okR (sSA s f kd wh hu (s 0 + 4)) h r' :=
  c_SAL (s := s) hf hk hw hu' hx hc h0 h4 (s 0 + 4) 0 n r hr (by omega) (by omega)
theorem c_leaderOf {v : Nat} (hv : v < 300) (h0 : s 0 ≤ 3) (h1 : s 1 ≤ 2) : pX8_leaderOf n w (nI v) (C w I s h r) = some (nI (ldr s v)) := by
  have hvv : v * v < 90000 := Nat.mul_lt_mul'' hv hv
  unfold ldr
  simp (disch := omega) only [pX8_leaderOf, cg_rule, cg_size, lt_b, li, nI_eq, ck_nz, pk_mul, pk_div, rem_n]
  by_cases c1 : s 1 = 1
  · rw [if_pos c1, if_neg (by omega), if_pos c1]
  · rw [if_neg c1]
    by_cases c2 : s 1 = 2
    · rw [if_pos c2, if_neg (by omega), if_neg c1]
    · rw [if_neg c2, if_pos (by omega)]
theorem c_faults (h0 : s 0 ≤ 3) : pX8_faults n w (C w I s h r) = some (nI ((s 0 + 3) / 3)) := by
  simp (disch := omega) only [pX8_faults, cg_size, li, pk_sub, pk_div]
  rfl
theorem c_quorum (h0 : s 0 ≤ 3) : pX8_quorum n w (C w I s h r) = some (nI (s 0 + 4 - (s 0 + 3) / 3)) := by
  simp (disch := omega) only [pX8_quorum, c_faults, cg_size, bn_s, pk_sub]
theorem c_hasNode {k : Nat} (h0 : s 0 ≤ 3) (hk : k < 2 ^ 31) : pX8_hasNode n w (nI k) (C w I s h r) = some (nI (if k < s 0 + 4 then 1 else 0)) := by
  unfold pX8_hasNode
  rw [if_neg (nI_pos hk), cg_size]
  simp (disch := omega) only [nI_leI]
  by_cases c : k < s 0 + 4
  · rw [if_neg (by omega), if_pos c]; rfl
  · rw [if_pos (by omega), if_neg c]; rfl
theorem c_isAwake {k : Nat} (hk : k < s 0 + 4) (h0 : s 0 ≤ 3) (hm : s (2416 + 513 * k) ≤ 2) : pX8_isAwake n w (nI k) (C w I s h r) = some (nI (if s (2416 + 513 * k) = 1 then 0 else 1)) := by
  simp (disch := omega) only [pX8_isAwake, c_hasNode, bn_s, ck_in, nI_clamp, cg_mode, li, nI_eq]
  rw [if_pos hk, if_neg (by decide)]
  split <;> rfl
theorem c_sendMark {f b : Nat} (hr : okR s h r) (hf : f < 7) (hb : b < 100) (hv : s (16 + b) ≤ 200) (hc : s (2416 + 513 * f + 11) < 128) (h0 : s 0 ≤ 3) (h1 : s 1 ≤ 2) (h4 : s 4 ≤ 200) : ∃ r', pX8_sendMark n w (nI f) (nI b) (C w I s h r) = some (C w I (sSend s f (ldr s (s (16 + b) + 1)) 2 b 0) h r') ∧ okR (sSend s f (ldr s (s (16 + b) + 1)) 2 b 0) h r' := by
  obtain ⟨r1, e1, hr1⟩ := c_send (n := n) (w := w) (I := I) (x := -1) (kd := 2) (wh := b) (hu := 0) (t := ldr s (s (16 + b) + 1)) hr hf h0 ldr_n (by omega) (by omega) (by omega) (by decide) hc h4
  refine ⟨r1, ?_, hr1⟩
  unfold pX8_sendMark
  simp (disch := omega) only [ck_in, nI_clamp, cg_view, li, nI_add, c_leaderOf, bn_s]
  rw [show (-nI 1 : Int32) = -1 from rfl, e1]
  rfl
end C2
