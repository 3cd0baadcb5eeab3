/-! MARKS AND TIMEOUTS ARE HEARD, both sides -/
theorem okB_7 {s t : Nat → Nat} (h : okB s) (e : ∀ j, (j ≤ 3 ∨ 11 ≤ j) → j < 716 → t j = s j) : okB t := by
  have h3 := e 3 (by omega) (by omega)
  refine ⟨by rw [h3]; exact h.1, by rw [e 516 (by omega) (by omega)]; exact h.2.1, by rw [e 116 (by omega) (by omega)]; exact h.2.2.1, fun b h1 h2 => ?_⟩
  rw [h3] at h2
  have hb := h.1
  obtain ⟨a, c, d⟩ := h.2.2.2 b h1 h2
  rw [e (116 + b) (by omega) (by omega), e (516 + b) (by omega) (by omega), e (516 + (s (116 + b) - 1)) (by omega) (by omega)]
  exact ⟨a, c, d⟩
theorem ok_cert {s : Nat → Nat} (h : okS s) {b : Nat} (hb : b ≤ s 3) : okS (up s (716 + b) 1) := by
  obtain ⟨hB, hC, hZ, hN, hM, hE⟩ := h
  have h3 := hB.1
  have e0 : ∀ j, j ≠ 716 + b → up s (716 + b) 1 j = s j := fun j hj => up_o hj
  have e3 := e0 3 (by omega)
  refine ⟨okB_7 hB (fun j _ h2 => e0 j (by omega)), ?_, ⟨by rw [e0 0 (by omega)]; exact hZ.1, by rw [e0 1 (by omega)]; exact hZ.2.1, by rw [e0 4 (by omega)]; exact hZ.2.2.1, by rw [e0 8 (by omega)]; exact hZ.2.2.2⟩, ?_, okM_c hM hZ.2.2.1 e3 (e0 4 (by omega)) (fun j h1 h2 => e0 j (by omega)), okE_c hE (e0 7 (by omega)) (fun j h1 h2 => e0 j (by omega))⟩
  · obtain ⟨a1, a2, a3, a4, a5, a6, a7⟩ := hC
    refine ⟨by rw [e0 _ (by omega)]; exact a1, by rw [e0 _ (by omega)]; exact a2, by rw [e0 _ (by omega)]; exact a3, by rw [e0 _ (by omega)]; exact a4, by rw [e0 _ (by omega)]; exact a5, fun i hi => ?_, fun i h1 hi => ?_⟩
    · rw [e3] at hi
      rw [e0 (16 + i) (by omega), e0 (216 + i) (by omega), e0 (316 + i) (by omega), e0 (416 + i) (by omega), e0 (616 + i) (by omega)]
      obtain ⟨c1, c2, c3, c4, c5, c6⟩ := a6 i hi
      refine ⟨c1, c2, c3, c4, c5, ?_⟩
      unfold up
      split <;> omega
    · rw [e3] at hi
      rw [e0 (16 + i) (by omega), e0 (216 + i) (by omega), e0 (416 + i) (by omega)]
      exact a7 i h1 hi
  · intro k hk
    obtain ⟨⟨f1, f2, f3, f4, f5, f6, f7, f8, f9, f10, f11⟩, ⟨l1, l2, l3⟩, ⟨g1, g2, g3⟩⟩ := hN k hk
    refine ⟨⟨?_, ?_, ?_, ?_, ?_, ?_, ?_, ?_, ?_, fun b hb => ?_, fun v hv => ?_⟩, ⟨?_, fun i hi => ?_, fun i hi => ?_⟩, ⟨?_, fun j hj => ?_, fun i j hij hj => ?_⟩⟩
    · rw [e0 _ (by omega)]; exact f1
    · rw [e0 _ (by omega)]; exact f2
    · rw [e0 _ (by omega)]; exact f3
    · rw [e0 _ (by omega)]; exact f4
    · rw [e0 _ (by omega)]; exact f5
    · rw [e0 _ (by omega), e3]; exact f6
    · rw [e0 _ (by omega), e3]; exact f7
    · rw [e0 _ (by omega)]; exact f8
    · rw [e0 _ (by omega)]; exact f9
    · rw [e0 _ (by omega)]; exact f10 _ hb
    · rw [e0 _ (by omega)]; exact f11 v hv
    · rw [e0 _ (by omega), e3]; exact l1
    · rw [e0 (2416 + 513 * k + 8) (by omega)] at hi
      obtain ⟨a, c⟩ := l2 i hi
      rw [e0 (2416 + 513 * k + 12 + i) (by omega), e3, e0 (516 + _) (by omega)]
      exact ⟨a, c⟩
    · rw [e0 (2416 + 513 * k + 8) (by omega)] at hi
      have a := (l2 (i + 1) (by omega)).1
      rw [e0 (2416 + 513 * k + 12 + (i + 1)) (by omega), e0 (2416 + 513 * k + 12 + i) (by omega), e0 (116 + _) (by omega)]
      exact l3 i hi
    · rw [e0 _ (by omega), e3]; exact g1
    · rw [e0 (2416 + 513 * k + 10) (by omega)] at hj
      rw [e0 (2416 + 513 * k + 112 + j) (by omega), e3]
      exact g2 j hj
    · rw [e0 (2416 + 513 * k + 10) (by omega)] at hj
      rw [e0 (2416 + 513 * k + 112 + j) (by omega), e0 (2416 + 513 * k + 112 + i) (by omega)]
      exact g3 i j hij hj
/-- the least other block of b's view that bears a mark of j -/
def mr (s : Nat → Nat) (k j b : Nat) : Nat → Nat → Option Nat
  | _, 0 => none
  | i, m + 1 => if i ≠ b ∧ s (16 + i) = s (16 + b) ∧ s (2416 + 513 * k + 212 + i) / 2 ^ j % 2 = 1 then some i else mr s k j b (i + 1) m
def sMr (s : Nat → Nat) (k j b : Nat) (o : Option Nat) : Nat → Nat := match o with
  | some x => sAcc s 2 j k x b
  | none => s
def quo (s : Nat → Nat) : Nat := s 0 + 4 - (s 0 + 3) / 3
def sGo (s : Nat → Nat) (k v : Nat) : Nat → Nat := if s (2416 + 513 * k + 1) + 1 < v then up s (2416 + 513 * k + 1) (v - 1) else s
def sCert (s : Nat → Nat) (k b : Nat) : Nat → Nat := sGo (sLearn (sTell (up s (716 + b) 1) 2 k b) k b) k (s (16 + b) + 1)
def sM2 (s : Nat → Nat) (k j b : Nat) : Nat → Nat := if pcn (s (2416 + 513 * k + 212 + b) ||| 2 ^ j) = quo s then sCert (up s (2416 + 513 * k + 212 + b) (s (2416 + 513 * k + 212 + b) ||| 2 ^ j)) k b else up s (2416 + 513 * k + 212 + b) (s (2416 + 513 * k + 212 + b) ||| 2 ^ j)
def sHM (s : Nat → Nat) (k j b : Nat) : Nat → Nat := if ldr s (s (16 + b) + 1) = k ∧ s (2416 + 513 * k + 212 + b) / 2 ^ j % 2 = 0 then sM2 (sMr s k j b (mr s k j b 0 (s 3 + 1))) k j b else s
def sProve (s : Nat → Nat) (k v : Nat) : Nat → Nat := sGo (if v ≤ s (2416 + 513 * k + 7) then s else sTell (up s (2416 + 513 * k + 7) v) 5 k v) k (v + 1)
def sT3 (s : Nat → Nat) (k j v : Nat) : Nat → Nat := if s (2416 + 513 * k + 312 + v) / 2 ^ j % 2 = 0 then (if pcn (s (2416 + 513 * k + 312 + v) ||| 2 ^ j) = quo s then sProve (up s (2416 + 513 * k + 312 + v) (s (2416 + 513 * k + 312 + v) ||| 2 ^ j)) k v else up s (2416 + 513 * k + 312 + v) (s (2416 + 513 * k + 312 + v) ||| 2 ^ j)) else s
def sHT (s : Nat → Nat) (k j v c : Nat) : Nat → Nat := sT3 (sLearn s k c) k j v
theorem mr_0 {s : Nat → Nat} (hs : okS s) {k j b : Nat} (h1 : 1 ≤ b) (hb : b ≤ s 3) : mr s k j b 0 (s 3 + 1) = mr s k j b 1 (s 3) := by
  show (if (0 : Nat) ≠ b ∧ s (16 + 0) = s (16 + b) ∧ _ then some 0 else mr s k j b (0 + 1) (s 3)) = _
  have := (hs.2.1.2.2.2.2.2.2 b h1 hb).1
  have h16 := hs.2.1.1
  rw [if_neg (fun q => by have := q.2.1; rw [show 16 + 0 = 16 from rfl, h16] at this; omega)]
theorem mr_ok {s : Nat → Nat} {k j b : Nat} : ∀ (m i x : Nat), i + m = s 3 + 1 → mr s k j b i m = some x → x ≤ s 3
  | 0, i, x, hi, h => by cases h
  | m + 1, i, x, hi, h => by
    have h' : (if i ≠ b ∧ s (16 + i) = s (16 + b) ∧ s (2416 + 513 * k + 212 + i) / 2 ^ j % 2 = 1 then some i else mr s k j b (i + 1) m) = some x := h
    split at h'
    · injection h' with h'
      omega
    · exact mr_ok m (i + 1) x (by omega) h'
theorem sMr_o {s : Nat → Nat} (h7 : s 7 ≤ 60) {k i b j : Nat} {o : Option Nat} (h : j < 7 ∨ (7 < j ∧ j < 1816) ∨ 2116 ≤ j) : sMr s k i b o j = s j := by
  cases o with
  | none => rfl
  | some x => exact sAcc_o h h7
theorem ok_mr {s : Nat → Nat} (h : okS s) {k j b : Nat} (hk : k < 7) (hj : j < 7) (hb : b ≤ s 3) {o : Option Nat} (ho : ∀ x, o = some x → x ≤ s 3) : okS (sMr s k j b o) := by
  have h3 := h.b3
  cases o with
  | none => exact h
  | some x =>
    have := ho x rfl
    exact ok_acc h (by omega) (by omega) (by omega) (by omega) (by omega)
theorem ok_go {s : Nat → Nat} (h : okS s) {k v : Nat} (hk : k < 7) (hv : v ≤ 201) : okS (sGo s k v) := by
  unfold sGo
  split
  · exact ok_nd h (d := 1) hk (by omega)
  · exact h
theorem sGo_o {s : Nat → Nat} {k v j : Nat} (h : j ≠ 2416 + 513 * k + 1) : sGo s k v j = s j := by
  unfold sGo
  split
  · exact up_o h
  · rfl
theorem sTellUp_o {s : Nat → Nat} {K V a b c j : Nat} (h8 : s 8 ≤ 100) (hK : K ≠ 8) (h : j < 8 ∨ (8 < j ∧ j < 2116) ∨ 2416 ≤ j) : sTell (up s K V) a b c j = up s K V j := sTell_o h (by rw [up_o (by omega)]; exact h8)
theorem ok_cert2 {s : Nat → Nat} (h : okS s) {k b : Nat} (hk : k < 7) (h1 : 1 ≤ b) (hb : b ≤ s 3) : okS (sCert s k b) := by
  have h3 := h.b3
  have hv := h.view hb
  have c1 := ok_tell (ok_cert h hb) 2 k b
  have h8 := h.2.2.1.2.2.2
  have e3 : sTell (up s (716 + b) 1) 2 k b 3 = s 3 := by rw [sTellUp_o h8 (by omega) (by omega), up_o (by omega)]
  exact ok_go (ok_learn c1 hk (by rw [e3]; exact hb)) hk (by omega)
theorem ok_M2 {s : Nat → Nat} (h : okS s) {k j b : Nat} (hk : k < 7) (hj : j < 7) (h1 : 1 ≤ b) (hb : b ≤ s 3) : okS (sM2 s k j b) := by
  have h3 := h.b3
  have f10 := (h.2.2.2.1 k hk).1.2.2.2.2.2.2.2.2.2.1 b (by omega)
  have u1 : okS (up s (2416 + 513 * k + 212 + b) (s (2416 + 513 * k + 212 + b) ||| 2 ^ j)) := by
    have := ok_nd h (k := k) (d := 212 + b) (v := s (2416 + 513 * k + 212 + b) ||| 2 ^ j) hk (by have := or_b _ f10 j hj; omega)
    rw [← Nat.add_assoc] at this
    exact this
  unfold sM2
  split
  · exact ok_cert2 u1 hk h1 (by rw [up_o (by omega)]; exact hb)
  · exact u1
theorem ok_HM {s : Nat → Nat} (h : okS s) {k j b : Nat} (hk : k < 7) (hj : j < 7) (h1 : 1 ≤ b) (hb : b ≤ s 3) : okS (sHM s k j b) := by
  unfold sHM
  split
  · exact ok_M2 (ok_mr h hk hj hb (fun x hx => mr_ok _ 0 x (by omega) hx)) hk hj h1 (by rw [sMr_o h.2.2.2.2.2.1 (by omega)]; exact hb)
  · exact h
theorem ok_prove {s : Nat → Nat} (h : okS s) {k v : Nat} (hk : k < 7) (hv : v ≤ 200) : okS (sProve s k v) := by
  unfold sProve
  refine ok_go ?_ hk (by omega)
  split
  · exact h
  · exact ok_tell (ok_nd h (d := 7) hk (by omega)) _ _ _
theorem ok_T3 {s : Nat → Nat} (h : okS s) {k j v : Nat} (hk : k < 7) (hj : j < 7) (hv : v ≤ 200) : okS (sT3 s k j v) := by
  have f11 := (h.2.2.2.1 k hk).1.2.2.2.2.2.2.2.2.2.2 v hv
  have u1 : okS (up s (2416 + 513 * k + 312 + v) (s (2416 + 513 * k + 312 + v) ||| 2 ^ j)) := by
    have := ok_nd h (k := k) (d := 312 + v) (v := s (2416 + 513 * k + 312 + v) ||| 2 ^ j) hk (by have := or_b _ f11 j hj; omega)
    rw [← Nat.add_assoc] at this
    exact this
  unfold sT3
  split
  · split
    · exact ok_prove u1 hk hv
    · exact u1
  · exact h
theorem ok_HT {s : Nat → Nat} (h : okS s) {k j v c : Nat} (hk : k < 7) (hj : j < 7) (hv : v ≤ 200) (hc : c ≤ s 3) : okS (sHT s k j v c) := ok_T3 (ok_learn h hk hc) hk hj hv
theorem bc_all : ∀ a, a < 128 → pJ6_bitCount_0f7a4 0 (nI a) (fun _ _ => 0) = some (nI (pcn a)) := by decide +kernel
theorem bit01 {a j : Nat} : a / 2 ^ j % 2 = 0 ∨ a / 2 ^ j % 2 = 1 := by omega
section Mk
variable {n q w : Nat} {I : ev_I} {s : Nat → Nat} {h : Nat} {r : Nat → Int32}
theorem c_bc {a : Nat} (ha : a < 128) : pJ6_bitCount_0f7a4 n (nI a) I = some (nI (pcn a)) := bc_all a ha
theorem r_quo (h0 : s 0 ≤ 3) : pX10_quorum n q (M q I s) = some (nI (quo s)) := r_quorum h0
theorem c_quo (h0 : s 0 ≤ 3) : pX8_quorum n w (C w I s h r) = some (nI (quo s)) := c_quorum h0
theorem r_go {k v : Nat} (hk : k < 7) (hv : v < 1000) (h1 : s (2416 + 513 * k + 1) ≤ 200) : (if nI v < nI (s (2416 + 513 * k + 1) + 1) then some (M q I s) else (pX10_goesTo n q (nI k) (nI (v + 1)) (M q I s)).bind fun z => some z) = some (M q I (sGo s k (v + 1))) := by
  unfold sGo
  simp (disch := omega) only [nI_ltI, r_goesTo, bn_s]
  by_cases c : v < s (2416 + 513 * k + 1) + 1
  · rw [if_pos c, if_neg (by omega)]
  · rw [if_neg c, if_pos (by omega)]
theorem c_go {k v : Nat} (hk : k < 7) (hv : v < 1000) (h1 : s (2416 + 513 * k + 1) ≤ 200) : ev_u2 (C w I s h r) (w + (23 + 5 * k)) 1 (if nI (s (2416 + 513 * k + 1) + 1) < nI (v + 1) then nI (v + 1) else nI (s (2416 + 513 * k + 1) + 1)) = C w I (sGo s k (v + 1)) h r := by
  unfold sGo
  simp (disch := omega) only [nI_ltI]
  by_cases c : s (2416 + 513 * k + 1) + 1 < v + 1
  · rw [if_pos c, if_pos c, cp_mview hk (by omega)]
  · rw [if_neg c, if_neg c, cp_mview hk (by omega)]
    rw [show s (2416 + 513 * k + 1) + 1 - 1 = s (2416 + 513 * k + 1) from rfl, up_id rfl]
theorem r_138 (hs : okS s) {k j b : Nat} (hk : k < 7) (hj : j < 7) (h1 : 1 ≤ b) (hb : b ≤ s 3) (hn : 300 ≤ n) : cX10_hearsMark_138 q n (nI k) (nI j) (nI b) (nI (2416 + 513 * k)) (M q I s) = some (M q I (sM2 s k j b)) := by
  have h3 := hs.b3
  have h8 := hs.2.2.1.2.2.2
  have hv := hs.view hb
  have f10 := (hs.2.2.2.1 k hk).1.2.2.2.2.2.2.2.2.2.1 b (by omega)
  have ob := or_b _ f10 j hj
  have z0 := hs.2.2.1.1
  have hq : quo s ≤ 7 := by unfold quo; omega
  have hp := pc_b _ ob
  have eq0 : quo (up s (2416 + 513 * k + 212 + b) (s (2416 + 513 * k + 212 + b) ||| 2 ^ j)) = quo s := by unfold quo; rw [up_o (by omega)]
  have u1 : okS (up s (2416 + 513 * k + 212 + b) (s (2416 + 513 * k + 212 + b) ||| 2 ^ j)) := by
    have := ok_nd hs (k := k) (d := 212 + b) (v := s (2416 + 513 * k + 212 + b) ||| 2 ^ j) hk (by omega)
    rw [← Nat.add_assoc] at this
    exact this
  have hor := or_n _ f10 j hj
  simp (disch := omega) only [cX10_hearsMark_138, li, nI_add, ck_in, nI_clamp, M_get, lt_b, hor, M_put, up_s, r_onesOf, bn_s]
  rw [r_quo u1.2.2.1.1, bn_s, eq0]
  unfold sM2 sCert
  generalize eu : up s (2416 + 513 * k + 212 + b) (s (2416 + 513 * k + 212 + b) ||| 2 ^ j) = t at *
  have t3 : t 3 = s 3 := by rw [← eu, up_o (by omega)]
  have tb : t (16 + b) = s (16 + b) := by rw [← eu, up_o (by omega)]
  have t8 : t 8 ≤ 100 := u1.2.2.1.2.2.2
  simp (disch := omega) only [nI_eq]
  by_cases c1 : pcn (s (2416 + 513 * k + 212 + b) ||| 2 ^ j) = quo s
  · rw [if_pos c1, if_pos c1]
    have c2 := ok_tell (ok_cert u1 (b := b) (by omega)) 2 k b
    have e3 : sTell (up t (716 + b) 1) 2 k b 3 = t 3 := by rw [sTellUp_o t8 (by omega) (by omega), up_o (by omega)]
    have hc2 : b ≤ sTell (up t (716 + b) 1) 2 k b 3 := by omega
    have l2 := ok_learn c2 hk hc2
    have eb : sLearn (sTell (up t (716 + b) 1) 2 k b) k b (16 + b) = s (16 + b) := by rw [sLearn_o c2 hk hc2 (by omega), sTellUp_o t8 (by omega) (by omega), up_o (by omega), tb]
    rw [r_tells (by rw [up_o (by omega)]; exact t8), bn_s, r_learns c2 hk hc2 hn, bn_s, r_viewOf hk, bn_s]
    simp (disch := omega) only [M_get, eb, nI_add]
    rw [tb]
    exact r_go hk (by omega) (l2.2.2.2.1 k hk).1.2.1
  · rw [if_neg c1, if_neg c1]
theorem r_HML (hs : okS s) {k j b : Nat} (hk : k < 7) (hj : j < 7) (h1 : 1 ≤ b) (hb : b ≤ s 3) : ∀ (m i n : Nat), i + m = s 3 + 1 → m + 400 < n → lX10_hearsMark_51 q n (nI k) (nI j) (nI b) (nI (2416 + 513 * k)) (nI i) (M q I s) = some (M q I (sM2 (sMr s k j b (mr s k j b i m)) k j b)) := by
  have h3 := hs.b3
  have h7 := hs.2.2.2.2.2.1
  have hv := hs.view hb
  intro m
  induction m with
  | zero =>
    intro i n hi hn
    obtain ⟨n, rfl⟩ : ∃ k, n = k + 1 := ⟨n - 1, by omega⟩
    have hr := r_138 (n := n) (q := q) (I := I) hs hk hj h1 hb (by omega)
    show cX10_hearsMark_51 q _ n _ _ _ _ _ _ = _
    simp (disch := omega) only [cX10_hearsMark_51, cX10_hearsMark_119, r_blockMany, bn_s, nI_leI, hr]
    rw [if_pos (by omega), if_pos (by omega)]
    rfl
  | succ m ih =>
    intro i n hi hn
    obtain ⟨n, rfl⟩ : ∃ k, n = k + 1 := ⟨n - 1, by omega⟩
    have hvi := hs.view (c := i) (by omega)
    have f10 := (hs.2.2.2.1 k hk).1.2.2.2.2.2.2.2.2.2.1 i (by omega)
    have hr1 := ih (i + 1) n (by omega) (by omega)
    have hacc := r_accuses (n := n) (q := q) (I := I) (s := s) hs.2.2.2.2.2 (c := 2) (d := j) (e := k) (f := i) (g := b) (by omega) (by omega) (by omega) (by omega) (by omega) (by omega)
    have hsA := ok_acc hs (c := 2) (d := j) (e := k) (f := i) (g := b) (by omega) (by omega) (by omega) (by omega) (by omega)
    have hr2 := r_138 (n := n) (q := q) (I := I) hsA hk hj h1 (by rw [sAcc_o (by omega) h7]; exact hb) (by omega)
    show cX10_hearsMark_51 q _ n _ _ _ _ _ _ = some (M q I (sM2 (sMr s k j b (if i ≠ b ∧ s (16 + i) = s (16 + b) ∧ s (2416 + 513 * k + 212 + i) / 2 ^ j % 2 = 1 then some i else mr s k j b (i + 1) m)) k j b))
    simp (disch := omega) only [cX10_hearsMark_51, cX10_hearsMark_119, cX10_hearsMark_110, r_blockMany, bn_s, nI_leI, li, nI_add, ck_in, nI_clamp, M_get, lt_b, nI_eq, r_has, hacc, hr1, hr2]
    rw [if_neg (by omega)]
    by_cases c1 : i = b
    · rw [if_pos c1, if_neg (by omega)]
    · rw [if_neg c1]
      by_cases c2 : s (16 + i) = s (16 + b)
      · rw [if_pos c2]
        rcases bit01 (a := s (2416 + 513 * k + 212 + i)) (j := j) with c3 | c3
        · rw [if_pos c3, if_neg (by omega)]
        · rw [if_neg (by omega), if_neg (by omega), if_pos ⟨c1, c2, c3⟩]
          rfl
      · rw [if_neg c2, if_neg (by omega)]
theorem r_HM (hs : okS s) {k j b : Nat} (hk : k < 7) (hj : j < 7) (h1 : 1 ≤ b) (hb : b ≤ s 3) (hn : 600 ≤ n) : pX10_hearsMark n q (nI k) (nI j) (nI b) (M q I s) = some (M q I (sHM s k j b)) := by
  have h3 := hs.b3
  have hv := hs.view hb
  have z0 := hs.2.2.1.1
  have z1 := hs.2.2.1.2.1
  have hl := ldr_l (s := s) (v := s (16 + b) + 1) z0
  have f10 := (hs.2.2.2.1 k hk).1.2.2.2.2.2.2.2.2.2.1 b (by omega)
  have hL := r_HML (q := q) (I := I) hs hk hj h1 hb (s 3 + 1) 0 n (by omega) (by omega)
  simp (disch := omega) only [pX10_hearsMark, r_nodeAt, bn_s, li, nI_add, ck_in, nI_clamp, M_get, r_ldr, nI_eq, r_has, hL]
  unfold sHM
  by_cases c1 : ldr s (s (16 + b) + 1) = k
  · rw [if_pos c1]
    rcases bit01 (a := s (2416 + 513 * k + 212 + b)) (j := j) with c3 | c3
    · rw [if_pos c3, if_pos ⟨c1, c3⟩]
    · rw [if_neg (by omega), if_neg (by omega)]
  · rw [if_neg c1, if_neg (fun q => c1 q.1)]
theorem c_mrL (hs : okS s) {k j b : Nat} (hk : k < 7) (hj : j < 7) (hb : b ≤ s 3) : ∀ (m i n : Nat), i + m = s 3 + 1 → m < n → lX3_markedRival_3 (w + (23 + 5 * k)) (w + 1) n (nI j) (nI b) (nI i) (C w I s h r) = some (match mr s k j b i m with | some x => nI x | none => -1) := by
  have h3 := hs.b3
  have hv := hs.view hb
  intro m
  induction m with
  | zero =>
    intro i n hi hn
    obtain ⟨n, rfl⟩ : ∃ k, n = k + 1 := ⟨n - 1, by omega⟩
    show cX3_markedRival_3 _ _ _ n _ _ _ _ = _
    simp (disch := omega) only [cX3_markedRival_3, cg_count, nI_leI]
    rw [if_pos (by omega)]
    rfl
  | succ m ih =>
    intro i n hi hn
    obtain ⟨n, rfl⟩ : ∃ k, n = k + 1 := ⟨n - 1, by omega⟩
    have hvi := hs.view (c := i) (by omega)
    have f10 := (hs.2.2.2.1 k hk).1.2.2.2.2.2.2.2.2.2.1 i (by omega)
    have hr1 := ih (i + 1) n (by omega) (by omega)
    have hbit := bit_n _ f10 j hj
    show cX3_markedRival_3 _ _ _ n _ _ _ _ = some (match (if i ≠ b ∧ s (16 + i) = s (16 + b) ∧ s (2416 + 513 * k + 212 + i) / 2 ^ j % 2 = 1 then some i else mr s k j b (i + 1) m) with | some x => nI x | none => -1)
    simp (disch := omega) only [cX3_markedRival_3, cX3_markedRival_52, cg_count, nI_leI, li, nI_add, ck_in, nI_clamp, lt_b, nI_eq, cg_view, cg_markers, hbit, hr1]
    rw [if_neg (by omega)]
    by_cases c1 : i = b
    · rw [if_pos c1, if_neg (by omega)]
    · rw [if_neg c1]
      by_cases c2 : s (16 + i) = s (16 + b)
      · rw [if_pos c2]
        rcases bit01 (a := s (2416 + 513 * k + 212 + i)) (j := j) with c3 | c3
        · rw [if_neg (by omega), if_neg (by omega)]
        · rw [if_pos c3, if_pos ⟨c1, c2, c3⟩]
      · rw [if_neg c2, if_neg (by omega)]
theorem c_HM (hs : okS s) {k j b : Nat} (hk : k < 7) (hj : j < 7) (h1 : 1 ≤ b) (hb : b ≤ s 3) (hn : 600 ≤ n) : pX8_takeMark n w (nI k) (nI j) (nI b) (C w I s h r) = some (C w I (sHM s k j b) h r) := by
  have h3 := hs.b3
  have h7 := hs.2.2.2.2.2.1
  have hv := hs.view hb
  have z0 := hs.2.2.1.1
  have z1 := hs.2.2.1.2.1
  have hl := ldr_l (s := s) (v := s (16 + b) + 1) z0
  have f10 := (hs.2.2.2.1 k hk).1.2.2.2.2.2.2.2.2.2.1 b (by omega)
  have ob := or_b _ f10 j hj
  have hp := pc_b _ ob
  have hbit := bit_n _ f10 j hj
  have hL := c_mrL (w := w) (I := I) (h := h) (r := r) hs hk hj hb (s 3) 1 n (by omega) (by omega)
  rw [← mr_0 hs h1 hb] at hL
  have ho : ∀ x, mr s k j b 0 (s 3 + 1) = some x → x ≤ s 3 := fun x hx => mr_ok _ 0 x (by omega) hx
  have hR := ok_mr hs hk hj hb ho
  have eR := fun i hi => sMr_o h7 (k := k) (i := j) (b := b) (j := i) (o := mr s k j b 0 (s 3 + 1)) hi
  have e2 : pX8_accuse n w (nI 2) (nI j) (nI k) (match mr s k j b 0 (s 3 + 1) with | some x => nI x | none => -1) (nI b) (C w I s h r) = some (C w I (sMr s k j b (mr s k j b 0 (s 3 + 1))) h r) := by
    cases hx : mr s k j b 0 (s 3 + 1) with
    | none => exact c_accN
    | some x =>
      have := ho x hx
      exact c_acc hs.2.2.2.2.2 (by omega) (by omega) (by omega) (by omega) (by omega) (by omega)
  simp (disch := omega) only [pX8_takeMark, ck_in, nI_clamp, cg_view, cg_markers, lt_b, li, hbit, nI_eq]
  unfold sHM
  rcases bit01 (a := s (2416 + 513 * k + 212 + b)) (j := j) with c3 | c3
  · rw [if_neg (by omega)]
    unfold cX8_takeMark_39
    rw [if_pos (show nI 0 = 0 from rfl)]
    simp (disch := omega) only [li, nI_add, c_leaderOf, bn_s, nI_eq]
    by_cases c1 : ldr s (s (16 + b) + 1) = k
    · rw [if_pos c1, if_pos ⟨c1, c3⟩]
      unfold pX3_markedRival
      rw [show (1 : Int32) = nI 1 from rfl, hL, bn_s, e2, bn_s]
      generalize sMr s k j b (mr s k j b 0 (s 3 + 1)) = u at *
      have f10u : u (2416 + 513 * k + 212 + b) < 128 := by rw [eR _ (by omega)]; exact f10
      have obu := or_b _ f10u j hj
      have horu := or_n _ f10u j hj
      have u3 : u 3 = s 3 := eR 3 (by omega)
      have ub : u (16 + b) = s (16 + b) := eR _ (by omega)
      have eq0 : quo (up u (2416 + 513 * k + 212 + b) (u (2416 + 513 * k + 212 + b) ||| 2 ^ j)) = quo u := by unfold quo; rw [up_o (by omega)]
      have hq : quo u ≤ 7 := by have := hR.2.2.1.1; unfold quo; omega
      have hpu := pc_b _ obu
      have u1 : okS (up u (2416 + 513 * k + 212 + b) (u (2416 + 513 * k + 212 + b) ||| 2 ^ j)) := by
        have := ok_nd hR (k := k) (d := 212 + b) (v := u (2416 + 513 * k + 212 + b) ||| 2 ^ j) hk (by omega)
        rw [← Nat.add_assoc] at this
        exact this
      simp (disch := omega) only [ck_in, nI_clamp, cg_markers, horu, cp_markers, lt_b, up_s, c_bc, bn_s]
      rw [c_quo u1.2.2.1.1, bn_s, eq0]
      unfold sM2 sCert
      generalize eu : up u (2416 + 513 * k + 212 + b) (u (2416 + 513 * k + 212 + b) ||| 2 ^ j) = t at *
      have t3 : t 3 = s 3 := by rw [← eu, up_o (by omega), u3]
      have tb : t (16 + b) = s (16 + b) := by rw [← eu, up_o (by omega), ub]
      have t8 : t 8 ≤ 100 := u1.2.2.1.2.2.2
      simp (disch := omega) only [nI_eq]
      by_cases d1 : pcn (u (2416 + 513 * k + 212 + b) ||| 2 ^ j) = quo u
      · rw [if_pos d1, if_pos d1]
        have c2 := ok_tell (ok_cert u1 (b := b) (by omega)) 2 k b
        have e3 : sTell (up t (716 + b) 1) 2 k b 3 = t 3 := by rw [sTellUp_o t8 (by omega) (by omega), up_o (by omega)]
        have hc2 : b ≤ sTell (up t (716 + b) 1) 2 k b 3 := by omega
        have l2 := ok_learn c2 hk hc2
        have ht := c_tell (n := n) (w := w) (I := I) (h := h) (r := r) (s := up t (716 + b) 1) (a := 2) (b := k) (c := b) (by rw [up_o (by omega)]; exact t8)
        rw [cp_cert (by omega) (by omega), show (-nI 1 : Int32) = -1 from rfl, ht, bn_s, c_learn c2 hk hc2 (by omega), bn_s, cg_mview hk, c_go hk (by omega) (l2.2.2.2.1 k hk).1.2.1, tb]
      · rw [if_neg d1, if_neg d1]
    · rw [if_neg c1, if_neg (fun q => c1 q.1)]
  · rw [if_pos c3, if_neg (by omega)]
    unfold cX8_takeMark_39
    rw [if_neg (show ¬ nI 1 = 0 by decide)]
theorem r_prove (hs : okS s) {k v : Nat} (hk : k < 7) (hv : v ≤ 200) : pX10_proves n q (nI k) (nI v) (M q I s) = some (M q I (sProve s k v)) := by
  have h8 := hs.2.2.1.2.2.2
  have f7 := (hs.2.2.2.1 k hk).1.2.2.2.2.2.2.2.1
  have e36 : ∀ t, okS t → cX10_proves_36 q n (nI k) (nI v) (M q I t) = some (M q I (sGo t k (v + 1))) := by
    intro t ht
    unfold cX10_proves_36
    rw [r_viewOf hk, bn_s, show (1 : Int32) = nI 1 from rfl, nI_add]
    exact r_go hk (by omega) (ht.2.2.2.1 k hk).1.2.1
  have hs2 : okS (up s (2416 + 513 * k + 7) v) := ok_nd hs (d := 7) hk (by omega)
  have a1 := e36 _ hs
  have a2 := e36 _ (ok_tell hs2 5 k v)
  have ht := r_tells (n := n) (q := q) (I := I) (s := up s (2416 + 513 * k + 7) v) (a := 5) (b := k) (c := v) hs2.2.2.1.2.2.2
  simp (disch := omega) only [pX10_proves, r_nodeAt, bn_s, li, nI_add, ck_in, nI_clamp, M_get, lt_b, M_put, nI_leI, ht, a1, a2]
  unfold sProve
  split <;> rfl
theorem r_HT (hs : okS s) {k j v c : Nat} (hk : k < 7) (hj : j < 7) (hv : v ≤ 200) (hc : c ≤ s 3) (hn : 300 ≤ n) : pX10_hearsTimeout n q (nI k) (nI j) (nI v) (nI c) (M q I s) = some (M q I (sHT s k j v c)) := by
  have l1 := ok_learn hs hk hc
  unfold pX10_hearsTimeout sHT
  rw [r_nodeAt, bn_s, r_learns hs hk hc hn, bn_s]
  generalize sLearn s k c = t at *
  have f11 := (l1.2.2.2.1 k hk).1.2.2.2.2.2.2.2.2.2.2 v hv
  have ob := or_b _ f11 j hj
  have hor := or_n _ f11 j hj
  have hp := pc_b _ ob
  have z0 := l1.2.2.1.1
  have hq : quo t ≤ 7 := by unfold quo; omega
  have eq0 : quo (up t (2416 + 513 * k + 312 + v) (t (2416 + 513 * k + 312 + v) ||| 2 ^ j)) = quo t := by unfold quo; rw [up_o (by omega)]
  have u1 : okS (up t (2416 + 513 * k + 312 + v) (t (2416 + 513 * k + 312 + v) ||| 2 ^ j)) := by
    have := ok_nd l1 (k := k) (d := 312 + v) (v := t (2416 + 513 * k + 312 + v) ||| 2 ^ j) hk (by omega)
    rw [← Nat.add_assoc] at this
    exact this
  have hP := r_prove (n := n) (q := q) (I := I) u1 hk hv
  have hQ := r_quo (n := n) (q := q) (I := I) u1.2.2.1.1
  rw [eq0] at hQ
  simp (disch := omega) only [li, nI_add, ck_in, nI_clamp, M_get, r_has, bn_s, lt_b, hor, M_put, up_s, r_onesOf, hQ, nI_eq, hP]
  unfold sT3
  by_cases c3 : t (2416 + 513 * k + 312 + v) / 2 ^ j % 2 = 0
  · rw [if_pos c3, if_pos c3]
    split <;> rfl
  · rw [if_neg c3, if_neg c3]
theorem c_HT (hs : okS s) {k j v c : Nat} (hk : k < 7) (hj : j < 7) (hv : v ≤ 200) (hc : c ≤ s 3) (hn : 300 ≤ n) : pX8_takeTimeout n w (nI k) (nI j) (nI v) (nI c) (C w I s h r) = some (C w I (sHT s k j v c) h r) := by
  have l1 := ok_learn hs hk hc
  unfold pX8_takeTimeout sHT
  rw [ck_in (by omega) (by omega), c_learn hs hk hc hn, bn_s]
  generalize sLearn s k c = t at *
  have f11 := (l1.2.2.2.1 k hk).1.2.2.2.2.2.2.2.2.2.2 v hv
  have f7 := (l1.2.2.2.1 k hk).1.2.2.2.2.2.2.2.1
  have ob := or_b _ f11 j hj
  have hor := or_n _ f11 j hj
  have hbit := bit_n _ f11 j hj
  have hp := pc_b _ ob
  have z0 := l1.2.2.1.1
  have hq : quo t ≤ 7 := by unfold quo; omega
  have eq0 : quo (up t (2416 + 513 * k + 312 + v) (t (2416 + 513 * k + 312 + v) ||| 2 ^ j)) = quo t := by unfold quo; rw [up_o (by omega)]
  have e7 : up t (2416 + 513 * k + 312 + v) (t (2416 + 513 * k + 312 + v) ||| 2 ^ j) (2416 + 513 * k + 7) = t (2416 + 513 * k + 7) := up_o (by omega)
  have u1 : okS (up t (2416 + 513 * k + 312 + v) (t (2416 + 513 * k + 312 + v) ||| 2 ^ j)) := by
    have := ok_nd l1 (k := k) (d := 312 + v) (v := t (2416 + 513 * k + 312 + v) ||| 2 ^ j) hk (by omega)
    rw [← Nat.add_assoc] at this
    exact this
  have hQ := c_quo (n := n) (w := w) (I := I) (h := h) (r := r) u1.2.2.1.1
  rw [eq0] at hQ
  simp (disch := omega) only [ck_in, nI_clamp, cg_timers, li, hbit, nI_eq, hor, cp_timers, lt_b, up_s, c_bc, bn_s, hQ, cg_proof, e7, nI_leI]
  unfold sT3
  rcases bit01 (a := t (2416 + 513 * k + 312 + v)) (j := j) with c3 | c3
  · rw [if_neg (by omega), if_pos c3]
    by_cases c4 : pcn (t (2416 + 513 * k + 312 + v) ||| 2 ^ j) = quo t
    · rw [if_pos c4, if_pos c4]
      unfold sProve
      rw [e7]
      generalize up t (2416 + 513 * k + 312 + v) (t (2416 + 513 * k + 312 + v) ||| 2 ^ j) = u at *
      have e89 : ∀ x, okS x → cX8_takeTimeout_89 w n (nI v) (w + (23 + 5 * k)) (C w I x h r) = some (C w I (sGo x k (v + 1)) h r) := by
        intro x hx
        unfold cX8_takeTimeout_89
        rw [cg_mview hk, show (1 : Int32) = nI 1 from rfl, nI_add, c_go hk (by omega) (hx.2.2.2.1 k hk).1.2.1]
        rfl
      by_cases c5 : v ≤ t (2416 + 513 * k + 7)
      · rw [if_pos c5, if_pos c5]
        exact e89 _ u1
      · rw [if_neg c5, if_neg c5]
        have u2 : okS (up u (2416 + 513 * k + 7) v) := ok_nd u1 (d := 7) hk (by omega)
        have ht := c_tell (n := n) (w := w) (I := I) (h := h) (r := r) (s := up u (2416 + 513 * k + 7) v) (a := 5) (b := k) (c := v) u2.2.2.1.2.2.2
        rw [cp_proof hk, show (-nI 1 : Int32) = -1 from rfl, ht, bn_s]
        exact e89 _ (ok_tell u2 5 k v)
    · rw [if_neg c4, if_neg c4]
  · rw [if_pos c3, if_neg (by omega)]
end Mk
