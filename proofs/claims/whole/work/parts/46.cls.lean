/-! THE CLASS'S WORLD at w, out of the same row s: C w I s h r (h the ring's head, r the ring) -/
def src (o j : Nat) : Option Nat :=
  if o = 0 then (if j < 3 then some j else none)
  else if o = 1 then (if j = 0 then some 3 else none)
  else if o ≤ 9 then (if j < 100 then some (16 + 100 * (o - 2) + j) else none)
  else if o = 11 then (if j = 0 then some 4 else if j = 2 then some 5 else if j = 3 then some 10 else if j = 4 then some 6 else none)
  else if o = 13 then (if j < 7 then some (2416 + 513 * j + 11) else none)
  else if o = 14 then (if j = 1 then some 7 else none)
  else if o = 15 then (if j < 300 then some (1816 + j) else none)
  else if o = 16 then (if j = 1 then some 8 else none)
  else if o = 17 then (if j < 500 then (if j % 5 < 3 then some (2116 + 3 * (j / 5) + j % 5) else some 8) else none)
  else if o = 18 then (if j = 1 then some 9 else none)
  else if o < 23 then none
  else if (o - 23) % 5 = 0 then (if j < 8 then some (2416 + 513 * ((o - 23) / 5) + j) else if j = 8 then some (2416 + 513 * ((o - 23) / 5) + 9) else if j = 9 then some (2416 + 513 * ((o - 23) / 5) + 8) else if j = 10 then some (2416 + 513 * ((o - 23) / 5) + 10) else none)
  else if (o - 23) % 5 = 1 then (if j < 100 then some (2416 + 513 * ((o - 23) / 5) + 12 + j) else none)
  else if (o - 23) % 5 = 2 then (if j < 100 then some (2416 + 513 * ((o - 23) / 5) + 112 + j) else none)
  else if (o - 23) % 5 = 3 then (if j < 100 then some (2416 + 513 * ((o - 23) / 5) + 212 + j) else none)
  else (if j < 201 then some (2416 + 513 * ((o - 23) / 5) + 312 + j) else none)
def srd (k : Nat) : Nat × Nat :=
  if k < 3 then (0, k) else if k = 3 then (1, 0) else if k = 4 then (11, 0) else if k = 5 then (11, 2) else if k = 6 then (11, 4) else if k = 7 then (14, 1) else if k = 9 then (18, 1) else if k = 10 then (11, 3)
  else if k < 816 then (2 + (k - 16) / 100, (k - 16) % 100) else if k < 2116 then (15, k - 1816) else if k < 2416 then (17, (k - 2116) / 3 * 5 + (k - 2116) % 3)
  else if (k - 2416) % 513 < 8 then (23 + 5 * ((k - 2416) / 513), (k - 2416) % 513)
  else if (k - 2416) % 513 = 8 then (23 + 5 * ((k - 2416) / 513), 9)
  else if (k - 2416) % 513 = 9 then (23 + 5 * ((k - 2416) / 513), 8)
  else if (k - 2416) % 513 = 10 then (23 + 5 * ((k - 2416) / 513), 10)
  else if (k - 2416) % 513 = 11 then (13, (k - 2416) / 513)
  else if (k - 2416) % 513 < 112 then (24 + 5 * ((k - 2416) / 513), (k - 2416) % 513 - 12)
  else if (k - 2416) % 513 < 212 then (25 + 5 * ((k - 2416) / 513), (k - 2416) % 513 - 112)
  else if (k - 2416) % 513 < 312 then (26 + 5 * ((k - 2416) / 513), (k - 2416) % 513 - 212)
  else (27 + 5 * ((k - 2416) / 513), (k - 2416) % 513 - 312)
def vl (o j x : Nat) : Int32 :=
  if o = 3 ∨ o = 6 then (if x = 0 then (if j = 0 then (-1 : Int32) else (0 : Int32)) else nI (x - 1))
  else if o = 9 ∧ j = 0 then (1 : Int32)
  else if o = 0 ∧ j = 0 then nI (x + 4)
  else if o = 1 then nI (x + 1)
  else if 23 ≤ o ∧ (o - 23) % 5 = 0 ∧ (j = 1 ∨ j = 9) then nI (x + 1)
  else if o = 17 ∧ 3 ≤ j % 5 then (if j / 5 < x then (-1 : Int32) else (0 : Int32))
  else nI x
def C (w : Nat) (I : ev_I) (s : Nat → Nat) (h : Nat) (r : Nat → Int32) : ev_I := fun a j =>
  if w ≤ a ∧ a < w + 58 then (match src (a - w) j with
    | some k => vl (a - w) j (s k)
    | none => if a = w + 11 ∧ j = 1 then nI h else if a = w + 12 ∧ j < 200 then r j else if a = w + 14 ∧ j = 0 then nI 60 else if a = w + 16 ∧ j = 0 then nI 100 else I a j) else I a j
set_option maxHeartbeats 4000000 in
theorem srd_e {o j k : Nat} (ho : o < 58) (h : src o j = some k) (hk : k ≠ 8) : srd k = (o, j) := by
  unfold src at h
  by_cases c0 : o = 0
  · rw [if_pos c0] at h
    by_cases d : j < 3
    · rw [if_pos d] at h; injection h with h; subst h; unfold srd; rw [if_pos d, c0]
    · rw [if_neg d] at h; cases h
  rw [if_neg c0] at h
  by_cases c1 : o = 1
  · rw [if_pos c1] at h
    by_cases d : j = 0
    · rw [if_pos d] at h; injection h with h; subst h; rw [c1, d]; rfl
    · rw [if_neg d] at h; cases h
  rw [if_neg c1] at h
  by_cases c2 : o ≤ 9
  · rw [if_pos c2] at h
    by_cases d : j < 100
    · rw [if_pos d] at h; injection h with h; subst h; unfold srd
      rw [if_neg (by omega), if_neg (by omega), if_neg (by omega), if_neg (by omega), if_neg (by omega), if_neg (by omega), if_neg (by omega), if_neg (by omega), if_pos (by omega)]
      exact Prod.ext (by dsimp only; omega) (by dsimp only; omega)
    · rw [if_neg d] at h; cases h
  rw [if_neg c2] at h
  by_cases c3 : o = 11
  · rw [if_pos c3] at h
    by_cases d : j = 0
    · rw [if_pos d] at h; injection h with h; subst h; rw [c3, d]; rfl
    rw [if_neg d] at h
    by_cases d : j = 2
    · rw [if_pos d] at h; injection h with h; subst h; rw [c3, d]; rfl
    rw [if_neg d] at h
    by_cases d : j = 3
    · rw [if_pos d] at h; injection h with h; subst h; rw [c3, d]; rfl
    rw [if_neg d] at h
    by_cases d : j = 4
    · rw [if_pos d] at h; injection h with h; subst h; rw [c3, d]; rfl
    rw [if_neg d] at h; cases h
  rw [if_neg c3] at h
  by_cases c4 : o = 13
  · rw [if_pos c4] at h
    by_cases d : j < 7
    · rw [if_pos d] at h; injection h with h; subst h; unfold srd
      rw [if_neg (by omega), if_neg (by omega), if_neg (by omega), if_neg (by omega), if_neg (by omega), if_neg (by omega), if_neg (by omega), if_neg (by omega), if_neg (by omega), if_neg (by omega), if_neg (by omega), if_neg (by omega), if_neg (by omega), if_neg (by omega), if_neg (by omega), if_pos (by omega)]
      exact Prod.ext (by dsimp only; omega) (by dsimp only; omega)
    · rw [if_neg d] at h; cases h
  rw [if_neg c4] at h
  by_cases c5 : o = 14
  · rw [if_pos c5] at h
    by_cases d : j = 1
    · rw [if_pos d] at h; injection h with h; subst h; rw [c5, d]; rfl
    · rw [if_neg d] at h; cases h
  rw [if_neg c5] at h
  by_cases c6 : o = 15
  · rw [if_pos c6] at h
    by_cases d : j < 300
    · rw [if_pos d] at h; injection h with h; subst h; unfold srd
      rw [if_neg (by omega), if_neg (by omega), if_neg (by omega), if_neg (by omega), if_neg (by omega), if_neg (by omega), if_neg (by omega), if_neg (by omega), if_neg (by omega), if_pos (by omega)]
      exact Prod.ext (by dsimp only; omega) (by dsimp only; omega)
    · rw [if_neg d] at h; cases h
  rw [if_neg c6] at h
  by_cases c7 : o = 16
  · rw [if_pos c7] at h
    by_cases d : j = 1
    · rw [if_pos d] at h; injection h with h; exact absurd h.symm hk
    · rw [if_neg d] at h; cases h
  rw [if_neg c7] at h
  by_cases c8 : o = 17
  · rw [if_pos c8] at h
    by_cases d : j < 500
    · rw [if_pos d] at h
      by_cases d2 : j % 5 < 3
      · rw [if_pos d2] at h; injection h with h; subst h; unfold srd
        rw [if_neg (by omega), if_neg (by omega), if_neg (by omega), if_neg (by omega), if_neg (by omega), if_neg (by omega), if_neg (by omega), if_neg (by omega), if_neg (by omega), if_neg (by omega), if_pos (by omega)]
        exact Prod.ext (by dsimp only; omega) (by dsimp only; omega)
      · rw [if_neg d2] at h; injection h with h; exact absurd h.symm hk
    · rw [if_neg d] at h; cases h
  rw [if_neg c8] at h
  by_cases c9 : o = 18
  · rw [if_pos c9] at h
    by_cases d : j = 1
    · rw [if_pos d] at h; injection h with h; subst h; rw [c9, d]; rfl
    · rw [if_neg d] at h; cases h
  rw [if_neg c9] at h
  by_cases c10 : o < 23
  · rw [if_pos c10] at h; cases h
  rw [if_neg c10] at h
  have sk : ∀ d : Nat, d < 513 → ∀ y : Nat × Nat, (if d < 8 then (23 + 5 * ((o - 23) / 5), d) else if d = 8 then (23 + 5 * ((o - 23) / 5), 9) else if d = 9 then (23 + 5 * ((o - 23) / 5), 8) else if d = 10 then (23 + 5 * ((o - 23) / 5), 10) else if d = 11 then (13, (o - 23) / 5) else if d < 112 then (24 + 5 * ((o - 23) / 5), d - 12) else if d < 212 then (25 + 5 * ((o - 23) / 5), d - 112) else if d < 312 then (26 + 5 * ((o - 23) / 5), d - 212) else (27 + 5 * ((o - 23) / 5), d - 312)) = y → srd (2416 + 513 * ((o - 23) / 5) + d) = y := by
    intro d hd y hy
    have e1 : (2416 + 513 * ((o - 23) / 5) + d - 2416) % 513 = d := by omega
    have e2 : (2416 + 513 * ((o - 23) / 5) + d - 2416) / 513 = (o - 23) / 5 := by omega
    unfold srd
    rw [if_neg (by omega), if_neg (by omega), if_neg (by omega), if_neg (by omega), if_neg (by omega), if_neg (by omega), if_neg (by omega), if_neg (by omega), if_neg (by omega), if_neg (by omega), if_neg (by omega), e1, e2]
    exact hy
  by_cases m0 : (o - 23) % 5 = 0
  · rw [if_pos m0] at h
    by_cases d : j < 8
    · rw [if_pos d] at h; injection h with h; subst h
      exact sk j (by omega) _ (by rw [if_pos d]; exact Prod.ext (by dsimp only; omega) rfl)
    rw [if_neg d] at h
    by_cases d : j = 8
    · rw [if_pos d] at h; injection h with h; subst h
      exact sk 9 (by omega) _ (by subst d; exact Prod.ext (show 23 + 5 * ((o - 23) / 5) = o by omega) rfl)
    rw [if_neg d] at h
    by_cases d : j = 9
    · rw [if_pos d] at h; injection h with h; subst h
      exact sk 8 (by omega) _ (by subst d; exact Prod.ext (show 23 + 5 * ((o - 23) / 5) = o by omega) rfl)
    rw [if_neg d] at h
    by_cases d : j = 10
    · rw [if_pos d] at h; injection h with h; subst h
      exact sk 10 (by omega) _ (by subst d; exact Prod.ext (show 23 + 5 * ((o - 23) / 5) = o by omega) rfl)
    rw [if_neg d] at h; cases h
  rw [if_neg m0] at h
  by_cases m1 : (o - 23) % 5 = 1
  · rw [if_pos m1] at h
    by_cases d : j < 100
    · rw [if_pos d] at h; injection h with h; subst h
      rw [Nat.add_assoc _ 12 j]
      exact sk (12 + j) (by omega) _ (by rw [if_neg (by omega), if_neg (by omega), if_neg (by omega), if_neg (by omega), if_neg (by omega), if_pos (by omega)]; exact Prod.ext (by dsimp only; omega) (by dsimp only; omega))
    · rw [if_neg d] at h; cases h
  rw [if_neg m1] at h
  by_cases m2 : (o - 23) % 5 = 2
  · rw [if_pos m2] at h
    by_cases d : j < 100
    · rw [if_pos d] at h; injection h with h; subst h
      rw [Nat.add_assoc _ 112 j]
      exact sk (112 + j) (by omega) _ (by rw [if_neg (by omega), if_neg (by omega), if_neg (by omega), if_neg (by omega), if_neg (by omega), if_neg (by omega), if_pos (by omega)]; exact Prod.ext (by dsimp only; omega) (by dsimp only; omega))
    · rw [if_neg d] at h; cases h
  rw [if_neg m2] at h
  by_cases m3 : (o - 23) % 5 = 3
  · rw [if_pos m3] at h
    by_cases d : j < 100
    · rw [if_pos d] at h; injection h with h; subst h
      rw [Nat.add_assoc _ 212 j]
      exact sk (212 + j) (by omega) _ (by rw [if_neg (by omega), if_neg (by omega), if_neg (by omega), if_neg (by omega), if_neg (by omega), if_neg (by omega), if_neg (by omega), if_pos (by omega)]; exact Prod.ext (by dsimp only; omega) (by dsimp only; omega))
    · rw [if_neg d] at h; cases h
  rw [if_neg m3] at h
  by_cases d : j < 201
  · rw [if_pos d] at h; injection h with h; subst h
    rw [Nat.add_assoc _ 312 j]
    exact sk (312 + j) (by omega) _ (by rw [if_neg (by omega), if_neg (by omega), if_neg (by omega), if_neg (by omega), if_neg (by omega), if_neg (by omega), if_neg (by omega), if_neg (by omega)]; exact Prod.ext (by dsimp only; omega) (by dsimp only; omega))
  · rw [if_neg d] at h; cases h
section Cw
variable {w : Nat} {I : ev_I} {s : Nat → Nat} {h : Nat} {r : Nat → Int32}
theorem C_get {o j k : Nat} (ho : o < 58) (hs : src o j = some k) : C w I s h r (w + o) j = vl o j (s k) := by
  unfold C
  rw [if_pos (by omega), Nat.add_sub_cancel_left, hs]
theorem C_out {a j : Nat} (ha : a < w ∨ w + 58 ≤ a) : C w I s h r a j = I a j := by
  unfold C
  rw [if_neg (by omega)]
theorem C_put {o j k v : Nat} {x : Int32} (ho : o < 58) (hs : src o j = some k) (hk : k ≠ 8) (hv : vl o j v = x) : ev_u2 (C w I s h r) (w + o) j x = C w I (up s k v) h r := by
  funext a i
  unfold ev_u2
  by_cases c : a = w + o ∧ i = j
  · rw [if_pos c]
    obtain ⟨rfl, rfl⟩ := c
    rw [C_get ho hs, up_s, hv]
  · rw [if_neg c]
    by_cases b : w ≤ a ∧ a < w + 58
    · cases hs' : src (a - w) i with
      | none => unfold C; rw [if_pos b, if_pos b, hs']
      | some k' =>
        have : k' ≠ k := fun ek => by
          subst ek
          have e1 := srd_e (by omega) hs' hk
          have e2 := srd_e ho hs hk
          rw [e1] at e2
          injection e2 with e3 e4
          exact c ⟨by omega, e4⟩
        unfold C
        rw [if_pos b, if_pos b, hs']
        show vl (a - w) i (s k') = vl (a - w) i (up s k v k')
        rw [up_o this]
    · unfold C; rw [if_neg b, if_neg b]
end Cw
