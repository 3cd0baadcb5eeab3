/-! READING AND WRITING THE CLASS'S WORLD -/
theorem src_m0 {k j : Nat} : src (23 + 5 * k) j = (if j < 8 then some (2416 + 513 * k + j) else if j = 8 then some (2416 + 513 * k + 9) else if j = 9 then some (2416 + 513 * k + 8) else if j = 10 then some (2416 + 513 * k + 10) else none) := by
  unfold src
  rw [if_neg (by omega), if_neg (by omega), if_neg (by omega), if_neg (by omega), if_neg (by omega), if_neg (by omega), if_neg (by omega), if_neg (by omega), if_neg (by omega), if_neg (by omega), if_neg (by omega), if_pos (by omega), show (23 + 5 * k - 23) / 5 = k by omega]
theorem src_m1 {k j : Nat} (hj : j < 100) : src (23 + 5 * k + 1) j = some (2416 + 513 * k + 12 + j) := by
  unfold src
  rw [if_neg (by omega), if_neg (by omega), if_neg (by omega), if_neg (by omega), if_neg (by omega), if_neg (by omega), if_neg (by omega), if_neg (by omega), if_neg (by omega), if_neg (by omega), if_neg (by omega), if_neg (by omega), if_pos (by omega), if_pos hj, show (23 + 5 * k + 1 - 23) / 5 = k by omega]
theorem src_m2 {k j : Nat} (hj : j < 100) : src (23 + 5 * k + 2) j = some (2416 + 513 * k + 112 + j) := by
  unfold src
  rw [if_neg (by omega), if_neg (by omega), if_neg (by omega), if_neg (by omega), if_neg (by omega), if_neg (by omega), if_neg (by omega), if_neg (by omega), if_neg (by omega), if_neg (by omega), if_neg (by omega), if_neg (by omega), if_neg (by omega), if_pos (by omega), if_pos hj, show (23 + 5 * k + 2 - 23) / 5 = k by omega]
theorem src_m3 {k j : Nat} (hj : j < 100) : src (23 + 5 * k + 3) j = some (2416 + 513 * k + 212 + j) := by
  unfold src
  rw [if_neg (by omega), if_neg (by omega), if_neg (by omega), if_neg (by omega), if_neg (by omega), if_neg (by omega), if_neg (by omega), if_neg (by omega), if_neg (by omega), if_neg (by omega), if_neg (by omega), if_neg (by omega), if_neg (by omega), if_neg (by omega), if_pos (by omega), if_pos hj, show (23 + 5 * k + 3 - 23) / 5 = k by omega]
theorem src_m4 {k j : Nat} (hj : j < 201) : src (23 + 5 * k + 4) j = some (2416 + 513 * k + 312 + j) := by
  unfold src
  rw [if_neg (by omega), if_neg (by omega), if_neg (by omega), if_neg (by omega), if_neg (by omega), if_neg (by omega), if_neg (by omega), if_neg (by omega), if_neg (by omega), if_neg (by omega), if_neg (by omega), if_neg (by omega), if_neg (by omega), if_neg (by omega), if_neg (by omega), if_pos hj, show (23 + 5 * k + 4 - 23) / 5 = k by omega]
theorem vl_m {o j x : Nat} (ho : 23 ≤ o) (h : (o - 23) % 5 ≠ 0 ∨ (j ≠ 1 ∧ j ≠ 9)) : vl o j x = nI x := by
  unfold vl
  rw [if_neg (by omega), if_neg (by omega), if_neg (by omega), if_neg (by omega), if_neg (by omega), if_neg (by omega)]
theorem vl_m1 {o j x : Nat} (ho : 23 ≤ o) (h : (o - 23) % 5 = 0) (hj : j = 1 ∨ j = 9) : vl o j x = nI (x + 1) := by
  unfold vl
  rw [if_neg (by omega), if_neg (by omega), if_neg (by omega), if_neg (by omega), if_pos (by omega)]
theorem vl_n {o j x : Nat} (ho : o < 23) (h : o ≠ 3 ∧ o ≠ 6 ∧ ¬ (o = 9 ∧ j = 0) ∧ ¬ (o = 0 ∧ j = 0) ∧ o ≠ 1 ∧ ¬ (o = 17 ∧ 3 ≤ j % 5)) : vl o j x = nI x := by
  unfold vl
  rw [if_neg (by omega), if_neg (by omega), if_neg (by omega), if_neg (by omega), if_neg (by omega), if_neg (by omega)]
section Cg
variable {w : Nat} {I : ev_I} {s : Nat → Nat} {h : Nat} {r : Nat → Int32}
theorem cg_size : C w I s h r w 0 = nI (s 0 + 4) := C_get (o := 0) (by omega) rfl
theorem cp_size {v : Nat} (hv : 4 ≤ v) : ev_u2 (C w I s h r) w 0 (nI v) = C w I (up s 0 (v - 4)) h r := C_put (o := 0) (by omega) rfl (by omega) (show nI (v - 4 + 4) = nI v by rw [Nat.sub_add_cancel hv])
theorem cg_rule : C w I s h r w 1 = nI (s 1) := C_get (o := 0) (by omega) rfl
theorem cp_rule {v : Nat} : ev_u2 (C w I s h r) w 1 (nI v) = C w I (up s 1 v) h r := C_put (o := 0) (by omega) rfl (by omega) rfl
theorem cg_draws : C w I s h r w 2 = nI (s 2) := C_get (o := 0) (by omega) rfl
theorem cp_draws {v : Nat} : ev_u2 (C w I s h r) w 2 (nI v) = C w I (up s 2 v) h r := C_put (o := 0) (by omega) rfl (by omega) rfl
theorem cg_count : C w I s h r (w + 1) 0 = nI (s 3 + 1) := C_get (o := 1) (by omega) rfl
theorem cp_count {v : Nat} (hv : 1 ≤ v) : ev_u2 (C w I s h r) (w + 1) 0 (nI v) = C w I (up s 3 (v - 1)) h r := C_put (o := 1) (by omega) rfl (by omega) (show nI (v - 1 + 1) = nI v by rw [Nat.sub_add_cancel hv])
theorem cg_nc : C w I s h r (w + 11) 0 = nI (s 4) := C_get (o := 11) (by omega) rfl
theorem cp_nc {v : Nat} : ev_u2 (C w I s h r) (w + 11) 0 (nI v) = C w I (up s 4 v) h r := C_put (o := 11) (by omega) rfl (by omega) rfl
theorem cg_lost : C w I s h r (w + 11) 2 = nI (s 5) := C_get (o := 11) (by omega) rfl
theorem cp_lost {v : Nat} : ev_u2 (C w I s h r) (w + 11) 2 (nI v) = C w I (up s 5 v) h r := C_put (o := 11) (by omega) rfl (by omega) rfl
theorem cg_coff : C w I s h r (w + 11) 3 = nI (s 10) := C_get (o := 11) (by omega) rfl
theorem cp_coff {v : Nat} : ev_u2 (C w I s h r) (w + 11) 3 (nI v) = C w I (up s 10 v) h r := C_put (o := 11) (by omega) rfl (by omega) rfl
theorem cg_deliv : C w I s h r (w + 11) 4 = nI (s 6) := C_get (o := 11) (by omega) rfl
theorem cp_deliv {v : Nat} : ev_u2 (C w I s h r) (w + 11) 4 (nI v) = C w I (up s 6 v) h r := C_put (o := 11) (by omega) rfl (by omega) rfl
theorem cg_evc : C w I s h r (w + 14) 1 = nI (s 7) := C_get (o := 14) (by omega) rfl
theorem cp_evc {v : Nat} : ev_u2 (C w I s h r) (w + 14) 1 (nI v) = C w I (up s 7 v) h r := C_put (o := 14) (by omega) rfl (by omega) rfl
theorem cg_ran : C w I s h r (w + 18) 1 = nI (s 9) := C_get (o := 18) (by omega) rfl
theorem cp_ran {v : Nat} : ev_u2 (C w I s h r) (w + 18) 1 (nI v) = C w I (up s 9 v) h r := C_put (o := 18) (by omega) rfl (by omega) rfl
theorem cg_vnc : C w I s h r (w + 16) 1 = nI (s 8) := C_get (o := 16) (by omega) rfl
theorem cg_lim1 : C w I s h r (w + 14) 0 = nI 60 := by
  unfold C
  rw [if_pos (by omega), Nat.add_sub_cancel_left]
  show (if w + 14 = w + 11 ∧ (0 : Nat) = 1 then _ else _) = _
  rw [if_neg (by omega), if_neg (by omega), if_pos (by omega)]
theorem cg_lim2 : C w I s h r (w + 16) 0 = nI 100 := by
  unfold C
  rw [if_pos (by omega), Nat.add_sub_cancel_left]
  show (if w + 16 = w + 11 ∧ (0 : Nat) = 1 then _ else _) = _
  rw [if_neg (by omega), if_neg (by omega), if_neg (by omega), if_pos (by omega)]
theorem cg_head : C w I s h r (w + 11) 1 = nI h := by
  unfold C
  rw [if_pos (by omega), Nat.add_sub_cancel_left]
  show (if w + 11 = w + 11 ∧ (1 : Nat) = 1 then _ else _) = _
  rw [if_pos (by omega)]
theorem src_12 {j : Nat} : src 12 j = none := rfl
theorem cg_ring {j : Nat} (hj : j < 200) : C w I s h r (w + 11 + 1) j = r j := by
  show C w I s h r (w + 12) j = r j
  unfold C
  rw [if_pos (by omega), Nat.add_sub_cancel_left, src_12]
  show (if w + 12 = w + 11 ∧ j = 1 then _ else _) = _
  rw [if_neg (by omega), if_pos (by omega)]
def upr (r : Nat → Int32) (k : Nat) (v : Int32) : Nat → Int32 := fun j => if j = k then v else r j
theorem upr_s {r : Nat → Int32} {k : Nat} {v : Int32} : upr r k v k = v := if_pos rfl
theorem upr_o {r : Nat → Int32} {j k : Nat} {v : Int32} (h : j ≠ k) : upr r k v j = r j := if_neg h
theorem cp_head {v : Nat} : ev_u2 (C w I s h r) (w + 11) 1 (nI v) = C w I s v r := by
  funext a i
  unfold ev_u2
  by_cases c : a = w + 11 ∧ i = 1
  · rw [if_pos c]; obtain ⟨rfl, rfl⟩ := c; rw [cg_head]
  · rw [if_neg c]; unfold C
    by_cases b : w ≤ a ∧ a < w + 58
    · rw [if_pos b, if_pos b, if_neg c, if_neg c]
    · rw [if_neg b, if_neg b]
theorem cp_ring {j : Nat} {v : Int32} (hj : j < 200) : ev_u2 (C w I s h r) (w + 11 + 1) j v = C w I s h (upr r j v) := by
  show ev_u2 (C w I s h r) (w + 12) j v = _
  funext a i
  unfold ev_u2
  by_cases c : a = w + 12 ∧ i = j
  · rw [if_pos c]; obtain ⟨rfl, rfl⟩ := c; exact (cg_ring (r := upr r i v) hj).symm ▸ upr_s.symm
  · rw [if_neg c]; unfold C
    by_cases b : w ≤ a ∧ a < w + 58
    · rw [if_pos b, if_pos b]
      cases src (a - w) i with
      | some k => rfl
      | none =>
        show (if a = w + 11 ∧ i = 1 then nI h else _) = (if a = w + 11 ∧ i = 1 then nI h else _)
        by_cases d : a = w + 11 ∧ i = 1
        · rw [if_pos d, if_pos d]
        · rw [if_neg d, if_neg d]
          by_cases e : a = w + 12 ∧ i < 200
          · rw [if_pos e, if_pos e, upr_o (by omega)]
          · rw [if_neg e, if_neg e]
    · rw [if_neg b, if_neg b]
theorem src_b2 {b : Nat} (hb : b < 100) : src 2 b = some (16 + b) := by
  unfold src
  rw [if_neg (by omega), if_neg (by omega), if_pos (by omega), if_pos hb]
theorem cg_view {b : Nat} (hb : b < 100) : C w I s h r (w + 1 + 1) b = nI (s (16 + b)) := (C_get (o := 2) (by omega) (src_b2 hb)).trans (vl_n (by omega) (by omega))
theorem cp_view {b v : Nat} (hb : b < 100) : ev_u2 (C w I s h r) (w + 1 + 1) b (nI v) = C w I (up s (16 + b) v) h r := C_put (o := 2) (by omega) (src_b2 hb) (by omega) (vl_n (by omega) (by omega))
theorem src_b3 {b : Nat} (hb : b < 100) : src 3 b = some (116 + b) := by
  unfold src
  rw [if_neg (by omega), if_neg (by omega), if_pos (by omega), if_pos hb]
theorem vl_parent {b x : Nat} : vl 3 b x = (if x = 0 then (if b = 0 then (-1 : Int32) else (0 : Int32)) else nI (x - 1)) := by
  unfold vl
  rw [if_pos (by omega)]
theorem cg_parent {b : Nat} (hb : b < 100) (hs : 1 ≤ s (116 + b)) : C w I s h r (w + 1 + 2) b = nI (s (116 + b) - 1) := (C_get (o := 3) (by omega) (src_b3 hb)).trans (by rw [vl_parent, if_neg (by omega)])
theorem cg_parent0 (hs : s 116 = 0) : C w I s h r (w + 1 + 2) 0 = (-1 : Int32) := (C_get (o := 3) (by omega) (src_b3 (by omega))).trans (by rw [vl_parent, if_pos (show s (116 + 0) = 0 from hs), if_pos rfl])
theorem cp_parent {b v : Nat} (hb : b < 100) : ev_u2 (C w I s h r) (w + 1 + 2) b (nI v) = C w I (up s (116 + b) (v + 1)) h r := C_put (o := 3) (by omega) (src_b3 hb) (by omega) (by rw [vl_parent, if_neg (by omega), Nat.add_sub_cancel])
theorem src_b4 {b : Nat} (hb : b < 100) : src 4 b = some (216 + b) := by
  unfold src
  rw [if_neg (by omega), if_neg (by omega), if_pos (by omega), if_pos hb]
theorem cg_justify {b : Nat} (hb : b < 100) : C w I s h r (w + 1 + 3) b = nI (s (216 + b)) := (C_get (o := 4) (by omega) (src_b4 hb)).trans (vl_n (by omega) (by omega))
theorem cp_justify {b v : Nat} (hb : b < 100) : ev_u2 (C w I s h r) (w + 1 + 3) b (nI v) = C w I (up s (216 + b) v) h r := C_put (o := 4) (by omega) (src_b4 hb) (by omega) (vl_n (by omega) (by omega))
theorem src_b5 {b : Nat} (hb : b < 100) : src 5 b = some (316 + b) := by
  unfold src
  rw [if_neg (by omega), if_neg (by omega), if_pos (by omega), if_pos hb]
theorem cg_payload {b : Nat} (hb : b < 100) : C w I s h r (w + 1 + 4) b = nI (s (316 + b)) := (C_get (o := 5) (by omega) (src_b5 hb)).trans (vl_n (by omega) (by omega))
theorem cp_payload {b v : Nat} (hb : b < 100) : ev_u2 (C w I s h r) (w + 1 + 4) b (nI v) = C w I (up s (316 + b) v) h r := C_put (o := 5) (by omega) (src_b5 hb) (by omega) (vl_n (by omega) (by omega))
theorem src_b6 {b : Nat} (hb : b < 100) : src 6 b = some (416 + b) := by
  unfold src
  rw [if_neg (by omega), if_neg (by omega), if_pos (by omega), if_pos hb]
theorem vl_by {b x : Nat} : vl 6 b x = (if x = 0 then (if b = 0 then (-1 : Int32) else (0 : Int32)) else nI (x - 1)) := by
  unfold vl
  rw [if_pos (by omega)]
theorem cg_by {b : Nat} (hb : b < 100) (hs : 1 ≤ s (416 + b)) : C w I s h r (w + 1 + 5) b = nI (s (416 + b) - 1) := (C_get (o := 6) (by omega) (src_b6 hb)).trans (by rw [vl_by, if_neg (by omega)])
theorem cg_by0 (hs : s 416 = 0) : C w I s h r (w + 1 + 5) 0 = (-1 : Int32) := (C_get (o := 6) (by omega) (src_b6 (by omega))).trans (by rw [vl_by, if_pos (show s (416 + 0) = 0 from hs), if_pos rfl])
theorem cp_by {b v : Nat} (hb : b < 100) : ev_u2 (C w I s h r) (w + 1 + 5) b (nI v) = C w I (up s (416 + b) (v + 1)) h r := C_put (o := 6) (by omega) (src_b6 hb) (by omega) (by rw [vl_by, if_neg (by omega), Nat.add_sub_cancel])
theorem src_b7 {b : Nat} (hb : b < 100) : src 7 b = some (516 + b) := by
  unfold src
  rw [if_neg (by omega), if_neg (by omega), if_pos (by omega), if_pos hb]
theorem cg_height {b : Nat} (hb : b < 100) : C w I s h r (w + 1 + 6) b = nI (s (516 + b)) := (C_get (o := 7) (by omega) (src_b7 hb)).trans (vl_n (by omega) (by omega))
theorem cp_height {b v : Nat} (hb : b < 100) : ev_u2 (C w I s h r) (w + 1 + 6) b (nI v) = C w I (up s (516 + b) v) h r := C_put (o := 7) (by omega) (src_b7 hb) (by omega) (vl_n (by omega) (by omega))
theorem src_b8 {b : Nat} (hb : b < 100) : src 8 b = some (616 + b) := by
  unfold src
  rw [if_neg (by omega), if_neg (by omega), if_pos (by omega), if_pos hb]
theorem cg_proved {b : Nat} (hb : b < 100) : C w I s h r (w + 1 + 7) b = nI (s (616 + b)) := (C_get (o := 8) (by omega) (src_b8 hb)).trans (vl_n (by omega) (by omega))
theorem cp_proved {b v : Nat} (hb : b < 100) : ev_u2 (C w I s h r) (w + 1 + 7) b (nI v) = C w I (up s (616 + b) v) h r := C_put (o := 8) (by omega) (src_b8 hb) (by omega) (vl_n (by omega) (by omega))
theorem src_b9 {b : Nat} (hb : b < 100) : src 9 b = some (716 + b) := by
  unfold src
  rw [if_neg (by omega), if_neg (by omega), if_pos (by omega), if_pos hb]
theorem cg_cert {b : Nat} (hb : b < 100) (h0 : b ≠ 0) : C w I s h r (w + 1 + 8) b = nI (s (716 + b)) := (C_get (o := 9) (by omega) (src_b9 hb)).trans (vl_n (by omega) (by omega))
theorem cg_cert0 : C w I s h r (w + 1 + 8) 0 = nI 1 := (C_get (o := 9) (by omega) (src_b9 (by omega))).trans rfl
theorem cp_cert {b v : Nat} (hb : b < 100) (h0 : b ≠ 0) : ev_u2 (C w I s h r) (w + 1 + 8) b (nI v) = C w I (up s (716 + b) v) h r := C_put (o := 9) (by omega) (src_b9 hb) (by omega) (vl_n (by omega) (by omega))
theorem src_c {j : Nat} (hj : j < 7) : src 13 j = some (2416 + 513 * j + 11) := by
  unfold src
  rw [if_neg (by omega), if_neg (by omega), if_neg (by omega), if_neg (by omega), if_pos (by omega), if_pos hj]
theorem cg_cuts {j : Nat} (hj : j < 7) : C w I s h r (w + 11 + 2) j = nI (s (2416 + 513 * j + 11)) := (C_get (o := 13) (by omega) (src_c hj)).trans (vl_n (by omega) (by omega))
theorem cp_cuts {j v : Nat} (hj : j < 7) : ev_u2 (C w I s h r) (w + 11 + 2) j (nI v) = C w I (up s (2416 + 513 * j + 11) v) h r := C_put (o := 13) (by omega) (src_c hj) (by omega) (vl_n (by omega) (by omega))
theorem src_e {j : Nat} (hj : j < 300) : src 15 j = some (1816 + j) := by
  unfold src
  rw [if_neg (by omega), if_neg (by omega), if_neg (by omega), if_neg (by omega), if_neg (by omega), if_neg (by omega), if_pos (by omega), if_pos hj]
theorem cg_ev {j : Nat} (hj : j < 300) : C w I s h r (w + 14 + 1) j = nI (s (1816 + j)) := (C_get (o := 15) (by omega) (src_e hj)).trans (vl_n (by omega) (by omega))
theorem cp_ev {j v : Nat} (hj : j < 300) : ev_u2 (C w I s h r) (w + 14 + 1) j (nI v) = C w I (up s (1816 + j) v) h r := C_put (o := 15) (by omega) (src_e hj) (by omega) (vl_n (by omega) (by omega))
theorem src_v {i d : Nat} (hi : i < 100) (hd : d < 3) : src 17 (5 * i + d) = some (2116 + 3 * i + d) := by
  unfold src
  rw [if_neg (by omega), if_neg (by omega), if_neg (by omega), if_neg (by omega), if_neg (by omega), if_neg (by omega), if_neg (by omega), if_neg (by omega), if_pos (by omega), if_pos (by omega), if_pos (by omega), show (5 * i + d) / 5 = i by omega, show (5 * i + d) % 5 = d by omega]
theorem cg_vn {i d : Nat} (hi : i < 100) (hd : d < 3) : C w I s h r (w + 16 + 1) (5 * i + d) = nI (s (2116 + 3 * i + d)) := (C_get (o := 17) (by omega) (src_v hi hd)).trans (vl_n (by omega) (by omega))
theorem cg_mode {k : Nat} (hk : k < 7) : C w I s h r (w + (23 + 5 * k)) 0 = nI (s (2416 + 513 * k)) := (C_get (o := 23 + 5 * k) (by omega) src_m0).trans (vl_m (by omega) (by omega))
theorem cp_mode {k v : Nat} (hk : k < 7) : ev_u2 (C w I s h r) (w + (23 + 5 * k)) 0 (nI v) = C w I (up s (2416 + 513 * k) v) h r := C_put (o := 23 + 5 * k) (by omega) src_m0 (by omega) (vl_m (by omega) (by omega))
theorem cg_mview {k : Nat} (hk : k < 7) : C w I s h r (w + (23 + 5 * k)) 1 = nI (s (2416 + 513 * k + 1) + 1) := (C_get (o := 23 + 5 * k) (by omega) src_m0).trans (vl_m1 (by omega) (by omega) (by omega))
theorem cp_mview {k v : Nat} (hk : k < 7) (hv : 1 ≤ v) : ev_u2 (C w I s h r) (w + (23 + 5 * k)) 1 (nI v) = C w I (up s (2416 + 513 * k + 1) (v - 1)) h r := C_put (o := 23 + 5 * k) (by omega) src_m0 (by omega) ((vl_m1 (by omega) (by omega) (by omega)).trans (by rw [Nat.sub_add_cancel hv]))
theorem cg_voted {k : Nat} (hk : k < 7) : C w I s h r (w + (23 + 5 * k)) 2 = nI (s (2416 + 513 * k + 2)) := (C_get (o := 23 + 5 * k) (by omega) src_m0).trans (vl_m (by omega) (by omega))
theorem cp_voted {k v : Nat} (hk : k < 7) : ev_u2 (C w I s h r) (w + (23 + 5 * k)) 2 (nI v) = C w I (up s (2416 + 513 * k + 2) v) h r := C_put (o := 23 + 5 * k) (by omega) src_m0 (by omega) (vl_m (by omega) (by omega))
theorem cg_prop {k : Nat} (hk : k < 7) : C w I s h r (w + (23 + 5 * k)) 3 = nI (s (2416 + 513 * k + 3)) := (C_get (o := 23 + 5 * k) (by omega) src_m0).trans (vl_m (by omega) (by omega))
theorem cp_prop {k v : Nat} (hk : k < 7) : ev_u2 (C w I s h r) (w + (23 + 5 * k)) 3 (nI v) = C w I (up s (2416 + 513 * k + 3) v) h r := C_put (o := 23 + 5 * k) (by omega) src_m0 (by omega) (vl_m (by omega) (by omega))
theorem cg_timed {k : Nat} (hk : k < 7) : C w I s h r (w + (23 + 5 * k)) 4 = nI (s (2416 + 513 * k + 4)) := (C_get (o := 23 + 5 * k) (by omega) src_m0).trans (vl_m (by omega) (by omega))
theorem cp_timed {k v : Nat} (hk : k < 7) : ev_u2 (C w I s h r) (w + (23 + 5 * k)) 4 (nI v) = C w I (up s (2416 + 513 * k + 4) v) h r := C_put (o := 23 + 5 * k) (by omega) src_m0 (by omega) (vl_m (by omega) (by omega))
theorem cg_high {k : Nat} (hk : k < 7) : C w I s h r (w + (23 + 5 * k)) 5 = nI (s (2416 + 513 * k + 5)) := (C_get (o := 23 + 5 * k) (by omega) src_m0).trans (vl_m (by omega) (by omega))
theorem cp_high {k v : Nat} (hk : k < 7) : ev_u2 (C w I s h r) (w + (23 + 5 * k)) 5 (nI v) = C w I (up s (2416 + 513 * k + 5) v) h r := C_put (o := 23 + 5 * k) (by omega) src_m0 (by omega) (vl_m (by omega) (by omega))
theorem cg_lock {k : Nat} (hk : k < 7) : C w I s h r (w + (23 + 5 * k)) 6 = nI (s (2416 + 513 * k + 6)) := (C_get (o := 23 + 5 * k) (by omega) src_m0).trans (vl_m (by omega) (by omega))
theorem cp_lock {k v : Nat} (hk : k < 7) : ev_u2 (C w I s h r) (w + (23 + 5 * k)) 6 (nI v) = C w I (up s (2416 + 513 * k + 6) v) h r := C_put (o := 23 + 5 * k) (by omega) src_m0 (by omega) (vl_m (by omega) (by omega))
theorem cg_proof {k : Nat} (hk : k < 7) : C w I s h r (w + (23 + 5 * k)) 7 = nI (s (2416 + 513 * k + 7)) := (C_get (o := 23 + 5 * k) (by omega) src_m0).trans (vl_m (by omega) (by omega))
theorem cp_proof {k v : Nat} (hk : k < 7) : ev_u2 (C w I s h r) (w + (23 + 5 * k)) 7 (nI v) = C w I (up s (2416 + 513 * k + 7) v) h r := C_put (o := 23 + 5 * k) (by omega) src_m0 (by omega) (vl_m (by omega) (by omega))
theorem cg_forks {k : Nat} (hk : k < 7) : C w I s h r (w + (23 + 5 * k)) 8 = nI (s (2416 + 513 * k + 9)) := (C_get (o := 23 + 5 * k) (by omega) src_m0).trans (vl_m (by omega) (by omega))
theorem cp_forks {k v : Nat} (hk : k < 7) : ev_u2 (C w I s h r) (w + (23 + 5 * k)) 8 (nI v) = C w I (up s (2416 + 513 * k + 9) v) h r := C_put (o := 23 + 5 * k) (by omega) src_m0 (by omega) (vl_m (by omega) (by omega))
theorem cg_logn {k : Nat} (hk : k < 7) : C w I s h r (w + (23 + 5 * k)) 9 = nI (s (2416 + 513 * k + 8) + 1) := (C_get (o := 23 + 5 * k) (by omega) src_m0).trans (vl_m1 (by omega) (by omega) (by omega))
theorem cp_logn {k v : Nat} (hk : k < 7) (hv : 1 ≤ v) : ev_u2 (C w I s h r) (w + (23 + 5 * k)) 9 (nI v) = C w I (up s (2416 + 513 * k + 8) (v - 1)) h r := C_put (o := 23 + 5 * k) (by omega) src_m0 (by omega) ((vl_m1 (by omega) (by omega) (by omega)).trans (by rw [Nat.sub_add_cancel hv]))
theorem cg_seenn {k : Nat} (hk : k < 7) : C w I s h r (w + (23 + 5 * k)) 10 = nI (s (2416 + 513 * k + 10)) := (C_get (o := 23 + 5 * k) (by omega) src_m0).trans (vl_m (by omega) (by omega))
theorem cp_seenn {k v : Nat} (hk : k < 7) : ev_u2 (C w I s h r) (w + (23 + 5 * k)) 10 (nI v) = C w I (up s (2416 + 513 * k + 10) v) h r := C_put (o := 23 + 5 * k) (by omega) src_m0 (by omega) (vl_m (by omega) (by omega))
theorem cg_logged {k j : Nat} (hk : k < 7) (hj : j < 100) : C w I s h r (w + (23 + 5 * k) + 1) j = nI (s (2416 + 513 * k + 12 + j)) := (C_get (o := 23 + 5 * k + 1) (by omega) (src_m1 hj)).trans (vl_m (by omega) (by omega))
theorem cp_logged {k j v : Nat} (hk : k < 7) (hj : j < 100) : ev_u2 (C w I s h r) (w + (23 + 5 * k) + 1) j (nI v) = C w I (up s (2416 + 513 * k + 12 + j) v) h r := C_put (o := 23 + 5 * k + 1) (by omega) (src_m1 hj) (by omega) (vl_m (by omega) (by omega))
theorem cg_seen {k j : Nat} (hk : k < 7) (hj : j < 100) : C w I s h r (w + (23 + 5 * k) + 2) j = nI (s (2416 + 513 * k + 112 + j)) := (C_get (o := 23 + 5 * k + 2) (by omega) (src_m2 hj)).trans (vl_m (by omega) (by omega))
theorem cp_seen {k j v : Nat} (hk : k < 7) (hj : j < 100) : ev_u2 (C w I s h r) (w + (23 + 5 * k) + 2) j (nI v) = C w I (up s (2416 + 513 * k + 112 + j) v) h r := C_put (o := 23 + 5 * k + 2) (by omega) (src_m2 hj) (by omega) (vl_m (by omega) (by omega))
theorem cg_markers {k j : Nat} (hk : k < 7) (hj : j < 100) : C w I s h r (w + (23 + 5 * k) + 3) j = nI (s (2416 + 513 * k + 212 + j)) := (C_get (o := 23 + 5 * k + 3) (by omega) (src_m3 hj)).trans (vl_m (by omega) (by omega))
theorem cp_markers {k j v : Nat} (hk : k < 7) (hj : j < 100) : ev_u2 (C w I s h r) (w + (23 + 5 * k) + 3) j (nI v) = C w I (up s (2416 + 513 * k + 212 + j) v) h r := C_put (o := 23 + 5 * k + 3) (by omega) (src_m3 hj) (by omega) (vl_m (by omega) (by omega))
theorem cg_timers {k j : Nat} (hk : k < 7) (hj : j < 201) : C w I s h r (w + (23 + 5 * k) + 4) j = nI (s (2416 + 513 * k + 312 + j)) := (C_get (o := 23 + 5 * k + 4) (by omega) (src_m4 hj)).trans (vl_m (by omega) (by omega))
theorem cp_timers {k j v : Nat} (hk : k < 7) (hj : j < 201) : ev_u2 (C w I s h r) (w + (23 + 5 * k) + 4) j (nI v) = C w I (up s (2416 + 513 * k + 312 + j) v) h r := C_put (o := 23 + 5 * k + 4) (by omega) (src_m4 hj) (by omega) (vl_m (by omega) (by omega))
theorem src_p {o j : Nat} (h : 19 ≤ o ∧ o < 23 ∨ o = 18 ∧ j ≠ 1 ∨ o = 10) : src o j = none := by
  unfold src
  by_cases c : o = 18
  · rw [if_neg (by omega), if_neg (by omega), if_neg (by omega), if_neg (by omega), if_neg (by omega), if_neg (by omega), if_neg (by omega), if_neg (by omega), if_neg (by omega), if_pos c, if_neg (by omega)]
  · rw [if_neg (by omega), if_neg (by omega), if_neg (by omega), if_neg (by omega), if_neg (by omega), if_neg (by omega), if_neg (by omega), if_neg (by omega), if_neg (by omega), if_neg c, if_pos (by omega)]
theorem cg_scr {o j : Nat} (ho : 19 ≤ o ∧ o < 23 ∨ o = 18 ∧ j ≠ 1 ∨ o = 10) : C w I s h r (w + o) j = I (w + o) j := by
  unfold C
  rw [if_pos (by omega), Nat.add_sub_cancel_left, src_p ho]
  show (if w + o = w + 11 ∧ j = 1 then _ else _) = _
  rw [if_neg (by omega), if_neg (by omega), if_neg (by omega), if_neg (by omega)]
theorem cg_lines : C w I s h r (w + 18) 0 = I (w + 18) 0 := cg_scr (by omega)
theorem cg_sc1 {j : Nat} : C w I s h r (w + 18 + 1) j = I (w + 18 + 1) j := cg_scr (o := 19) (by omega)
theorem cg_sc2 {j : Nat} : C w I s h r (w + 18 + 2) j = I (w + 18 + 2) j := cg_scr (o := 20) (by omega)
theorem cg_sc3 {j : Nat} : C w I s h r (w + 18 + 3) j = I (w + 18 + 3) j := cg_scr (o := 21) (by omega)
theorem cg_sc4 {j : Nat} : C w I s h r (w + 18 + 4) j = I (w + 18 + 4) j := cg_scr (o := 22) (by omega)
end Cg
