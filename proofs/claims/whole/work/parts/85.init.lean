/-! WHERE THE INVARIANT BEGINS -/
theorem ok_z' {s : Nat → Nat} (hz : ∀ j, s j = 0) : okS s := by
  refine ⟨⟨by rw [hz]; omega, hz _, hz _, fun b h1 h2 => by rw [hz] at h2; omega⟩, ⟨hz _, hz _, hz _, hz _, hz _, fun b hb => ⟨?_, ?_, ?_, ?_, ?_, ?_⟩, fun b h1 h2 => by rw [hz] at h2; omega⟩, ⟨?_, ?_, ?_, ?_⟩, fun k hk => ⟨⟨?_, ?_, ?_, ?_, ?_, ?_, ?_, ?_, ?_, fun b hb => ?_, fun v hv => ?_⟩, ⟨?_, fun i hi => ⟨?_, ?_⟩, fun i hi => by rw [hz] at hi; omega⟩, ⟨?_, fun j hj => by rw [hz] at hj; omega, fun i j h1 h2 => by rw [hz] at h2; omega⟩⟩, fun i hi => by rw [hz] at hi; omega, ⟨?_, fun i hi => by rw [hz] at hi; omega⟩⟩
  all_goals first | (rw [hz]; omega) | (rw [hz, hz]; omega) | (rw [hz] at hi; rw [hz]; omega)
theorem ok_z : okS (fun _ => 0) := ok_z' (fun _ => rfl)
theorem okX_z : okX (fun _ => 0) := ⟨fun k hk b h1 h2 => rfl, fun i hi => absurd hi (Nat.not_lt_zero i)⟩
theorem okR_z {r : Nat → Int32} : okR (fun _ => 0) 0 r := ⟨by omega, fun k hk => absurd hk (Nat.not_lt_zero k), fun k hk => absurd hk (Nat.not_lt_zero k)⟩
def iL : List ev_K := csX9 0 ++ csX10 69
def iI (a j : Nat) : Int32 := ((iL.map (fun c => c.2.2.1)).getD a (fun _ => 0)) j
theorem src_600 {o j : Nat} (hj : 600 ≤ j) : src o j = none := by
  unfold src
  by_cases c0 : o = 0
  · rw [if_pos c0, if_neg (by omega)]
  rw [if_neg c0]
  by_cases c1 : o = 1
  · rw [if_pos c1, if_neg (by omega)]
  rw [if_neg c1]
  by_cases c2 : o ≤ 9
  · rw [if_pos c2, if_neg (by omega)]
  rw [if_neg c2]
  by_cases c3 : o = 11
  · rw [if_pos c3, if_neg (by omega), if_neg (by omega), if_neg (by omega), if_neg (by omega)]
  rw [if_neg c3]
  by_cases c4 : o = 13
  · rw [if_pos c4, if_neg (by omega)]
  rw [if_neg c4]
  by_cases c5 : o = 14
  · rw [if_pos c5, if_neg (by omega)]
  rw [if_neg c5]
  by_cases c6 : o = 15
  · rw [if_pos c6, if_neg (by omega)]
  rw [if_neg c6]
  by_cases c7 : o = 16
  · rw [if_pos c7, if_neg (by omega)]
  rw [if_neg c7]
  by_cases c8 : o = 17
  · rw [if_pos c8, if_neg (by omega)]
  rw [if_neg c8]
  by_cases c9 : o = 18
  · rw [if_pos c9, if_neg (by omega)]
  rw [if_neg c9]
  by_cases d0 : o < 23
  · rw [if_pos d0]
  rw [if_neg d0]
  by_cases d1 : (o - 23) % 5 = 0
  · rw [if_pos d1, if_neg (by omega), if_neg (by omega), if_neg (by omega), if_neg (by omega)]
  rw [if_neg d1]
  by_cases d2 : (o - 23) % 5 = 1
  · rw [if_pos d2, if_neg (by omega)]
  rw [if_neg d2]
  by_cases d3 : (o - 23) % 5 = 2
  · rw [if_pos d3, if_neg (by omega)]
  rw [if_neg d3]
  by_cases d4 : (o - 23) % 5 = 3
  · rw [if_pos d4, if_neg (by omega)]
  rw [if_neg d4, if_neg (by omega)]
set_option maxRecDepth 100000 in
theorem i_cc : ∀ x, x < 59 → 1 ≤ x → ∀ j, j < 600 → iI x j = C 1 iI (fun _ => 0) 0 (fun _ => 0) x j := by decide +kernel
theorem i_CC : CC 1 iI (fun _ => 0) 0 (fun _ => 0) := fun x j h1 h2 => by
  by_cases c : j < 600
  · exact i_cc x (by omega) h1 j c
  · unfold C
    rw [if_pos (by omega), src_600 (by omega)]
    show _ = (if x = 1 + 11 ∧ j = 1 then _ else _)
    rw [if_neg (by omega), if_neg (by omega), if_neg (by omega), if_neg (by omega)]
theorem i_wr : ∀ j, j < 60 → iI 77 j = nI (wr j) := by decide +kernel
theorem i_len : (csX9 0).length = 69 ∧ (csX10 69).length = 11 := by decide +kernel
theorem i_num : iI 69 0 = 0 ∧ iI 59 1 = nI 0 ∧ iI 69 8 = nI 0 ∧ iI 59 2 = iI 69 16 ∧ iI 59 3 = iI 69 17 ∧ iI 19 0 = nI 0 ∧ iI 69 18 = nI 0 ∧ iI 69 20 = 0 := by decide +kernel
theorem i_70 (j : Nat) : iI 70 j = nI 0 := rfl
theorem i_ig : IG iI none none := by
  obtain ⟨n1, n2, n3, n4, n5, n6, n7, n8⟩ := i_num
  exact ⟨⟨fun _ => 0, 0, fun _ => 0, 0, fun _ => (0, 0, 0, 0), 0, fun _ => 0, ⟨ok_z, okX_z, okR_z⟩, i_CC, i_70, n1, ⟨⟨by omega, fun j hj => by omega⟩, ⟨n2, fun j hj => by omega⟩, ⟨n3, fun j hj => by omega, i_wr⟩⟩, ⟨n4, n5⟩, by omega, Nat.le_refl 0, fun i hi => by omega, ⟨n6, fun i hi => by omega⟩, n7, fun i hi => by omega⟩, n8, trivial⟩
theorem IG_e {I J : ev_I} (h : IG I none none) (e : ∀ a, a < 80 → J a = I a) : IG J none none := by
  obtain ⟨⟨s, hh, r, p, F, L, T, w⟩, hk, ht⟩ := h
  refine ⟨⟨s, hh, r, p, F, L, T, WG_d w (fun a j h1 _ _ => by rw [e a (by omega)])⟩, ?_, trivial⟩
  show J 69 20 = 0
  rw [e 69 (by omega)]
  exact hk
theorem inv_I (τ : ev_H) (R : rg e0 0 26071 (csX9 0 ++ csX10 69) τ) : Inv τ := by
  have hl : iL.length = 80 := by
    unfold iL
    rw [List.length_append, i_len.1, i_len.2]
  have hn : h_n τ = 80 := by
    rw [R.1]
    show 0 + iL.length = 80
    rw [hl]
  have hi : ∀ a, a < 80 → h_i τ a = iI a := fun a ha => by
    have hg : iL[a]? = some iL[a] := List.getElem?_eq_getElem (by omega)
    have q := (rg_t (k := a) R (show (csX9 0 ++ csX10 69)[a]? = some (iL[a].1, iL[a].2.1, iL[a].2.2.1, iL[a].2.2.2) from hg)).2.2.2.1
    rw [Nat.zero_add] at q
    rw [q]
    funext j
    unfold iI
    rw [List.getD_eq_getElem?_getD, List.getElem?_map, hg]
    rfl
  have h0 := rg_t (k := 0) R (show (csX9 0 ++ csX10 69)[0]? = some _ from rfl)
  refine ⟨none, none, ⟨?_, ?_, ?_, ?_, fun a e => (by cases e), fun a e => (by cases e), fun a b e => (by cases e), by omega, by rw [hn]; decide, ?_⟩, IG_e i_ig hi⟩
  · intro k t z rs hk
    obtain ⟨f, g, e, hg⟩ := chk9_get tb8 (csX9 0) (chk_f 0) k t z rs hk
    have hlt : k < (csX9 0).length := (List.getElem?_eq_some_iff.mp e).1
    obtain ⟨h1, h2, h3, -, h5⟩ := rg_t (k := k) R (show (csX9 0 ++ csX10 69)[k]? = some (t, z, f, g) by rw [List.getElem?_append_left hlt]; exact e)
    exact ⟨h1, h2, h3, fun j r hj => by rw [h5]; exact hg j r hj⟩
  · intro k t z rs hk
    obtain ⟨f, g, e, hg⟩ := chk9_get tb9 (csX10 69) (chk_r 69) k t z rs hk
    obtain ⟨h1, h2, h3, -, h5⟩ := rg_t (k := 69 + k) R (show (csX9 0 ++ csX10 69)[69 + k]? = some (t, z, f, g) by rw [List.getElem?_append_right (by rw [i_len.1]; omega), i_len.1, Nat.add_sub_cancel_left]; exact e)
    rw [Nat.zero_add] at h1 h2 h3 h5
    exact ⟨h1, h2, h3, fun j r hj => by rw [h5]; exact hg j r hj⟩
  · rw [show h_r τ 0 = _ from h0.2.2.2.2]; rfl
  · rw [show h_r τ 0 = _ from h0.2.2.2.2]; rfl
  · rw [R.2.2.2]; decide
