/-! NEW WORLDS: image, imagine, without, soon -/
def chr9 (a : Nat) (g : Nat → Option Nat) : Nat → List (Option Nat) → Prop
  | _, [] => True
  | j, none :: rs => chr9 a g (j + 1) rs
  | j, some r :: rs => g j = some (a + r) ∧ chr9 a g (j + 1) rs
def chk9 (a : Nat) : ev_tab → List ev_K → Prop
  | [], _ => True
  | r :: T, c :: CS => (c.1 = r.1 ∧ c.2.1 = r.2.1 ∧ chr9 a c.2.2.2 0 r.2.2) ∧ chk9 a T CS
  | _ :: _, [] => False
theorem chr9_get {a : Nat} {g : Nat → Option Nat} : ∀ (rs : List (Option Nat)) (i : Nat), chr9 a g i rs → ∀ (j r : Nat), rs[j]? = some (some r) → g (i + j) = some (a + r)
  | [], i, _, j, r, h => by simp at h
  | none :: rs, i, hc, 0, r, h => by simp at h
  | none :: rs, i, hc, j + 1, r, h => by
    have := chr9_get rs (i + 1) hc j r (by simpa using h)
    rw [show i + (j + 1) = i + 1 + j by omega]
    exact this
  | some q :: rs, i, hc, 0, r, h => by
    simp at h
    subst h
    exact hc.1
  | some q :: rs, i, hc, j + 1, r, h => by
    have := chr9_get rs (i + 1) hc.2 j r (by simpa using h)
    rw [show i + (j + 1) = i + 1 + j by omega]
    exact this
theorem chk9_get {a : Nat} : ∀ (T : ev_tab) (CS : List ev_K), chk9 a T CS → ∀ (k t z : Nat) (rs : List (Option Nat)), T[k]? = some (t, z, rs) → ∃ f g, CS[k]? = some (t, z, f, g) ∧ ∀ j r, rs[j]? = some (some r) → g j = some (a + r)
  | [], CS, _, k, t, z, rs, h => by simp at h
  | r :: T, [], hc, k, t, z, rs, h => hc.elim
  | r :: T, c :: CS, hc, 0, t, z, rs, h => by
    obtain ⟨⟨h1, h2, h3⟩, -⟩ := hc
    obtain ⟨ct, cz, f, g⟩ := c
    simp at h
    subst h
    simp only at h1 h2 h3
    subst h1; subst h2
    exact ⟨f, g, rfl, fun j r hj => by have := chr9_get rs 0 h3 j r hj; simpa using this⟩
  | r :: T, c :: CS, hc, k + 1, t, z, rs, h => chk9_get T CS hc.2 k t z rs (by simpa using h)
theorem shp_of {σ0 σ : ev_H} {a c : Nat} {CS : List ev_K} {T : ev_tab} (R : rg σ0 a c CS σ) (h : chk9 a T CS) : shp T σ a := by
  intro k t z rs hk
  obtain ⟨f, g, e, hg⟩ := chk9_get T CS h k t z rs hk
  obtain ⟨h1, h2, h3, -, h5⟩ := rg_t R e
  exact ⟨h1, h2, h3, fun j r hj => by rw [h5]; exact hg j r hj⟩
set_option maxRecDepth 100000 in
set_option maxHeartbeats 4000000 in
theorem chk_w (a : Nat) : chk9 a tb7 (csX8 a) := by
  simp [chk9, chr9, tb7, tb3at, tbA, csX8, csX1, csX2_60, csX2_100, csX3, csX4, csX5, nc, ev_u1, Nat.add_assoc]
set_option maxRecDepth 100000 in
set_option maxHeartbeats 4000000 in
theorem chk_f (a : Nat) : chk9 a tb8 (csX9 a) := by
  simp [chk9, chr9, tb8, tb7, tb6, tb0, tb3at, tbA, csX9, csX8, csX7, csX0, csX1, csX2_60, csX2_100, csX3, csX4, csX5, nc, ev_u1, Nat.add_assoc]
set_option maxRecDepth 100000 in
set_option maxHeartbeats 4000000 in
theorem chk_r (a : Nat) : chk9 a tb9 (csX10 a) := by
  simp [chk9, chr9, tb9, tbA, csX10, nc, ev_u1, Nat.add_assoc]
theorem shp_keep {T : ev_tab} {σ τ : ev_H} {q : Nat} (h : shp T σ q) (hn : h_n σ ≤ h_n τ) (hk : ∀ k t z rs, T[k]? = some (t, z, rs) → h_t τ (q + k) = h_t σ (q + k) ∧ h_z τ (q + k) = h_z σ (q + k) ∧ ∀ j r, rs[j]? = some (some r) → h_r τ (q + k) j = h_r σ (q + k) j) : shp T τ q := by
  intro k t z rs e
  obtain ⟨h1, h2, h3, h4⟩ := h k t z rs e
  obtain ⟨g1, g2, g3⟩ := hk k t z rs e
  exact ⟨by omega, by rw [g1, h2], by rw [g2, h3], fun j r hj => by rw [g3 j r hj, h4 j r hj]⟩
/-- a world is made and put into field j of the cell q -/
def gw (σ τ : ev_H) (q j : Nat) : Prop := h_n τ = h_n σ + 58 ∧ h_s τ = h_s σ + 5559 ∧ (∀ k, k < h_n σ → h_t τ k = h_t σ k ∧ h_z τ k = h_z σ k ∧ h_i τ k = h_i σ k) ∧ (∀ k, k < h_n σ → k ≠ q → h_r τ k = h_r σ k) ∧ h_r τ q = ev_u1 (h_r σ q) j (some (h_n σ)) ∧ shp tb7 τ (h_n σ) ∧ ∀ k c, (csX8 (h_n σ))[k]? = some c → h_i τ (h_n σ + k) = c.2.2.1
theorem gw_of {σ τ : ev_H} {q j : Nat} (R : rg σ (h_n σ) 5559 (csX8 (h_n σ)) τ) (hq : q < h_n σ) : gw σ (h_pr τ q j (some (h_n σ))) q j := by
  have hc : ∀ k, k < h_n σ → h_t τ k = h_t σ k ∧ h_z τ k = h_z σ k ∧ h_i τ k = h_i σ k ∧ h_r τ k = h_r σ k := fun k hk => by
    have := R.2.2.1 k hk
    unfold cell9 at this
    simpa only [Prod.mk.injEq] using this
  refine ⟨R.1, R.2.2.2, fun k hk => ⟨(hc k hk).1, (hc k hk).2.1, (hc k hk).2.2.1⟩, fun k hk hkq => ?_, ?_, ?_, fun k c hk => ?_⟩
  · rw [h_pr_o hkq]
    exact (hc k hk).2.2.2
  · rw [h_pr_r, (hc q hq).2.2.2]
    rfl
  · refine shp_keep (shp_of R (chk_w _)) (Nat.le_refl _) (fun k t z rs e => ⟨rfl, rfl, fun j r hj => ?_⟩)
    rw [h_pr_o (by omega)]
  · obtain ⟨t, z, f, g⟩ := c
    exact (rg_t R hk).2.2.2.1
theorem gw_s {T : ev_tab} {σ τ : ev_H} {q j p : Nat} (G : gw σ τ q j) (h : shp T σ p) (hp : ∀ k t z rs, T[k]? = some (t, z, rs) → p + k ≠ q ∨ rs[j]? = none ∨ rs[j]? = some none) : shp T τ p := by
  refine shp_keep h (by rw [G.1]; omega) (fun k t z rs e => ?_)
  have hl := (h k t z rs e).1
  refine ⟨(G.2.2.1 _ hl).1, (G.2.2.1 _ hl).2.1, fun i r hi => ?_⟩
  by_cases hq : p + k = q
  · rw [hq, G.2.2.2.2.1]
    have hij : i ≠ j := fun e2 => by
      subst e2
      rcases hp k t z rs e with h1 | h1 | h1
      · exact h1 hq
      · rw [h1] at hi; cases hi
      · rw [h1] at hi; cases hi
    show (if i = j then _ else _) = _
    rw [if_neg hij]
  · rw [G.2.2.2.1 _ hl hq]
theorem rg_nil (σ : ev_H) : rg σ (h_n σ) 0 [] σ := ⟨rfl, fun k q h => by simp at h, fun _ _ => rfl, rfl⟩
section Worlds
variable {E : ev_N} {σ τ : ev_H} {q n : Nat}
set_option maxRecDepth 100000 in
set_option maxHeartbeats 4000000 in
/-- image(true) where none was taken before -/
theorem x_imageN (hs : shp tb8 σ q) (hk : h_r σ q 3 = none) {x : Int32} (hx : ¬ x = 0) : ∃ τ, gw σ τ q 3 ∧ ∀ n J, pX8_copyFrom n (h_n σ) (q + 1) (h_i τ) = some J → ev_T E mX9_image [.ref q, .int x] σ (some (.int 1), h_w τ J) := by
  have hq : q < h_n σ := shp_n hs 0 rfl
  obtain ⟨τ2, R2, hT⟩ : ∃ τ2, rg (h_mk σ 7 0 9) (h_n σ) 5550 (csX8 (h_n σ)) τ2 ∧ ev_T E mX8_init [.ref (h_n σ)] (h_mk σ 7 0 9) (none, τ2) := mkX8 E (h_mk σ 7 0 9) (h_n σ) (rg_last (C1 := []) (rg_mk (rg_nil σ) 7 0 9))
  have R3 : rg σ (h_n σ) 5559 (csX8 (h_n σ)) τ2 := rg_app (C1 := []) (rg_mk (rg_nil σ) 7 0 9) R2
  have G := gw_of (j := 3) R3 hq
  refine ⟨_, G, fun n J hJ => ?_⟩
  have hs2 : shp tb8 (h_pr τ2 q 3 (some (h_n σ))) q := gw_s G hs (fun k t z rs e => by
    by_cases h0 : k = 0
    · subst h0
      right; right
      have : tb8[0]? = some (8, 0, [some 1, some 59, some 66, none, none]) := rfl
      rw [this] at e
      cases e
      rfl
    · left; omega)
  have hc := R3.2.2.1 q hq
  unfold cell9 at hc
  simp only [Prod.mk.injEq] at hc
  refine ev_met rfl rfl (Nat.le_of_ble_eq_true rfl) (ev_L0 (L' := [some (.ref q), some (.int x)]) rfl ?_)
  refine ev_iload_n dX9_image_0 rfl ?_
  refine ev_if_eq (tgt := 35) dX9_image_1 (by decide) (fun c => absurd c hx) (fun _ => ?_)
  refine ev_aload_n dX9_image_4 rfl (fun _ e => by cases e) ?_
  refine ev_getn dX9_image_5 fX9_30 rfl (shp_n hs 0 rfl) (shp_t hs 0 rfl) hk ?_
  refine ev_ifnonnullN dX9_image_8 ?_
  refine ev_aload_n dX9_image_11 rfl (fun _ e => by cases e) ?_
  refine ev_new (ci := 7) dX9_image_12 (by decide) qX9_9 zX8.1 zX8.2 ?_
  refine ev_dup dX9_image_15 ?_
  refine ev_callI (Y := mX8_init) (As := []) (rest := [.ref (h_n σ), .ref q]) dX9_image_16 kX9_11 oX8_init rfl ⟨Nat.le_of_ble_eq_true rfl, Nat.le_of_ble_eq_true rfl⟩ rfl (Nat.le_of_ble_eq_true rfl) hT rfl ?_
  refine ev_putr (r := some (h_n σ)) dX9_image_19 fX9_30 rfl (by rw [R3.1]; omega) (by rw [hc.1]; exact shp_t hs 0 rfl) (Or.inl rfl) (Or.inl ⟨_, rfl⟩) ?_
  refine ev_aload_n dX9_image_22 rfl (fun _ e => by cases e) ?_
  refine ev_getr (r := h_n σ) dX9_image_23 fX9_30 rfl (shp_n hs2 0 rfl) (shp_t hs2 0 rfl) (by rw [G.2.2.2.2.1]; rfl) ?_
  refine ev_aload_n dX9_image_26 rfl (fun _ e => by cases e) ?_
  refine ew_getr0 (I := h_i (h_pr τ2 q 3 (some (h_n σ)))) dX9_image_27 fX9_12 hs2 rfl rfl rfl rfl ?_
  refine ec_Vv (Y := mX8_copyFrom) (ci := 7) (As := [.ref (q + 1)]) (rest := []) dX9_image_30 kX9_291 oX8_copyFrom ⟨Nat.le_of_ble_eq_true rfl, Nat.le_of_ble_eq_true rfl⟩ (by decide) rfl (shp_n G.2.2.2.2.2.1 0 rfl) (shp_t G.2.2.2.2.2.1 0 rfl) rfl (Nat.le_of_ble_eq_true rfl) (tX8_copyFrom n (h_n σ) (q + 1) G.2.2.2.2.2.1 (s87 hs2) _ J hJ) rfl ?_
  refine ev_iconst (v := (1 : Int32)) dX9_image_33 (by decide) ?_
  exact er_i dX9_image_34 rfl rfl
set_option maxRecDepth 100000 in
set_option maxHeartbeats 4000000 in
/-- image(true) where one was taken before -/
theorem x_imageS (hs : shp tb8 σ q) {a : Nat} (hk : h_r σ q 3 = some a) (ha : shp tb7 σ a) {x : Int32} (hx : ¬ x = 0) (n : Nat) (I J : ev_I) (hJ : pX8_copyFrom n a (q + 1) I = some J) : ev_T E mX9_image [.ref q, .int x] (h_w σ I) (some (.int 1), h_w σ J) := by
  refine ev_met rfl rfl (Nat.le_of_ble_eq_true rfl) (ev_L0 (L' := [some (.ref q), some (.int x)]) rfl ?_)
  refine ev_iload_n dX9_image_0 rfl ?_
  refine ev_if_eq (tgt := 35) dX9_image_1 (by decide) (fun c => absurd c hx) (fun _ => ?_)
  refine ev_aload_n dX9_image_4 rfl (fun _ e => by cases e) ?_
  refine ev_getr (r := a) dX9_image_5 fX9_30 rfl (shp_n hs 0 rfl) (shp_t hs 0 rfl) hk ?_
  refine ev_ifnonnull (tgt := 22) dX9_image_8 (by decide) a rfl ?_
  refine ev_aload_n dX9_image_22 rfl (fun _ e => by cases e) ?_
  refine ev_getr (r := a) dX9_image_23 fX9_30 rfl (shp_n hs 0 rfl) (shp_t hs 0 rfl) hk ?_
  refine ev_aload_n dX9_image_26 rfl (fun _ e => by cases e) ?_
  refine ew_getr0 dX9_image_27 fX9_12 hs rfl rfl rfl rfl ?_
  refine ec_Vv (Y := mX8_copyFrom) (ci := 7) (As := [.ref (q + 1)]) (rest := []) dX9_image_30 kX9_291 oX8_copyFrom ⟨Nat.le_of_ble_eq_true rfl, Nat.le_of_ble_eq_true rfl⟩ (by decide) rfl (shp_n ha 0 rfl) (shp_t ha 0 rfl) rfl (Nat.le_of_ble_eq_true rfl) (tX8_copyFrom n a (q + 1) ha (s87 hs) I J hJ) rfl ?_
  refine ev_iconst (v := (1 : Int32)) dX9_image_33 (by decide) ?_
  exact er_i dX9_image_34 rfl rfl
set_option maxRecDepth 100000 in
set_option maxHeartbeats 4000000 in
/-- image(false) -/
theorem x_imageF0 (hs : shp tb8 σ q) (hk : h_r σ q 3 = none) (I : ev_I) : ev_T E mX9_image [.ref q, .int 0] (h_w σ I) (some (.int 0), h_w σ I) := by
  refine ev_met rfl rfl (Nat.le_of_ble_eq_true rfl) (ev_L0 (L' := [some (.ref q), some (.int 0)]) rfl ?_)
  refine ev_iload_n dX9_image_0 rfl ?_
  refine ev_if_eq (tgt := 35) dX9_image_1 (by decide) (fun _ => ?_) (fun c => absurd rfl c)
  refine ev_aload_n dX9_image_35 rfl (fun _ e => by cases e) ?_
  refine ev_getn dX9_image_36 fX9_30 rfl (shp_n hs 0 rfl) (shp_t hs 0 rfl) hk ?_
  refine ev_ifnonnullN dX9_image_39 ?_
  refine ev_iconst (v := (0 : Int32)) dX9_image_42 (by decide) ?_
  exact er_i dX9_image_43 rfl rfl
set_option maxRecDepth 100000 in
set_option maxHeartbeats 4000000 in
theorem x_imageF1 (hs : shp tb8 σ q) {a : Nat} (hk : h_r σ q 3 = some a) (ha : shp tb7 σ a) (n : Nat) (I J : ev_I) (hJ : pX8_copyFrom n (q + 1) a I = some J) : ev_T E mX9_image [.ref q, .int 0] (h_w σ I) (some (.int 1), h_w σ J) := by
  refine ev_met rfl rfl (Nat.le_of_ble_eq_true rfl) (ev_L0 (L' := [some (.ref q), some (.int 0)]) rfl ?_)
  refine ev_iload_n dX9_image_0 rfl ?_
  refine ev_if_eq (tgt := 35) dX9_image_1 (by decide) (fun _ => ?_) (fun c => absurd rfl c)
  refine ev_aload_n dX9_image_35 rfl (fun _ e => by cases e) ?_
  refine ev_getr (r := a) dX9_image_36 fX9_30 rfl (shp_n hs 0 rfl) (shp_t hs 0 rfl) hk ?_
  refine ev_ifnonnull (tgt := 44) dX9_image_39 (by decide) a rfl ?_
  refine ev_aload_n dX9_image_44 rfl (fun _ e => by cases e) ?_
  refine ew_getr0 dX9_image_45 fX9_12 hs rfl rfl rfl rfl ?_
  refine ev_aload_n dX9_image_48 rfl (fun _ e => by cases e) ?_
  refine ev_getr (r := a) dX9_image_49 fX9_30 rfl (shp_n hs 0 rfl) (shp_t hs 0 rfl) hk ?_
  refine ec_Vv (Y := mX8_copyFrom) (ci := 7) (As := [.ref a]) (rest := []) dX9_image_52 kX9_291 oX8_copyFrom ⟨Nat.le_of_ble_eq_true rfl, Nat.le_of_ble_eq_true rfl⟩ (by decide) rfl (shp_n (s87 hs) 0 rfl) (shp_t (s87 hs) 0 rfl) rfl (Nat.le_of_ble_eq_true rfl) (tX8_copyFrom n (q + 1) a (s87 hs) ha I J hJ) rfl ?_
  refine ev_iconst (v := (1 : Int32)) dX9_image_55 (by decide) ?_
  exact er_i dX9_image_56 rfl rfl
theorem er_w {X : ev_M} {pc : Nat} {L : List (Option Value)} {a : Nat} (hd : decode (m_code X) pc = .ok (.areturn, 1)) (hr : m_ret X = some (.object "ChainVotes$World")) : EV E X pc L [.ref a] σ (some (.ref a), σ) := ev_ret (some (.ref a)) _ hd ⟨⟨_, hr, Or.inl ⟨_, rfl⟩⟩, Or.inr (Or.inl ⟨_, rfl⟩)⟩ rfl
set_option maxRecDepth 100000 in
set_option maxHeartbeats 4000000 in
theorem x_imagineN (hs : shp tb8 σ q) (hk : h_r σ q 4 = none) : ∃ τ, gw σ τ q 4 ∧ ∀ n J, pX8_copyFrom n (h_n σ) (q + 1) (h_i τ) = some J → ev_T E mX9_imagine [.ref q] σ (some (.ref (h_n σ)), h_w τ J) := by
  have hq : q < h_n σ := shp_n hs 0 rfl
  obtain ⟨τ2, R2, hT⟩ : ∃ τ2, rg (h_mk σ 7 0 9) (h_n σ) 5550 (csX8 (h_n σ)) τ2 ∧ ev_T E mX8_init [.ref (h_n σ)] (h_mk σ 7 0 9) (none, τ2) := mkX8 E (h_mk σ 7 0 9) (h_n σ) (rg_last (C1 := []) (rg_mk (rg_nil σ) 7 0 9))
  have R3 : rg σ (h_n σ) 5559 (csX8 (h_n σ)) τ2 := rg_app (C1 := []) (rg_mk (rg_nil σ) 7 0 9) R2
  have G := gw_of (j := 4) R3 hq
  refine ⟨_, G, fun n J hJ => ?_⟩
  have hs2 : shp tb8 (h_pr τ2 q 4 (some (h_n σ))) q := gw_s G hs (fun k t z rs e => by
    by_cases h0 : k = 0
    · subst h0
      right; right
      have : tb8[0]? = some (8, 0, [some 1, some 59, some 66, none, none]) := rfl
      rw [this] at e
      cases e
      rfl
    · left; omega)
  have hc := R3.2.2.1 q hq
  unfold cell9 at hc
  simp only [Prod.mk.injEq] at hc
  refine ev_met rfl rfl (Nat.le_of_ble_eq_true rfl) (ev_L0 (L' := [some (.ref q)]) rfl ?_)
  refine ev_aload_n dX9_imagine_0 rfl (fun _ e => by cases e) ?_
  refine ev_getn dX9_imagine_1 fX9_33 rfl (shp_n hs 0 rfl) (shp_t hs 0 rfl) hk ?_
  refine ev_ifnonnullN dX9_imagine_4 ?_
  refine ev_aload_n dX9_imagine_7 rfl (fun _ e => by cases e) ?_
  refine ev_new (ci := 7) dX9_imagine_8 (by decide) qX9_9 zX8.1 zX8.2 ?_
  refine ev_dup dX9_imagine_11 ?_
  refine ev_callI (Y := mX8_init) (As := []) (rest := [.ref (h_n σ), .ref q]) dX9_imagine_12 kX9_11 oX8_init rfl ⟨Nat.le_of_ble_eq_true rfl, Nat.le_of_ble_eq_true rfl⟩ rfl (Nat.le_of_ble_eq_true rfl) hT rfl ?_
  refine ev_putr (r := some (h_n σ)) dX9_imagine_15 fX9_33 rfl (by rw [R3.1]; omega) (by rw [hc.1]; exact shp_t hs 0 rfl) (Or.inl rfl) (Or.inl ⟨_, rfl⟩) ?_
  refine ev_aload_n dX9_imagine_18 rfl (fun _ e => by cases e) ?_
  refine ev_getr (r := h_n σ) dX9_imagine_19 fX9_33 rfl (shp_n hs2 0 rfl) (shp_t hs2 0 rfl) (by rw [G.2.2.2.2.1]; rfl) ?_
  refine ev_aload_n dX9_imagine_22 rfl (fun _ e => by cases e) ?_
  refine ew_getr0 (I := h_i (h_pr τ2 q 4 (some (h_n σ)))) dX9_imagine_23 fX9_12 hs2 rfl rfl rfl rfl ?_
  refine ec_Vv (Y := mX8_copyFrom) (ci := 7) (As := [.ref (q + 1)]) (rest := []) dX9_imagine_26 kX9_291 oX8_copyFrom ⟨Nat.le_of_ble_eq_true rfl, Nat.le_of_ble_eq_true rfl⟩ (by decide) rfl (shp_n G.2.2.2.2.2.1 0 rfl) (shp_t G.2.2.2.2.2.1 0 rfl) rfl (Nat.le_of_ble_eq_true rfl) (tX8_copyFrom n (h_n σ) (q + 1) G.2.2.2.2.2.1 (s87 hs2) _ J hJ) rfl ?_
  refine ev_aload_n dX9_imagine_29 rfl (fun _ e => by cases e) ?_
  refine ev_getr (r := h_n σ) dX9_imagine_30 fX9_33 rfl (shp_n hs2 0 rfl) (shp_t hs2 0 rfl) (by have := G.2.2.2.2.1; show h_r (h_pr τ2 q 4 (some (h_n σ))) q 4 = _; rw [this]; rfl) ?_
  exact er_w dX9_imagine_33 rfl
set_option maxRecDepth 100000 in
set_option maxHeartbeats 4000000 in
theorem x_imagineS (hs : shp tb8 σ q) {a : Nat} (hk : h_r σ q 4 = some a) (ha : shp tb7 σ a) (n : Nat) (I J : ev_I) (hJ : pX8_copyFrom n a (q + 1) I = some J) : ev_T E mX9_imagine [.ref q] (h_w σ I) (some (.ref a), h_w σ J) := by
  refine ev_met rfl rfl (Nat.le_of_ble_eq_true rfl) (ev_L0 (L' := [some (.ref q)]) rfl ?_)
  refine ev_aload_n dX9_imagine_0 rfl (fun _ e => by cases e) ?_
  refine ev_getr (r := a) dX9_imagine_1 fX9_33 rfl (shp_n hs 0 rfl) (shp_t hs 0 rfl) hk ?_
  refine ev_ifnonnull (tgt := 18) dX9_imagine_4 (by decide) a rfl ?_
  refine ev_aload_n dX9_imagine_18 rfl (fun _ e => by cases e) ?_
  refine ev_getr (r := a) dX9_imagine_19 fX9_33 rfl (shp_n hs 0 rfl) (shp_t hs 0 rfl) hk ?_
  refine ev_aload_n dX9_imagine_22 rfl (fun _ e => by cases e) ?_
  refine ew_getr0 dX9_imagine_23 fX9_12 hs rfl rfl rfl rfl ?_
  refine ec_Vv (Y := mX8_copyFrom) (ci := 7) (As := [.ref (q + 1)]) (rest := []) dX9_imagine_26 kX9_291 oX8_copyFrom ⟨Nat.le_of_ble_eq_true rfl, Nat.le_of_ble_eq_true rfl⟩ (by decide) rfl (shp_n ha 0 rfl) (shp_t ha 0 rfl) rfl (Nat.le_of_ble_eq_true rfl) (tX8_copyFrom n a (q + 1) ha (s87 hs) I J hJ) rfl ?_
  refine ev_aload_n dX9_imagine_29 rfl (fun _ e => by cases e) ?_
  refine ev_getr (r := a) dX9_imagine_30 fX9_33 rfl (shp_n hs 0 rfl) (shp_t hs 0 rfl) hk ?_
  exact er_w dX9_imagine_33 rfl
theorem ec_Vr {X Y : ev_M} {pc idx a ci r n : Nat} {L : List (Option Value)} {S rest As : List Value} {o : Option Value × ev_H} (hd : decode (m_code X) pc = .ok (.invokevirtual idx, 3)) (hl : Cond.methodLink (m_own X) idx (m_y Y) ∈ ev_G) (hY : ev_mV Y n) (hfit : m_fr Y + 1 ≤ m_fr X ∧ 8 + (m_loc Y + 11) + m_lw Y ≤ m_lw X) (hci : ci < 10) (hC : k_C ci = m_own Y) (ha : a < h_n σ) (ht : h_t σ a = ci) (hn : As.length = n) (hr8 : rest.length ≤ 8)
    (hT : ev_T E Y (.ref a :: As) σ (some (.ref r), τ)) (hS : S = As.reverse ++ .ref a :: rest) (k : EV E X (pc + 3) L (.ref r :: rest) τ o) : EV E X pc L S σ o := ev_callV hd hl hY hfit hci hC ha ht hn hr8 hT hS k
set_option maxRecDepth 100000 in
set_option maxHeartbeats 4000000 in
theorem x_soon (hs : shp tb8 σ q) {a : Nat} {J : ev_I} (hT : ev_T E mX9_imagine [.ref q] σ (some (.ref a), h_w τ J)) (ha : shp tb7 τ a) (n : Nat) (o : Int32 × ev_I) (h : pX8_roundsTillMore n a J = some o) : ev_T E mX9_soon [.ref q] σ (some (.int o.1), h_w τ o.2) := by
  refine ev_met rfl rfl (Nat.le_of_ble_eq_true rfl) (ev_L0 (L' := [some (.ref q)]) rfl ?_)
  refine ev_aload_n dX9_soon_0 rfl (fun _ e => by cases e) ?_
  refine ec_Vr (Y := mX9_imagine) (ci := 8) (As := []) (rest := []) dX9_soon_1 kX9_229 oX9_imagine ⟨Nat.le_of_ble_eq_true rfl, Nat.le_of_ble_eq_true rfl⟩ (by decide) rfl (shp_n hs 0 rfl) (shp_t hs 0 rfl) rfl (Nat.le_of_ble_eq_true rfl) hT rfl ?_
  refine ec_Vi (Y := mX8_roundsTillMore) (ci := 7) (As := []) (rest := []) dX9_soon_4 kX9_233 oX8_roundsTillMore ⟨Nat.le_of_ble_eq_true rfl, Nat.le_of_ble_eq_true rfl⟩ (by decide) rfl (shp_n ha 0 rfl) (shp_t ha 0 rfl) rfl (Nat.le_of_ble_eq_true rfl) (tX8_roundsTillMore n a ha J o h) rfl ?_
  exact er_i dX9_soon_7 rfl rfl
set_option maxRecDepth 100000 in
set_option maxHeartbeats 4000000 in
theorem x_withoutF (hs : shp tb8 σ q) (n : Nat) (x : Int32) (I : ev_I) (h : pX8_hasNode n (q + 1) x I = some 0) : ev_T E mX9_without [.ref q, .int x] (h_w σ I) (some (.int (-1)), h_w σ I) := by
  refine ev_met rfl rfl (Nat.le_of_ble_eq_true rfl) (ev_L0 (L' := [some (.ref q), some (.int x), none]) rfl ?_)
  refine ev_aload_n dX9_without_0 rfl (fun _ e => by cases e) ?_
  refine ew_getr0 dX9_without_1 fX9_12 hs rfl rfl rfl rfl ?_
  refine ev_iload_n dX9_without_4 rfl ?_
  refine ec_Vi (Y := mX8_hasNode) (ci := 7) (As := [.int x]) (rest := []) dX9_without_5 kX9_44 oX8_hasNode ⟨Nat.le_of_ble_eq_true rfl, Nat.le_of_ble_eq_true rfl⟩ (by decide) rfl (shp_n (s87 hs) 0 rfl) (shp_t (s87 hs) 0 rfl) rfl (Nat.le_of_ble_eq_true rfl) (tX8_hasNode n (q + 1) (s87 hs) x I 0 h) rfl ?_
  refine ev_if_ne (tgt := 13) dX9_without_8 (by decide) (fun c => absurd rfl c) (fun _ => ?_)
  refine ev_iconst (v := (-1 : Int32)) dX9_without_11 (by decide) ?_
  exact er_i dX9_without_12 rfl rfl
set_option maxRecDepth 100000 in
set_option maxHeartbeats 4000000 in
theorem x_withoutT (hs : shp tb8 σ q) (n : Nat) (x : Int32) (I : ev_I) (h : pX8_hasNode n (q + 1) x I = some 1) {a : Nat} {J : ev_I} (hT : ev_T E mX9_imagine [.ref q] (h_w σ I) (some (.ref a), h_w τ J)) (ha : shp tb7 τ a) (hx : ev_in x 7 = true) (o : Int32 × ev_I) (h2 : pX8_roundsTillMore n a (ev_u2 J (a + (23 + 5 * x.toNatClampNeg)) 0 1) = some o) : ev_T E mX9_without [.ref q, .int x] (h_w σ I) (some (.int o.1), h_w τ o.2) := by
  refine ev_met rfl rfl (Nat.le_of_ble_eq_true rfl) (ev_L0 (L' := [some (.ref q), some (.int x), none]) rfl ?_)
  refine ev_aload_n dX9_without_0 rfl (fun _ e => by cases e) ?_
  refine ew_getr0 dX9_without_1 fX9_12 hs rfl rfl rfl rfl ?_
  refine ev_iload_n dX9_without_4 rfl ?_
  refine ec_Vi (Y := mX8_hasNode) (ci := 7) (As := [.int x]) (rest := []) dX9_without_5 kX9_44 oX8_hasNode ⟨Nat.le_of_ble_eq_true rfl, Nat.le_of_ble_eq_true rfl⟩ (by decide) rfl (shp_n (s87 hs) 0 rfl) (shp_t (s87 hs) 0 rfl) rfl (Nat.le_of_ble_eq_true rfl) (tX8_hasNode n (q + 1) (s87 hs) x I 1 h) rfl ?_
  refine ev_if_ne (tgt := 13) dX9_without_8 (by decide) (fun _ => ?_) (fun c => absurd c (by decide))
  refine ev_aload_n dX9_without_13 rfl (fun _ e => by cases e) ?_
  refine ec_Vr (Y := mX9_imagine) (ci := 8) (As := []) (rest := []) dX9_without_14 kX9_229 oX9_imagine ⟨Nat.le_of_ble_eq_true rfl, Nat.le_of_ble_eq_true rfl⟩ (by decide) rfl (shp_n hs 0 rfl) (shp_t hs 0 rfl) rfl (Nat.le_of_ble_eq_true rfl) hT rfl ?_
  refine ew_astn (L' := [some (.ref q), some (.int x), some (.ref a)]) dX9_without_17 (Nat.le_of_ble_eq_true rfl) (fun _ e => by cases e) rfl ?_
  refine ev_aload_n dX9_without_18 rfl (fun _ e => by cases e) ?_
  refine ew_getr0 dX9_without_19 fX9_48 ha rfl rfl rfl rfl ?_
  refine ev_iload_n dX9_without_22 rfl ?_
  refine ew_memb dX9_without_23 ha hx ?_
  refine ev_iconst (v := (1 : Int32)) dX9_without_24 (by decide) ?_
  refine ew_put0 dX9_without_25 fX9_52 (s73 ha (ev_inL hx)) rfl rfl rfl rfl rfl rfl ?_
  refine ev_aload_n dX9_without_28 rfl (fun _ e => by cases e) ?_
  refine ec_Vi (Y := mX8_roundsTillMore) (ci := 7) (As := []) (rest := []) dX9_without_29 kX9_233 oX8_roundsTillMore ⟨Nat.le_of_ble_eq_true rfl, Nat.le_of_ble_eq_true rfl⟩ (by decide) rfl (shp_n ha 0 rfl) (shp_t ha 0 rfl) rfl (Nat.le_of_ble_eq_true rfl) (tX8_roundsTillMore n a ha _ o h2) rfl ?_
  exact er_i dX9_without_32 rfl rfl
end Worlds
