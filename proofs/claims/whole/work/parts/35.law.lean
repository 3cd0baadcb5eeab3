/-! THE LAW: its cases and its loop (printed by wip/whole/gen4.py) -/
abbrev LSL (i : Nat) : List (Option Value) := [some (.float 0), some (.ref 0), some (.ref 69), some (.int (nI i))]
/-- one pair of calls: both answer alike, and the invariant stays -/
def lw_s (E : ev_N) (Inv : ev_H → Prop) (Y Z : ev_M) (As : List Value) : Prop := ∀ σ, Inv σ → ∃ r σ1 σ2, ev_T E Y (.ref 0 :: As) σ (some (.int r), σ1) ∧ ev_T E Z (.ref 69 :: As) σ1 (some (.int r), σ2) ∧ Inv σ2 ∧ 69 < h_n σ1 ∧ h_t σ1 69 = 9
def lw_0 (Inv : ev_H → Prop) : Prop := ∀ σ, Inv σ → 0 < h_n σ ∧ h_t σ 0 = 8
theorem lw_in {E : ev_N} {i : Nat} (hi : i + 5 < n_sl E) (hL : n_sl E ≤ 3072) (j : Nat) (hj : j ≤ 5) {J : Int32} (hJ : J = nI j) : vp_in (nI i + J) (n_sl E) := by
  rw [hJ, nI_add]
  exact vp_in_nI (by omega) (by omega)
def lw_a (E : ev_N) (i : Nat) (J : Int32) : Int32 := n_sx E (nI i + J).toNatClampNeg
set_option maxRecDepth 100000 in
set_option maxHeartbeats 4000000 in
theorem law_c0 {E : ev_N} {P : Option Value × ev_H → Prop} {Inv : ev_H → Prop} {σ : ev_H} {i : Nat} (hi : i + 5 < n_sl E) (hL : n_sl E ≤ 3072) (hI : Inv σ) (h0 : lw_0 Inv) (hs : ∀ (a1 : Int32), lw_s E Inv mX9_nodes mX10_nodes [.int a1]) (k : ∀ τ, Inv τ → EX E mL_law 1557 (LSL i) [] τ P) : EX E mL_law 220 (LSL i) [] σ P := by
  refine ex_up (fun _ k => ev_aload_n dL_law_220 rfl (fun _ e => by cases e) k) ?_
  refine ex_up (fun _ k => ev_aload_n dL_law_221 rfl (fun _ e => by cases e) k) ?_
  refine ex_up (fun _ k => ev_iload_n dL_law_222 rfl k) ?_
  refine ex_up (fun _ k => ev_iconst (v := (1 : Int32)) dL_law_223 (by decide) k) ?_
  refine ex_up (fun _ k => ev_iadd dL_law_224 k) ?_
  refine ex_up (fun _ k => ev_sld dL_law_225 (lw_in hi hL 1 (by decide) rfl) k) ?_
  obtain ⟨r, σ1, σ2, hx, hm, hI2, hn1, ht1⟩ := (hs (lw_a E i (1 : Int32))) σ hI
  refine ex_up (fun _ k => ec_Vi (Y := mX9_nodes) (ci := 8) (As := [.int (lw_a E i (1 : Int32))]) (rest := []) dL_law_226 kL_13 oX9_nodes ⟨Nat.le_of_ble_eq_true rfl, Nat.le_of_ble_eq_true rfl⟩ (by decide) rfl (h0 σ hI).1 (h0 σ hI).2 rfl (Nat.le_of_ble_eq_true rfl) hx rfl k) ?_
  refine ex_up (fun _ k => ev_aload_n dL_law_229 rfl (fun _ e => by cases e) k) ?_
  refine ex_up (fun _ k => ev_aload_n dL_law_230 rfl (fun _ e => by cases e) k) ?_
  refine ex_up (fun _ k => ev_iload_n dL_law_231 rfl k) ?_
  refine ex_up (fun _ k => ev_iconst (v := (1 : Int32)) dL_law_232 (by decide) k) ?_
  refine ex_up (fun _ k => ev_iadd dL_law_233 k) ?_
  refine ex_up (fun _ k => ev_sld dL_law_234 (lw_in hi hL 1 (by decide) rfl) k) ?_
  refine ex_up (fun _ k => ec_Vi (Y := mX10_nodes) (ci := 9) (As := [.int (lw_a E i (1 : Int32))]) (rest := [.int r]) dL_law_235 kL_17 oX10_nodes ⟨Nat.le_of_ble_eq_true rfl, Nat.le_of_ble_eq_true rfl⟩ (by decide) rfl hn1 ht1 rfl (Nat.le_of_ble_eq_true rfl) hm rfl k) ?_
  refine ex_up (fun _ k => ev_icmp_eq (tgt := 1557) dL_law_238 (by decide) (fun _ => k) (fun q => absurd rfl q)) ?_
  exact k σ2 hI2
set_option maxRecDepth 100000 in
set_option maxHeartbeats 4000000 in
theorem law_c1 {E : ev_N} {P : Option Value × ev_H → Prop} {Inv : ev_H → Prop} {σ : ev_H} {i : Nat} (hi : i + 5 < n_sl E) (hL : n_sl E ≤ 3072) (hI : Inv σ) (h0 : lw_0 Inv) (hs : ∀ (a1 : Int32) (a2 : Int32), lw_s E Inv mX9_mode mX10_mode [.int a1, .int a2]) (k : ∀ τ, Inv τ → EX E mL_law 1557 (LSL i) [] τ P) : EX E mL_law 243 (LSL i) [] σ P := by
  refine ex_up (fun _ k => ev_aload_n dL_law_243 rfl (fun _ e => by cases e) k) ?_
  refine ex_up (fun _ k => ev_aload_n dL_law_244 rfl (fun _ e => by cases e) k) ?_
  refine ex_up (fun _ k => ev_iload_n dL_law_245 rfl k) ?_
  refine ex_up (fun _ k => ev_iconst (v := (1 : Int32)) dL_law_246 (by decide) k) ?_
  refine ex_up (fun _ k => ev_iadd dL_law_247 k) ?_
  refine ex_up (fun _ k => ev_sld dL_law_248 (lw_in hi hL 1 (by decide) rfl) k) ?_
  refine ex_up (fun _ k => ev_aload_n dL_law_249 rfl (fun _ e => by cases e) k) ?_
  refine ex_up (fun _ k => ev_iload_n dL_law_250 rfl k) ?_
  refine ex_up (fun _ k => ev_iconst (v := (2 : Int32)) dL_law_251 (by decide) k) ?_
  refine ex_up (fun _ k => ev_iadd dL_law_252 k) ?_
  refine ex_up (fun _ k => ev_sld dL_law_253 (lw_in hi hL 2 (by decide) rfl) k) ?_
  obtain ⟨r, σ1, σ2, hx, hm, hI2, hn1, ht1⟩ := (hs (lw_a E i (1 : Int32)) (lw_a E i (2 : Int32))) σ hI
  refine ex_up (fun _ k => ec_Vi (Y := mX9_mode) (ci := 8) (As := [.int (lw_a E i (1 : Int32)), .int (lw_a E i (2 : Int32))]) (rest := []) dL_law_254 kL_18 oX9_mode ⟨Nat.le_of_ble_eq_true rfl, Nat.le_of_ble_eq_true rfl⟩ (by decide) rfl (h0 σ hI).1 (h0 σ hI).2 rfl (Nat.le_of_ble_eq_true rfl) hx rfl k) ?_
  refine ex_up (fun _ k => ev_aload_n dL_law_257 rfl (fun _ e => by cases e) k) ?_
  refine ex_up (fun _ k => ev_aload_n dL_law_258 rfl (fun _ e => by cases e) k) ?_
  refine ex_up (fun _ k => ev_iload_n dL_law_259 rfl k) ?_
  refine ex_up (fun _ k => ev_iconst (v := (1 : Int32)) dL_law_260 (by decide) k) ?_
  refine ex_up (fun _ k => ev_iadd dL_law_261 k) ?_
  refine ex_up (fun _ k => ev_sld dL_law_262 (lw_in hi hL 1 (by decide) rfl) k) ?_
  refine ex_up (fun _ k => ev_aload_n dL_law_263 rfl (fun _ e => by cases e) k) ?_
  refine ex_up (fun _ k => ev_iload_n dL_law_264 rfl k) ?_
  refine ex_up (fun _ k => ev_iconst (v := (2 : Int32)) dL_law_265 (by decide) k) ?_
  refine ex_up (fun _ k => ev_iadd dL_law_266 k) ?_
  refine ex_up (fun _ k => ev_sld dL_law_267 (lw_in hi hL 2 (by decide) rfl) k) ?_
  refine ex_up (fun _ k => ec_Vi (Y := mX10_mode) (ci := 9) (As := [.int (lw_a E i (1 : Int32)), .int (lw_a E i (2 : Int32))]) (rest := [.int r]) dL_law_268 kL_22 oX10_mode ⟨Nat.le_of_ble_eq_true rfl, Nat.le_of_ble_eq_true rfl⟩ (by decide) rfl hn1 ht1 rfl (Nat.le_of_ble_eq_true rfl) hm rfl k) ?_
  refine ex_up (fun _ k => ev_icmp_eq (tgt := 1557) dL_law_271 (by decide) (fun _ => k) (fun q => absurd rfl q)) ?_
  exact k σ2 hI2
set_option maxRecDepth 100000 in
set_option maxHeartbeats 4000000 in
theorem law_c2 {E : ev_N} {P : Option Value × ev_H → Prop} {Inv : ev_H → Prop} {σ : ev_H} {i : Nat} (hi : i + 5 < n_sl E) (hL : n_sl E ≤ 3072) (hI : Inv σ) (h0 : lw_0 Inv) (hs : ∀ (a1 : Int32) (a2 : Int32), lw_s E Inv mX9_propose mX10_propose [.int a1, .int a2]) (k : ∀ τ, Inv τ → EX E mL_law 1557 (LSL i) [] τ P) : EX E mL_law 276 (LSL i) [] σ P := by
  refine ex_up (fun _ k => ev_aload_n dL_law_276 rfl (fun _ e => by cases e) k) ?_
  refine ex_up (fun _ k => ev_aload_n dL_law_277 rfl (fun _ e => by cases e) k) ?_
  refine ex_up (fun _ k => ev_iload_n dL_law_278 rfl k) ?_
  refine ex_up (fun _ k => ev_iconst (v := (1 : Int32)) dL_law_279 (by decide) k) ?_
  refine ex_up (fun _ k => ev_iadd dL_law_280 k) ?_
  refine ex_up (fun _ k => ev_sld dL_law_281 (lw_in hi hL 1 (by decide) rfl) k) ?_
  refine ex_up (fun _ k => ev_aload_n dL_law_282 rfl (fun _ e => by cases e) k) ?_
  refine ex_up (fun _ k => ev_iload_n dL_law_283 rfl k) ?_
  refine ex_up (fun _ k => ev_iconst (v := (2 : Int32)) dL_law_284 (by decide) k) ?_
  refine ex_up (fun _ k => ev_iadd dL_law_285 k) ?_
  refine ex_up (fun _ k => ev_sld dL_law_286 (lw_in hi hL 2 (by decide) rfl) k) ?_
  obtain ⟨r, σ1, σ2, hx, hm, hI2, hn1, ht1⟩ := (hs (lw_a E i (1 : Int32)) (lw_a E i (2 : Int32))) σ hI
  refine ex_up (fun _ k => ec_Vi (Y := mX9_propose) (ci := 8) (As := [.int (lw_a E i (1 : Int32)), .int (lw_a E i (2 : Int32))]) (rest := []) dL_law_287 kL_23 oX9_propose ⟨Nat.le_of_ble_eq_true rfl, Nat.le_of_ble_eq_true rfl⟩ (by decide) rfl (h0 σ hI).1 (h0 σ hI).2 rfl (Nat.le_of_ble_eq_true rfl) hx rfl k) ?_
  refine ex_up (fun _ k => ev_aload_n dL_law_290 rfl (fun _ e => by cases e) k) ?_
  refine ex_up (fun _ k => ev_aload_n dL_law_291 rfl (fun _ e => by cases e) k) ?_
  refine ex_up (fun _ k => ev_iload_n dL_law_292 rfl k) ?_
  refine ex_up (fun _ k => ev_iconst (v := (1 : Int32)) dL_law_293 (by decide) k) ?_
  refine ex_up (fun _ k => ev_iadd dL_law_294 k) ?_
  refine ex_up (fun _ k => ev_sld dL_law_295 (lw_in hi hL 1 (by decide) rfl) k) ?_
  refine ex_up (fun _ k => ev_aload_n dL_law_296 rfl (fun _ e => by cases e) k) ?_
  refine ex_up (fun _ k => ev_iload_n dL_law_297 rfl k) ?_
  refine ex_up (fun _ k => ev_iconst (v := (2 : Int32)) dL_law_298 (by decide) k) ?_
  refine ex_up (fun _ k => ev_iadd dL_law_299 k) ?_
  refine ex_up (fun _ k => ev_sld dL_law_300 (lw_in hi hL 2 (by decide) rfl) k) ?_
  refine ex_up (fun _ k => ec_Vi (Y := mX10_propose) (ci := 9) (As := [.int (lw_a E i (1 : Int32)), .int (lw_a E i (2 : Int32))]) (rest := [.int r]) dL_law_301 kL_27 oX10_propose ⟨Nat.le_of_ble_eq_true rfl, Nat.le_of_ble_eq_true rfl⟩ (by decide) rfl hn1 ht1 rfl (Nat.le_of_ble_eq_true rfl) hm rfl k) ?_
  refine ex_up (fun _ k => ev_icmp_eq (tgt := 1557) dL_law_304 (by decide) (fun _ => k) (fun q => absurd rfl q)) ?_
  exact k σ2 hI2
set_option maxRecDepth 100000 in
set_option maxHeartbeats 4000000 in
theorem law_c3 {E : ev_N} {P : Option Value × ev_H → Prop} {Inv : ev_H → Prop} {σ : ev_H} {i : Nat} (hi : i + 5 < n_sl E) (hL : n_sl E ≤ 3072) (hI : Inv σ) (h0 : lw_0 Inv) (hs : ∀ (a1 : Int32), lw_s E Inv mX9_timeout mX10_timeout [.int a1]) (k : ∀ τ, Inv τ → EX E mL_law 1557 (LSL i) [] τ P) : EX E mL_law 309 (LSL i) [] σ P := by
  refine ex_up (fun _ k => ev_aload_n dL_law_309 rfl (fun _ e => by cases e) k) ?_
  refine ex_up (fun _ k => ev_aload_n dL_law_310 rfl (fun _ e => by cases e) k) ?_
  refine ex_up (fun _ k => ev_iload_n dL_law_311 rfl k) ?_
  refine ex_up (fun _ k => ev_iconst (v := (1 : Int32)) dL_law_312 (by decide) k) ?_
  refine ex_up (fun _ k => ev_iadd dL_law_313 k) ?_
  refine ex_up (fun _ k => ev_sld dL_law_314 (lw_in hi hL 1 (by decide) rfl) k) ?_
  obtain ⟨r, σ1, σ2, hx, hm, hI2, hn1, ht1⟩ := (hs (lw_a E i (1 : Int32))) σ hI
  refine ex_up (fun _ k => ec_Vi (Y := mX9_timeout) (ci := 8) (As := [.int (lw_a E i (1 : Int32))]) (rest := []) dL_law_315 kL_28 oX9_timeout ⟨Nat.le_of_ble_eq_true rfl, Nat.le_of_ble_eq_true rfl⟩ (by decide) rfl (h0 σ hI).1 (h0 σ hI).2 rfl (Nat.le_of_ble_eq_true rfl) hx rfl k) ?_
  refine ex_up (fun _ k => ev_aload_n dL_law_318 rfl (fun _ e => by cases e) k) ?_
  refine ex_up (fun _ k => ev_aload_n dL_law_319 rfl (fun _ e => by cases e) k) ?_
  refine ex_up (fun _ k => ev_iload_n dL_law_320 rfl k) ?_
  refine ex_up (fun _ k => ev_iconst (v := (1 : Int32)) dL_law_321 (by decide) k) ?_
  refine ex_up (fun _ k => ev_iadd dL_law_322 k) ?_
  refine ex_up (fun _ k => ev_sld dL_law_323 (lw_in hi hL 1 (by decide) rfl) k) ?_
  refine ex_up (fun _ k => ec_Vi (Y := mX10_timeout) (ci := 9) (As := [.int (lw_a E i (1 : Int32))]) (rest := [.int r]) dL_law_324 kL_31 oX10_timeout ⟨Nat.le_of_ble_eq_true rfl, Nat.le_of_ble_eq_true rfl⟩ (by decide) rfl hn1 ht1 rfl (Nat.le_of_ble_eq_true rfl) hm rfl k) ?_
  refine ex_up (fun _ k => ev_icmp_eq (tgt := 1557) dL_law_327 (by decide) (fun _ => k) (fun q => absurd rfl q)) ?_
  exact k σ2 hI2
set_option maxRecDepth 100000 in
set_option maxHeartbeats 4000000 in
theorem law_c4 {E : ev_N} {P : Option Value × ev_H → Prop} {Inv : ev_H → Prop} {σ : ev_H} {i : Nat} (hi : i + 5 < n_sl E) (hL : n_sl E ≤ 3072) (hI : Inv σ) (h0 : lw_0 Inv) (hs : ∀ (a1 : Int32) (a2 : Int32) (a3 : Int32) (a4 : Int32) (a5 : Int32), lw_s E Inv mX9_lie mX10_lie [.int a1, .int a2, .int a3, .int a4, .int a5]) (k : ∀ τ, Inv τ → EX E mL_law 1557 (LSL i) [] τ P) : EX E mL_law 332 (LSL i) [] σ P := by
  refine ex_up (fun _ k => ev_aload_n dL_law_332 rfl (fun _ e => by cases e) k) ?_
  refine ex_up (fun _ k => ev_aload_n dL_law_333 rfl (fun _ e => by cases e) k) ?_
  refine ex_up (fun _ k => ev_iload_n dL_law_334 rfl k) ?_
  refine ex_up (fun _ k => ev_iconst (v := (1 : Int32)) dL_law_335 (by decide) k) ?_
  refine ex_up (fun _ k => ev_iadd dL_law_336 k) ?_
  refine ex_up (fun _ k => ev_sld dL_law_337 (lw_in hi hL 1 (by decide) rfl) k) ?_
  refine ex_up (fun _ k => ev_aload_n dL_law_338 rfl (fun _ e => by cases e) k) ?_
  refine ex_up (fun _ k => ev_iload_n dL_law_339 rfl k) ?_
  refine ex_up (fun _ k => ev_iconst (v := (2 : Int32)) dL_law_340 (by decide) k) ?_
  refine ex_up (fun _ k => ev_iadd dL_law_341 k) ?_
  refine ex_up (fun _ k => ev_sld dL_law_342 (lw_in hi hL 2 (by decide) rfl) k) ?_
  refine ex_up (fun _ k => ev_aload_n dL_law_343 rfl (fun _ e => by cases e) k) ?_
  refine ex_up (fun _ k => ev_iload_n dL_law_344 rfl k) ?_
  refine ex_up (fun _ k => ev_iconst (v := (3 : Int32)) dL_law_345 (by decide) k) ?_
  refine ex_up (fun _ k => ev_iadd dL_law_346 k) ?_
  refine ex_up (fun _ k => ev_sld dL_law_347 (lw_in hi hL 3 (by decide) rfl) k) ?_
  refine ex_up (fun _ k => ev_aload_n dL_law_348 rfl (fun _ e => by cases e) k) ?_
  refine ex_up (fun _ k => ev_iload_n dL_law_349 rfl k) ?_
  refine ex_up (fun _ k => ev_iconst (v := (4 : Int32)) dL_law_350 (by decide) k) ?_
  refine ex_up (fun _ k => ev_iadd dL_law_351 k) ?_
  refine ex_up (fun _ k => ev_sld dL_law_352 (lw_in hi hL 4 (by decide) rfl) k) ?_
  refine ex_up (fun _ k => ev_aload_n dL_law_353 rfl (fun _ e => by cases e) k) ?_
  refine ex_up (fun _ k => ev_iload_n dL_law_354 rfl k) ?_
  refine ex_up (fun _ k => ev_iconst (v := (5 : Int32)) dL_law_355 (by decide) k) ?_
  refine ex_up (fun _ k => ev_iadd dL_law_356 k) ?_
  refine ex_up (fun _ k => ev_sld dL_law_357 (lw_in hi hL 5 (by decide) rfl) k) ?_
  obtain ⟨r, σ1, σ2, hx, hm, hI2, hn1, ht1⟩ := (hs (lw_a E i (1 : Int32)) (lw_a E i (2 : Int32)) (lw_a E i (3 : Int32)) (lw_a E i (4 : Int32)) (lw_a E i (5 : Int32))) σ hI
  refine ex_up (fun _ k => ec_Vi (Y := mX9_lie) (ci := 8) (As := [.int (lw_a E i (1 : Int32)), .int (lw_a E i (2 : Int32)), .int (lw_a E i (3 : Int32)), .int (lw_a E i (4 : Int32)), .int (lw_a E i (5 : Int32))]) (rest := []) dL_law_358 kL_32 oX9_lie ⟨Nat.le_of_ble_eq_true rfl, Nat.le_of_ble_eq_true rfl⟩ (by decide) rfl (h0 σ hI).1 (h0 σ hI).2 rfl (Nat.le_of_ble_eq_true rfl) hx rfl k) ?_
  refine ex_up (fun _ k => ev_aload_n dL_law_361 rfl (fun _ e => by cases e) k) ?_
  refine ex_up (fun _ k => ev_aload_n dL_law_362 rfl (fun _ e => by cases e) k) ?_
  refine ex_up (fun _ k => ev_iload_n dL_law_363 rfl k) ?_
  refine ex_up (fun _ k => ev_iconst (v := (1 : Int32)) dL_law_364 (by decide) k) ?_
  refine ex_up (fun _ k => ev_iadd dL_law_365 k) ?_
  refine ex_up (fun _ k => ev_sld dL_law_366 (lw_in hi hL 1 (by decide) rfl) k) ?_
  refine ex_up (fun _ k => ev_aload_n dL_law_367 rfl (fun _ e => by cases e) k) ?_
  refine ex_up (fun _ k => ev_iload_n dL_law_368 rfl k) ?_
  refine ex_up (fun _ k => ev_iconst (v := (2 : Int32)) dL_law_369 (by decide) k) ?_
  refine ex_up (fun _ k => ev_iadd dL_law_370 k) ?_
  refine ex_up (fun _ k => ev_sld dL_law_371 (lw_in hi hL 2 (by decide) rfl) k) ?_
  refine ex_up (fun _ k => ev_aload_n dL_law_372 rfl (fun _ e => by cases e) k) ?_
  refine ex_up (fun _ k => ev_iload_n dL_law_373 rfl k) ?_
  refine ex_up (fun _ k => ev_iconst (v := (3 : Int32)) dL_law_374 (by decide) k) ?_
  refine ex_up (fun _ k => ev_iadd dL_law_375 k) ?_
  refine ex_up (fun _ k => ev_sld dL_law_376 (lw_in hi hL 3 (by decide) rfl) k) ?_
  refine ex_up (fun _ k => ev_aload_n dL_law_377 rfl (fun _ e => by cases e) k) ?_
  refine ex_up (fun _ k => ev_iload_n dL_law_378 rfl k) ?_
  refine ex_up (fun _ k => ev_iconst (v := (4 : Int32)) dL_law_379 (by decide) k) ?_
  refine ex_up (fun _ k => ev_iadd dL_law_380 k) ?_
  refine ex_up (fun _ k => ev_sld dL_law_381 (lw_in hi hL 4 (by decide) rfl) k) ?_
  refine ex_up (fun _ k => ev_aload_n dL_law_382 rfl (fun _ e => by cases e) k) ?_
  refine ex_up (fun _ k => ev_iload_n dL_law_383 rfl k) ?_
  refine ex_up (fun _ k => ev_iconst (v := (5 : Int32)) dL_law_384 (by decide) k) ?_
  refine ex_up (fun _ k => ev_iadd dL_law_385 k) ?_
  refine ex_up (fun _ k => ev_sld dL_law_386 (lw_in hi hL 5 (by decide) rfl) k) ?_
  refine ex_up (fun _ k => ec_Vi (Y := mX10_lie) (ci := 9) (As := [.int (lw_a E i (1 : Int32)), .int (lw_a E i (2 : Int32)), .int (lw_a E i (3 : Int32)), .int (lw_a E i (4 : Int32)), .int (lw_a E i (5 : Int32))]) (rest := [.int r]) dL_law_387 kL_36 oX10_lie ⟨Nat.le_of_ble_eq_true rfl, Nat.le_of_ble_eq_true rfl⟩ (by decide) rfl hn1 ht1 rfl (Nat.le_of_ble_eq_true rfl) hm rfl k) ?_
  refine ex_up (fun _ k => ev_icmp_eq (tgt := 1557) dL_law_390 (by decide) (fun _ => k) (fun q => absurd rfl q)) ?_
  exact k σ2 hI2
set_option maxRecDepth 100000 in
set_option maxHeartbeats 4000000 in
theorem law_c5 {E : ev_N} {P : Option Value × ev_H → Prop} {Inv : ev_H → Prop} {σ : ev_H} {i : Nat} (hi : i + 5 < n_sl E) (hL : n_sl E ≤ 3072) (hI : Inv σ) (h0 : lw_0 Inv) (hs : ∀ (a1 : Int32), lw_s E Inv mX9_deliver mX10_deliver [.int a1]) (k : ∀ τ, Inv τ → EX E mL_law 1557 (LSL i) [] τ P) : EX E mL_law 395 (LSL i) [] σ P := by
  refine ex_up (fun _ k => ev_aload_n dL_law_395 rfl (fun _ e => by cases e) k) ?_
  refine ex_up (fun _ k => ev_aload_n dL_law_396 rfl (fun _ e => by cases e) k) ?_
  refine ex_up (fun _ k => ev_iload_n dL_law_397 rfl k) ?_
  refine ex_up (fun _ k => ev_iconst (v := (1 : Int32)) dL_law_398 (by decide) k) ?_
  refine ex_up (fun _ k => ev_iadd dL_law_399 k) ?_
  refine ex_up (fun _ k => ev_sld dL_law_400 (lw_in hi hL 1 (by decide) rfl) k) ?_
  obtain ⟨r, σ1, σ2, hx, hm, hI2, hn1, ht1⟩ := (hs (lw_a E i (1 : Int32))) σ hI
  refine ex_up (fun _ k => ec_Vi (Y := mX9_deliver) (ci := 8) (As := [.int (lw_a E i (1 : Int32))]) (rest := []) dL_law_401 kL_37 oX9_deliver ⟨Nat.le_of_ble_eq_true rfl, Nat.le_of_ble_eq_true rfl⟩ (by decide) rfl (h0 σ hI).1 (h0 σ hI).2 rfl (Nat.le_of_ble_eq_true rfl) hx rfl k) ?_
  refine ex_up (fun _ k => ev_aload_n dL_law_404 rfl (fun _ e => by cases e) k) ?_
  refine ex_up (fun _ k => ev_aload_n dL_law_405 rfl (fun _ e => by cases e) k) ?_
  refine ex_up (fun _ k => ev_iload_n dL_law_406 rfl k) ?_
  refine ex_up (fun _ k => ev_iconst (v := (1 : Int32)) dL_law_407 (by decide) k) ?_
  refine ex_up (fun _ k => ev_iadd dL_law_408 k) ?_
  refine ex_up (fun _ k => ev_sld dL_law_409 (lw_in hi hL 1 (by decide) rfl) k) ?_
  refine ex_up (fun _ k => ec_Vi (Y := mX10_deliver) (ci := 9) (As := [.int (lw_a E i (1 : Int32))]) (rest := [.int r]) dL_law_410 kL_41 oX10_deliver ⟨Nat.le_of_ble_eq_true rfl, Nat.le_of_ble_eq_true rfl⟩ (by decide) rfl hn1 ht1 rfl (Nat.le_of_ble_eq_true rfl) hm rfl k) ?_
  refine ex_up (fun _ k => ev_icmp_eq (tgt := 1557) dL_law_413 (by decide) (fun _ => k) (fun q => absurd rfl q)) ?_
  exact k σ2 hI2
set_option maxRecDepth 100000 in
set_option maxHeartbeats 4000000 in
theorem law_c6 {E : ev_N} {P : Option Value × ev_H → Prop} {Inv : ev_H → Prop} {σ : ev_H} {i : Nat} (hi : i + 5 < n_sl E) (hL : n_sl E ≤ 3072) (hI : Inv σ) (h0 : lw_0 Inv) (hs : ∀ (a1 : Int32), lw_s E Inv mX9_drop mX10_drop [.int a1]) (k : ∀ τ, Inv τ → EX E mL_law 1557 (LSL i) [] τ P) : EX E mL_law 418 (LSL i) [] σ P := by
  refine ex_up (fun _ k => ev_aload_n dL_law_418 rfl (fun _ e => by cases e) k) ?_
  refine ex_up (fun _ k => ev_aload_n dL_law_419 rfl (fun _ e => by cases e) k) ?_
  refine ex_up (fun _ k => ev_iload_n dL_law_420 rfl k) ?_
  refine ex_up (fun _ k => ev_iconst (v := (1 : Int32)) dL_law_421 (by decide) k) ?_
  refine ex_up (fun _ k => ev_iadd dL_law_422 k) ?_
  refine ex_up (fun _ k => ev_sld dL_law_423 (lw_in hi hL 1 (by decide) rfl) k) ?_
  obtain ⟨r, σ1, σ2, hx, hm, hI2, hn1, ht1⟩ := (hs (lw_a E i (1 : Int32))) σ hI
  refine ex_up (fun _ k => ec_Vi (Y := mX9_drop) (ci := 8) (As := [.int (lw_a E i (1 : Int32))]) (rest := []) dL_law_424 kL_42 oX9_drop ⟨Nat.le_of_ble_eq_true rfl, Nat.le_of_ble_eq_true rfl⟩ (by decide) rfl (h0 σ hI).1 (h0 σ hI).2 rfl (Nat.le_of_ble_eq_true rfl) hx rfl k) ?_
  refine ex_up (fun _ k => ev_aload_n dL_law_427 rfl (fun _ e => by cases e) k) ?_
  refine ex_up (fun _ k => ev_aload_n dL_law_428 rfl (fun _ e => by cases e) k) ?_
  refine ex_up (fun _ k => ev_iload_n dL_law_429 rfl k) ?_
  refine ex_up (fun _ k => ev_iconst (v := (1 : Int32)) dL_law_430 (by decide) k) ?_
  refine ex_up (fun _ k => ev_iadd dL_law_431 k) ?_
  refine ex_up (fun _ k => ev_sld dL_law_432 (lw_in hi hL 1 (by decide) rfl) k) ?_
  refine ex_up (fun _ k => ec_Vi (Y := mX10_drop) (ci := 9) (As := [.int (lw_a E i (1 : Int32))]) (rest := [.int r]) dL_law_433 kL_45 oX10_drop ⟨Nat.le_of_ble_eq_true rfl, Nat.le_of_ble_eq_true rfl⟩ (by decide) rfl hn1 ht1 rfl (Nat.le_of_ble_eq_true rfl) hm rfl k) ?_
  refine ex_up (fun _ k => ev_icmp_eq (tgt := 1557) dL_law_436 (by decide) (fun _ => k) (fun q => absurd rfl q)) ?_
  exact k σ2 hI2
set_option maxRecDepth 100000 in
set_option maxHeartbeats 4000000 in
theorem law_c7 {E : ev_N} {P : Option Value × ev_H → Prop} {Inv : ev_H → Prop} {σ : ev_H} {i : Nat} (hi : i + 5 < n_sl E) (hL : n_sl E ≤ 3072) (hI : Inv σ) (h0 : lw_0 Inv) (hs : ∀ (a1 : Int32), lw_s E Inv mX9_lose mX10_lose [.int a1]) (k : ∀ τ, Inv τ → EX E mL_law 1557 (LSL i) [] τ P) : EX E mL_law 441 (LSL i) [] σ P := by
  refine ex_up (fun _ k => ev_aload_n dL_law_441 rfl (fun _ e => by cases e) k) ?_
  refine ex_up (fun _ k => ev_aload_n dL_law_442 rfl (fun _ e => by cases e) k) ?_
  refine ex_up (fun _ k => ev_iload_n dL_law_443 rfl k) ?_
  refine ex_up (fun _ k => ev_iconst (v := (1 : Int32)) dL_law_444 (by decide) k) ?_
  refine ex_up (fun _ k => ev_iadd dL_law_445 k) ?_
  refine ex_up (fun _ k => ev_sld dL_law_446 (lw_in hi hL 1 (by decide) rfl) k) ?_
  obtain ⟨r, σ1, σ2, hx, hm, hI2, hn1, ht1⟩ := (hs (lw_a E i (1 : Int32))) σ hI
  refine ex_up (fun _ k => ec_Vi (Y := mX9_lose) (ci := 8) (As := [.int (lw_a E i (1 : Int32))]) (rest := []) dL_law_447 kL_46 oX9_lose ⟨Nat.le_of_ble_eq_true rfl, Nat.le_of_ble_eq_true rfl⟩ (by decide) rfl (h0 σ hI).1 (h0 σ hI).2 rfl (Nat.le_of_ble_eq_true rfl) hx rfl k) ?_
  refine ex_up (fun _ k => ev_aload_n dL_law_450 rfl (fun _ e => by cases e) k) ?_
  refine ex_up (fun _ k => ev_aload_n dL_law_451 rfl (fun _ e => by cases e) k) ?_
  refine ex_up (fun _ k => ev_iload_n dL_law_452 rfl k) ?_
  refine ex_up (fun _ k => ev_iconst (v := (1 : Int32)) dL_law_453 (by decide) k) ?_
  refine ex_up (fun _ k => ev_iadd dL_law_454 k) ?_
  refine ex_up (fun _ k => ev_sld dL_law_455 (lw_in hi hL 1 (by decide) rfl) k) ?_
  refine ex_up (fun _ k => ec_Vi (Y := mX10_lose) (ci := 9) (As := [.int (lw_a E i (1 : Int32))]) (rest := [.int r]) dL_law_456 kL_49 oX10_lose ⟨Nat.le_of_ble_eq_true rfl, Nat.le_of_ble_eq_true rfl⟩ (by decide) rfl hn1 ht1 rfl (Nat.le_of_ble_eq_true rfl) hm rfl k) ?_
  refine ex_up (fun _ k => ev_icmp_eq (tgt := 1557) dL_law_459 (by decide) (fun _ => k) (fun q => absurd rfl q)) ?_
  exact k σ2 hI2
set_option maxRecDepth 100000 in
set_option maxHeartbeats 4000000 in
theorem law_c8 {E : ev_N} {P : Option Value × ev_H → Prop} {Inv : ev_H → Prop} {σ : ev_H} {i : Nat} (hi : i + 5 < n_sl E) (hL : n_sl E ≤ 3072) (hI : Inv σ) (h0 : lw_0 Inv) (hs : ∀ (a1 : Int32), lw_s E Inv mX9_leaders mX10_leaders [.int a1]) (k : ∀ τ, Inv τ → EX E mL_law 1557 (LSL i) [] τ P) : EX E mL_law 464 (LSL i) [] σ P := by
  refine ex_up (fun _ k => ev_aload_n dL_law_464 rfl (fun _ e => by cases e) k) ?_
  refine ex_up (fun _ k => ev_aload_n dL_law_465 rfl (fun _ e => by cases e) k) ?_
  refine ex_up (fun _ k => ev_iload_n dL_law_466 rfl k) ?_
  refine ex_up (fun _ k => ev_iconst (v := (1 : Int32)) dL_law_467 (by decide) k) ?_
  refine ex_up (fun _ k => ev_iadd dL_law_468 k) ?_
  refine ex_up (fun _ k => ev_sld dL_law_469 (lw_in hi hL 1 (by decide) rfl) k) ?_
  obtain ⟨r, σ1, σ2, hx, hm, hI2, hn1, ht1⟩ := (hs (lw_a E i (1 : Int32))) σ hI
  refine ex_up (fun _ k => ec_Vi (Y := mX9_leaders) (ci := 8) (As := [.int (lw_a E i (1 : Int32))]) (rest := []) dL_law_470 kL_50 oX9_leaders ⟨Nat.le_of_ble_eq_true rfl, Nat.le_of_ble_eq_true rfl⟩ (by decide) rfl (h0 σ hI).1 (h0 σ hI).2 rfl (Nat.le_of_ble_eq_true rfl) hx rfl k) ?_
  refine ex_up (fun _ k => ev_aload_n dL_law_473 rfl (fun _ e => by cases e) k) ?_
  refine ex_up (fun _ k => ev_aload_n dL_law_474 rfl (fun _ e => by cases e) k) ?_
  refine ex_up (fun _ k => ev_iload_n dL_law_475 rfl k) ?_
  refine ex_up (fun _ k => ev_iconst (v := (1 : Int32)) dL_law_476 (by decide) k) ?_
  refine ex_up (fun _ k => ev_iadd dL_law_477 k) ?_
  refine ex_up (fun _ k => ev_sld dL_law_478 (lw_in hi hL 1 (by decide) rfl) k) ?_
  refine ex_up (fun _ k => ec_Vi (Y := mX10_leaders) (ci := 9) (As := [.int (lw_a E i (1 : Int32))]) (rest := [.int r]) dL_law_479 kL_53 oX10_leaders ⟨Nat.le_of_ble_eq_true rfl, Nat.le_of_ble_eq_true rfl⟩ (by decide) rfl hn1 ht1 rfl (Nat.le_of_ble_eq_true rfl) hm rfl k) ?_
  refine ex_up (fun _ k => ev_icmp_eq (tgt := 1557) dL_law_482 (by decide) (fun _ => k) (fun q => absurd rfl q)) ?_
  exact k σ2 hI2
set_option maxRecDepth 100000 in
set_option maxHeartbeats 4000000 in
theorem law_c9 {E : ev_N} {P : Option Value × ev_H → Prop} {Inv : ev_H → Prop} {σ : ev_H} {i : Nat} (hi : i + 5 < n_sl E) (hL : n_sl E ≤ 3072) (hI : Inv σ) (h0 : lw_0 Inv) (hs : ∀ (a1 : Int32) (a2 : Int32), lw_s E Inv mX9_cut mX10_cut [.int a1, .int a2, .int (0 : Int32)]) (ht : ∀ (a1 : Int32) (a2 : Int32), lw_s E Inv mX9_cut mX10_cut [.int a1, .int a2, .int (1 : Int32)]) (k : ∀ τ, Inv τ → EX E mL_law 1557 (LSL i) [] τ P) : EX E mL_law 487 (LSL i) [] σ P := by
  by_cases c3 : lw_a E i (3 : Int32) = 0
  · refine ex_up (fun _ k => ev_aload_n dL_law_487 rfl (fun _ e => by cases e) k) ?_
    refine ex_up (fun _ k => ev_aload_n dL_law_488 rfl (fun _ e => by cases e) k) ?_
    refine ex_up (fun _ k => ev_iload_n dL_law_489 rfl k) ?_
    refine ex_up (fun _ k => ev_iconst (v := (1 : Int32)) dL_law_490 (by decide) k) ?_
    refine ex_up (fun _ k => ev_iadd dL_law_491 k) ?_
    refine ex_up (fun _ k => ev_sld dL_law_492 (lw_in hi hL 1 (by decide) rfl) k) ?_
    refine ex_up (fun _ k => ev_aload_n dL_law_493 rfl (fun _ e => by cases e) k) ?_
    refine ex_up (fun _ k => ev_iload_n dL_law_494 rfl k) ?_
    refine ex_up (fun _ k => ev_iconst (v := (2 : Int32)) dL_law_495 (by decide) k) ?_
    refine ex_up (fun _ k => ev_iadd dL_law_496 k) ?_
    refine ex_up (fun _ k => ev_sld dL_law_497 (lw_in hi hL 2 (by decide) rfl) k) ?_
    refine ex_up (fun _ k => ev_aload_n dL_law_498 rfl (fun _ e => by cases e) k) ?_
    refine ex_up (fun _ k => ev_iload_n dL_law_499 rfl k) ?_
    refine ex_up (fun _ k => ev_iconst (v := (3 : Int32)) dL_law_500 (by decide) k) ?_
    refine ex_up (fun _ k => ev_iadd dL_law_501 k) ?_
    refine ex_up (fun _ k => ev_sld dL_law_502 (lw_in hi hL 3 (by decide) rfl) k) ?_
    refine ex_up (fun _ k => ev_if_eq (tgt := 510) dL_law_503 (by decide) (fun _ => k) (fun q => absurd c3 q)) ?_
    refine ex_up (fun _ k => ev_iconst (v := (0 : Int32)) dL_law_510 (by decide) k) ?_
    obtain ⟨r, σ1, σ2, hx, hm, hI2, hn1, ht1⟩ := (hs (lw_a E i (1 : Int32)) (lw_a E i (2 : Int32))) σ hI
    refine ex_up (fun _ k => ec_Vi (Y := mX9_cut) (ci := 8) (As := [.int (lw_a E i (1 : Int32)), .int (lw_a E i (2 : Int32)), .int (0 : Int32)]) (rest := []) dL_law_511 kL_54 oX9_cut ⟨Nat.le_of_ble_eq_true rfl, Nat.le_of_ble_eq_true rfl⟩ (by decide) rfl (h0 σ hI).1 (h0 σ hI).2 rfl (Nat.le_of_ble_eq_true rfl) hx rfl k) ?_
    refine ex_up (fun _ k => ev_aload_n dL_law_514 rfl (fun _ e => by cases e) k) ?_
    refine ex_up (fun _ k => ev_aload_n dL_law_515 rfl (fun _ e => by cases e) k) ?_
    refine ex_up (fun _ k => ev_iload_n dL_law_516 rfl k) ?_
    refine ex_up (fun _ k => ev_iconst (v := (1 : Int32)) dL_law_517 (by decide) k) ?_
    refine ex_up (fun _ k => ev_iadd dL_law_518 k) ?_
    refine ex_up (fun _ k => ev_sld dL_law_519 (lw_in hi hL 1 (by decide) rfl) k) ?_
    refine ex_up (fun _ k => ev_aload_n dL_law_520 rfl (fun _ e => by cases e) k) ?_
    refine ex_up (fun _ k => ev_iload_n dL_law_521 rfl k) ?_
    refine ex_up (fun _ k => ev_iconst (v := (2 : Int32)) dL_law_522 (by decide) k) ?_
    refine ex_up (fun _ k => ev_iadd dL_law_523 k) ?_
    refine ex_up (fun _ k => ev_sld dL_law_524 (lw_in hi hL 2 (by decide) rfl) k) ?_
    refine ex_up (fun _ k => ev_aload_n dL_law_525 rfl (fun _ e => by cases e) k) ?_
    refine ex_up (fun _ k => ev_iload_n dL_law_526 rfl k) ?_
    refine ex_up (fun _ k => ev_iconst (v := (3 : Int32)) dL_law_527 (by decide) k) ?_
    refine ex_up (fun _ k => ev_iadd dL_law_528 k) ?_
    refine ex_up (fun _ k => ev_sld dL_law_529 (lw_in hi hL 3 (by decide) rfl) k) ?_
    refine ex_up (fun _ k => ev_if_eq (tgt := 537) dL_law_530 (by decide) (fun _ => k) (fun q => absurd c3 q)) ?_
    refine ex_up (fun _ k => ev_iconst (v := (0 : Int32)) dL_law_537 (by decide) k) ?_
    refine ex_up (fun _ k => ec_Vi (Y := mX10_cut) (ci := 9) (As := [.int (lw_a E i (1 : Int32)), .int (lw_a E i (2 : Int32)), .int (0 : Int32)]) (rest := [.int r]) dL_law_538 kL_58 oX10_cut ⟨Nat.le_of_ble_eq_true rfl, Nat.le_of_ble_eq_true rfl⟩ (by decide) rfl hn1 ht1 rfl (Nat.le_of_ble_eq_true rfl) hm rfl k) ?_
    refine ex_up (fun _ k => ev_icmp_eq (tgt := 1557) dL_law_541 (by decide) (fun _ => k) (fun q => absurd rfl q)) ?_
    exact k σ2 hI2
  · refine ex_up (fun _ k => ev_aload_n dL_law_487 rfl (fun _ e => by cases e) k) ?_
    refine ex_up (fun _ k => ev_aload_n dL_law_488 rfl (fun _ e => by cases e) k) ?_
    refine ex_up (fun _ k => ev_iload_n dL_law_489 rfl k) ?_
    refine ex_up (fun _ k => ev_iconst (v := (1 : Int32)) dL_law_490 (by decide) k) ?_
    refine ex_up (fun _ k => ev_iadd dL_law_491 k) ?_
    refine ex_up (fun _ k => ev_sld dL_law_492 (lw_in hi hL 1 (by decide) rfl) k) ?_
    refine ex_up (fun _ k => ev_aload_n dL_law_493 rfl (fun _ e => by cases e) k) ?_
    refine ex_up (fun _ k => ev_iload_n dL_law_494 rfl k) ?_
    refine ex_up (fun _ k => ev_iconst (v := (2 : Int32)) dL_law_495 (by decide) k) ?_
    refine ex_up (fun _ k => ev_iadd dL_law_496 k) ?_
    refine ex_up (fun _ k => ev_sld dL_law_497 (lw_in hi hL 2 (by decide) rfl) k) ?_
    refine ex_up (fun _ k => ev_aload_n dL_law_498 rfl (fun _ e => by cases e) k) ?_
    refine ex_up (fun _ k => ev_iload_n dL_law_499 rfl k) ?_
    refine ex_up (fun _ k => ev_iconst (v := (3 : Int32)) dL_law_500 (by decide) k) ?_
    refine ex_up (fun _ k => ev_iadd dL_law_501 k) ?_
    refine ex_up (fun _ k => ev_sld dL_law_502 (lw_in hi hL 3 (by decide) rfl) k) ?_
    refine ex_up (fun _ k => ev_if_eq (tgt := 510) dL_law_503 (by decide) (fun q => absurd q c3) (fun _ => k)) ?_
    refine ex_up (fun _ k => ev_iconst (v := (1 : Int32)) dL_law_506 (by decide) k) ?_
    refine ex_up (fun _ k => ev_goto (tgt := 511) dL_law_507 (by decide) k) ?_
    obtain ⟨r, σ1, σ2, hx, hm, hI2, hn1, ht1⟩ := (ht (lw_a E i (1 : Int32)) (lw_a E i (2 : Int32))) σ hI
    refine ex_up (fun _ k => ec_Vi (Y := mX9_cut) (ci := 8) (As := [.int (lw_a E i (1 : Int32)), .int (lw_a E i (2 : Int32)), .int (1 : Int32)]) (rest := []) dL_law_511 kL_54 oX9_cut ⟨Nat.le_of_ble_eq_true rfl, Nat.le_of_ble_eq_true rfl⟩ (by decide) rfl (h0 σ hI).1 (h0 σ hI).2 rfl (Nat.le_of_ble_eq_true rfl) hx rfl k) ?_
    refine ex_up (fun _ k => ev_aload_n dL_law_514 rfl (fun _ e => by cases e) k) ?_
    refine ex_up (fun _ k => ev_aload_n dL_law_515 rfl (fun _ e => by cases e) k) ?_
    refine ex_up (fun _ k => ev_iload_n dL_law_516 rfl k) ?_
    refine ex_up (fun _ k => ev_iconst (v := (1 : Int32)) dL_law_517 (by decide) k) ?_
    refine ex_up (fun _ k => ev_iadd dL_law_518 k) ?_
    refine ex_up (fun _ k => ev_sld dL_law_519 (lw_in hi hL 1 (by decide) rfl) k) ?_
    refine ex_up (fun _ k => ev_aload_n dL_law_520 rfl (fun _ e => by cases e) k) ?_
    refine ex_up (fun _ k => ev_iload_n dL_law_521 rfl k) ?_
    refine ex_up (fun _ k => ev_iconst (v := (2 : Int32)) dL_law_522 (by decide) k) ?_
    refine ex_up (fun _ k => ev_iadd dL_law_523 k) ?_
    refine ex_up (fun _ k => ev_sld dL_law_524 (lw_in hi hL 2 (by decide) rfl) k) ?_
    refine ex_up (fun _ k => ev_aload_n dL_law_525 rfl (fun _ e => by cases e) k) ?_
    refine ex_up (fun _ k => ev_iload_n dL_law_526 rfl k) ?_
    refine ex_up (fun _ k => ev_iconst (v := (3 : Int32)) dL_law_527 (by decide) k) ?_
    refine ex_up (fun _ k => ev_iadd dL_law_528 k) ?_
    refine ex_up (fun _ k => ev_sld dL_law_529 (lw_in hi hL 3 (by decide) rfl) k) ?_
    refine ex_up (fun _ k => ev_if_eq (tgt := 537) dL_law_530 (by decide) (fun q => absurd q c3) (fun _ => k)) ?_
    refine ex_up (fun _ k => ev_iconst (v := (1 : Int32)) dL_law_533 (by decide) k) ?_
    refine ex_up (fun _ k => ev_goto (tgt := 538) dL_law_534 (by decide) k) ?_
    refine ex_up (fun _ k => ec_Vi (Y := mX10_cut) (ci := 9) (As := [.int (lw_a E i (1 : Int32)), .int (lw_a E i (2 : Int32)), .int (1 : Int32)]) (rest := [.int r]) dL_law_538 kL_58 oX10_cut ⟨Nat.le_of_ble_eq_true rfl, Nat.le_of_ble_eq_true rfl⟩ (by decide) rfl hn1 ht1 rfl (Nat.le_of_ble_eq_true rfl) hm rfl k) ?_
    refine ex_up (fun _ k => ev_icmp_eq (tgt := 1557) dL_law_541 (by decide) (fun _ => k) (fun q => absurd rfl q)) ?_
    exact k σ2 hI2
set_option maxRecDepth 100000 in
set_option maxHeartbeats 4000000 in
theorem law_c10 {E : ev_N} {P : Option Value × ev_H → Prop} {Inv : ev_H → Prop} {σ : ev_H} {i : Nat} (hi : i + 5 < n_sl E) (hL : n_sl E ≤ 3072) (hI : Inv σ) (h0 : lw_0 Inv) (hs : ∀ (a1 : Int32), lw_s E Inv mX9_reach mX10_reach [.int a1]) (k : ∀ τ, Inv τ → EX E mL_law 1557 (LSL i) [] τ P) : EX E mL_law 546 (LSL i) [] σ P := by
  refine ex_up (fun _ k => ev_aload_n dL_law_546 rfl (fun _ e => by cases e) k) ?_
  refine ex_up (fun _ k => ev_aload_n dL_law_547 rfl (fun _ e => by cases e) k) ?_
  refine ex_up (fun _ k => ev_iload_n dL_law_548 rfl k) ?_
  refine ex_up (fun _ k => ev_iconst (v := (1 : Int32)) dL_law_549 (by decide) k) ?_
  refine ex_up (fun _ k => ev_iadd dL_law_550 k) ?_
  refine ex_up (fun _ k => ev_sld dL_law_551 (lw_in hi hL 1 (by decide) rfl) k) ?_
  obtain ⟨r, σ1, σ2, hx, hm, hI2, hn1, ht1⟩ := (hs (lw_a E i (1 : Int32))) σ hI
  refine ex_up (fun _ k => ec_Vi (Y := mX9_reach) (ci := 8) (As := [.int (lw_a E i (1 : Int32))]) (rest := []) dL_law_552 kL_59 oX9_reach ⟨Nat.le_of_ble_eq_true rfl, Nat.le_of_ble_eq_true rfl⟩ (by decide) rfl (h0 σ hI).1 (h0 σ hI).2 rfl (Nat.le_of_ble_eq_true rfl) hx rfl k) ?_
  refine ex_up (fun _ k => ev_aload_n dL_law_555 rfl (fun _ e => by cases e) k) ?_
  refine ex_up (fun _ k => ev_aload_n dL_law_556 rfl (fun _ e => by cases e) k) ?_
  refine ex_up (fun _ k => ev_iload_n dL_law_557 rfl k) ?_
  refine ex_up (fun _ k => ev_iconst (v := (1 : Int32)) dL_law_558 (by decide) k) ?_
  refine ex_up (fun _ k => ev_iadd dL_law_559 k) ?_
  refine ex_up (fun _ k => ev_sld dL_law_560 (lw_in hi hL 1 (by decide) rfl) k) ?_
  refine ex_up (fun _ k => ec_Vi (Y := mX10_reach) (ci := 9) (As := [.int (lw_a E i (1 : Int32))]) (rest := [.int r]) dL_law_561 kL_62 oX10_reach ⟨Nat.le_of_ble_eq_true rfl, Nat.le_of_ble_eq_true rfl⟩ (by decide) rfl hn1 ht1 rfl (Nat.le_of_ble_eq_true rfl) hm rfl k) ?_
  refine ex_up (fun _ k => ev_icmp_eq (tgt := 1557) dL_law_564 (by decide) (fun _ => k) (fun q => absurd rfl q)) ?_
  exact k σ2 hI2
set_option maxRecDepth 100000 in
set_option maxHeartbeats 4000000 in
theorem law_c11 {E : ev_N} {P : Option Value × ev_H → Prop} {Inv : ev_H → Prop} {σ : ev_H} {i : Nat} (hi : i + 5 < n_sl E) (hL : n_sl E ≤ 3072) (hI : Inv σ) (h0 : lw_0 Inv) (hs : ∀ (a1 : Int32) (a2 : Int32), lw_s E Inv mX9_since mX10_since [.int a1, .int a2]) (k : ∀ τ, Inv τ → EX E mL_law 1557 (LSL i) [] τ P) : EX E mL_law 569 (LSL i) [] σ P := by
  refine ex_up (fun _ k => ev_aload_n dL_law_569 rfl (fun _ e => by cases e) k) ?_
  refine ex_up (fun _ k => ev_aload_n dL_law_570 rfl (fun _ e => by cases e) k) ?_
  refine ex_up (fun _ k => ev_iload_n dL_law_571 rfl k) ?_
  refine ex_up (fun _ k => ev_iconst (v := (1 : Int32)) dL_law_572 (by decide) k) ?_
  refine ex_up (fun _ k => ev_iadd dL_law_573 k) ?_
  refine ex_up (fun _ k => ev_sld dL_law_574 (lw_in hi hL 1 (by decide) rfl) k) ?_
  refine ex_up (fun _ k => ev_aload_n dL_law_575 rfl (fun _ e => by cases e) k) ?_
  refine ex_up (fun _ k => ev_iload_n dL_law_576 rfl k) ?_
  refine ex_up (fun _ k => ev_iconst (v := (2 : Int32)) dL_law_577 (by decide) k) ?_
  refine ex_up (fun _ k => ev_iadd dL_law_578 k) ?_
  refine ex_up (fun _ k => ev_sld dL_law_579 (lw_in hi hL 2 (by decide) rfl) k) ?_
  obtain ⟨r, σ1, σ2, hx, hm, hI2, hn1, ht1⟩ := (hs (lw_a E i (1 : Int32)) (lw_a E i (2 : Int32))) σ hI
  refine ex_up (fun _ k => ec_Vi (Y := mX9_since) (ci := 8) (As := [.int (lw_a E i (1 : Int32)), .int (lw_a E i (2 : Int32))]) (rest := []) dL_law_580 kL_63 oX9_since ⟨Nat.le_of_ble_eq_true rfl, Nat.le_of_ble_eq_true rfl⟩ (by decide) rfl (h0 σ hI).1 (h0 σ hI).2 rfl (Nat.le_of_ble_eq_true rfl) hx rfl k) ?_
  refine ex_up (fun _ k => ev_aload_n dL_law_583 rfl (fun _ e => by cases e) k) ?_
  refine ex_up (fun _ k => ev_aload_n dL_law_584 rfl (fun _ e => by cases e) k) ?_
  refine ex_up (fun _ k => ev_iload_n dL_law_585 rfl k) ?_
  refine ex_up (fun _ k => ev_iconst (v := (1 : Int32)) dL_law_586 (by decide) k) ?_
  refine ex_up (fun _ k => ev_iadd dL_law_587 k) ?_
  refine ex_up (fun _ k => ev_sld dL_law_588 (lw_in hi hL 1 (by decide) rfl) k) ?_
  refine ex_up (fun _ k => ev_aload_n dL_law_589 rfl (fun _ e => by cases e) k) ?_
  refine ex_up (fun _ k => ev_iload_n dL_law_590 rfl k) ?_
  refine ex_up (fun _ k => ev_iconst (v := (2 : Int32)) dL_law_591 (by decide) k) ?_
  refine ex_up (fun _ k => ev_iadd dL_law_592 k) ?_
  refine ex_up (fun _ k => ev_sld dL_law_593 (lw_in hi hL 2 (by decide) rfl) k) ?_
  refine ex_up (fun _ k => ec_Vi (Y := mX10_since) (ci := 9) (As := [.int (lw_a E i (1 : Int32)), .int (lw_a E i (2 : Int32))]) (rest := [.int r]) dL_law_594 kL_66 oX10_since ⟨Nat.le_of_ble_eq_true rfl, Nat.le_of_ble_eq_true rfl⟩ (by decide) rfl hn1 ht1 rfl (Nat.le_of_ble_eq_true rfl) hm rfl k) ?_
  refine ex_up (fun _ k => ev_icmp_eq (tgt := 1557) dL_law_597 (by decide) (fun _ => k) (fun q => absurd rfl q)) ?_
  exact k σ2 hI2
set_option maxRecDepth 100000 in
set_option maxHeartbeats 4000000 in
theorem law_c12 {E : ev_N} {P : Option Value × ev_H → Prop} {Inv : ev_H → Prop} {σ : ev_H} {i : Nat} (hi : i + 5 < n_sl E) (hL : n_sl E ≤ 3072) (hI : Inv σ) (h0 : lw_0 Inv) (hs : ∀ (a1 : Int32), lw_s E Inv mX9_state mX10_state [.int a1]) (k : ∀ τ, Inv τ → EX E mL_law 1557 (LSL i) [] τ P) : EX E mL_law 602 (LSL i) [] σ P := by
  refine ex_up (fun _ k => ev_aload_n dL_law_602 rfl (fun _ e => by cases e) k) ?_
  refine ex_up (fun _ k => ev_aload_n dL_law_603 rfl (fun _ e => by cases e) k) ?_
  refine ex_up (fun _ k => ev_iload_n dL_law_604 rfl k) ?_
  refine ex_up (fun _ k => ev_iconst (v := (1 : Int32)) dL_law_605 (by decide) k) ?_
  refine ex_up (fun _ k => ev_iadd dL_law_606 k) ?_
  refine ex_up (fun _ k => ev_sld dL_law_607 (lw_in hi hL 1 (by decide) rfl) k) ?_
  obtain ⟨r, σ1, σ2, hx, hm, hI2, hn1, ht1⟩ := (hs (lw_a E i (1 : Int32))) σ hI
  refine ex_up (fun _ k => ec_Vi (Y := mX9_state) (ci := 8) (As := [.int (lw_a E i (1 : Int32))]) (rest := []) dL_law_608 kL_67 oX9_state ⟨Nat.le_of_ble_eq_true rfl, Nat.le_of_ble_eq_true rfl⟩ (by decide) rfl (h0 σ hI).1 (h0 σ hI).2 rfl (Nat.le_of_ble_eq_true rfl) hx rfl k) ?_
  refine ex_up (fun _ k => ev_aload_n dL_law_611 rfl (fun _ e => by cases e) k) ?_
  refine ex_up (fun _ k => ev_aload_n dL_law_612 rfl (fun _ e => by cases e) k) ?_
  refine ex_up (fun _ k => ev_iload_n dL_law_613 rfl k) ?_
  refine ex_up (fun _ k => ev_iconst (v := (1 : Int32)) dL_law_614 (by decide) k) ?_
  refine ex_up (fun _ k => ev_iadd dL_law_615 k) ?_
  refine ex_up (fun _ k => ev_sld dL_law_616 (lw_in hi hL 1 (by decide) rfl) k) ?_
  refine ex_up (fun _ k => ec_Vi (Y := mX10_state) (ci := 9) (As := [.int (lw_a E i (1 : Int32))]) (rest := [.int r]) dL_law_617 kL_70 oX10_state ⟨Nat.le_of_ble_eq_true rfl, Nat.le_of_ble_eq_true rfl⟩ (by decide) rfl hn1 ht1 rfl (Nat.le_of_ble_eq_true rfl) hm rfl k) ?_
  refine ex_up (fun _ k => ev_icmp_eq (tgt := 1557) dL_law_620 (by decide) (fun _ => k) (fun q => absurd rfl q)) ?_
  exact k σ2 hI2
set_option maxRecDepth 100000 in
set_option maxHeartbeats 4000000 in
theorem law_c13 {E : ev_N} {P : Option Value × ev_H → Prop} {Inv : ev_H → Prop} {σ : ev_H} {i : Nat} (hi : i + 5 < n_sl E) (hL : n_sl E ≤ 3072) (hI : Inv σ) (h0 : lw_0 Inv) (hs : ∀ (a1 : Int32) (a2 : Int32), lw_s E Inv mX9_ask mX10_ask [.int a1, .int a2]) (k : ∀ τ, Inv τ → EX E mL_law 1557 (LSL i) [] τ P) : EX E mL_law 625 (LSL i) [] σ P := by
  refine ex_up (fun _ k => ev_aload_n dL_law_625 rfl (fun _ e => by cases e) k) ?_
  refine ex_up (fun _ k => ev_aload_n dL_law_626 rfl (fun _ e => by cases e) k) ?_
  refine ex_up (fun _ k => ev_iload_n dL_law_627 rfl k) ?_
  refine ex_up (fun _ k => ev_iconst (v := (1 : Int32)) dL_law_628 (by decide) k) ?_
  refine ex_up (fun _ k => ev_iadd dL_law_629 k) ?_
  refine ex_up (fun _ k => ev_sld dL_law_630 (lw_in hi hL 1 (by decide) rfl) k) ?_
  refine ex_up (fun _ k => ev_aload_n dL_law_631 rfl (fun _ e => by cases e) k) ?_
  refine ex_up (fun _ k => ev_iload_n dL_law_632 rfl k) ?_
  refine ex_up (fun _ k => ev_iconst (v := (2 : Int32)) dL_law_633 (by decide) k) ?_
  refine ex_up (fun _ k => ev_iadd dL_law_634 k) ?_
  refine ex_up (fun _ k => ev_sld dL_law_635 (lw_in hi hL 2 (by decide) rfl) k) ?_
  obtain ⟨r, σ1, σ2, hx, hm, hI2, hn1, ht1⟩ := (hs (lw_a E i (1 : Int32)) (lw_a E i (2 : Int32))) σ hI
  refine ex_up (fun _ k => ec_Vi (Y := mX9_ask) (ci := 8) (As := [.int (lw_a E i (1 : Int32)), .int (lw_a E i (2 : Int32))]) (rest := []) dL_law_636 kL_71 oX9_ask ⟨Nat.le_of_ble_eq_true rfl, Nat.le_of_ble_eq_true rfl⟩ (by decide) rfl (h0 σ hI).1 (h0 σ hI).2 rfl (Nat.le_of_ble_eq_true rfl) hx rfl k) ?_
  refine ex_up (fun _ k => ev_aload_n dL_law_639 rfl (fun _ e => by cases e) k) ?_
  refine ex_up (fun _ k => ev_aload_n dL_law_640 rfl (fun _ e => by cases e) k) ?_
  refine ex_up (fun _ k => ev_iload_n dL_law_641 rfl k) ?_
  refine ex_up (fun _ k => ev_iconst (v := (1 : Int32)) dL_law_642 (by decide) k) ?_
  refine ex_up (fun _ k => ev_iadd dL_law_643 k) ?_
  refine ex_up (fun _ k => ev_sld dL_law_644 (lw_in hi hL 1 (by decide) rfl) k) ?_
  refine ex_up (fun _ k => ev_aload_n dL_law_645 rfl (fun _ e => by cases e) k) ?_
  refine ex_up (fun _ k => ev_iload_n dL_law_646 rfl k) ?_
  refine ex_up (fun _ k => ev_iconst (v := (2 : Int32)) dL_law_647 (by decide) k) ?_
  refine ex_up (fun _ k => ev_iadd dL_law_648 k) ?_
  refine ex_up (fun _ k => ev_sld dL_law_649 (lw_in hi hL 2 (by decide) rfl) k) ?_
  refine ex_up (fun _ k => ec_Vi (Y := mX10_ask) (ci := 9) (As := [.int (lw_a E i (1 : Int32)), .int (lw_a E i (2 : Int32))]) (rest := [.int r]) dL_law_650 kL_74 oX10_ask ⟨Nat.le_of_ble_eq_true rfl, Nat.le_of_ble_eq_true rfl⟩ (by decide) rfl hn1 ht1 rfl (Nat.le_of_ble_eq_true rfl) hm rfl k) ?_
  refine ex_up (fun _ k => ev_icmp_eq (tgt := 1557) dL_law_653 (by decide) (fun _ => k) (fun q => absurd rfl q)) ?_
  exact k σ2 hI2
set_option maxRecDepth 100000 in
set_option maxHeartbeats 4000000 in
theorem law_c14 {E : ev_N} {P : Option Value × ev_H → Prop} {Inv : ev_H → Prop} {σ : ev_H} {i : Nat} (hi : i + 5 < n_sl E) (hL : n_sl E ≤ 3072) (hI : Inv σ) (h0 : lw_0 Inv) (hs : ∀ (a1 : Int32) (a2 : Int32), lw_s E Inv mX9_storm mX10_storm [.int a1, .int a2]) (k : ∀ τ, Inv τ → EX E mL_law 1557 (LSL i) [] τ P) : EX E mL_law 658 (LSL i) [] σ P := by
  refine ex_up (fun _ k => ev_aload_n dL_law_658 rfl (fun _ e => by cases e) k) ?_
  refine ex_up (fun _ k => ev_aload_n dL_law_659 rfl (fun _ e => by cases e) k) ?_
  refine ex_up (fun _ k => ev_iload_n dL_law_660 rfl k) ?_
  refine ex_up (fun _ k => ev_iconst (v := (1 : Int32)) dL_law_661 (by decide) k) ?_
  refine ex_up (fun _ k => ev_iadd dL_law_662 k) ?_
  refine ex_up (fun _ k => ev_sld dL_law_663 (lw_in hi hL 1 (by decide) rfl) k) ?_
  refine ex_up (fun _ k => ev_aload_n dL_law_664 rfl (fun _ e => by cases e) k) ?_
  refine ex_up (fun _ k => ev_iload_n dL_law_665 rfl k) ?_
  refine ex_up (fun _ k => ev_iconst (v := (2 : Int32)) dL_law_666 (by decide) k) ?_
  refine ex_up (fun _ k => ev_iadd dL_law_667 k) ?_
  refine ex_up (fun _ k => ev_sld dL_law_668 (lw_in hi hL 2 (by decide) rfl) k) ?_
  obtain ⟨r, σ1, σ2, hx, hm, hI2, hn1, ht1⟩ := (hs (lw_a E i (1 : Int32)) (lw_a E i (2 : Int32))) σ hI
  refine ex_up (fun _ k => ec_Vi (Y := mX9_storm) (ci := 8) (As := [.int (lw_a E i (1 : Int32)), .int (lw_a E i (2 : Int32))]) (rest := []) dL_law_669 kL_75 oX9_storm ⟨Nat.le_of_ble_eq_true rfl, Nat.le_of_ble_eq_true rfl⟩ (by decide) rfl (h0 σ hI).1 (h0 σ hI).2 rfl (Nat.le_of_ble_eq_true rfl) hx rfl k) ?_
  refine ex_up (fun _ k => ev_aload_n dL_law_672 rfl (fun _ e => by cases e) k) ?_
  refine ex_up (fun _ k => ev_aload_n dL_law_673 rfl (fun _ e => by cases e) k) ?_
  refine ex_up (fun _ k => ev_iload_n dL_law_674 rfl k) ?_
  refine ex_up (fun _ k => ev_iconst (v := (1 : Int32)) dL_law_675 (by decide) k) ?_
  refine ex_up (fun _ k => ev_iadd dL_law_676 k) ?_
  refine ex_up (fun _ k => ev_sld dL_law_677 (lw_in hi hL 1 (by decide) rfl) k) ?_
  refine ex_up (fun _ k => ev_aload_n dL_law_678 rfl (fun _ e => by cases e) k) ?_
  refine ex_up (fun _ k => ev_iload_n dL_law_679 rfl k) ?_
  refine ex_up (fun _ k => ev_iconst (v := (2 : Int32)) dL_law_680 (by decide) k) ?_
  refine ex_up (fun _ k => ev_iadd dL_law_681 k) ?_
  refine ex_up (fun _ k => ev_sld dL_law_682 (lw_in hi hL 2 (by decide) rfl) k) ?_
  refine ex_up (fun _ k => ec_Vi (Y := mX10_storm) (ci := 9) (As := [.int (lw_a E i (1 : Int32)), .int (lw_a E i (2 : Int32))]) (rest := [.int r]) dL_law_683 kL_78 oX10_storm ⟨Nat.le_of_ble_eq_true rfl, Nat.le_of_ble_eq_true rfl⟩ (by decide) rfl hn1 ht1 rfl (Nat.le_of_ble_eq_true rfl) hm rfl k) ?_
  refine ex_up (fun _ k => ev_icmp_eq (tgt := 1557) dL_law_686 (by decide) (fun _ => k) (fun q => absurd rfl q)) ?_
  exact k σ2 hI2
set_option maxRecDepth 100000 in
set_option maxHeartbeats 4000000 in
theorem law_c15 {E : ev_N} {P : Option Value × ev_H → Prop} {Inv : ev_H → Prop} {σ : ev_H} {i : Nat} (hi : i + 5 < n_sl E) (hL : n_sl E ≤ 3072) (hI : Inv σ) (h0 : lw_0 Inv) (hs : ∀ (a1 : Int32), lw_s E Inv mX9_turn mX10_turn [.int a1]) (k : ∀ τ, Inv τ → EX E mL_law 1557 (LSL i) [] τ P) : EX E mL_law 691 (LSL i) [] σ P := by
  refine ex_up (fun _ k => ev_aload_n dL_law_691 rfl (fun _ e => by cases e) k) ?_
  refine ex_up (fun _ k => ev_aload_n dL_law_692 rfl (fun _ e => by cases e) k) ?_
  refine ex_up (fun _ k => ev_iload_n dL_law_693 rfl k) ?_
  refine ex_up (fun _ k => ev_iconst (v := (1 : Int32)) dL_law_694 (by decide) k) ?_
  refine ex_up (fun _ k => ev_iadd dL_law_695 k) ?_
  refine ex_up (fun _ k => ev_sld dL_law_696 (lw_in hi hL 1 (by decide) rfl) k) ?_
  obtain ⟨r, σ1, σ2, hx, hm, hI2, hn1, ht1⟩ := (hs (lw_a E i (1 : Int32))) σ hI
  refine ex_up (fun _ k => ec_Vi (Y := mX9_turn) (ci := 8) (As := [.int (lw_a E i (1 : Int32))]) (rest := []) dL_law_697 kL_79 oX9_turn ⟨Nat.le_of_ble_eq_true rfl, Nat.le_of_ble_eq_true rfl⟩ (by decide) rfl (h0 σ hI).1 (h0 σ hI).2 rfl (Nat.le_of_ble_eq_true rfl) hx rfl k) ?_
  refine ex_up (fun _ k => ev_aload_n dL_law_700 rfl (fun _ e => by cases e) k) ?_
  refine ex_up (fun _ k => ev_aload_n dL_law_701 rfl (fun _ e => by cases e) k) ?_
  refine ex_up (fun _ k => ev_iload_n dL_law_702 rfl k) ?_
  refine ex_up (fun _ k => ev_iconst (v := (1 : Int32)) dL_law_703 (by decide) k) ?_
  refine ex_up (fun _ k => ev_iadd dL_law_704 k) ?_
  refine ex_up (fun _ k => ev_sld dL_law_705 (lw_in hi hL 1 (by decide) rfl) k) ?_
  refine ex_up (fun _ k => ec_Vi (Y := mX10_turn) (ci := 9) (As := [.int (lw_a E i (1 : Int32))]) (rest := [.int r]) dL_law_706 kL_82 oX10_turn ⟨Nat.le_of_ble_eq_true rfl, Nat.le_of_ble_eq_true rfl⟩ (by decide) rfl hn1 ht1 rfl (Nat.le_of_ble_eq_true rfl) hm rfl k) ?_
  refine ex_up (fun _ k => ev_icmp_eq (tgt := 1557) dL_law_709 (by decide) (fun _ => k) (fun q => absurd rfl q)) ?_
  exact k σ2 hI2
set_option maxRecDepth 100000 in
set_option maxHeartbeats 4000000 in
theorem law_c16 {E : ev_N} {P : Option Value × ev_H → Prop} {Inv : ev_H → Prop} {σ : ev_H} {i : Nat} (hi : i + 5 < n_sl E) (hL : n_sl E ≤ 3072) (hI : Inv σ) (h0 : lw_0 Inv) (hs : ∀ (a1 : Int32), lw_s E Inv mX9_calm mX10_calm [.int a1]) (k : ∀ τ, Inv τ → EX E mL_law 1557 (LSL i) [] τ P) : EX E mL_law 714 (LSL i) [] σ P := by
  refine ex_up (fun _ k => ev_aload_n dL_law_714 rfl (fun _ e => by cases e) k) ?_
  refine ex_up (fun _ k => ev_aload_n dL_law_715 rfl (fun _ e => by cases e) k) ?_
  refine ex_up (fun _ k => ev_iload_n dL_law_716 rfl k) ?_
  refine ex_up (fun _ k => ev_iconst (v := (1 : Int32)) dL_law_717 (by decide) k) ?_
  refine ex_up (fun _ k => ev_iadd dL_law_718 k) ?_
  refine ex_up (fun _ k => ev_sld dL_law_719 (lw_in hi hL 1 (by decide) rfl) k) ?_
  obtain ⟨r, σ1, σ2, hx, hm, hI2, hn1, ht1⟩ := (hs (lw_a E i (1 : Int32))) σ hI
  refine ex_up (fun _ k => ec_Vi (Y := mX9_calm) (ci := 8) (As := [.int (lw_a E i (1 : Int32))]) (rest := []) dL_law_720 kL_83 oX9_calm ⟨Nat.le_of_ble_eq_true rfl, Nat.le_of_ble_eq_true rfl⟩ (by decide) rfl (h0 σ hI).1 (h0 σ hI).2 rfl (Nat.le_of_ble_eq_true rfl) hx rfl k) ?_
  refine ex_up (fun _ k => ev_aload_n dL_law_723 rfl (fun _ e => by cases e) k) ?_
  refine ex_up (fun _ k => ev_aload_n dL_law_724 rfl (fun _ e => by cases e) k) ?_
  refine ex_up (fun _ k => ev_iload_n dL_law_725 rfl k) ?_
  refine ex_up (fun _ k => ev_iconst (v := (1 : Int32)) dL_law_726 (by decide) k) ?_
  refine ex_up (fun _ k => ev_iadd dL_law_727 k) ?_
  refine ex_up (fun _ k => ev_sld dL_law_728 (lw_in hi hL 1 (by decide) rfl) k) ?_
  refine ex_up (fun _ k => ec_Vi (Y := mX10_calm) (ci := 9) (As := [.int (lw_a E i (1 : Int32))]) (rest := [.int r]) dL_law_729 kL_86 oX10_calm ⟨Nat.le_of_ble_eq_true rfl, Nat.le_of_ble_eq_true rfl⟩ (by decide) rfl hn1 ht1 rfl (Nat.le_of_ble_eq_true rfl) hm rfl k) ?_
  refine ex_up (fun _ k => ev_icmp_eq (tgt := 1557) dL_law_732 (by decide) (fun _ => k) (fun q => absurd rfl q)) ?_
  exact k σ2 hI2
set_option maxRecDepth 100000 in
set_option maxHeartbeats 4000000 in
theorem law_c17 {E : ev_N} {P : Option Value × ev_H → Prop} {Inv : ev_H → Prop} {σ : ev_H} {i : Nat} (hi : i + 5 < n_sl E) (hL : n_sl E ≤ 3072) (hI : Inv σ) (h0 : lw_0 Inv) (hs : ∀ (a1 : Int32) (a2 : Int32) (a3 : Int32) (a4 : Int32) (a5 : Int32), lw_s E Inv mX9_feed mX10_feed [.int a1, .int a2, .int a3, .int a4, .int a5]) (k : ∀ τ, Inv τ → EX E mL_law 1557 (LSL i) [] τ P) : EX E mL_law 737 (LSL i) [] σ P := by
  refine ex_up (fun _ k => ev_aload_n dL_law_737 rfl (fun _ e => by cases e) k) ?_
  refine ex_up (fun _ k => ev_aload_n dL_law_738 rfl (fun _ e => by cases e) k) ?_
  refine ex_up (fun _ k => ev_iload_n dL_law_739 rfl k) ?_
  refine ex_up (fun _ k => ev_iconst (v := (1 : Int32)) dL_law_740 (by decide) k) ?_
  refine ex_up (fun _ k => ev_iadd dL_law_741 k) ?_
  refine ex_up (fun _ k => ev_sld dL_law_742 (lw_in hi hL 1 (by decide) rfl) k) ?_
  refine ex_up (fun _ k => ev_aload_n dL_law_743 rfl (fun _ e => by cases e) k) ?_
  refine ex_up (fun _ k => ev_iload_n dL_law_744 rfl k) ?_
  refine ex_up (fun _ k => ev_iconst (v := (2 : Int32)) dL_law_745 (by decide) k) ?_
  refine ex_up (fun _ k => ev_iadd dL_law_746 k) ?_
  refine ex_up (fun _ k => ev_sld dL_law_747 (lw_in hi hL 2 (by decide) rfl) k) ?_
  refine ex_up (fun _ k => ev_aload_n dL_law_748 rfl (fun _ e => by cases e) k) ?_
  refine ex_up (fun _ k => ev_iload_n dL_law_749 rfl k) ?_
  refine ex_up (fun _ k => ev_iconst (v := (3 : Int32)) dL_law_750 (by decide) k) ?_
  refine ex_up (fun _ k => ev_iadd dL_law_751 k) ?_
  refine ex_up (fun _ k => ev_sld dL_law_752 (lw_in hi hL 3 (by decide) rfl) k) ?_
  refine ex_up (fun _ k => ev_aload_n dL_law_753 rfl (fun _ e => by cases e) k) ?_
  refine ex_up (fun _ k => ev_iload_n dL_law_754 rfl k) ?_
  refine ex_up (fun _ k => ev_iconst (v := (4 : Int32)) dL_law_755 (by decide) k) ?_
  refine ex_up (fun _ k => ev_iadd dL_law_756 k) ?_
  refine ex_up (fun _ k => ev_sld dL_law_757 (lw_in hi hL 4 (by decide) rfl) k) ?_
  refine ex_up (fun _ k => ev_aload_n dL_law_758 rfl (fun _ e => by cases e) k) ?_
  refine ex_up (fun _ k => ev_iload_n dL_law_759 rfl k) ?_
  refine ex_up (fun _ k => ev_iconst (v := (5 : Int32)) dL_law_760 (by decide) k) ?_
  refine ex_up (fun _ k => ev_iadd dL_law_761 k) ?_
  refine ex_up (fun _ k => ev_sld dL_law_762 (lw_in hi hL 5 (by decide) rfl) k) ?_
  obtain ⟨r, σ1, σ2, hx, hm, hI2, hn1, ht1⟩ := (hs (lw_a E i (1 : Int32)) (lw_a E i (2 : Int32)) (lw_a E i (3 : Int32)) (lw_a E i (4 : Int32)) (lw_a E i (5 : Int32))) σ hI
  refine ex_up (fun _ k => ec_Vi (Y := mX9_feed) (ci := 8) (As := [.int (lw_a E i (1 : Int32)), .int (lw_a E i (2 : Int32)), .int (lw_a E i (3 : Int32)), .int (lw_a E i (4 : Int32)), .int (lw_a E i (5 : Int32))]) (rest := []) dL_law_763 kL_87 oX9_feed ⟨Nat.le_of_ble_eq_true rfl, Nat.le_of_ble_eq_true rfl⟩ (by decide) rfl (h0 σ hI).1 (h0 σ hI).2 rfl (Nat.le_of_ble_eq_true rfl) hx rfl k) ?_
  refine ex_up (fun _ k => ev_aload_n dL_law_766 rfl (fun _ e => by cases e) k) ?_
  refine ex_up (fun _ k => ev_aload_n dL_law_767 rfl (fun _ e => by cases e) k) ?_
  refine ex_up (fun _ k => ev_iload_n dL_law_768 rfl k) ?_
  refine ex_up (fun _ k => ev_iconst (v := (1 : Int32)) dL_law_769 (by decide) k) ?_
  refine ex_up (fun _ k => ev_iadd dL_law_770 k) ?_
  refine ex_up (fun _ k => ev_sld dL_law_771 (lw_in hi hL 1 (by decide) rfl) k) ?_
  refine ex_up (fun _ k => ev_aload_n dL_law_772 rfl (fun _ e => by cases e) k) ?_
  refine ex_up (fun _ k => ev_iload_n dL_law_773 rfl k) ?_
  refine ex_up (fun _ k => ev_iconst (v := (2 : Int32)) dL_law_774 (by decide) k) ?_
  refine ex_up (fun _ k => ev_iadd dL_law_775 k) ?_
  refine ex_up (fun _ k => ev_sld dL_law_776 (lw_in hi hL 2 (by decide) rfl) k) ?_
  refine ex_up (fun _ k => ev_aload_n dL_law_777 rfl (fun _ e => by cases e) k) ?_
  refine ex_up (fun _ k => ev_iload_n dL_law_778 rfl k) ?_
  refine ex_up (fun _ k => ev_iconst (v := (3 : Int32)) dL_law_779 (by decide) k) ?_
  refine ex_up (fun _ k => ev_iadd dL_law_780 k) ?_
  refine ex_up (fun _ k => ev_sld dL_law_781 (lw_in hi hL 3 (by decide) rfl) k) ?_
  refine ex_up (fun _ k => ev_aload_n dL_law_782 rfl (fun _ e => by cases e) k) ?_
  refine ex_up (fun _ k => ev_iload_n dL_law_783 rfl k) ?_
  refine ex_up (fun _ k => ev_iconst (v := (4 : Int32)) dL_law_784 (by decide) k) ?_
  refine ex_up (fun _ k => ev_iadd dL_law_785 k) ?_
  refine ex_up (fun _ k => ev_sld dL_law_786 (lw_in hi hL 4 (by decide) rfl) k) ?_
  refine ex_up (fun _ k => ev_aload_n dL_law_787 rfl (fun _ e => by cases e) k) ?_
  refine ex_up (fun _ k => ev_iload_n dL_law_788 rfl k) ?_
  refine ex_up (fun _ k => ev_iconst (v := (5 : Int32)) dL_law_789 (by decide) k) ?_
  refine ex_up (fun _ k => ev_iadd dL_law_790 k) ?_
  refine ex_up (fun _ k => ev_sld dL_law_791 (lw_in hi hL 5 (by decide) rfl) k) ?_
  refine ex_up (fun _ k => ec_Vi (Y := mX10_feed) (ci := 9) (As := [.int (lw_a E i (1 : Int32)), .int (lw_a E i (2 : Int32)), .int (lw_a E i (3 : Int32)), .int (lw_a E i (4 : Int32)), .int (lw_a E i (5 : Int32))]) (rest := [.int r]) dL_law_792 kL_90 oX10_feed ⟨Nat.le_of_ble_eq_true rfl, Nat.le_of_ble_eq_true rfl⟩ (by decide) rfl hn1 ht1 rfl (Nat.le_of_ble_eq_true rfl) hm rfl k) ?_
  refine ex_up (fun _ k => ev_icmp_eq (tgt := 1557) dL_law_795 (by decide) (fun _ => k) (fun q => absurd rfl q)) ?_
  exact k σ2 hI2
set_option maxRecDepth 100000 in
set_option maxHeartbeats 4000000 in
theorem law_c18 {E : ev_N} {P : Option Value × ev_H → Prop} {Inv : ev_H → Prop} {σ : ev_H} {i : Nat} (hi : i + 5 < n_sl E) (hL : n_sl E ≤ 3072) (hI : Inv σ) (h0 : lw_0 Inv) (hs : ∀ (a1 : Int32), lw_s E Inv mX9_end mX10_end [.int a1]) (k : ∀ τ, Inv τ → EX E mL_law 1557 (LSL i) [] τ P) : EX E mL_law 800 (LSL i) [] σ P := by
  refine ex_up (fun _ k => ev_aload_n dL_law_800 rfl (fun _ e => by cases e) k) ?_
  refine ex_up (fun _ k => ev_aload_n dL_law_801 rfl (fun _ e => by cases e) k) ?_
  refine ex_up (fun _ k => ev_iload_n dL_law_802 rfl k) ?_
  refine ex_up (fun _ k => ev_iconst (v := (1 : Int32)) dL_law_803 (by decide) k) ?_
  refine ex_up (fun _ k => ev_iadd dL_law_804 k) ?_
  refine ex_up (fun _ k => ev_sld dL_law_805 (lw_in hi hL 1 (by decide) rfl) k) ?_
  obtain ⟨r, σ1, σ2, hx, hm, hI2, hn1, ht1⟩ := (hs (lw_a E i (1 : Int32))) σ hI
  refine ex_up (fun _ k => ec_Vi (Y := mX9_end) (ci := 8) (As := [.int (lw_a E i (1 : Int32))]) (rest := []) dL_law_806 kL_91 oX9_end ⟨Nat.le_of_ble_eq_true rfl, Nat.le_of_ble_eq_true rfl⟩ (by decide) rfl (h0 σ hI).1 (h0 σ hI).2 rfl (Nat.le_of_ble_eq_true rfl) hx rfl k) ?_
  refine ex_up (fun _ k => ev_aload_n dL_law_809 rfl (fun _ e => by cases e) k) ?_
  refine ex_up (fun _ k => ev_aload_n dL_law_810 rfl (fun _ e => by cases e) k) ?_
  refine ex_up (fun _ k => ev_iload_n dL_law_811 rfl k) ?_
  refine ex_up (fun _ k => ev_iconst (v := (1 : Int32)) dL_law_812 (by decide) k) ?_
  refine ex_up (fun _ k => ev_iadd dL_law_813 k) ?_
  refine ex_up (fun _ k => ev_sld dL_law_814 (lw_in hi hL 1 (by decide) rfl) k) ?_
  refine ex_up (fun _ k => ec_Vi (Y := mX10_end) (ci := 9) (As := [.int (lw_a E i (1 : Int32))]) (rest := [.int r]) dL_law_815 kL_94 oX10_end ⟨Nat.le_of_ble_eq_true rfl, Nat.le_of_ble_eq_true rfl⟩ (by decide) rfl hn1 ht1 rfl (Nat.le_of_ble_eq_true rfl) hm rfl k) ?_
  refine ex_up (fun _ k => ev_icmp_eq (tgt := 1557) dL_law_818 (by decide) (fun _ => k) (fun q => absurd rfl q)) ?_
  exact k σ2 hI2
set_option maxRecDepth 100000 in
set_option maxHeartbeats 4000000 in
theorem law_c19 {E : ev_N} {P : Option Value × ev_H → Prop} {Inv : ev_H → Prop} {σ : ev_H} {i : Nat} (hi : i + 5 < n_sl E) (hL : n_sl E ≤ 3072) (hI : Inv σ) (h0 : lw_0 Inv) (hs : lw_s E Inv mX9_plan mX10_plan []) (k : ∀ τ, Inv τ → EX E mL_law 1557 (LSL i) [] τ P) : EX E mL_law 823 (LSL i) [] σ P := by
  refine ex_up (fun _ k => ev_aload_n dL_law_823 rfl (fun _ e => by cases e) k) ?_
  obtain ⟨r, σ1, σ2, hx, hm, hI2, hn1, ht1⟩ := hs σ hI
  refine ex_up (fun _ k => ec_Vi (Y := mX9_plan) (ci := 8) (As := []) (rest := []) dL_law_824 kL_95 oX9_plan ⟨Nat.le_of_ble_eq_true rfl, Nat.le_of_ble_eq_true rfl⟩ (by decide) rfl (h0 σ hI).1 (h0 σ hI).2 rfl (Nat.le_of_ble_eq_true rfl) hx rfl k) ?_
  refine ex_up (fun _ k => ev_aload_n dL_law_827 rfl (fun _ e => by cases e) k) ?_
  refine ex_up (fun _ k => ec_Vi (Y := mX10_plan) (ci := 9) (As := []) (rest := [.int r]) dL_law_828 kL_99 oX10_plan ⟨Nat.le_of_ble_eq_true rfl, Nat.le_of_ble_eq_true rfl⟩ (by decide) rfl hn1 ht1 rfl (Nat.le_of_ble_eq_true rfl) hm rfl k) ?_
  refine ex_up (fun _ k => ev_icmp_eq (tgt := 1557) dL_law_831 (by decide) (fun _ => k) (fun q => absurd rfl q)) ?_
  exact k σ2 hI2
set_option maxRecDepth 100000 in
set_option maxHeartbeats 4000000 in
theorem law_c20 {E : ev_N} {P : Option Value × ev_H → Prop} {Inv : ev_H → Prop} {σ : ev_H} {i : Nat} (hi : i + 5 < n_sl E) (hL : n_sl E ≤ 3072) (hI : Inv σ) (h0 : lw_0 Inv) (hs : ∀ (a1 : Int32), lw_s E Inv mX9_fault mX10_fault [.int a1]) (k : ∀ τ, Inv τ → EX E mL_law 1557 (LSL i) [] τ P) : EX E mL_law 836 (LSL i) [] σ P := by
  refine ex_up (fun _ k => ev_aload_n dL_law_836 rfl (fun _ e => by cases e) k) ?_
  refine ex_up (fun _ k => ev_aload_n dL_law_837 rfl (fun _ e => by cases e) k) ?_
  refine ex_up (fun _ k => ev_iload_n dL_law_838 rfl k) ?_
  refine ex_up (fun _ k => ev_iconst (v := (1 : Int32)) dL_law_839 (by decide) k) ?_
  refine ex_up (fun _ k => ev_iadd dL_law_840 k) ?_
  refine ex_up (fun _ k => ev_sld dL_law_841 (lw_in hi hL 1 (by decide) rfl) k) ?_
  obtain ⟨r, σ1, σ2, hx, hm, hI2, hn1, ht1⟩ := (hs (lw_a E i (1 : Int32))) σ hI
  refine ex_up (fun _ k => ec_Vi (Y := mX9_fault) (ci := 8) (As := [.int (lw_a E i (1 : Int32))]) (rest := []) dL_law_842 kL_100 oX9_fault ⟨Nat.le_of_ble_eq_true rfl, Nat.le_of_ble_eq_true rfl⟩ (by decide) rfl (h0 σ hI).1 (h0 σ hI).2 rfl (Nat.le_of_ble_eq_true rfl) hx rfl k) ?_
  refine ex_up (fun _ k => ev_aload_n dL_law_845 rfl (fun _ e => by cases e) k) ?_
  refine ex_up (fun _ k => ev_aload_n dL_law_846 rfl (fun _ e => by cases e) k) ?_
  refine ex_up (fun _ k => ev_iload_n dL_law_847 rfl k) ?_
  refine ex_up (fun _ k => ev_iconst (v := (1 : Int32)) dL_law_848 (by decide) k) ?_
  refine ex_up (fun _ k => ev_iadd dL_law_849 k) ?_
  refine ex_up (fun _ k => ev_sld dL_law_850 (lw_in hi hL 1 (by decide) rfl) k) ?_
  refine ex_up (fun _ k => ec_Vi (Y := mX10_fault) (ci := 9) (As := [.int (lw_a E i (1 : Int32))]) (rest := [.int r]) dL_law_851 kL_103 oX10_fault ⟨Nat.le_of_ble_eq_true rfl, Nat.le_of_ble_eq_true rfl⟩ (by decide) rfl hn1 ht1 rfl (Nat.le_of_ble_eq_true rfl) hm rfl k) ?_
  refine ex_up (fun _ k => ev_icmp_eq (tgt := 1557) dL_law_854 (by decide) (fun _ => k) (fun q => absurd rfl q)) ?_
  exact k σ2 hI2
set_option maxRecDepth 100000 in
set_option maxHeartbeats 4000000 in
theorem law_c21 {E : ev_N} {P : Option Value × ev_H → Prop} {Inv : ev_H → Prop} {σ : ev_H} {i : Nat} (hi : i + 5 < n_sl E) (hL : n_sl E ≤ 3072) (hI : Inv σ) (h0 : lw_0 Inv) (hs : ∀ (a1 : Int32), lw_s E Inv mX9_run mX10_run [.int a1]) (k : ∀ τ, Inv τ → EX E mL_law 1557 (LSL i) [] τ P) : EX E mL_law 859 (LSL i) [] σ P := by
  refine ex_up (fun _ k => ev_aload_n dL_law_859 rfl (fun _ e => by cases e) k) ?_
  refine ex_up (fun _ k => ev_aload_n dL_law_860 rfl (fun _ e => by cases e) k) ?_
  refine ex_up (fun _ k => ev_iload_n dL_law_861 rfl k) ?_
  refine ex_up (fun _ k => ev_iconst (v := (1 : Int32)) dL_law_862 (by decide) k) ?_
  refine ex_up (fun _ k => ev_iadd dL_law_863 k) ?_
  refine ex_up (fun _ k => ev_sld dL_law_864 (lw_in hi hL 1 (by decide) rfl) k) ?_
  obtain ⟨r, σ1, σ2, hx, hm, hI2, hn1, ht1⟩ := (hs (lw_a E i (1 : Int32))) σ hI
  refine ex_up (fun _ k => ec_Vi (Y := mX9_run) (ci := 8) (As := [.int (lw_a E i (1 : Int32))]) (rest := []) dL_law_865 kL_104 oX9_run ⟨Nat.le_of_ble_eq_true rfl, Nat.le_of_ble_eq_true rfl⟩ (by decide) rfl (h0 σ hI).1 (h0 σ hI).2 rfl (Nat.le_of_ble_eq_true rfl) hx rfl k) ?_
  refine ex_up (fun _ k => ev_aload_n dL_law_868 rfl (fun _ e => by cases e) k) ?_
  refine ex_up (fun _ k => ev_aload_n dL_law_869 rfl (fun _ e => by cases e) k) ?_
  refine ex_up (fun _ k => ev_iload_n dL_law_870 rfl k) ?_
  refine ex_up (fun _ k => ev_iconst (v := (1 : Int32)) dL_law_871 (by decide) k) ?_
  refine ex_up (fun _ k => ev_iadd dL_law_872 k) ?_
  refine ex_up (fun _ k => ev_sld dL_law_873 (lw_in hi hL 1 (by decide) rfl) k) ?_
  refine ex_up (fun _ k => ec_Vi (Y := mX10_run) (ci := 9) (As := [.int (lw_a E i (1 : Int32))]) (rest := [.int r]) dL_law_874 kL_107 oX10_run ⟨Nat.le_of_ble_eq_true rfl, Nat.le_of_ble_eq_true rfl⟩ (by decide) rfl hn1 ht1 rfl (Nat.le_of_ble_eq_true rfl) hm rfl k) ?_
  refine ex_up (fun _ k => ev_icmp_eq (tgt := 1557) dL_law_877 (by decide) (fun _ => k) (fun q => absurd rfl q)) ?_
  exact k σ2 hI2
set_option maxRecDepth 100000 in
set_option maxHeartbeats 4000000 in
theorem law_c22 {E : ev_N} {P : Option Value × ev_H → Prop} {Inv : ev_H → Prop} {σ : ev_H} {i : Nat} (hi : i + 5 < n_sl E) (hL : n_sl E ≤ 3072) (hI : Inv σ) (h0 : lw_0 Inv) (hs : ∀ (a1 : Int32) (a2 : Int32), lw_s E Inv mX9_node mX10_node [.int a1, .int a2]) (k : ∀ τ, Inv τ → EX E mL_law 1557 (LSL i) [] τ P) : EX E mL_law 882 (LSL i) [] σ P := by
  refine ex_up (fun _ k => ev_aload_n dL_law_882 rfl (fun _ e => by cases e) k) ?_
  refine ex_up (fun _ k => ev_aload_n dL_law_883 rfl (fun _ e => by cases e) k) ?_
  refine ex_up (fun _ k => ev_iload_n dL_law_884 rfl k) ?_
  refine ex_up (fun _ k => ev_iconst (v := (1 : Int32)) dL_law_885 (by decide) k) ?_
  refine ex_up (fun _ k => ev_iadd dL_law_886 k) ?_
  refine ex_up (fun _ k => ev_sld dL_law_887 (lw_in hi hL 1 (by decide) rfl) k) ?_
  refine ex_up (fun _ k => ev_aload_n dL_law_888 rfl (fun _ e => by cases e) k) ?_
  refine ex_up (fun _ k => ev_iload_n dL_law_889 rfl k) ?_
  refine ex_up (fun _ k => ev_iconst (v := (2 : Int32)) dL_law_890 (by decide) k) ?_
  refine ex_up (fun _ k => ev_iadd dL_law_891 k) ?_
  refine ex_up (fun _ k => ev_sld dL_law_892 (lw_in hi hL 2 (by decide) rfl) k) ?_
  obtain ⟨r, σ1, σ2, hx, hm, hI2, hn1, ht1⟩ := (hs (lw_a E i (1 : Int32)) (lw_a E i (2 : Int32))) σ hI
  refine ex_up (fun _ k => ec_Vi (Y := mX9_node) (ci := 8) (As := [.int (lw_a E i (1 : Int32)), .int (lw_a E i (2 : Int32))]) (rest := []) dL_law_893 kL_108 oX9_node ⟨Nat.le_of_ble_eq_true rfl, Nat.le_of_ble_eq_true rfl⟩ (by decide) rfl (h0 σ hI).1 (h0 σ hI).2 rfl (Nat.le_of_ble_eq_true rfl) hx rfl k) ?_
  refine ex_up (fun _ k => ev_aload_n dL_law_896 rfl (fun _ e => by cases e) k) ?_
  refine ex_up (fun _ k => ev_aload_n dL_law_897 rfl (fun _ e => by cases e) k) ?_
  refine ex_up (fun _ k => ev_iload_n dL_law_898 rfl k) ?_
  refine ex_up (fun _ k => ev_iconst (v := (1 : Int32)) dL_law_899 (by decide) k) ?_
  refine ex_up (fun _ k => ev_iadd dL_law_900 k) ?_
  refine ex_up (fun _ k => ev_sld dL_law_901 (lw_in hi hL 1 (by decide) rfl) k) ?_
  refine ex_up (fun _ k => ev_aload_n dL_law_902 rfl (fun _ e => by cases e) k) ?_
  refine ex_up (fun _ k => ev_iload_n dL_law_903 rfl k) ?_
  refine ex_up (fun _ k => ev_iconst (v := (2 : Int32)) dL_law_904 (by decide) k) ?_
  refine ex_up (fun _ k => ev_iadd dL_law_905 k) ?_
  refine ex_up (fun _ k => ev_sld dL_law_906 (lw_in hi hL 2 (by decide) rfl) k) ?_
  refine ex_up (fun _ k => ec_Vi (Y := mX10_node) (ci := 9) (As := [.int (lw_a E i (1 : Int32)), .int (lw_a E i (2 : Int32))]) (rest := [.int r]) dL_law_907 kL_111 oX10_node ⟨Nat.le_of_ble_eq_true rfl, Nat.le_of_ble_eq_true rfl⟩ (by decide) rfl hn1 ht1 rfl (Nat.le_of_ble_eq_true rfl) hm rfl k) ?_
  refine ex_up (fun _ k => ev_icmp_eq (tgt := 1557) dL_law_910 (by decide) (fun _ => k) (fun q => absurd rfl q)) ?_
  exact k σ2 hI2
set_option maxRecDepth 100000 in
set_option maxHeartbeats 4000000 in
theorem law_c23 {E : ev_N} {P : Option Value × ev_H → Prop} {Inv : ev_H → Prop} {σ : ev_H} {i : Nat} (hi : i + 5 < n_sl E) (hL : n_sl E ≤ 3072) (hI : Inv σ) (h0 : lw_0 Inv) (hs : ∀ (a1 : Int32) (a2 : Int32), lw_s E Inv mX9_log mX10_log [.int a1, .int a2]) (k : ∀ τ, Inv τ → EX E mL_law 1557 (LSL i) [] τ P) : EX E mL_law 915 (LSL i) [] σ P := by
  refine ex_up (fun _ k => ev_aload_n dL_law_915 rfl (fun _ e => by cases e) k) ?_
  refine ex_up (fun _ k => ev_aload_n dL_law_916 rfl (fun _ e => by cases e) k) ?_
  refine ex_up (fun _ k => ev_iload_n dL_law_917 rfl k) ?_
  refine ex_up (fun _ k => ev_iconst (v := (1 : Int32)) dL_law_918 (by decide) k) ?_
  refine ex_up (fun _ k => ev_iadd dL_law_919 k) ?_
  refine ex_up (fun _ k => ev_sld dL_law_920 (lw_in hi hL 1 (by decide) rfl) k) ?_
  refine ex_up (fun _ k => ev_aload_n dL_law_921 rfl (fun _ e => by cases e) k) ?_
  refine ex_up (fun _ k => ev_iload_n dL_law_922 rfl k) ?_
  refine ex_up (fun _ k => ev_iconst (v := (2 : Int32)) dL_law_923 (by decide) k) ?_
  refine ex_up (fun _ k => ev_iadd dL_law_924 k) ?_
  refine ex_up (fun _ k => ev_sld dL_law_925 (lw_in hi hL 2 (by decide) rfl) k) ?_
  obtain ⟨r, σ1, σ2, hx, hm, hI2, hn1, ht1⟩ := (hs (lw_a E i (1 : Int32)) (lw_a E i (2 : Int32))) σ hI
  refine ex_up (fun _ k => ec_Vi (Y := mX9_log) (ci := 8) (As := [.int (lw_a E i (1 : Int32)), .int (lw_a E i (2 : Int32))]) (rest := []) dL_law_926 kL_112 oX9_log ⟨Nat.le_of_ble_eq_true rfl, Nat.le_of_ble_eq_true rfl⟩ (by decide) rfl (h0 σ hI).1 (h0 σ hI).2 rfl (Nat.le_of_ble_eq_true rfl) hx rfl k) ?_
  refine ex_up (fun _ k => ev_aload_n dL_law_929 rfl (fun _ e => by cases e) k) ?_
  refine ex_up (fun _ k => ev_aload_n dL_law_930 rfl (fun _ e => by cases e) k) ?_
  refine ex_up (fun _ k => ev_iload_n dL_law_931 rfl k) ?_
  refine ex_up (fun _ k => ev_iconst (v := (1 : Int32)) dL_law_932 (by decide) k) ?_
  refine ex_up (fun _ k => ev_iadd dL_law_933 k) ?_
  refine ex_up (fun _ k => ev_sld dL_law_934 (lw_in hi hL 1 (by decide) rfl) k) ?_
  refine ex_up (fun _ k => ev_aload_n dL_law_935 rfl (fun _ e => by cases e) k) ?_
  refine ex_up (fun _ k => ev_iload_n dL_law_936 rfl k) ?_
  refine ex_up (fun _ k => ev_iconst (v := (2 : Int32)) dL_law_937 (by decide) k) ?_
  refine ex_up (fun _ k => ev_iadd dL_law_938 k) ?_
  refine ex_up (fun _ k => ev_sld dL_law_939 (lw_in hi hL 2 (by decide) rfl) k) ?_
  refine ex_up (fun _ k => ec_Vi (Y := mX10_log) (ci := 9) (As := [.int (lw_a E i (1 : Int32)), .int (lw_a E i (2 : Int32))]) (rest := [.int r]) dL_law_940 kL_115 oX10_log ⟨Nat.le_of_ble_eq_true rfl, Nat.le_of_ble_eq_true rfl⟩ (by decide) rfl hn1 ht1 rfl (Nat.le_of_ble_eq_true rfl) hm rfl k) ?_
  refine ex_up (fun _ k => ev_icmp_eq (tgt := 1557) dL_law_943 (by decide) (fun _ => k) (fun q => absurd rfl q)) ?_
  exact k σ2 hI2
set_option maxRecDepth 100000 in
set_option maxHeartbeats 4000000 in
theorem law_c24 {E : ev_N} {P : Option Value × ev_H → Prop} {Inv : ev_H → Prop} {σ : ev_H} {i : Nat} (hi : i + 5 < n_sl E) (hL : n_sl E ≤ 3072) (hI : Inv σ) (h0 : lw_0 Inv) (hs : ∀ (a1 : Int32) (a2 : Int32), lw_s E Inv mX9_block mX10_block [.int a1, .int a2]) (k : ∀ τ, Inv τ → EX E mL_law 1557 (LSL i) [] τ P) : EX E mL_law 948 (LSL i) [] σ P := by
  refine ex_up (fun _ k => ev_aload_n dL_law_948 rfl (fun _ e => by cases e) k) ?_
  refine ex_up (fun _ k => ev_aload_n dL_law_949 rfl (fun _ e => by cases e) k) ?_
  refine ex_up (fun _ k => ev_iload_n dL_law_950 rfl k) ?_
  refine ex_up (fun _ k => ev_iconst (v := (1 : Int32)) dL_law_951 (by decide) k) ?_
  refine ex_up (fun _ k => ev_iadd dL_law_952 k) ?_
  refine ex_up (fun _ k => ev_sld dL_law_953 (lw_in hi hL 1 (by decide) rfl) k) ?_
  refine ex_up (fun _ k => ev_aload_n dL_law_954 rfl (fun _ e => by cases e) k) ?_
  refine ex_up (fun _ k => ev_iload_n dL_law_955 rfl k) ?_
  refine ex_up (fun _ k => ev_iconst (v := (2 : Int32)) dL_law_956 (by decide) k) ?_
  refine ex_up (fun _ k => ev_iadd dL_law_957 k) ?_
  refine ex_up (fun _ k => ev_sld dL_law_958 (lw_in hi hL 2 (by decide) rfl) k) ?_
  obtain ⟨r, σ1, σ2, hx, hm, hI2, hn1, ht1⟩ := (hs (lw_a E i (1 : Int32)) (lw_a E i (2 : Int32))) σ hI
  refine ex_up (fun _ k => ec_Vi (Y := mX9_block) (ci := 8) (As := [.int (lw_a E i (1 : Int32)), .int (lw_a E i (2 : Int32))]) (rest := []) dL_law_959 kL_116 oX9_block ⟨Nat.le_of_ble_eq_true rfl, Nat.le_of_ble_eq_true rfl⟩ (by decide) rfl (h0 σ hI).1 (h0 σ hI).2 rfl (Nat.le_of_ble_eq_true rfl) hx rfl k) ?_
  refine ex_up (fun _ k => ev_aload_n dL_law_962 rfl (fun _ e => by cases e) k) ?_
  refine ex_up (fun _ k => ev_aload_n dL_law_963 rfl (fun _ e => by cases e) k) ?_
  refine ex_up (fun _ k => ev_iload_n dL_law_964 rfl k) ?_
  refine ex_up (fun _ k => ev_iconst (v := (1 : Int32)) dL_law_965 (by decide) k) ?_
  refine ex_up (fun _ k => ev_iadd dL_law_966 k) ?_
  refine ex_up (fun _ k => ev_sld dL_law_967 (lw_in hi hL 1 (by decide) rfl) k) ?_
  refine ex_up (fun _ k => ev_aload_n dL_law_968 rfl (fun _ e => by cases e) k) ?_
  refine ex_up (fun _ k => ev_iload_n dL_law_969 rfl k) ?_
  refine ex_up (fun _ k => ev_iconst (v := (2 : Int32)) dL_law_970 (by decide) k) ?_
  refine ex_up (fun _ k => ev_iadd dL_law_971 k) ?_
  refine ex_up (fun _ k => ev_sld dL_law_972 (lw_in hi hL 2 (by decide) rfl) k) ?_
  refine ex_up (fun _ k => ec_Vi (Y := mX10_block) (ci := 9) (As := [.int (lw_a E i (1 : Int32)), .int (lw_a E i (2 : Int32))]) (rest := [.int r]) dL_law_973 kL_119 oX10_block ⟨Nat.le_of_ble_eq_true rfl, Nat.le_of_ble_eq_true rfl⟩ (by decide) rfl hn1 ht1 rfl (Nat.le_of_ble_eq_true rfl) hm rfl k) ?_
  refine ex_up (fun _ k => ev_icmp_eq (tgt := 1557) dL_law_976 (by decide) (fun _ => k) (fun q => absurd rfl q)) ?_
  exact k σ2 hI2
set_option maxRecDepth 100000 in
set_option maxHeartbeats 4000000 in
theorem law_c25 {E : ev_N} {P : Option Value × ev_H → Prop} {Inv : ev_H → Prop} {σ : ev_H} {i : Nat} (hi : i + 5 < n_sl E) (hL : n_sl E ≤ 3072) (hI : Inv σ) (h0 : lw_0 Inv) (hs : ∀ (a1 : Int32) (a2 : Int32), lw_s E Inv mX9_marks mX10_marks [.int a1, .int a2]) (k : ∀ τ, Inv τ → EX E mL_law 1557 (LSL i) [] τ P) : EX E mL_law 981 (LSL i) [] σ P := by
  refine ex_up (fun _ k => ev_aload_n dL_law_981 rfl (fun _ e => by cases e) k) ?_
  refine ex_up (fun _ k => ev_aload_n dL_law_982 rfl (fun _ e => by cases e) k) ?_
  refine ex_up (fun _ k => ev_iload_n dL_law_983 rfl k) ?_
  refine ex_up (fun _ k => ev_iconst (v := (1 : Int32)) dL_law_984 (by decide) k) ?_
  refine ex_up (fun _ k => ev_iadd dL_law_985 k) ?_
  refine ex_up (fun _ k => ev_sld dL_law_986 (lw_in hi hL 1 (by decide) rfl) k) ?_
  refine ex_up (fun _ k => ev_aload_n dL_law_987 rfl (fun _ e => by cases e) k) ?_
  refine ex_up (fun _ k => ev_iload_n dL_law_988 rfl k) ?_
  refine ex_up (fun _ k => ev_iconst (v := (2 : Int32)) dL_law_989 (by decide) k) ?_
  refine ex_up (fun _ k => ev_iadd dL_law_990 k) ?_
  refine ex_up (fun _ k => ev_sld dL_law_991 (lw_in hi hL 2 (by decide) rfl) k) ?_
  obtain ⟨r, σ1, σ2, hx, hm, hI2, hn1, ht1⟩ := (hs (lw_a E i (1 : Int32)) (lw_a E i (2 : Int32))) σ hI
  refine ex_up (fun _ k => ec_Vi (Y := mX9_marks) (ci := 8) (As := [.int (lw_a E i (1 : Int32)), .int (lw_a E i (2 : Int32))]) (rest := []) dL_law_992 kL_120 oX9_marks ⟨Nat.le_of_ble_eq_true rfl, Nat.le_of_ble_eq_true rfl⟩ (by decide) rfl (h0 σ hI).1 (h0 σ hI).2 rfl (Nat.le_of_ble_eq_true rfl) hx rfl k) ?_
  refine ex_up (fun _ k => ev_aload_n dL_law_995 rfl (fun _ e => by cases e) k) ?_
  refine ex_up (fun _ k => ev_aload_n dL_law_996 rfl (fun _ e => by cases e) k) ?_
  refine ex_up (fun _ k => ev_iload_n dL_law_997 rfl k) ?_
  refine ex_up (fun _ k => ev_iconst (v := (1 : Int32)) dL_law_998 (by decide) k) ?_
  refine ex_up (fun _ k => ev_iadd dL_law_999 k) ?_
  refine ex_up (fun _ k => ev_sld dL_law_1000 (lw_in hi hL 1 (by decide) rfl) k) ?_
  refine ex_up (fun _ k => ev_aload_n dL_law_1001 rfl (fun _ e => by cases e) k) ?_
  refine ex_up (fun _ k => ev_iload_n dL_law_1002 rfl k) ?_
  refine ex_up (fun _ k => ev_iconst (v := (2 : Int32)) dL_law_1003 (by decide) k) ?_
  refine ex_up (fun _ k => ev_iadd dL_law_1004 k) ?_
  refine ex_up (fun _ k => ev_sld dL_law_1005 (lw_in hi hL 2 (by decide) rfl) k) ?_
  refine ex_up (fun _ k => ec_Vi (Y := mX10_marks) (ci := 9) (As := [.int (lw_a E i (1 : Int32)), .int (lw_a E i (2 : Int32))]) (rest := [.int r]) dL_law_1006 kL_123 oX10_marks ⟨Nat.le_of_ble_eq_true rfl, Nat.le_of_ble_eq_true rfl⟩ (by decide) rfl hn1 ht1 rfl (Nat.le_of_ble_eq_true rfl) hm rfl k) ?_
  refine ex_up (fun _ k => ev_icmp_eq (tgt := 1557) dL_law_1009 (by decide) (fun _ => k) (fun q => absurd rfl q)) ?_
  exact k σ2 hI2
set_option maxRecDepth 100000 in
set_option maxHeartbeats 4000000 in
theorem law_c26 {E : ev_N} {P : Option Value × ev_H → Prop} {Inv : ev_H → Prop} {σ : ev_H} {i : Nat} (hi : i + 5 < n_sl E) (hL : n_sl E ≤ 3072) (hI : Inv σ) (h0 : lw_0 Inv) (hs : ∀ (a1 : Int32) (a2 : Int32), lw_s E Inv mX9_timeouts mX10_timeouts [.int a1, .int a2]) (k : ∀ τ, Inv τ → EX E mL_law 1557 (LSL i) [] τ P) : EX E mL_law 1014 (LSL i) [] σ P := by
  refine ex_up (fun _ k => ev_aload_n dL_law_1014 rfl (fun _ e => by cases e) k) ?_
  refine ex_up (fun _ k => ev_aload_n dL_law_1015 rfl (fun _ e => by cases e) k) ?_
  refine ex_up (fun _ k => ev_iload_n dL_law_1016 rfl k) ?_
  refine ex_up (fun _ k => ev_iconst (v := (1 : Int32)) dL_law_1017 (by decide) k) ?_
  refine ex_up (fun _ k => ev_iadd dL_law_1018 k) ?_
  refine ex_up (fun _ k => ev_sld dL_law_1019 (lw_in hi hL 1 (by decide) rfl) k) ?_
  refine ex_up (fun _ k => ev_aload_n dL_law_1020 rfl (fun _ e => by cases e) k) ?_
  refine ex_up (fun _ k => ev_iload_n dL_law_1021 rfl k) ?_
  refine ex_up (fun _ k => ev_iconst (v := (2 : Int32)) dL_law_1022 (by decide) k) ?_
  refine ex_up (fun _ k => ev_iadd dL_law_1023 k) ?_
  refine ex_up (fun _ k => ev_sld dL_law_1024 (lw_in hi hL 2 (by decide) rfl) k) ?_
  obtain ⟨r, σ1, σ2, hx, hm, hI2, hn1, ht1⟩ := (hs (lw_a E i (1 : Int32)) (lw_a E i (2 : Int32))) σ hI
  refine ex_up (fun _ k => ec_Vi (Y := mX9_timeouts) (ci := 8) (As := [.int (lw_a E i (1 : Int32)), .int (lw_a E i (2 : Int32))]) (rest := []) dL_law_1025 kL_124 oX9_timeouts ⟨Nat.le_of_ble_eq_true rfl, Nat.le_of_ble_eq_true rfl⟩ (by decide) rfl (h0 σ hI).1 (h0 σ hI).2 rfl (Nat.le_of_ble_eq_true rfl) hx rfl k) ?_
  refine ex_up (fun _ k => ev_aload_n dL_law_1028 rfl (fun _ e => by cases e) k) ?_
  refine ex_up (fun _ k => ev_aload_n dL_law_1029 rfl (fun _ e => by cases e) k) ?_
  refine ex_up (fun _ k => ev_iload_n dL_law_1030 rfl k) ?_
  refine ex_up (fun _ k => ev_iconst (v := (1 : Int32)) dL_law_1031 (by decide) k) ?_
  refine ex_up (fun _ k => ev_iadd dL_law_1032 k) ?_
  refine ex_up (fun _ k => ev_sld dL_law_1033 (lw_in hi hL 1 (by decide) rfl) k) ?_
  refine ex_up (fun _ k => ev_aload_n dL_law_1034 rfl (fun _ e => by cases e) k) ?_
  refine ex_up (fun _ k => ev_iload_n dL_law_1035 rfl k) ?_
  refine ex_up (fun _ k => ev_iconst (v := (2 : Int32)) dL_law_1036 (by decide) k) ?_
  refine ex_up (fun _ k => ev_iadd dL_law_1037 k) ?_
  refine ex_up (fun _ k => ev_sld dL_law_1038 (lw_in hi hL 2 (by decide) rfl) k) ?_
  refine ex_up (fun _ k => ec_Vi (Y := mX10_timeouts) (ci := 9) (As := [.int (lw_a E i (1 : Int32)), .int (lw_a E i (2 : Int32))]) (rest := [.int r]) dL_law_1039 kL_127 oX10_timeouts ⟨Nat.le_of_ble_eq_true rfl, Nat.le_of_ble_eq_true rfl⟩ (by decide) rfl hn1 ht1 rfl (Nat.le_of_ble_eq_true rfl) hm rfl k) ?_
  refine ex_up (fun _ k => ev_icmp_eq (tgt := 1557) dL_law_1042 (by decide) (fun _ => k) (fun q => absurd rfl q)) ?_
  exact k σ2 hI2
set_option maxRecDepth 100000 in
set_option maxHeartbeats 4000000 in
theorem law_c27 {E : ev_N} {P : Option Value × ev_H → Prop} {Inv : ev_H → Prop} {σ : ev_H} {i : Nat} (hi : i + 5 < n_sl E) (hL : n_sl E ≤ 3072) (hI : Inv σ) (h0 : lw_0 Inv) (hs : ∀ (a1 : Int32) (a2 : Int32), lw_s E Inv mX9_message mX10_message [.int a1, .int a2]) (k : ∀ τ, Inv τ → EX E mL_law 1557 (LSL i) [] τ P) : EX E mL_law 1047 (LSL i) [] σ P := by
  refine ex_up (fun _ k => ev_aload_n dL_law_1047 rfl (fun _ e => by cases e) k) ?_
  refine ex_up (fun _ k => ev_aload_n dL_law_1048 rfl (fun _ e => by cases e) k) ?_
  refine ex_up (fun _ k => ev_iload_n dL_law_1049 rfl k) ?_
  refine ex_up (fun _ k => ev_iconst (v := (1 : Int32)) dL_law_1050 (by decide) k) ?_
  refine ex_up (fun _ k => ev_iadd dL_law_1051 k) ?_
  refine ex_up (fun _ k => ev_sld dL_law_1052 (lw_in hi hL 1 (by decide) rfl) k) ?_
  refine ex_up (fun _ k => ev_aload_n dL_law_1053 rfl (fun _ e => by cases e) k) ?_
  refine ex_up (fun _ k => ev_iload_n dL_law_1054 rfl k) ?_
  refine ex_up (fun _ k => ev_iconst (v := (2 : Int32)) dL_law_1055 (by decide) k) ?_
  refine ex_up (fun _ k => ev_iadd dL_law_1056 k) ?_
  refine ex_up (fun _ k => ev_sld dL_law_1057 (lw_in hi hL 2 (by decide) rfl) k) ?_
  obtain ⟨r, σ1, σ2, hx, hm, hI2, hn1, ht1⟩ := (hs (lw_a E i (1 : Int32)) (lw_a E i (2 : Int32))) σ hI
  refine ex_up (fun _ k => ec_Vi (Y := mX9_message) (ci := 8) (As := [.int (lw_a E i (1 : Int32)), .int (lw_a E i (2 : Int32))]) (rest := []) dL_law_1058 kL_128 oX9_message ⟨Nat.le_of_ble_eq_true rfl, Nat.le_of_ble_eq_true rfl⟩ (by decide) rfl (h0 σ hI).1 (h0 σ hI).2 rfl (Nat.le_of_ble_eq_true rfl) hx rfl k) ?_
  refine ex_up (fun _ k => ev_aload_n dL_law_1061 rfl (fun _ e => by cases e) k) ?_
  refine ex_up (fun _ k => ev_aload_n dL_law_1062 rfl (fun _ e => by cases e) k) ?_
  refine ex_up (fun _ k => ev_iload_n dL_law_1063 rfl k) ?_
  refine ex_up (fun _ k => ev_iconst (v := (1 : Int32)) dL_law_1064 (by decide) k) ?_
  refine ex_up (fun _ k => ev_iadd dL_law_1065 k) ?_
  refine ex_up (fun _ k => ev_sld dL_law_1066 (lw_in hi hL 1 (by decide) rfl) k) ?_
  refine ex_up (fun _ k => ev_aload_n dL_law_1067 rfl (fun _ e => by cases e) k) ?_
  refine ex_up (fun _ k => ev_iload_n dL_law_1068 rfl k) ?_
  refine ex_up (fun _ k => ev_iconst (v := (2 : Int32)) dL_law_1069 (by decide) k) ?_
  refine ex_up (fun _ k => ev_iadd dL_law_1070 k) ?_
  refine ex_up (fun _ k => ev_sld dL_law_1071 (lw_in hi hL 2 (by decide) rfl) k) ?_
  refine ex_up (fun _ k => ec_Vi (Y := mX10_message) (ci := 9) (As := [.int (lw_a E i (1 : Int32)), .int (lw_a E i (2 : Int32))]) (rest := [.int r]) dL_law_1072 kL_131 oX10_message ⟨Nat.le_of_ble_eq_true rfl, Nat.le_of_ble_eq_true rfl⟩ (by decide) rfl hn1 ht1 rfl (Nat.le_of_ble_eq_true rfl) hm rfl k) ?_
  refine ex_up (fun _ k => ev_icmp_eq (tgt := 1557) dL_law_1075 (by decide) (fun _ => k) (fun q => absurd rfl q)) ?_
  exact k σ2 hI2
set_option maxRecDepth 100000 in
set_option maxHeartbeats 4000000 in
theorem law_c28 {E : ev_N} {P : Option Value × ev_H → Prop} {Inv : ev_H → Prop} {σ : ev_H} {i : Nat} (hi : i + 5 < n_sl E) (hL : n_sl E ≤ 3072) (hI : Inv σ) (h0 : lw_0 Inv) (hs : ∀ (a1 : Int32) (a2 : Int32), lw_s E Inv mX9_evidence mX10_evidence [.int a1, .int a2]) (k : ∀ τ, Inv τ → EX E mL_law 1557 (LSL i) [] τ P) : EX E mL_law 1080 (LSL i) [] σ P := by
  refine ex_up (fun _ k => ev_aload_n dL_law_1080 rfl (fun _ e => by cases e) k) ?_
  refine ex_up (fun _ k => ev_aload_n dL_law_1081 rfl (fun _ e => by cases e) k) ?_
  refine ex_up (fun _ k => ev_iload_n dL_law_1082 rfl k) ?_
  refine ex_up (fun _ k => ev_iconst (v := (1 : Int32)) dL_law_1083 (by decide) k) ?_
  refine ex_up (fun _ k => ev_iadd dL_law_1084 k) ?_
  refine ex_up (fun _ k => ev_sld dL_law_1085 (lw_in hi hL 1 (by decide) rfl) k) ?_
  refine ex_up (fun _ k => ev_aload_n dL_law_1086 rfl (fun _ e => by cases e) k) ?_
  refine ex_up (fun _ k => ev_iload_n dL_law_1087 rfl k) ?_
  refine ex_up (fun _ k => ev_iconst (v := (2 : Int32)) dL_law_1088 (by decide) k) ?_
  refine ex_up (fun _ k => ev_iadd dL_law_1089 k) ?_
  refine ex_up (fun _ k => ev_sld dL_law_1090 (lw_in hi hL 2 (by decide) rfl) k) ?_
  obtain ⟨r, σ1, σ2, hx, hm, hI2, hn1, ht1⟩ := (hs (lw_a E i (1 : Int32)) (lw_a E i (2 : Int32))) σ hI
  refine ex_up (fun _ k => ec_Vi (Y := mX9_evidence) (ci := 8) (As := [.int (lw_a E i (1 : Int32)), .int (lw_a E i (2 : Int32))]) (rest := []) dL_law_1091 kL_132 oX9_evidence ⟨Nat.le_of_ble_eq_true rfl, Nat.le_of_ble_eq_true rfl⟩ (by decide) rfl (h0 σ hI).1 (h0 σ hI).2 rfl (Nat.le_of_ble_eq_true rfl) hx rfl k) ?_
  refine ex_up (fun _ k => ev_aload_n dL_law_1094 rfl (fun _ e => by cases e) k) ?_
  refine ex_up (fun _ k => ev_aload_n dL_law_1095 rfl (fun _ e => by cases e) k) ?_
  refine ex_up (fun _ k => ev_iload_n dL_law_1096 rfl k) ?_
  refine ex_up (fun _ k => ev_iconst (v := (1 : Int32)) dL_law_1097 (by decide) k) ?_
  refine ex_up (fun _ k => ev_iadd dL_law_1098 k) ?_
  refine ex_up (fun _ k => ev_sld dL_law_1099 (lw_in hi hL 1 (by decide) rfl) k) ?_
  refine ex_up (fun _ k => ev_aload_n dL_law_1100 rfl (fun _ e => by cases e) k) ?_
  refine ex_up (fun _ k => ev_iload_n dL_law_1101 rfl k) ?_
  refine ex_up (fun _ k => ev_iconst (v := (2 : Int32)) dL_law_1102 (by decide) k) ?_
  refine ex_up (fun _ k => ev_iadd dL_law_1103 k) ?_
  refine ex_up (fun _ k => ev_sld dL_law_1104 (lw_in hi hL 2 (by decide) rfl) k) ?_
  refine ex_up (fun _ k => ec_Vi (Y := mX10_evidence) (ci := 9) (As := [.int (lw_a E i (1 : Int32)), .int (lw_a E i (2 : Int32))]) (rest := [.int r]) dL_law_1105 kL_135 oX10_evidence ⟨Nat.le_of_ble_eq_true rfl, Nat.le_of_ble_eq_true rfl⟩ (by decide) rfl hn1 ht1 rfl (Nat.le_of_ble_eq_true rfl) hm rfl k) ?_
  refine ex_up (fun _ k => ev_icmp_eq (tgt := 1557) dL_law_1108 (by decide) (fun _ => k) (fun q => absurd rfl q)) ?_
  exact k σ2 hI2
set_option maxRecDepth 100000 in
set_option maxHeartbeats 4000000 in
theorem law_c29 {E : ev_N} {P : Option Value × ev_H → Prop} {Inv : ev_H → Prop} {σ : ev_H} {i : Nat} (hi : i + 5 < n_sl E) (hL : n_sl E ≤ 3072) (hI : Inv σ) (h0 : lw_0 Inv) (hs : ∀ (a1 : Int32) (a2 : Int32), lw_s E Inv mX9_event mX10_event [.int a1, .int a2]) (k : ∀ τ, Inv τ → EX E mL_law 1557 (LSL i) [] τ P) : EX E mL_law 1113 (LSL i) [] σ P := by
  refine ex_up (fun _ k => ev_aload_n dL_law_1113 rfl (fun _ e => by cases e) k) ?_
  refine ex_up (fun _ k => ev_aload_n dL_law_1114 rfl (fun _ e => by cases e) k) ?_
  refine ex_up (fun _ k => ev_iload_n dL_law_1115 rfl k) ?_
  refine ex_up (fun _ k => ev_iconst (v := (1 : Int32)) dL_law_1116 (by decide) k) ?_
  refine ex_up (fun _ k => ev_iadd dL_law_1117 k) ?_
  refine ex_up (fun _ k => ev_sld dL_law_1118 (lw_in hi hL 1 (by decide) rfl) k) ?_
  refine ex_up (fun _ k => ev_aload_n dL_law_1119 rfl (fun _ e => by cases e) k) ?_
  refine ex_up (fun _ k => ev_iload_n dL_law_1120 rfl k) ?_
  refine ex_up (fun _ k => ev_iconst (v := (2 : Int32)) dL_law_1121 (by decide) k) ?_
  refine ex_up (fun _ k => ev_iadd dL_law_1122 k) ?_
  refine ex_up (fun _ k => ev_sld dL_law_1123 (lw_in hi hL 2 (by decide) rfl) k) ?_
  obtain ⟨r, σ1, σ2, hx, hm, hI2, hn1, ht1⟩ := (hs (lw_a E i (1 : Int32)) (lw_a E i (2 : Int32))) σ hI
  refine ex_up (fun _ k => ec_Vi (Y := mX9_event) (ci := 8) (As := [.int (lw_a E i (1 : Int32)), .int (lw_a E i (2 : Int32))]) (rest := []) dL_law_1124 kL_136 oX9_event ⟨Nat.le_of_ble_eq_true rfl, Nat.le_of_ble_eq_true rfl⟩ (by decide) rfl (h0 σ hI).1 (h0 σ hI).2 rfl (Nat.le_of_ble_eq_true rfl) hx rfl k) ?_
  refine ex_up (fun _ k => ev_aload_n dL_law_1127 rfl (fun _ e => by cases e) k) ?_
  refine ex_up (fun _ k => ev_aload_n dL_law_1128 rfl (fun _ e => by cases e) k) ?_
  refine ex_up (fun _ k => ev_iload_n dL_law_1129 rfl k) ?_
  refine ex_up (fun _ k => ev_iconst (v := (1 : Int32)) dL_law_1130 (by decide) k) ?_
  refine ex_up (fun _ k => ev_iadd dL_law_1131 k) ?_
  refine ex_up (fun _ k => ev_sld dL_law_1132 (lw_in hi hL 1 (by decide) rfl) k) ?_
  refine ex_up (fun _ k => ev_aload_n dL_law_1133 rfl (fun _ e => by cases e) k) ?_
  refine ex_up (fun _ k => ev_iload_n dL_law_1134 rfl k) ?_
  refine ex_up (fun _ k => ev_iconst (v := (2 : Int32)) dL_law_1135 (by decide) k) ?_
  refine ex_up (fun _ k => ev_iadd dL_law_1136 k) ?_
  refine ex_up (fun _ k => ev_sld dL_law_1137 (lw_in hi hL 2 (by decide) rfl) k) ?_
  refine ex_up (fun _ k => ec_Vi (Y := mX10_event) (ci := 9) (As := [.int (lw_a E i (1 : Int32)), .int (lw_a E i (2 : Int32))]) (rest := [.int r]) dL_law_1138 kL_139 oX10_event ⟨Nat.le_of_ble_eq_true rfl, Nat.le_of_ble_eq_true rfl⟩ (by decide) rfl hn1 ht1 rfl (Nat.le_of_ble_eq_true rfl) hm rfl k) ?_
  refine ex_up (fun _ k => ev_icmp_eq (tgt := 1557) dL_law_1141 (by decide) (fun _ => k) (fun q => absurd rfl q)) ?_
  exact k σ2 hI2
set_option maxRecDepth 100000 in
set_option maxHeartbeats 4000000 in
theorem law_c30 {E : ev_N} {P : Option Value × ev_H → Prop} {Inv : ev_H → Prop} {σ : ev_H} {i : Nat} (hi : i + 5 < n_sl E) (hL : n_sl E ≤ 3072) (hI : Inv σ) (h0 : lw_0 Inv) (hs : ∀ (a1 : Int32) (a3 : Int32), lw_s E Inv mX9_ledger mX10_ledger [.int a1, .int (0 : Int32), .int a3]) (ht : ∀ (a1 : Int32) (a3 : Int32), lw_s E Inv mX9_ledger mX10_ledger [.int a1, .int (1 : Int32), .int a3]) (k : ∀ τ, Inv τ → EX E mL_law 1557 (LSL i) [] τ P) : EX E mL_law 1146 (LSL i) [] σ P := by
  by_cases c2 : lw_a E i (2 : Int32) = 0
  · refine ex_up (fun _ k => ev_aload_n dL_law_1146 rfl (fun _ e => by cases e) k) ?_
    refine ex_up (fun _ k => ev_aload_n dL_law_1147 rfl (fun _ e => by cases e) k) ?_
    refine ex_up (fun _ k => ev_iload_n dL_law_1148 rfl k) ?_
    refine ex_up (fun _ k => ev_iconst (v := (1 : Int32)) dL_law_1149 (by decide) k) ?_
    refine ex_up (fun _ k => ev_iadd dL_law_1150 k) ?_
    refine ex_up (fun _ k => ev_sld dL_law_1151 (lw_in hi hL 1 (by decide) rfl) k) ?_
    refine ex_up (fun _ k => ev_aload_n dL_law_1152 rfl (fun _ e => by cases e) k) ?_
    refine ex_up (fun _ k => ev_iload_n dL_law_1153 rfl k) ?_
    refine ex_up (fun _ k => ev_iconst (v := (2 : Int32)) dL_law_1154 (by decide) k) ?_
    refine ex_up (fun _ k => ev_iadd dL_law_1155 k) ?_
    refine ex_up (fun _ k => ev_sld dL_law_1156 (lw_in hi hL 2 (by decide) rfl) k) ?_
    refine ex_up (fun _ k => ev_if_eq (tgt := 1164) dL_law_1157 (by decide) (fun _ => k) (fun q => absurd c2 q)) ?_
    refine ex_up (fun _ k => ev_iconst (v := (0 : Int32)) dL_law_1164 (by decide) k) ?_
    refine ex_up (fun _ k => ev_aload_n dL_law_1165 rfl (fun _ e => by cases e) k) ?_
    refine ex_up (fun _ k => ev_iload_n dL_law_1166 rfl k) ?_
    refine ex_up (fun _ k => ev_iconst (v := (3 : Int32)) dL_law_1167 (by decide) k) ?_
    refine ex_up (fun _ k => ev_iadd dL_law_1168 k) ?_
    refine ex_up (fun _ k => ev_sld dL_law_1169 (lw_in hi hL 3 (by decide) rfl) k) ?_
    obtain ⟨r, σ1, σ2, hx, hm, hI2, hn1, ht1⟩ := (hs (lw_a E i (1 : Int32)) (lw_a E i (3 : Int32))) σ hI
    refine ex_up (fun _ k => ec_Vi (Y := mX9_ledger) (ci := 8) (As := [.int (lw_a E i (1 : Int32)), .int (0 : Int32), .int (lw_a E i (3 : Int32))]) (rest := []) dL_law_1170 kL_140 oX9_ledger ⟨Nat.le_of_ble_eq_true rfl, Nat.le_of_ble_eq_true rfl⟩ (by decide) rfl (h0 σ hI).1 (h0 σ hI).2 rfl (Nat.le_of_ble_eq_true rfl) hx rfl k) ?_
    refine ex_up (fun _ k => ev_aload_n dL_law_1173 rfl (fun _ e => by cases e) k) ?_
    refine ex_up (fun _ k => ev_aload_n dL_law_1174 rfl (fun _ e => by cases e) k) ?_
    refine ex_up (fun _ k => ev_iload_n dL_law_1175 rfl k) ?_
    refine ex_up (fun _ k => ev_iconst (v := (1 : Int32)) dL_law_1176 (by decide) k) ?_
    refine ex_up (fun _ k => ev_iadd dL_law_1177 k) ?_
    refine ex_up (fun _ k => ev_sld dL_law_1178 (lw_in hi hL 1 (by decide) rfl) k) ?_
    refine ex_up (fun _ k => ev_aload_n dL_law_1179 rfl (fun _ e => by cases e) k) ?_
    refine ex_up (fun _ k => ev_iload_n dL_law_1180 rfl k) ?_
    refine ex_up (fun _ k => ev_iconst (v := (2 : Int32)) dL_law_1181 (by decide) k) ?_
    refine ex_up (fun _ k => ev_iadd dL_law_1182 k) ?_
    refine ex_up (fun _ k => ev_sld dL_law_1183 (lw_in hi hL 2 (by decide) rfl) k) ?_
    refine ex_up (fun _ k => ev_if_eq (tgt := 1191) dL_law_1184 (by decide) (fun _ => k) (fun q => absurd c2 q)) ?_
    refine ex_up (fun _ k => ev_iconst (v := (0 : Int32)) dL_law_1191 (by decide) k) ?_
    refine ex_up (fun _ k => ev_aload_n dL_law_1192 rfl (fun _ e => by cases e) k) ?_
    refine ex_up (fun _ k => ev_iload_n dL_law_1193 rfl k) ?_
    refine ex_up (fun _ k => ev_iconst (v := (3 : Int32)) dL_law_1194 (by decide) k) ?_
    refine ex_up (fun _ k => ev_iadd dL_law_1195 k) ?_
    refine ex_up (fun _ k => ev_sld dL_law_1196 (lw_in hi hL 3 (by decide) rfl) k) ?_
    refine ex_up (fun _ k => ec_Vi (Y := mX10_ledger) (ci := 9) (As := [.int (lw_a E i (1 : Int32)), .int (0 : Int32), .int (lw_a E i (3 : Int32))]) (rest := [.int r]) dL_law_1197 kL_144 oX10_ledger ⟨Nat.le_of_ble_eq_true rfl, Nat.le_of_ble_eq_true rfl⟩ (by decide) rfl hn1 ht1 rfl (Nat.le_of_ble_eq_true rfl) hm rfl k) ?_
    refine ex_up (fun _ k => ev_icmp_eq (tgt := 1557) dL_law_1200 (by decide) (fun _ => k) (fun q => absurd rfl q)) ?_
    exact k σ2 hI2
  · refine ex_up (fun _ k => ev_aload_n dL_law_1146 rfl (fun _ e => by cases e) k) ?_
    refine ex_up (fun _ k => ev_aload_n dL_law_1147 rfl (fun _ e => by cases e) k) ?_
    refine ex_up (fun _ k => ev_iload_n dL_law_1148 rfl k) ?_
    refine ex_up (fun _ k => ev_iconst (v := (1 : Int32)) dL_law_1149 (by decide) k) ?_
    refine ex_up (fun _ k => ev_iadd dL_law_1150 k) ?_
    refine ex_up (fun _ k => ev_sld dL_law_1151 (lw_in hi hL 1 (by decide) rfl) k) ?_
    refine ex_up (fun _ k => ev_aload_n dL_law_1152 rfl (fun _ e => by cases e) k) ?_
    refine ex_up (fun _ k => ev_iload_n dL_law_1153 rfl k) ?_
    refine ex_up (fun _ k => ev_iconst (v := (2 : Int32)) dL_law_1154 (by decide) k) ?_
    refine ex_up (fun _ k => ev_iadd dL_law_1155 k) ?_
    refine ex_up (fun _ k => ev_sld dL_law_1156 (lw_in hi hL 2 (by decide) rfl) k) ?_
    refine ex_up (fun _ k => ev_if_eq (tgt := 1164) dL_law_1157 (by decide) (fun q => absurd q c2) (fun _ => k)) ?_
    refine ex_up (fun _ k => ev_iconst (v := (1 : Int32)) dL_law_1160 (by decide) k) ?_
    refine ex_up (fun _ k => ev_goto (tgt := 1165) dL_law_1161 (by decide) k) ?_
    refine ex_up (fun _ k => ev_aload_n dL_law_1165 rfl (fun _ e => by cases e) k) ?_
    refine ex_up (fun _ k => ev_iload_n dL_law_1166 rfl k) ?_
    refine ex_up (fun _ k => ev_iconst (v := (3 : Int32)) dL_law_1167 (by decide) k) ?_
    refine ex_up (fun _ k => ev_iadd dL_law_1168 k) ?_
    refine ex_up (fun _ k => ev_sld dL_law_1169 (lw_in hi hL 3 (by decide) rfl) k) ?_
    obtain ⟨r, σ1, σ2, hx, hm, hI2, hn1, ht1⟩ := (ht (lw_a E i (1 : Int32)) (lw_a E i (3 : Int32))) σ hI
    refine ex_up (fun _ k => ec_Vi (Y := mX9_ledger) (ci := 8) (As := [.int (lw_a E i (1 : Int32)), .int (1 : Int32), .int (lw_a E i (3 : Int32))]) (rest := []) dL_law_1170 kL_140 oX9_ledger ⟨Nat.le_of_ble_eq_true rfl, Nat.le_of_ble_eq_true rfl⟩ (by decide) rfl (h0 σ hI).1 (h0 σ hI).2 rfl (Nat.le_of_ble_eq_true rfl) hx rfl k) ?_
    refine ex_up (fun _ k => ev_aload_n dL_law_1173 rfl (fun _ e => by cases e) k) ?_
    refine ex_up (fun _ k => ev_aload_n dL_law_1174 rfl (fun _ e => by cases e) k) ?_
    refine ex_up (fun _ k => ev_iload_n dL_law_1175 rfl k) ?_
    refine ex_up (fun _ k => ev_iconst (v := (1 : Int32)) dL_law_1176 (by decide) k) ?_
    refine ex_up (fun _ k => ev_iadd dL_law_1177 k) ?_
    refine ex_up (fun _ k => ev_sld dL_law_1178 (lw_in hi hL 1 (by decide) rfl) k) ?_
    refine ex_up (fun _ k => ev_aload_n dL_law_1179 rfl (fun _ e => by cases e) k) ?_
    refine ex_up (fun _ k => ev_iload_n dL_law_1180 rfl k) ?_
    refine ex_up (fun _ k => ev_iconst (v := (2 : Int32)) dL_law_1181 (by decide) k) ?_
    refine ex_up (fun _ k => ev_iadd dL_law_1182 k) ?_
    refine ex_up (fun _ k => ev_sld dL_law_1183 (lw_in hi hL 2 (by decide) rfl) k) ?_
    refine ex_up (fun _ k => ev_if_eq (tgt := 1191) dL_law_1184 (by decide) (fun q => absurd q c2) (fun _ => k)) ?_
    refine ex_up (fun _ k => ev_iconst (v := (1 : Int32)) dL_law_1187 (by decide) k) ?_
    refine ex_up (fun _ k => ev_goto (tgt := 1192) dL_law_1188 (by decide) k) ?_
    refine ex_up (fun _ k => ev_aload_n dL_law_1192 rfl (fun _ e => by cases e) k) ?_
    refine ex_up (fun _ k => ev_iload_n dL_law_1193 rfl k) ?_
    refine ex_up (fun _ k => ev_iconst (v := (3 : Int32)) dL_law_1194 (by decide) k) ?_
    refine ex_up (fun _ k => ev_iadd dL_law_1195 k) ?_
    refine ex_up (fun _ k => ev_sld dL_law_1196 (lw_in hi hL 3 (by decide) rfl) k) ?_
    refine ex_up (fun _ k => ec_Vi (Y := mX10_ledger) (ci := 9) (As := [.int (lw_a E i (1 : Int32)), .int (1 : Int32), .int (lw_a E i (3 : Int32))]) (rest := [.int r]) dL_law_1197 kL_144 oX10_ledger ⟨Nat.le_of_ble_eq_true rfl, Nat.le_of_ble_eq_true rfl⟩ (by decide) rfl hn1 ht1 rfl (Nat.le_of_ble_eq_true rfl) hm rfl k) ?_
    refine ex_up (fun _ k => ev_icmp_eq (tgt := 1557) dL_law_1200 (by decide) (fun _ => k) (fun q => absurd rfl q)) ?_
    exact k σ2 hI2
set_option maxRecDepth 100000 in
set_option maxHeartbeats 4000000 in
theorem law_c31 {E : ev_N} {P : Option Value × ev_H → Prop} {Inv : ev_H → Prop} {σ : ev_H} {i : Nat} (hi : i + 5 < n_sl E) (hL : n_sl E ≤ 3072) (hI : Inv σ) (h0 : lw_0 Inv) (hs : ∀ (a1 : Int32), lw_s E Inv mX9_without mX10_without [.int a1]) (k : ∀ τ, Inv τ → EX E mL_law 1557 (LSL i) [] τ P) : EX E mL_law 1205 (LSL i) [] σ P := by
  refine ex_up (fun _ k => ev_aload_n dL_law_1205 rfl (fun _ e => by cases e) k) ?_
  refine ex_up (fun _ k => ev_aload_n dL_law_1206 rfl (fun _ e => by cases e) k) ?_
  refine ex_up (fun _ k => ev_iload_n dL_law_1207 rfl k) ?_
  refine ex_up (fun _ k => ev_iconst (v := (1 : Int32)) dL_law_1208 (by decide) k) ?_
  refine ex_up (fun _ k => ev_iadd dL_law_1209 k) ?_
  refine ex_up (fun _ k => ev_sld dL_law_1210 (lw_in hi hL 1 (by decide) rfl) k) ?_
  obtain ⟨r, σ1, σ2, hx, hm, hI2, hn1, ht1⟩ := (hs (lw_a E i (1 : Int32))) σ hI
  refine ex_up (fun _ k => ec_Vi (Y := mX9_without) (ci := 8) (As := [.int (lw_a E i (1 : Int32))]) (rest := []) dL_law_1211 kL_145 oX9_without ⟨Nat.le_of_ble_eq_true rfl, Nat.le_of_ble_eq_true rfl⟩ (by decide) rfl (h0 σ hI).1 (h0 σ hI).2 rfl (Nat.le_of_ble_eq_true rfl) hx rfl k) ?_
  refine ex_up (fun _ k => ev_aload_n dL_law_1214 rfl (fun _ e => by cases e) k) ?_
  refine ex_up (fun _ k => ev_aload_n dL_law_1215 rfl (fun _ e => by cases e) k) ?_
  refine ex_up (fun _ k => ev_iload_n dL_law_1216 rfl k) ?_
  refine ex_up (fun _ k => ev_iconst (v := (1 : Int32)) dL_law_1217 (by decide) k) ?_
  refine ex_up (fun _ k => ev_iadd dL_law_1218 k) ?_
  refine ex_up (fun _ k => ev_sld dL_law_1219 (lw_in hi hL 1 (by decide) rfl) k) ?_
  refine ex_up (fun _ k => ec_Vi (Y := mX10_without) (ci := 9) (As := [.int (lw_a E i (1 : Int32))]) (rest := [.int r]) dL_law_1220 kL_148 oX10_without ⟨Nat.le_of_ble_eq_true rfl, Nat.le_of_ble_eq_true rfl⟩ (by decide) rfl hn1 ht1 rfl (Nat.le_of_ble_eq_true rfl) hm rfl k) ?_
  refine ex_up (fun _ k => ev_icmp_eq (tgt := 1557) dL_law_1223 (by decide) (fun _ => k) (fun q => absurd rfl q)) ?_
  exact k σ2 hI2
set_option maxRecDepth 100000 in
set_option maxHeartbeats 4000000 in
theorem law_c32 {E : ev_N} {P : Option Value × ev_H → Prop} {Inv : ev_H → Prop} {σ : ev_H} {i : Nat} (hi : i + 5 < n_sl E) (hL : n_sl E ≤ 3072) (hI : Inv σ) (h0 : lw_0 Inv) (hs : ∀ (a1 : Int32), lw_s E Inv mX9_audit mX10_audit [.int a1]) (k : ∀ τ, Inv τ → EX E mL_law 1557 (LSL i) [] τ P) : EX E mL_law 1228 (LSL i) [] σ P := by
  refine ex_up (fun _ k => ev_aload_n dL_law_1228 rfl (fun _ e => by cases e) k) ?_
  refine ex_up (fun _ k => ev_aload_n dL_law_1229 rfl (fun _ e => by cases e) k) ?_
  refine ex_up (fun _ k => ev_iload_n dL_law_1230 rfl k) ?_
  refine ex_up (fun _ k => ev_iconst (v := (1 : Int32)) dL_law_1231 (by decide) k) ?_
  refine ex_up (fun _ k => ev_iadd dL_law_1232 k) ?_
  refine ex_up (fun _ k => ev_sld dL_law_1233 (lw_in hi hL 1 (by decide) rfl) k) ?_
  obtain ⟨r, σ1, σ2, hx, hm, hI2, hn1, ht1⟩ := (hs (lw_a E i (1 : Int32))) σ hI
  refine ex_up (fun _ k => ec_Vi (Y := mX9_audit) (ci := 8) (As := [.int (lw_a E i (1 : Int32))]) (rest := []) dL_law_1234 kL_149 oX9_audit ⟨Nat.le_of_ble_eq_true rfl, Nat.le_of_ble_eq_true rfl⟩ (by decide) rfl (h0 σ hI).1 (h0 σ hI).2 rfl (Nat.le_of_ble_eq_true rfl) hx rfl k) ?_
  refine ex_up (fun _ k => ev_aload_n dL_law_1237 rfl (fun _ e => by cases e) k) ?_
  refine ex_up (fun _ k => ev_aload_n dL_law_1238 rfl (fun _ e => by cases e) k) ?_
  refine ex_up (fun _ k => ev_iload_n dL_law_1239 rfl k) ?_
  refine ex_up (fun _ k => ev_iconst (v := (1 : Int32)) dL_law_1240 (by decide) k) ?_
  refine ex_up (fun _ k => ev_iadd dL_law_1241 k) ?_
  refine ex_up (fun _ k => ev_sld dL_law_1242 (lw_in hi hL 1 (by decide) rfl) k) ?_
  refine ex_up (fun _ k => ec_Vi (Y := mX10_audit) (ci := 9) (As := [.int (lw_a E i (1 : Int32))]) (rest := [.int r]) dL_law_1243 kL_152 oX10_audit ⟨Nat.le_of_ble_eq_true rfl, Nat.le_of_ble_eq_true rfl⟩ (by decide) rfl hn1 ht1 rfl (Nat.le_of_ble_eq_true rfl) hm rfl k) ?_
  refine ex_up (fun _ k => ev_icmp_eq (tgt := 1557) dL_law_1246 (by decide) (fun _ => k) (fun q => absurd rfl q)) ?_
  exact k σ2 hI2
set_option maxRecDepth 100000 in
set_option maxHeartbeats 4000000 in
theorem law_c33 {E : ev_N} {P : Option Value × ev_H → Prop} {Inv : ev_H → Prop} {σ : ev_H} {i : Nat} (hi : i + 5 < n_sl E) (hL : n_sl E ≤ 3072) (hI : Inv σ) (h0 : lw_0 Inv) (hs : ∀ (a1 : Int32) (a2 : Int32), lw_s E Inv mX9_pending mX10_pending [.int a1, .int a2]) (k : ∀ τ, Inv τ → EX E mL_law 1557 (LSL i) [] τ P) : EX E mL_law 1251 (LSL i) [] σ P := by
  refine ex_up (fun _ k => ev_aload_n dL_law_1251 rfl (fun _ e => by cases e) k) ?_
  refine ex_up (fun _ k => ev_aload_n dL_law_1252 rfl (fun _ e => by cases e) k) ?_
  refine ex_up (fun _ k => ev_iload_n dL_law_1253 rfl k) ?_
  refine ex_up (fun _ k => ev_iconst (v := (1 : Int32)) dL_law_1254 (by decide) k) ?_
  refine ex_up (fun _ k => ev_iadd dL_law_1255 k) ?_
  refine ex_up (fun _ k => ev_sld dL_law_1256 (lw_in hi hL 1 (by decide) rfl) k) ?_
  refine ex_up (fun _ k => ev_aload_n dL_law_1257 rfl (fun _ e => by cases e) k) ?_
  refine ex_up (fun _ k => ev_iload_n dL_law_1258 rfl k) ?_
  refine ex_up (fun _ k => ev_iconst (v := (2 : Int32)) dL_law_1259 (by decide) k) ?_
  refine ex_up (fun _ k => ev_iadd dL_law_1260 k) ?_
  refine ex_up (fun _ k => ev_sld dL_law_1261 (lw_in hi hL 2 (by decide) rfl) k) ?_
  obtain ⟨r, σ1, σ2, hx, hm, hI2, hn1, ht1⟩ := (hs (lw_a E i (1 : Int32)) (lw_a E i (2 : Int32))) σ hI
  refine ex_up (fun _ k => ec_Vi (Y := mX9_pending) (ci := 8) (As := [.int (lw_a E i (1 : Int32)), .int (lw_a E i (2 : Int32))]) (rest := []) dL_law_1262 kL_153 oX9_pending ⟨Nat.le_of_ble_eq_true rfl, Nat.le_of_ble_eq_true rfl⟩ (by decide) rfl (h0 σ hI).1 (h0 σ hI).2 rfl (Nat.le_of_ble_eq_true rfl) hx rfl k) ?_
  refine ex_up (fun _ k => ev_aload_n dL_law_1265 rfl (fun _ e => by cases e) k) ?_
  refine ex_up (fun _ k => ev_aload_n dL_law_1266 rfl (fun _ e => by cases e) k) ?_
  refine ex_up (fun _ k => ev_iload_n dL_law_1267 rfl k) ?_
  refine ex_up (fun _ k => ev_iconst (v := (1 : Int32)) dL_law_1268 (by decide) k) ?_
  refine ex_up (fun _ k => ev_iadd dL_law_1269 k) ?_
  refine ex_up (fun _ k => ev_sld dL_law_1270 (lw_in hi hL 1 (by decide) rfl) k) ?_
  refine ex_up (fun _ k => ev_aload_n dL_law_1271 rfl (fun _ e => by cases e) k) ?_
  refine ex_up (fun _ k => ev_iload_n dL_law_1272 rfl k) ?_
  refine ex_up (fun _ k => ev_iconst (v := (2 : Int32)) dL_law_1273 (by decide) k) ?_
  refine ex_up (fun _ k => ev_iadd dL_law_1274 k) ?_
  refine ex_up (fun _ k => ev_sld dL_law_1275 (lw_in hi hL 2 (by decide) rfl) k) ?_
  refine ex_up (fun _ k => ec_Vi (Y := mX10_pending) (ci := 9) (As := [.int (lw_a E i (1 : Int32)), .int (lw_a E i (2 : Int32))]) (rest := [.int r]) dL_law_1276 kL_156 oX10_pending ⟨Nat.le_of_ble_eq_true rfl, Nat.le_of_ble_eq_true rfl⟩ (by decide) rfl hn1 ht1 rfl (Nat.le_of_ble_eq_true rfl) hm rfl k) ?_
  refine ex_up (fun _ k => ev_icmp_eq (tgt := 1557) dL_law_1279 (by decide) (fun _ => k) (fun q => absurd rfl q)) ?_
  exact k σ2 hI2
set_option maxRecDepth 100000 in
set_option maxHeartbeats 4000000 in
theorem law_c34 {E : ev_N} {P : Option Value × ev_H → Prop} {Inv : ev_H → Prop} {σ : ev_H} {i : Nat} (hi : i + 5 < n_sl E) (hL : n_sl E ≤ 3072) (hI : Inv σ) (h0 : lw_0 Inv) (hs : ∀ (a1 : Int32) (a2 : Int32), lw_s E Inv mX9_path mX10_path [.int a1, .int a2]) (k : ∀ τ, Inv τ → EX E mL_law 1557 (LSL i) [] τ P) : EX E mL_law 1284 (LSL i) [] σ P := by
  refine ex_up (fun _ k => ev_aload_n dL_law_1284 rfl (fun _ e => by cases e) k) ?_
  refine ex_up (fun _ k => ev_aload_n dL_law_1285 rfl (fun _ e => by cases e) k) ?_
  refine ex_up (fun _ k => ev_iload_n dL_law_1286 rfl k) ?_
  refine ex_up (fun _ k => ev_iconst (v := (1 : Int32)) dL_law_1287 (by decide) k) ?_
  refine ex_up (fun _ k => ev_iadd dL_law_1288 k) ?_
  refine ex_up (fun _ k => ev_sld dL_law_1289 (lw_in hi hL 1 (by decide) rfl) k) ?_
  refine ex_up (fun _ k => ev_aload_n dL_law_1290 rfl (fun _ e => by cases e) k) ?_
  refine ex_up (fun _ k => ev_iload_n dL_law_1291 rfl k) ?_
  refine ex_up (fun _ k => ev_iconst (v := (2 : Int32)) dL_law_1292 (by decide) k) ?_
  refine ex_up (fun _ k => ev_iadd dL_law_1293 k) ?_
  refine ex_up (fun _ k => ev_sld dL_law_1294 (lw_in hi hL 2 (by decide) rfl) k) ?_
  obtain ⟨r, σ1, σ2, hx, hm, hI2, hn1, ht1⟩ := (hs (lw_a E i (1 : Int32)) (lw_a E i (2 : Int32))) σ hI
  refine ex_up (fun _ k => ec_Vi (Y := mX9_path) (ci := 8) (As := [.int (lw_a E i (1 : Int32)), .int (lw_a E i (2 : Int32))]) (rest := []) dL_law_1295 kL_157 oX9_path ⟨Nat.le_of_ble_eq_true rfl, Nat.le_of_ble_eq_true rfl⟩ (by decide) rfl (h0 σ hI).1 (h0 σ hI).2 rfl (Nat.le_of_ble_eq_true rfl) hx rfl k) ?_
  refine ex_up (fun _ k => ev_aload_n dL_law_1298 rfl (fun _ e => by cases e) k) ?_
  refine ex_up (fun _ k => ev_aload_n dL_law_1299 rfl (fun _ e => by cases e) k) ?_
  refine ex_up (fun _ k => ev_iload_n dL_law_1300 rfl k) ?_
  refine ex_up (fun _ k => ev_iconst (v := (1 : Int32)) dL_law_1301 (by decide) k) ?_
  refine ex_up (fun _ k => ev_iadd dL_law_1302 k) ?_
  refine ex_up (fun _ k => ev_sld dL_law_1303 (lw_in hi hL 1 (by decide) rfl) k) ?_
  refine ex_up (fun _ k => ev_aload_n dL_law_1304 rfl (fun _ e => by cases e) k) ?_
  refine ex_up (fun _ k => ev_iload_n dL_law_1305 rfl k) ?_
  refine ex_up (fun _ k => ev_iconst (v := (2 : Int32)) dL_law_1306 (by decide) k) ?_
  refine ex_up (fun _ k => ev_iadd dL_law_1307 k) ?_
  refine ex_up (fun _ k => ev_sld dL_law_1308 (lw_in hi hL 2 (by decide) rfl) k) ?_
  refine ex_up (fun _ k => ec_Vi (Y := mX10_path) (ci := 9) (As := [.int (lw_a E i (1 : Int32)), .int (lw_a E i (2 : Int32))]) (rest := [.int r]) dL_law_1309 kL_160 oX10_path ⟨Nat.le_of_ble_eq_true rfl, Nat.le_of_ble_eq_true rfl⟩ (by decide) rfl hn1 ht1 rfl (Nat.le_of_ble_eq_true rfl) hm rfl k) ?_
  refine ex_up (fun _ k => ev_icmp_eq (tgt := 1557) dL_law_1312 (by decide) (fun _ => k) (fun q => absurd rfl q)) ?_
  exact k σ2 hI2
set_option maxRecDepth 100000 in
set_option maxHeartbeats 4000000 in
theorem law_c35 {E : ev_N} {P : Option Value × ev_H → Prop} {Inv : ev_H → Prop} {σ : ev_H} {i : Nat} (hi : i + 5 < n_sl E) (hL : n_sl E ≤ 3072) (hI : Inv σ) (h0 : lw_0 Inv) (hs : ∀ (a1 : Int32) (a2 : Int32), lw_s E Inv mX9_markers mX10_markers [.int a1, .int a2]) (k : ∀ τ, Inv τ → EX E mL_law 1557 (LSL i) [] τ P) : EX E mL_law 1317 (LSL i) [] σ P := by
  refine ex_up (fun _ k => ev_aload_n dL_law_1317 rfl (fun _ e => by cases e) k) ?_
  refine ex_up (fun _ k => ev_aload_n dL_law_1318 rfl (fun _ e => by cases e) k) ?_
  refine ex_up (fun _ k => ev_iload_n dL_law_1319 rfl k) ?_
  refine ex_up (fun _ k => ev_iconst (v := (1 : Int32)) dL_law_1320 (by decide) k) ?_
  refine ex_up (fun _ k => ev_iadd dL_law_1321 k) ?_
  refine ex_up (fun _ k => ev_sld dL_law_1322 (lw_in hi hL 1 (by decide) rfl) k) ?_
  refine ex_up (fun _ k => ev_aload_n dL_law_1323 rfl (fun _ e => by cases e) k) ?_
  refine ex_up (fun _ k => ev_iload_n dL_law_1324 rfl k) ?_
  refine ex_up (fun _ k => ev_iconst (v := (2 : Int32)) dL_law_1325 (by decide) k) ?_
  refine ex_up (fun _ k => ev_iadd dL_law_1326 k) ?_
  refine ex_up (fun _ k => ev_sld dL_law_1327 (lw_in hi hL 2 (by decide) rfl) k) ?_
  obtain ⟨r, σ1, σ2, hx, hm, hI2, hn1, ht1⟩ := (hs (lw_a E i (1 : Int32)) (lw_a E i (2 : Int32))) σ hI
  refine ex_up (fun _ k => ec_Vi (Y := mX9_markers) (ci := 8) (As := [.int (lw_a E i (1 : Int32)), .int (lw_a E i (2 : Int32))]) (rest := []) dL_law_1328 kL_161 oX9_markers ⟨Nat.le_of_ble_eq_true rfl, Nat.le_of_ble_eq_true rfl⟩ (by decide) rfl (h0 σ hI).1 (h0 σ hI).2 rfl (Nat.le_of_ble_eq_true rfl) hx rfl k) ?_
  refine ex_up (fun _ k => ev_aload_n dL_law_1331 rfl (fun _ e => by cases e) k) ?_
  refine ex_up (fun _ k => ev_aload_n dL_law_1332 rfl (fun _ e => by cases e) k) ?_
  refine ex_up (fun _ k => ev_iload_n dL_law_1333 rfl k) ?_
  refine ex_up (fun _ k => ev_iconst (v := (1 : Int32)) dL_law_1334 (by decide) k) ?_
  refine ex_up (fun _ k => ev_iadd dL_law_1335 k) ?_
  refine ex_up (fun _ k => ev_sld dL_law_1336 (lw_in hi hL 1 (by decide) rfl) k) ?_
  refine ex_up (fun _ k => ev_aload_n dL_law_1337 rfl (fun _ e => by cases e) k) ?_
  refine ex_up (fun _ k => ev_iload_n dL_law_1338 rfl k) ?_
  refine ex_up (fun _ k => ev_iconst (v := (2 : Int32)) dL_law_1339 (by decide) k) ?_
  refine ex_up (fun _ k => ev_iadd dL_law_1340 k) ?_
  refine ex_up (fun _ k => ev_sld dL_law_1341 (lw_in hi hL 2 (by decide) rfl) k) ?_
  refine ex_up (fun _ k => ec_Vi (Y := mX10_markers) (ci := 9) (As := [.int (lw_a E i (1 : Int32)), .int (lw_a E i (2 : Int32))]) (rest := [.int r]) dL_law_1342 kL_164 oX10_markers ⟨Nat.le_of_ble_eq_true rfl, Nat.le_of_ble_eq_true rfl⟩ (by decide) rfl hn1 ht1 rfl (Nat.le_of_ble_eq_true rfl) hm rfl k) ?_
  refine ex_up (fun _ k => ev_icmp_eq (tgt := 1557) dL_law_1345 (by decide) (fun _ => k) (fun q => absurd rfl q)) ?_
  exact k σ2 hI2
set_option maxRecDepth 100000 in
set_option maxHeartbeats 4000000 in
theorem law_c36 {E : ev_N} {P : Option Value × ev_H → Prop} {Inv : ev_H → Prop} {σ : ev_H} {i : Nat} (hi : i + 5 < n_sl E) (hL : n_sl E ≤ 3072) (hI : Inv σ) (h0 : lw_0 Inv) (hs : ∀ (a1 : Int32), lw_s E Inv mX9_best mX10_best [.int a1]) (k : ∀ τ, Inv τ → EX E mL_law 1557 (LSL i) [] τ P) : EX E mL_law 1350 (LSL i) [] σ P := by
  refine ex_up (fun _ k => ev_aload_n dL_law_1350 rfl (fun _ e => by cases e) k) ?_
  refine ex_up (fun _ k => ev_aload_n dL_law_1351 rfl (fun _ e => by cases e) k) ?_
  refine ex_up (fun _ k => ev_iload_n dL_law_1352 rfl k) ?_
  refine ex_up (fun _ k => ev_iconst (v := (1 : Int32)) dL_law_1353 (by decide) k) ?_
  refine ex_up (fun _ k => ev_iadd dL_law_1354 k) ?_
  refine ex_up (fun _ k => ev_sld dL_law_1355 (lw_in hi hL 1 (by decide) rfl) k) ?_
  obtain ⟨r, σ1, σ2, hx, hm, hI2, hn1, ht1⟩ := (hs (lw_a E i (1 : Int32))) σ hI
  refine ex_up (fun _ k => ec_Vi (Y := mX9_best) (ci := 8) (As := [.int (lw_a E i (1 : Int32))]) (rest := []) dL_law_1356 kL_165 oX9_best ⟨Nat.le_of_ble_eq_true rfl, Nat.le_of_ble_eq_true rfl⟩ (by decide) rfl (h0 σ hI).1 (h0 σ hI).2 rfl (Nat.le_of_ble_eq_true rfl) hx rfl k) ?_
  refine ex_up (fun _ k => ev_aload_n dL_law_1359 rfl (fun _ e => by cases e) k) ?_
  refine ex_up (fun _ k => ev_aload_n dL_law_1360 rfl (fun _ e => by cases e) k) ?_
  refine ex_up (fun _ k => ev_iload_n dL_law_1361 rfl k) ?_
  refine ex_up (fun _ k => ev_iconst (v := (1 : Int32)) dL_law_1362 (by decide) k) ?_
  refine ex_up (fun _ k => ev_iadd dL_law_1363 k) ?_
  refine ex_up (fun _ k => ev_sld dL_law_1364 (lw_in hi hL 1 (by decide) rfl) k) ?_
  refine ex_up (fun _ k => ec_Vi (Y := mX10_best) (ci := 9) (As := [.int (lw_a E i (1 : Int32))]) (rest := [.int r]) dL_law_1365 kL_168 oX10_best ⟨Nat.le_of_ble_eq_true rfl, Nat.le_of_ble_eq_true rfl⟩ (by decide) rfl hn1 ht1 rfl (Nat.le_of_ble_eq_true rfl) hm rfl k) ?_
  refine ex_up (fun _ k => ev_icmp_eq (tgt := 1557) dL_law_1368 (by decide) (fun _ => k) (fun q => absurd rfl q)) ?_
  exact k σ2 hI2
set_option maxRecDepth 100000 in
set_option maxHeartbeats 4000000 in
theorem law_c37 {E : ev_N} {P : Option Value × ev_H → Prop} {Inv : ev_H → Prop} {σ : ev_H} {i : Nat} (hi : i + 5 < n_sl E) (hL : n_sl E ≤ 3072) (hI : Inv σ) (h0 : lw_0 Inv) (hs : lw_s E Inv mX9_soon mX10_soon []) (k : ∀ τ, Inv τ → EX E mL_law 1557 (LSL i) [] τ P) : EX E mL_law 1373 (LSL i) [] σ P := by
  refine ex_up (fun _ k => ev_aload_n dL_law_1373 rfl (fun _ e => by cases e) k) ?_
  obtain ⟨r, σ1, σ2, hx, hm, hI2, hn1, ht1⟩ := hs σ hI
  refine ex_up (fun _ k => ec_Vi (Y := mX9_soon) (ci := 8) (As := []) (rest := []) dL_law_1374 kL_169 oX9_soon ⟨Nat.le_of_ble_eq_true rfl, Nat.le_of_ble_eq_true rfl⟩ (by decide) rfl (h0 σ hI).1 (h0 σ hI).2 rfl (Nat.le_of_ble_eq_true rfl) hx rfl k) ?_
  refine ex_up (fun _ k => ev_aload_n dL_law_1377 rfl (fun _ e => by cases e) k) ?_
  refine ex_up (fun _ k => ec_Vi (Y := mX10_soon) (ci := 9) (As := []) (rest := [.int r]) dL_law_1378 kL_172 oX10_soon ⟨Nat.le_of_ble_eq_true rfl, Nat.le_of_ble_eq_true rfl⟩ (by decide) rfl hn1 ht1 rfl (Nat.le_of_ble_eq_true rfl) hm rfl k) ?_
  refine ex_up (fun _ k => ev_icmp_eq (tgt := 1557) dL_law_1381 (by decide) (fun _ => k) (fun q => absurd rfl q)) ?_
  exact k σ2 hI2
set_option maxRecDepth 100000 in
set_option maxHeartbeats 4000000 in
theorem law_c38 {E : ev_N} {P : Option Value × ev_H → Prop} {Inv : ev_H → Prop} {σ : ev_H} {i : Nat} (hi : i + 5 < n_sl E) (hL : n_sl E ≤ 3072) (hI : Inv σ) (h0 : lw_0 Inv) (hs : ∀ (a1 : Int32) (a2 : Int32) (a3 : Int32), lw_s E Inv mX9_two mX10_two [.int a1, .int a2, .int a3]) (k : ∀ τ, Inv τ → EX E mL_law 1557 (LSL i) [] τ P) : EX E mL_law 1386 (LSL i) [] σ P := by
  refine ex_up (fun _ k => ev_aload_n dL_law_1386 rfl (fun _ e => by cases e) k) ?_
  refine ex_up (fun _ k => ev_aload_n dL_law_1387 rfl (fun _ e => by cases e) k) ?_
  refine ex_up (fun _ k => ev_iload_n dL_law_1388 rfl k) ?_
  refine ex_up (fun _ k => ev_iconst (v := (1 : Int32)) dL_law_1389 (by decide) k) ?_
  refine ex_up (fun _ k => ev_iadd dL_law_1390 k) ?_
  refine ex_up (fun _ k => ev_sld dL_law_1391 (lw_in hi hL 1 (by decide) rfl) k) ?_
  refine ex_up (fun _ k => ev_aload_n dL_law_1392 rfl (fun _ e => by cases e) k) ?_
  refine ex_up (fun _ k => ev_iload_n dL_law_1393 rfl k) ?_
  refine ex_up (fun _ k => ev_iconst (v := (2 : Int32)) dL_law_1394 (by decide) k) ?_
  refine ex_up (fun _ k => ev_iadd dL_law_1395 k) ?_
  refine ex_up (fun _ k => ev_sld dL_law_1396 (lw_in hi hL 2 (by decide) rfl) k) ?_
  refine ex_up (fun _ k => ev_aload_n dL_law_1397 rfl (fun _ e => by cases e) k) ?_
  refine ex_up (fun _ k => ev_iload_n dL_law_1398 rfl k) ?_
  refine ex_up (fun _ k => ev_iconst (v := (3 : Int32)) dL_law_1399 (by decide) k) ?_
  refine ex_up (fun _ k => ev_iadd dL_law_1400 k) ?_
  refine ex_up (fun _ k => ev_sld dL_law_1401 (lw_in hi hL 3 (by decide) rfl) k) ?_
  obtain ⟨r, σ1, σ2, hx, hm, hI2, hn1, ht1⟩ := (hs (lw_a E i (1 : Int32)) (lw_a E i (2 : Int32)) (lw_a E i (3 : Int32))) σ hI
  refine ex_up (fun _ k => ec_Vi (Y := mX9_two) (ci := 8) (As := [.int (lw_a E i (1 : Int32)), .int (lw_a E i (2 : Int32)), .int (lw_a E i (3 : Int32))]) (rest := []) dL_law_1402 kL_173 oX9_two ⟨Nat.le_of_ble_eq_true rfl, Nat.le_of_ble_eq_true rfl⟩ (by decide) rfl (h0 σ hI).1 (h0 σ hI).2 rfl (Nat.le_of_ble_eq_true rfl) hx rfl k) ?_
  refine ex_up (fun _ k => ev_aload_n dL_law_1405 rfl (fun _ e => by cases e) k) ?_
  refine ex_up (fun _ k => ev_aload_n dL_law_1406 rfl (fun _ e => by cases e) k) ?_
  refine ex_up (fun _ k => ev_iload_n dL_law_1407 rfl k) ?_
  refine ex_up (fun _ k => ev_iconst (v := (1 : Int32)) dL_law_1408 (by decide) k) ?_
  refine ex_up (fun _ k => ev_iadd dL_law_1409 k) ?_
  refine ex_up (fun _ k => ev_sld dL_law_1410 (lw_in hi hL 1 (by decide) rfl) k) ?_
  refine ex_up (fun _ k => ev_aload_n dL_law_1411 rfl (fun _ e => by cases e) k) ?_
  refine ex_up (fun _ k => ev_iload_n dL_law_1412 rfl k) ?_
  refine ex_up (fun _ k => ev_iconst (v := (2 : Int32)) dL_law_1413 (by decide) k) ?_
  refine ex_up (fun _ k => ev_iadd dL_law_1414 k) ?_
  refine ex_up (fun _ k => ev_sld dL_law_1415 (lw_in hi hL 2 (by decide) rfl) k) ?_
  refine ex_up (fun _ k => ev_aload_n dL_law_1416 rfl (fun _ e => by cases e) k) ?_
  refine ex_up (fun _ k => ev_iload_n dL_law_1417 rfl k) ?_
  refine ex_up (fun _ k => ev_iconst (v := (3 : Int32)) dL_law_1418 (by decide) k) ?_
  refine ex_up (fun _ k => ev_iadd dL_law_1419 k) ?_
  refine ex_up (fun _ k => ev_sld dL_law_1420 (lw_in hi hL 3 (by decide) rfl) k) ?_
  refine ex_up (fun _ k => ec_Vi (Y := mX10_two) (ci := 9) (As := [.int (lw_a E i (1 : Int32)), .int (lw_a E i (2 : Int32)), .int (lw_a E i (3 : Int32))]) (rest := [.int r]) dL_law_1421 kL_177 oX10_two ⟨Nat.le_of_ble_eq_true rfl, Nat.le_of_ble_eq_true rfl⟩ (by decide) rfl hn1 ht1 rfl (Nat.le_of_ble_eq_true rfl) hm rfl k) ?_
  refine ex_up (fun _ k => ev_icmp_eq (tgt := 1557) dL_law_1424 (by decide) (fun _ => k) (fun q => absurd rfl q)) ?_
  exact k σ2 hI2
set_option maxRecDepth 100000 in
set_option maxHeartbeats 4000000 in
theorem law_c39 {E : ev_N} {P : Option Value × ev_H → Prop} {Inv : ev_H → Prop} {σ : ev_H} {i : Nat} (hi : i + 5 < n_sl E) (hL : n_sl E ≤ 3072) (hI : Inv σ) (h0 : lw_0 Inv) (hs : ∀ (a1 : Int32) (a2 : Int32), lw_s E Inv mX9_would mX10_would [.int a1, .int a2]) (k : ∀ τ, Inv τ → EX E mL_law 1557 (LSL i) [] τ P) : EX E mL_law 1429 (LSL i) [] σ P := by
  refine ex_up (fun _ k => ev_aload_n dL_law_1429 rfl (fun _ e => by cases e) k) ?_
  refine ex_up (fun _ k => ev_aload_n dL_law_1430 rfl (fun _ e => by cases e) k) ?_
  refine ex_up (fun _ k => ev_iload_n dL_law_1431 rfl k) ?_
  refine ex_up (fun _ k => ev_iconst (v := (1 : Int32)) dL_law_1432 (by decide) k) ?_
  refine ex_up (fun _ k => ev_iadd dL_law_1433 k) ?_
  refine ex_up (fun _ k => ev_sld dL_law_1434 (lw_in hi hL 1 (by decide) rfl) k) ?_
  refine ex_up (fun _ k => ev_aload_n dL_law_1435 rfl (fun _ e => by cases e) k) ?_
  refine ex_up (fun _ k => ev_iload_n dL_law_1436 rfl k) ?_
  refine ex_up (fun _ k => ev_iconst (v := (2 : Int32)) dL_law_1437 (by decide) k) ?_
  refine ex_up (fun _ k => ev_iadd dL_law_1438 k) ?_
  refine ex_up (fun _ k => ev_sld dL_law_1439 (lw_in hi hL 2 (by decide) rfl) k) ?_
  obtain ⟨r, σ1, σ2, hx, hm, hI2, hn1, ht1⟩ := (hs (lw_a E i (1 : Int32)) (lw_a E i (2 : Int32))) σ hI
  refine ex_up (fun _ k => ec_Vi (Y := mX9_would) (ci := 8) (As := [.int (lw_a E i (1 : Int32)), .int (lw_a E i (2 : Int32))]) (rest := []) dL_law_1440 kL_178 oX9_would ⟨Nat.le_of_ble_eq_true rfl, Nat.le_of_ble_eq_true rfl⟩ (by decide) rfl (h0 σ hI).1 (h0 σ hI).2 rfl (Nat.le_of_ble_eq_true rfl) hx rfl k) ?_
  refine ex_up (fun _ k => ev_aload_n dL_law_1443 rfl (fun _ e => by cases e) k) ?_
  refine ex_up (fun _ k => ev_aload_n dL_law_1444 rfl (fun _ e => by cases e) k) ?_
  refine ex_up (fun _ k => ev_iload_n dL_law_1445 rfl k) ?_
  refine ex_up (fun _ k => ev_iconst (v := (1 : Int32)) dL_law_1446 (by decide) k) ?_
  refine ex_up (fun _ k => ev_iadd dL_law_1447 k) ?_
  refine ex_up (fun _ k => ev_sld dL_law_1448 (lw_in hi hL 1 (by decide) rfl) k) ?_
  refine ex_up (fun _ k => ev_aload_n dL_law_1449 rfl (fun _ e => by cases e) k) ?_
  refine ex_up (fun _ k => ev_iload_n dL_law_1450 rfl k) ?_
  refine ex_up (fun _ k => ev_iconst (v := (2 : Int32)) dL_law_1451 (by decide) k) ?_
  refine ex_up (fun _ k => ev_iadd dL_law_1452 k) ?_
  refine ex_up (fun _ k => ev_sld dL_law_1453 (lw_in hi hL 2 (by decide) rfl) k) ?_
  refine ex_up (fun _ k => ec_Vi (Y := mX10_would) (ci := 9) (As := [.int (lw_a E i (1 : Int32)), .int (lw_a E i (2 : Int32))]) (rest := [.int r]) dL_law_1454 kL_181 oX10_would ⟨Nat.le_of_ble_eq_true rfl, Nat.le_of_ble_eq_true rfl⟩ (by decide) rfl hn1 ht1 rfl (Nat.le_of_ble_eq_true rfl) hm rfl k) ?_
  refine ex_up (fun _ k => ev_icmp_eq (tgt := 1557) dL_law_1457 (by decide) (fun _ => k) (fun q => absurd rfl q)) ?_
  exact k σ2 hI2
set_option maxRecDepth 100000 in
set_option maxHeartbeats 4000000 in
theorem law_c40 {E : ev_N} {P : Option Value × ev_H → Prop} {Inv : ev_H → Prop} {σ : ev_H} {i : Nat} (hi : i + 5 < n_sl E) (hL : n_sl E ≤ 3072) (hI : Inv σ) (h0 : lw_0 Inv) (hs : ∀ (a1 : Int32) (a2 : Int32), lw_s E Inv mX9_chain mX10_chain [.int a1, .int a2]) (k : ∀ τ, Inv τ → EX E mL_law 1557 (LSL i) [] τ P) : EX E mL_law 1462 (LSL i) [] σ P := by
  refine ex_up (fun _ k => ev_aload_n dL_law_1462 rfl (fun _ e => by cases e) k) ?_
  refine ex_up (fun _ k => ev_aload_n dL_law_1463 rfl (fun _ e => by cases e) k) ?_
  refine ex_up (fun _ k => ev_iload_n dL_law_1464 rfl k) ?_
  refine ex_up (fun _ k => ev_iconst (v := (1 : Int32)) dL_law_1465 (by decide) k) ?_
  refine ex_up (fun _ k => ev_iadd dL_law_1466 k) ?_
  refine ex_up (fun _ k => ev_sld dL_law_1467 (lw_in hi hL 1 (by decide) rfl) k) ?_
  refine ex_up (fun _ k => ev_aload_n dL_law_1468 rfl (fun _ e => by cases e) k) ?_
  refine ex_up (fun _ k => ev_iload_n dL_law_1469 rfl k) ?_
  refine ex_up (fun _ k => ev_iconst (v := (2 : Int32)) dL_law_1470 (by decide) k) ?_
  refine ex_up (fun _ k => ev_iadd dL_law_1471 k) ?_
  refine ex_up (fun _ k => ev_sld dL_law_1472 (lw_in hi hL 2 (by decide) rfl) k) ?_
  obtain ⟨r, σ1, σ2, hx, hm, hI2, hn1, ht1⟩ := (hs (lw_a E i (1 : Int32)) (lw_a E i (2 : Int32))) σ hI
  refine ex_up (fun _ k => ec_Vi (Y := mX9_chain) (ci := 8) (As := [.int (lw_a E i (1 : Int32)), .int (lw_a E i (2 : Int32))]) (rest := []) dL_law_1473 kL_182 oX9_chain ⟨Nat.le_of_ble_eq_true rfl, Nat.le_of_ble_eq_true rfl⟩ (by decide) rfl (h0 σ hI).1 (h0 σ hI).2 rfl (Nat.le_of_ble_eq_true rfl) hx rfl k) ?_
  refine ex_up (fun _ k => ev_aload_n dL_law_1476 rfl (fun _ e => by cases e) k) ?_
  refine ex_up (fun _ k => ev_aload_n dL_law_1477 rfl (fun _ e => by cases e) k) ?_
  refine ex_up (fun _ k => ev_iload_n dL_law_1478 rfl k) ?_
  refine ex_up (fun _ k => ev_iconst (v := (1 : Int32)) dL_law_1479 (by decide) k) ?_
  refine ex_up (fun _ k => ev_iadd dL_law_1480 k) ?_
  refine ex_up (fun _ k => ev_sld dL_law_1481 (lw_in hi hL 1 (by decide) rfl) k) ?_
  refine ex_up (fun _ k => ev_aload_n dL_law_1482 rfl (fun _ e => by cases e) k) ?_
  refine ex_up (fun _ k => ev_iload_n dL_law_1483 rfl k) ?_
  refine ex_up (fun _ k => ev_iconst (v := (2 : Int32)) dL_law_1484 (by decide) k) ?_
  refine ex_up (fun _ k => ev_iadd dL_law_1485 k) ?_
  refine ex_up (fun _ k => ev_sld dL_law_1486 (lw_in hi hL 2 (by decide) rfl) k) ?_
  refine ex_up (fun _ k => ec_Vi (Y := mX10_chain) (ci := 9) (As := [.int (lw_a E i (1 : Int32)), .int (lw_a E i (2 : Int32))]) (rest := [.int r]) dL_law_1487 kL_185 oX10_chain ⟨Nat.le_of_ble_eq_true rfl, Nat.le_of_ble_eq_true rfl⟩ (by decide) rfl hn1 ht1 rfl (Nat.le_of_ble_eq_true rfl) hm rfl k) ?_
  refine ex_up (fun _ k => ev_icmp_eq (tgt := 1557) dL_law_1490 (by decide) (fun _ => k) (fun q => absurd rfl q)) ?_
  exact k σ2 hI2
set_option maxRecDepth 100000 in
set_option maxHeartbeats 4000000 in
theorem law_c41 {E : ev_N} {P : Option Value × ev_H → Prop} {Inv : ev_H → Prop} {σ : ev_H} {i : Nat} (hi : i + 5 < n_sl E) (hL : n_sl E ≤ 3072) (hI : Inv σ) (h0 : lw_0 Inv) (hs : lw_s E Inv mX9_image mX10_image [.int (0 : Int32)]) (ht : lw_s E Inv mX9_image mX10_image [.int (1 : Int32)]) (k : ∀ τ, Inv τ → EX E mL_law 1557 (LSL i) [] τ P) : EX E mL_law 1495 (LSL i) [] σ P := by
  by_cases c1 : lw_a E i (1 : Int32) = 0
  · refine ex_up (fun _ k => ev_aload_n dL_law_1495 rfl (fun _ e => by cases e) k) ?_
    refine ex_up (fun _ k => ev_aload_n dL_law_1496 rfl (fun _ e => by cases e) k) ?_
    refine ex_up (fun _ k => ev_iload_n dL_law_1497 rfl k) ?_
    refine ex_up (fun _ k => ev_iconst (v := (1 : Int32)) dL_law_1498 (by decide) k) ?_
    refine ex_up (fun _ k => ev_iadd dL_law_1499 k) ?_
    refine ex_up (fun _ k => ev_sld dL_law_1500 (lw_in hi hL 1 (by decide) rfl) k) ?_
    refine ex_up (fun _ k => ev_if_eq (tgt := 1508) dL_law_1501 (by decide) (fun _ => k) (fun q => absurd c1 q)) ?_
    refine ex_up (fun _ k => ev_iconst (v := (0 : Int32)) dL_law_1508 (by decide) k) ?_
    obtain ⟨r, σ1, σ2, hx, hm, hI2, hn1, ht1⟩ := hs σ hI
    refine ex_up (fun _ k => ec_Vi (Y := mX9_image) (ci := 8) (As := [.int (0 : Int32)]) (rest := []) dL_law_1509 kL_186 oX9_image ⟨Nat.le_of_ble_eq_true rfl, Nat.le_of_ble_eq_true rfl⟩ (by decide) rfl (h0 σ hI).1 (h0 σ hI).2 rfl (Nat.le_of_ble_eq_true rfl) hx rfl k) ?_
    refine ex_up (fun _ k => ev_aload_n dL_law_1512 rfl (fun _ e => by cases e) k) ?_
    refine ex_up (fun _ k => ev_aload_n dL_law_1513 rfl (fun _ e => by cases e) k) ?_
    refine ex_up (fun _ k => ev_iload_n dL_law_1514 rfl k) ?_
    refine ex_up (fun _ k => ev_iconst (v := (1 : Int32)) dL_law_1515 (by decide) k) ?_
    refine ex_up (fun _ k => ev_iadd dL_law_1516 k) ?_
    refine ex_up (fun _ k => ev_sld dL_law_1517 (lw_in hi hL 1 (by decide) rfl) k) ?_
    refine ex_up (fun _ k => ev_if_eq (tgt := 1525) dL_law_1518 (by decide) (fun _ => k) (fun q => absurd c1 q)) ?_
    refine ex_up (fun _ k => ev_iconst (v := (0 : Int32)) dL_law_1525 (by decide) k) ?_
    refine ex_up (fun _ k => ec_Vi (Y := mX10_image) (ci := 9) (As := [.int (0 : Int32)]) (rest := [.int r]) dL_law_1526 kL_190 oX10_image ⟨Nat.le_of_ble_eq_true rfl, Nat.le_of_ble_eq_true rfl⟩ (by decide) rfl hn1 ht1 rfl (Nat.le_of_ble_eq_true rfl) hm rfl k) ?_
    refine ex_up (fun _ k => ev_icmp_eq (tgt := 1557) dL_law_1529 (by decide) (fun _ => k) (fun q => absurd rfl q)) ?_
    exact k σ2 hI2
  · refine ex_up (fun _ k => ev_aload_n dL_law_1495 rfl (fun _ e => by cases e) k) ?_
    refine ex_up (fun _ k => ev_aload_n dL_law_1496 rfl (fun _ e => by cases e) k) ?_
    refine ex_up (fun _ k => ev_iload_n dL_law_1497 rfl k) ?_
    refine ex_up (fun _ k => ev_iconst (v := (1 : Int32)) dL_law_1498 (by decide) k) ?_
    refine ex_up (fun _ k => ev_iadd dL_law_1499 k) ?_
    refine ex_up (fun _ k => ev_sld dL_law_1500 (lw_in hi hL 1 (by decide) rfl) k) ?_
    refine ex_up (fun _ k => ev_if_eq (tgt := 1508) dL_law_1501 (by decide) (fun q => absurd q c1) (fun _ => k)) ?_
    refine ex_up (fun _ k => ev_iconst (v := (1 : Int32)) dL_law_1504 (by decide) k) ?_
    refine ex_up (fun _ k => ev_goto (tgt := 1509) dL_law_1505 (by decide) k) ?_
    obtain ⟨r, σ1, σ2, hx, hm, hI2, hn1, ht1⟩ := ht σ hI
    refine ex_up (fun _ k => ec_Vi (Y := mX9_image) (ci := 8) (As := [.int (1 : Int32)]) (rest := []) dL_law_1509 kL_186 oX9_image ⟨Nat.le_of_ble_eq_true rfl, Nat.le_of_ble_eq_true rfl⟩ (by decide) rfl (h0 σ hI).1 (h0 σ hI).2 rfl (Nat.le_of_ble_eq_true rfl) hx rfl k) ?_
    refine ex_up (fun _ k => ev_aload_n dL_law_1512 rfl (fun _ e => by cases e) k) ?_
    refine ex_up (fun _ k => ev_aload_n dL_law_1513 rfl (fun _ e => by cases e) k) ?_
    refine ex_up (fun _ k => ev_iload_n dL_law_1514 rfl k) ?_
    refine ex_up (fun _ k => ev_iconst (v := (1 : Int32)) dL_law_1515 (by decide) k) ?_
    refine ex_up (fun _ k => ev_iadd dL_law_1516 k) ?_
    refine ex_up (fun _ k => ev_sld dL_law_1517 (lw_in hi hL 1 (by decide) rfl) k) ?_
    refine ex_up (fun _ k => ev_if_eq (tgt := 1525) dL_law_1518 (by decide) (fun q => absurd q c1) (fun _ => k)) ?_
    refine ex_up (fun _ k => ev_iconst (v := (1 : Int32)) dL_law_1521 (by decide) k) ?_
    refine ex_up (fun _ k => ev_goto (tgt := 1526) dL_law_1522 (by decide) k) ?_
    refine ex_up (fun _ k => ec_Vi (Y := mX10_image) (ci := 9) (As := [.int (1 : Int32)]) (rest := [.int r]) dL_law_1526 kL_190 oX10_image ⟨Nat.le_of_ble_eq_true rfl, Nat.le_of_ble_eq_true rfl⟩ (by decide) rfl hn1 ht1 rfl (Nat.le_of_ble_eq_true rfl) hm rfl k) ?_
    refine ex_up (fun _ k => ev_icmp_eq (tgt := 1557) dL_law_1529 (by decide) (fun _ => k) (fun q => absurd rfl q)) ?_
    exact k σ2 hI2
set_option maxRecDepth 100000 in
set_option maxHeartbeats 4000000 in
theorem law_c42 {E : ev_N} {P : Option Value × ev_H → Prop} {Inv : ev_H → Prop} {σ : ev_H} {i : Nat} (hi : i + 5 < n_sl E) (hL : n_sl E ≤ 3072) (hI : Inv σ) (h0 : lw_0 Inv) (hs : ∀ (a1 : Int32), lw_s E Inv mX9_look mX10_look [.int a1]) (k : ∀ τ, Inv τ → EX E mL_law 1557 (LSL i) [] τ P) : EX E mL_law 1534 (LSL i) [] σ P := by
  refine ex_up (fun _ k => ev_aload_n dL_law_1534 rfl (fun _ e => by cases e) k) ?_
  refine ex_up (fun _ k => ev_aload_n dL_law_1535 rfl (fun _ e => by cases e) k) ?_
  refine ex_up (fun _ k => ev_iload_n dL_law_1536 rfl k) ?_
  refine ex_up (fun _ k => ev_iconst (v := (1 : Int32)) dL_law_1537 (by decide) k) ?_
  refine ex_up (fun _ k => ev_iadd dL_law_1538 k) ?_
  refine ex_up (fun _ k => ev_sld dL_law_1539 (lw_in hi hL 1 (by decide) rfl) k) ?_
  obtain ⟨r, σ1, σ2, hx, hm, hI2, hn1, ht1⟩ := (hs (lw_a E i (1 : Int32))) σ hI
  refine ex_up (fun _ k => ec_Vi (Y := mX9_look) (ci := 8) (As := [.int (lw_a E i (1 : Int32))]) (rest := []) dL_law_1540 kL_191 oX9_look ⟨Nat.le_of_ble_eq_true rfl, Nat.le_of_ble_eq_true rfl⟩ (by decide) rfl (h0 σ hI).1 (h0 σ hI).2 rfl (Nat.le_of_ble_eq_true rfl) hx rfl k) ?_
  refine ex_up (fun _ k => ev_aload_n dL_law_1543 rfl (fun _ e => by cases e) k) ?_
  refine ex_up (fun _ k => ev_aload_n dL_law_1544 rfl (fun _ e => by cases e) k) ?_
  refine ex_up (fun _ k => ev_iload_n dL_law_1545 rfl k) ?_
  refine ex_up (fun _ k => ev_iconst (v := (1 : Int32)) dL_law_1546 (by decide) k) ?_
  refine ex_up (fun _ k => ev_iadd dL_law_1547 k) ?_
  refine ex_up (fun _ k => ev_sld dL_law_1548 (lw_in hi hL 1 (by decide) rfl) k) ?_
  refine ex_up (fun _ k => ec_Vi (Y := mX10_look) (ci := 9) (As := [.int (lw_a E i (1 : Int32))]) (rest := [.int r]) dL_law_1549 kL_194 oX10_look ⟨Nat.le_of_ble_eq_true rfl, Nat.le_of_ble_eq_true rfl⟩ (by decide) rfl hn1 ht1 rfl (Nat.le_of_ble_eq_true rfl) hm rfl k) ?_
  refine ex_up (fun _ k => ev_icmp_eq (tgt := 1557) dL_law_1552 (by decide) (fun _ => k) (fun q => absurd rfl q)) ?_
  exact k σ2 hI2
/-- every pair of calls -/
def lw_all (E : ev_N) (Inv : ev_H → Prop) : Prop :=
  (∀ (a1 : Int32), lw_s E Inv mX9_nodes mX10_nodes [.int a1]) ∧
  (∀ (a1 : Int32) (a2 : Int32), lw_s E Inv mX9_mode mX10_mode [.int a1, .int a2]) ∧
  (∀ (a1 : Int32) (a2 : Int32), lw_s E Inv mX9_propose mX10_propose [.int a1, .int a2]) ∧
  (∀ (a1 : Int32), lw_s E Inv mX9_timeout mX10_timeout [.int a1]) ∧
  (∀ (a1 : Int32) (a2 : Int32) (a3 : Int32) (a4 : Int32) (a5 : Int32), lw_s E Inv mX9_lie mX10_lie [.int a1, .int a2, .int a3, .int a4, .int a5]) ∧
  (∀ (a1 : Int32), lw_s E Inv mX9_deliver mX10_deliver [.int a1]) ∧
  (∀ (a1 : Int32), lw_s E Inv mX9_drop mX10_drop [.int a1]) ∧
  (∀ (a1 : Int32), lw_s E Inv mX9_lose mX10_lose [.int a1]) ∧
  (∀ (a1 : Int32), lw_s E Inv mX9_leaders mX10_leaders [.int a1]) ∧
  (∀ (a1 : Int32) (a2 : Int32), lw_s E Inv mX9_cut mX10_cut [.int a1, .int a2, .int (0 : Int32)]) ∧
  (∀ (a1 : Int32) (a2 : Int32), lw_s E Inv mX9_cut mX10_cut [.int a1, .int a2, .int (1 : Int32)]) ∧
  (∀ (a1 : Int32), lw_s E Inv mX9_reach mX10_reach [.int a1]) ∧
  (∀ (a1 : Int32) (a2 : Int32), lw_s E Inv mX9_since mX10_since [.int a1, .int a2]) ∧
  (∀ (a1 : Int32), lw_s E Inv mX9_state mX10_state [.int a1]) ∧
  (∀ (a1 : Int32) (a2 : Int32), lw_s E Inv mX9_ask mX10_ask [.int a1, .int a2]) ∧
  (∀ (a1 : Int32) (a2 : Int32), lw_s E Inv mX9_storm mX10_storm [.int a1, .int a2]) ∧
  (∀ (a1 : Int32), lw_s E Inv mX9_turn mX10_turn [.int a1]) ∧
  (∀ (a1 : Int32), lw_s E Inv mX9_calm mX10_calm [.int a1]) ∧
  (∀ (a1 : Int32) (a2 : Int32) (a3 : Int32) (a4 : Int32) (a5 : Int32), lw_s E Inv mX9_feed mX10_feed [.int a1, .int a2, .int a3, .int a4, .int a5]) ∧
  (∀ (a1 : Int32), lw_s E Inv mX9_end mX10_end [.int a1]) ∧
  (lw_s E Inv mX9_plan mX10_plan []) ∧
  (∀ (a1 : Int32), lw_s E Inv mX9_fault mX10_fault [.int a1]) ∧
  (∀ (a1 : Int32), lw_s E Inv mX9_run mX10_run [.int a1]) ∧
  (∀ (a1 : Int32) (a2 : Int32), lw_s E Inv mX9_node mX10_node [.int a1, .int a2]) ∧
  (∀ (a1 : Int32) (a2 : Int32), lw_s E Inv mX9_log mX10_log [.int a1, .int a2]) ∧
  (∀ (a1 : Int32) (a2 : Int32), lw_s E Inv mX9_block mX10_block [.int a1, .int a2]) ∧
  (∀ (a1 : Int32) (a2 : Int32), lw_s E Inv mX9_marks mX10_marks [.int a1, .int a2]) ∧
  (∀ (a1 : Int32) (a2 : Int32), lw_s E Inv mX9_timeouts mX10_timeouts [.int a1, .int a2]) ∧
  (∀ (a1 : Int32) (a2 : Int32), lw_s E Inv mX9_message mX10_message [.int a1, .int a2]) ∧
  (∀ (a1 : Int32) (a2 : Int32), lw_s E Inv mX9_evidence mX10_evidence [.int a1, .int a2]) ∧
  (∀ (a1 : Int32) (a2 : Int32), lw_s E Inv mX9_event mX10_event [.int a1, .int a2]) ∧
  (∀ (a1 : Int32) (a3 : Int32), lw_s E Inv mX9_ledger mX10_ledger [.int a1, .int (0 : Int32), .int a3]) ∧
  (∀ (a1 : Int32) (a3 : Int32), lw_s E Inv mX9_ledger mX10_ledger [.int a1, .int (1 : Int32), .int a3]) ∧
  (∀ (a1 : Int32), lw_s E Inv mX9_without mX10_without [.int a1]) ∧
  (∀ (a1 : Int32), lw_s E Inv mX9_audit mX10_audit [.int a1]) ∧
  (∀ (a1 : Int32) (a2 : Int32), lw_s E Inv mX9_pending mX10_pending [.int a1, .int a2]) ∧
  (∀ (a1 : Int32) (a2 : Int32), lw_s E Inv mX9_path mX10_path [.int a1, .int a2]) ∧
  (∀ (a1 : Int32) (a2 : Int32), lw_s E Inv mX9_markers mX10_markers [.int a1, .int a2]) ∧
  (∀ (a1 : Int32), lw_s E Inv mX9_best mX10_best [.int a1]) ∧
  (lw_s E Inv mX9_soon mX10_soon []) ∧
  (∀ (a1 : Int32) (a2 : Int32) (a3 : Int32), lw_s E Inv mX9_two mX10_two [.int a1, .int a2, .int a3]) ∧
  (∀ (a1 : Int32) (a2 : Int32), lw_s E Inv mX9_would mX10_would [.int a1, .int a2]) ∧
  (∀ (a1 : Int32) (a2 : Int32), lw_s E Inv mX9_chain mX10_chain [.int a1, .int a2]) ∧
  (lw_s E Inv mX9_image mX10_image [.int (0 : Int32)]) ∧
  (lw_s E Inv mX9_image mX10_image [.int (1 : Int32)]) ∧
  (∀ (a1 : Int32), lw_s E Inv mX9_look mX10_look [.int a1])
theorem law_no {E : ev_N} {i : Nat} (hi : i + 5 < n_sl E) (hL : n_sl E ≤ 3072) : ¬ Int32.ofNat (n_sl E) - 6 < nI i := by
  have e : Int32.ofNat (n_sl E) - 6 = nI (n_sl E - 6) := pk_sub (a := n_sl E) (b := 6) (by omega)
  rw [e]
  exact nI_nlt (by omega) (by omega)
set_option maxRecDepth 100000 in
set_option maxHeartbeats 4000000 in
theorem law_end {E : ev_N} {P : Option Value × ev_H → Prop} {Inv : ev_H → Prop} {σ : ev_H} {i : Nat} (hL : n_sl E ≤ 3072) (hP : ∀ τ, Inv τ → P (some (.int 1), τ)) (hi : ¬ i + 5 < n_sl E) (hI : Inv σ) (hi2 : i ≤ n_sl E + 6 := by omega) : EX E mL_law 18 (LSL i) [] σ P := by
  have hc : Int32.ofNat (n_sl E) - 6 < nI i := by
    rw [Int32.lt_iff_toInt_lt]
    have e : (nI (n_sl E) - nI 6).toInt = (n_sl E : Int) - 6 := pk_sub_toInt (by omega) (by omega)
    show (nI (n_sl E) - nI 6).toInt < _
    rw [e, nI_toInt (by omega)]
    omega
  refine ex_up (fun _ k => ev_iload_n dL_law_18 rfl k) ?_
  refine ex_up (fun _ k => ev_aload_n dL_law_19 rfl (fun _ e => by cases e) k) ?_
  refine ex_up (fun _ k => ev_slen dL_law_20 k) ?_
  refine ex_up (fun _ k => ev_bipush (v := (6 : Int32)) dL_law_21 (by decide) k) ?_
  refine ex_up (fun _ k => ev_isub dL_law_23 k) ?_
  refine ex_up (fun _ k => ev_icmp_gt (tgt := 1563) dL_law_24 (by decide) (fun _ => k) (fun q => absurd hc q)) ?_
  refine ex_up (fun _ k => ev_iconst (v := (1 : Int32)) dL_law_1563 (by decide) k) ?_
  exact ⟨(some (.int 1), σ), hP σ hI, er_i dL_law_1564 rfl rfl⟩
set_option maxRecDepth 100000 in
set_option maxHeartbeats 8000000 in
theorem law_loop {E : ev_N} {P : Option Value × ev_H → Prop} {Inv : ev_H → Prop} (hL : n_sl E ≤ 3072) (h0 : lw_0 Inv) (hA : lw_all E Inv) (hP : ∀ τ, Inv τ → P (some (.int 1), τ)) : ∀ (n i : Nat) (σ : ev_H), n_sl E + 6 ≤ i + n → i ≤ n_sl E + 6 → Inv σ → EX E mL_law 18 (LSL i) [] σ P := by
  intro n
  induction n with
  | zero =>
    intro i σ h1 h2 hI
    refine law_end hL hP (by omega) hI
  | succ n ih =>
    intro i σ h1 h2 hI
    by_cases hi : i + 5 < n_sl E
    · have hx : nI i = nI i + 0 := by rw [show (0 : Int32) = nI 0 from rfl, nI_add]; rfl
      refine ex_up (fun _ k => ev_iload_n dL_law_18 rfl k) ?_
      refine ex_up (fun _ k => ev_aload_n dL_law_19 rfl (fun _ e => by cases e) k) ?_
      refine ex_up (fun _ k => ev_slen dL_law_20 k) ?_
      refine ex_up (fun _ k => ev_bipush (v := (6 : Int32)) dL_law_21 (by decide) k) ?_
      refine ex_up (fun _ k => ev_isub dL_law_23 k) ?_
      refine ex_up (fun _ k => ev_icmp_gt (tgt := 1563) dL_law_24 (by decide) (fun q => absurd q (law_no hi hL)) (fun _ => k)) ?_
      refine ex_up (fun _ k => ev_aload_n dL_law_27 rfl (fun _ e => by cases e) k) ?_
      refine ex_up (fun _ k => ev_iload_n dL_law_28 rfl k) ?_
      refine ex_up (fun _ k => ev_sld dL_law_29 (vp_in_nI (by omega) (by omega)) k) ?_
      refine ex_up (fun _ k => ev_bipush (v := (63 : Int32)) dL_law_30 (by decide) k) ?_
      refine ex_up (fun _ k => ev_iand dL_law_32 k) ?_
      obtain ⟨j, hj, ej⟩ := pk_andE (n_sx E (nI i).toNatClampNeg) (m := 63) 6 (by decide)
      rw [ej]
      have kk : ∀ τ, Inv τ → EX E mL_law 1557 (LSL i) [] τ P := fun τ hT => by
        refine ex_up (fun _ k => ew_iinc (y := nI (i + 6)) (c := nI 6) (L' := LSL (i + 6)) dL_law_1557 (Nat.le_of_ble_eq_true rfl) rfl (by decide) (nI_add i 6).symm rfl k) ?_
        refine ex_up (fun _ k => ev_goto (tgt := 18) dL_law_1560 (by decide) k) ?_
        exact ih (i + 6) τ (by omega) (by omega) hT
      rcases (show j = 0 ∨ j = 1 ∨ j = 2 ∨ j = 3 ∨ j = 4 ∨ j = 5 ∨ j = 6 ∨ j = 7 ∨ j = 8 ∨ j = 9 ∨ j = 10 ∨ j = 11 ∨ j = 12 ∨ j = 13 ∨ j = 14 ∨ j = 15 ∨ j = 16 ∨ j = 17 ∨ j = 18 ∨ j = 19 ∨ j = 20 ∨ j = 21 ∨ j = 22 ∨ j = 23 ∨ j = 24 ∨ j = 25 ∨ j = 26 ∨ j = 27 ∨ j = 28 ∨ j = 29 ∨ j = 30 ∨ j = 31 ∨ j = 32 ∨ j = 33 ∨ j = 34 ∨ j = 35 ∨ j = 36 ∨ j = 37 ∨ j = 38 ∨ j = 39 ∨ j = 40 ∨ j = 41 ∨ j = 42 ∨ 43 ≤ j by omega) with rfl | rfl | rfl | rfl | rfl | rfl | rfl | rfl | rfl | rfl | rfl | rfl | rfl | rfl | rfl | rfl | rfl | rfl | rfl | rfl | rfl | rfl | rfl | rfl | rfl | rfl | rfl | rfl | rfl | rfl | rfl | rfl | rfl | rfl | rfl | rfl | rfl | rfl | rfl | rfl | rfl | rfl | rfl | hj2
      · refine ex_up (fun _ k => ev_table (tgt := 220) dL_law_33 (by decide) (by decide) k) ?_
        exact law_c0 hi hL hI h0 (hA.1) kk
      · refine ex_up (fun _ k => ev_table (tgt := 243) dL_law_33 (by decide) (by decide) k) ?_
        exact law_c1 hi hL hI h0 (hA.2.1) kk
      · refine ex_up (fun _ k => ev_table (tgt := 276) dL_law_33 (by decide) (by decide) k) ?_
        exact law_c2 hi hL hI h0 (hA.2.2.1) kk
      · refine ex_up (fun _ k => ev_table (tgt := 309) dL_law_33 (by decide) (by decide) k) ?_
        exact law_c3 hi hL hI h0 (hA.2.2.2.1) kk
      · refine ex_up (fun _ k => ev_table (tgt := 332) dL_law_33 (by decide) (by decide) k) ?_
        exact law_c4 hi hL hI h0 (hA.2.2.2.2.1) kk
      · refine ex_up (fun _ k => ev_table (tgt := 395) dL_law_33 (by decide) (by decide) k) ?_
        exact law_c5 hi hL hI h0 (hA.2.2.2.2.2.1) kk
      · refine ex_up (fun _ k => ev_table (tgt := 418) dL_law_33 (by decide) (by decide) k) ?_
        exact law_c6 hi hL hI h0 (hA.2.2.2.2.2.2.1) kk
      · refine ex_up (fun _ k => ev_table (tgt := 441) dL_law_33 (by decide) (by decide) k) ?_
        exact law_c7 hi hL hI h0 (hA.2.2.2.2.2.2.2.1) kk
      · refine ex_up (fun _ k => ev_table (tgt := 464) dL_law_33 (by decide) (by decide) k) ?_
        exact law_c8 hi hL hI h0 (hA.2.2.2.2.2.2.2.2.1) kk
      · refine ex_up (fun _ k => ev_table (tgt := 487) dL_law_33 (by decide) (by decide) k) ?_
        exact law_c9 hi hL hI h0 (hA.2.2.2.2.2.2.2.2.2.1) (hA.2.2.2.2.2.2.2.2.2.2.1) kk
      · refine ex_up (fun _ k => ev_table (tgt := 546) dL_law_33 (by decide) (by decide) k) ?_
        exact law_c10 hi hL hI h0 (hA.2.2.2.2.2.2.2.2.2.2.2.1) kk
      · refine ex_up (fun _ k => ev_table (tgt := 569) dL_law_33 (by decide) (by decide) k) ?_
        exact law_c11 hi hL hI h0 (hA.2.2.2.2.2.2.2.2.2.2.2.2.1) kk
      · refine ex_up (fun _ k => ev_table (tgt := 602) dL_law_33 (by decide) (by decide) k) ?_
        exact law_c12 hi hL hI h0 (hA.2.2.2.2.2.2.2.2.2.2.2.2.2.1) kk
      · refine ex_up (fun _ k => ev_table (tgt := 625) dL_law_33 (by decide) (by decide) k) ?_
        exact law_c13 hi hL hI h0 (hA.2.2.2.2.2.2.2.2.2.2.2.2.2.2.1) kk
      · refine ex_up (fun _ k => ev_table (tgt := 658) dL_law_33 (by decide) (by decide) k) ?_
        exact law_c14 hi hL hI h0 (hA.2.2.2.2.2.2.2.2.2.2.2.2.2.2.2.1) kk
      · refine ex_up (fun _ k => ev_table (tgt := 691) dL_law_33 (by decide) (by decide) k) ?_
        exact law_c15 hi hL hI h0 (hA.2.2.2.2.2.2.2.2.2.2.2.2.2.2.2.2.1) kk
      · refine ex_up (fun _ k => ev_table (tgt := 714) dL_law_33 (by decide) (by decide) k) ?_
        exact law_c16 hi hL hI h0 (hA.2.2.2.2.2.2.2.2.2.2.2.2.2.2.2.2.2.1) kk
      · refine ex_up (fun _ k => ev_table (tgt := 737) dL_law_33 (by decide) (by decide) k) ?_
        exact law_c17 hi hL hI h0 (hA.2.2.2.2.2.2.2.2.2.2.2.2.2.2.2.2.2.2.1) kk
      · refine ex_up (fun _ k => ev_table (tgt := 800) dL_law_33 (by decide) (by decide) k) ?_
        exact law_c18 hi hL hI h0 (hA.2.2.2.2.2.2.2.2.2.2.2.2.2.2.2.2.2.2.2.1) kk
      · refine ex_up (fun _ k => ev_table (tgt := 823) dL_law_33 (by decide) (by decide) k) ?_
        exact law_c19 hi hL hI h0 (hA.2.2.2.2.2.2.2.2.2.2.2.2.2.2.2.2.2.2.2.2.1) kk
      · refine ex_up (fun _ k => ev_table (tgt := 836) dL_law_33 (by decide) (by decide) k) ?_
        exact law_c20 hi hL hI h0 (hA.2.2.2.2.2.2.2.2.2.2.2.2.2.2.2.2.2.2.2.2.2.1) kk
      · refine ex_up (fun _ k => ev_table (tgt := 859) dL_law_33 (by decide) (by decide) k) ?_
        exact law_c21 hi hL hI h0 (hA.2.2.2.2.2.2.2.2.2.2.2.2.2.2.2.2.2.2.2.2.2.2.1) kk
      · refine ex_up (fun _ k => ev_table (tgt := 882) dL_law_33 (by decide) (by decide) k) ?_
        exact law_c22 hi hL hI h0 (hA.2.2.2.2.2.2.2.2.2.2.2.2.2.2.2.2.2.2.2.2.2.2.2.1) kk
      · refine ex_up (fun _ k => ev_table (tgt := 915) dL_law_33 (by decide) (by decide) k) ?_
        exact law_c23 hi hL hI h0 (hA.2.2.2.2.2.2.2.2.2.2.2.2.2.2.2.2.2.2.2.2.2.2.2.2.1) kk
      · refine ex_up (fun _ k => ev_table (tgt := 948) dL_law_33 (by decide) (by decide) k) ?_
        exact law_c24 hi hL hI h0 (hA.2.2.2.2.2.2.2.2.2.2.2.2.2.2.2.2.2.2.2.2.2.2.2.2.2.1) kk
      · refine ex_up (fun _ k => ev_table (tgt := 981) dL_law_33 (by decide) (by decide) k) ?_
        exact law_c25 hi hL hI h0 (hA.2.2.2.2.2.2.2.2.2.2.2.2.2.2.2.2.2.2.2.2.2.2.2.2.2.2.1) kk
      · refine ex_up (fun _ k => ev_table (tgt := 1014) dL_law_33 (by decide) (by decide) k) ?_
        exact law_c26 hi hL hI h0 (hA.2.2.2.2.2.2.2.2.2.2.2.2.2.2.2.2.2.2.2.2.2.2.2.2.2.2.2.1) kk
      · refine ex_up (fun _ k => ev_table (tgt := 1047) dL_law_33 (by decide) (by decide) k) ?_
        exact law_c27 hi hL hI h0 (hA.2.2.2.2.2.2.2.2.2.2.2.2.2.2.2.2.2.2.2.2.2.2.2.2.2.2.2.2.1) kk
      · refine ex_up (fun _ k => ev_table (tgt := 1080) dL_law_33 (by decide) (by decide) k) ?_
        exact law_c28 hi hL hI h0 (hA.2.2.2.2.2.2.2.2.2.2.2.2.2.2.2.2.2.2.2.2.2.2.2.2.2.2.2.2.2.1) kk
      · refine ex_up (fun _ k => ev_table (tgt := 1113) dL_law_33 (by decide) (by decide) k) ?_
        exact law_c29 hi hL hI h0 (hA.2.2.2.2.2.2.2.2.2.2.2.2.2.2.2.2.2.2.2.2.2.2.2.2.2.2.2.2.2.2.1) kk
      · refine ex_up (fun _ k => ev_table (tgt := 1146) dL_law_33 (by decide) (by decide) k) ?_
        exact law_c30 hi hL hI h0 (hA.2.2.2.2.2.2.2.2.2.2.2.2.2.2.2.2.2.2.2.2.2.2.2.2.2.2.2.2.2.2.2.1) (hA.2.2.2.2.2.2.2.2.2.2.2.2.2.2.2.2.2.2.2.2.2.2.2.2.2.2.2.2.2.2.2.2.1) kk
      · refine ex_up (fun _ k => ev_table (tgt := 1205) dL_law_33 (by decide) (by decide) k) ?_
        exact law_c31 hi hL hI h0 (hA.2.2.2.2.2.2.2.2.2.2.2.2.2.2.2.2.2.2.2.2.2.2.2.2.2.2.2.2.2.2.2.2.2.1) kk
      · refine ex_up (fun _ k => ev_table (tgt := 1228) dL_law_33 (by decide) (by decide) k) ?_
        exact law_c32 hi hL hI h0 (hA.2.2.2.2.2.2.2.2.2.2.2.2.2.2.2.2.2.2.2.2.2.2.2.2.2.2.2.2.2.2.2.2.2.2.1) kk
      · refine ex_up (fun _ k => ev_table (tgt := 1251) dL_law_33 (by decide) (by decide) k) ?_
        exact law_c33 hi hL hI h0 (hA.2.2.2.2.2.2.2.2.2.2.2.2.2.2.2.2.2.2.2.2.2.2.2.2.2.2.2.2.2.2.2.2.2.2.2.1) kk
      · refine ex_up (fun _ k => ev_table (tgt := 1284) dL_law_33 (by decide) (by decide) k) ?_
        exact law_c34 hi hL hI h0 (hA.2.2.2.2.2.2.2.2.2.2.2.2.2.2.2.2.2.2.2.2.2.2.2.2.2.2.2.2.2.2.2.2.2.2.2.2.1) kk
      · refine ex_up (fun _ k => ev_table (tgt := 1317) dL_law_33 (by decide) (by decide) k) ?_
        exact law_c35 hi hL hI h0 (hA.2.2.2.2.2.2.2.2.2.2.2.2.2.2.2.2.2.2.2.2.2.2.2.2.2.2.2.2.2.2.2.2.2.2.2.2.2.1) kk
      · refine ex_up (fun _ k => ev_table (tgt := 1350) dL_law_33 (by decide) (by decide) k) ?_
        exact law_c36 hi hL hI h0 (hA.2.2.2.2.2.2.2.2.2.2.2.2.2.2.2.2.2.2.2.2.2.2.2.2.2.2.2.2.2.2.2.2.2.2.2.2.2.2.1) kk
      · refine ex_up (fun _ k => ev_table (tgt := 1373) dL_law_33 (by decide) (by decide) k) ?_
        exact law_c37 hi hL hI h0 (hA.2.2.2.2.2.2.2.2.2.2.2.2.2.2.2.2.2.2.2.2.2.2.2.2.2.2.2.2.2.2.2.2.2.2.2.2.2.2.2.1) kk
      · refine ex_up (fun _ k => ev_table (tgt := 1386) dL_law_33 (by decide) (by decide) k) ?_
        exact law_c38 hi hL hI h0 (hA.2.2.2.2.2.2.2.2.2.2.2.2.2.2.2.2.2.2.2.2.2.2.2.2.2.2.2.2.2.2.2.2.2.2.2.2.2.2.2.2.1) kk
      · refine ex_up (fun _ k => ev_table (tgt := 1429) dL_law_33 (by decide) (by decide) k) ?_
        exact law_c39 hi hL hI h0 (hA.2.2.2.2.2.2.2.2.2.2.2.2.2.2.2.2.2.2.2.2.2.2.2.2.2.2.2.2.2.2.2.2.2.2.2.2.2.2.2.2.2.1) kk
      · refine ex_up (fun _ k => ev_table (tgt := 1462) dL_law_33 (by decide) (by decide) k) ?_
        exact law_c40 hi hL hI h0 (hA.2.2.2.2.2.2.2.2.2.2.2.2.2.2.2.2.2.2.2.2.2.2.2.2.2.2.2.2.2.2.2.2.2.2.2.2.2.2.2.2.2.2.1) kk
      · refine ex_up (fun _ k => ev_table (tgt := 1495) dL_law_33 (by decide) (by decide) k) ?_
        exact law_c41 hi hL hI h0 (hA.2.2.2.2.2.2.2.2.2.2.2.2.2.2.2.2.2.2.2.2.2.2.2.2.2.2.2.2.2.2.2.2.2.2.2.2.2.2.2.2.2.2.2.1) (hA.2.2.2.2.2.2.2.2.2.2.2.2.2.2.2.2.2.2.2.2.2.2.2.2.2.2.2.2.2.2.2.2.2.2.2.2.2.2.2.2.2.2.2.2.1) kk
      · refine ex_up (fun _ k => ev_table (tgt := 1534) dL_law_33 (by decide) (by decide) k) ?_
        exact law_c42 hi hL hI h0 (hA.2.2.2.2.2.2.2.2.2.2.2.2.2.2.2.2.2.2.2.2.2.2.2.2.2.2.2.2.2.2.2.2.2.2.2.2.2.2.2.2.2.2.2.2.2) kk
      · refine ex_up (fun _ k => ev_table (tgt := 1557) dL_law_33 (by rw [if_pos (Or.inr (by rw [nI_toInt (by omega)]; omega))]; rfl) (by decide) k) ?_
        exact kk σ hI
    · exact law_end hL hP hi hI
