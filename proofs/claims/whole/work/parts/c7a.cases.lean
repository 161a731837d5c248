set_option maxHeartbeats 4000000 in
theorem lc_0 {X : jX} {G : jG} {L : jL} {b Ln : Nat} {xs : Nat → Int32} (hw : jLw X G L b Ln xs) {i : Int32} (hi : ∀ k : Int32, 0 ≤ k → k < 5 → vp_in (i + k) Ln) {kc ks : Nat} (hk : kc + 1 ≤ 601024 ∧ ks + 6 ≤ 7293034) {Q : State → Prop} {μ : jM} (hr : Rel μ) (kk : ∀ μ2, Rel μ2 → jJ X G 8 L (kc + 1) (ks + 6) Q 1675 (lwlv b L i) [] μ2) : jJ X G 8 L kc ks Q 248 (lwlv b L i) [] μ := by
  obtain ⟨hC, h5, hR, hs, hX, hbl, hbA, hL⟩ := hw
  have k0 : jK L 0 11 := jK_of hL 0 11 (by decide +kernel)
  have k1 : jK L 201 12 := jK_of hL 201 12 (by decide +kernel)
  obtain ⟨r, μ1, μ2, e1, e2, hr2⟩ := sim_sign hr (xs (i + (1 : Int32)).toNatClampNeg)
  unfold lwlv at *
  refine j_widen (Nat.le_succ kc) (Nat.le_add_right ks 6) ?_
  refine j_aload_n (pc := 248) hC 1 1 dL_law_248 rfl rfl ?_
  refine j_aload_n (pc := 249) hC 0 0 dL_law_249 rfl rfl ?_
  refine j_iload (pc := 250) hC 4 dL_law_250 rfl ?_
  refine j_iconst (pc := 252) hC (1 : Int32) dL_law_252 (by decide) ?_
  refine j_iadd (pc := 253) hC dL_law_253 ?_
  refine j_qld (pc := 254) hC hX hbl hbA (hi (1 : Int32) (by decide) (by decide)) dL_law_254 ?_
  refine j_vL (pc := 255) hC hR [.int (xs (i + (1 : Int32)).toNatClampNeg)] (c_X11_sign hL k0 e1) iy_X11_sign (q := (RX11, TX11, 15)) (ci := 11) rfl rfl (by decide) k0 km_L_33 dL_law_255 rfl (by decide) (Nat.le_of_ble_eq_true rfl) (Nat.le_of_ble_eq_true rfl) ⟨hk.1, hk.2⟩ rfl ?_
  refine j_aload_n (pc := 258) hC 2 2 dL_law_258 rfl rfl ?_
  refine j_aload_n (pc := 259) hC 0 0 dL_law_259 rfl rfl ?_
  refine j_iload (pc := 260) hC 4 dL_law_260 rfl ?_
  refine j_iconst (pc := 262) hC (1 : Int32) dL_law_262 (by decide) ?_
  refine j_iadd (pc := 263) hC dL_law_263 ?_
  refine j_qld (pc := 264) hC hX hbl hbA (hi (1 : Int32) (by decide) (by decide)) dL_law_264 ?_
  refine j_vL (pc := 265) hC hR [.int (xs (i + (1 : Int32)).toNatClampNeg)] (c_X12_sign hL k1 e2) iy_X12_sign (q := (RX12, TX12, 40)) (ci := 12) rfl rfl (by decide) k1 km_L_36 dL_law_265 rfl (by decide) (Nat.le_of_ble_eq_true rfl) (Nat.le_of_ble_eq_true rfl) ⟨hk.1, hk.2⟩ rfl ?_
  exact j_icmp_eq (pc := 268) hC 1675 dL_law_268 (by decide) (fun _ => kk _ hr2) (fun c => absurd rfl c)
set_option maxHeartbeats 4000000 in
theorem lc_1 {X : jX} {G : jG} {L : jL} {b Ln : Nat} {xs : Nat → Int32} (hw : jLw X G L b Ln xs) {i : Int32} (hi : ∀ k : Int32, 0 ≤ k → k < 5 → vp_in (i + k) Ln) {kc ks : Nat} (hk : kc + 1 ≤ 601024 ∧ ks + 6 ≤ 7293034) {Q : State → Prop} {μ : jM} (hr : Rel μ) (kk : ∀ μ2, Rel μ2 → jJ X G 8 L (kc + 1) (ks + 6) Q 1675 (lwlv b L i) [] μ2) : jJ X G 8 L kc ks Q 273 (lwlv b L i) [] μ := by
  obtain ⟨hC, h5, hR, hs, hX, hbl, hbA, hL⟩ := hw
  have k0 : jK L 0 11 := jK_of hL 0 11 (by decide +kernel)
  have k1 : jK L 201 12 := jK_of hL 201 12 (by decide +kernel)
  obtain ⟨r, μ1, μ2, e1, e2, hr2⟩ := sim_end hr (xs (i + (1 : Int32)).toNatClampNeg)
  unfold lwlv at *
  refine j_widen (Nat.le_succ kc) (Nat.le_add_right ks 6) ?_
  refine j_aload_n (pc := 273) hC 1 1 dL_law_273 rfl rfl ?_
  refine j_aload_n (pc := 274) hC 0 0 dL_law_274 rfl rfl ?_
  refine j_iload (pc := 275) hC 4 dL_law_275 rfl ?_
  refine j_iconst (pc := 277) hC (1 : Int32) dL_law_277 (by decide) ?_
  refine j_iadd (pc := 278) hC dL_law_278 ?_
  refine j_qld (pc := 279) hC hX hbl hbA (hi (1 : Int32) (by decide) (by decide)) dL_law_279 ?_
  refine j_vL (pc := 280) hC hR [.int (xs (i + (1 : Int32)).toNatClampNeg)] (c_X11_end hL k0 e1) iy_X11_end (q := (RX11, TX11, 15)) (ci := 11) rfl rfl (by decide) k0 km_L_37 dL_law_280 rfl (by decide) (Nat.le_of_ble_eq_true rfl) (Nat.le_of_ble_eq_true rfl) ⟨hk.1, hk.2⟩ rfl ?_
  refine j_aload_n (pc := 283) hC 2 2 dL_law_283 rfl rfl ?_
  refine j_aload_n (pc := 284) hC 0 0 dL_law_284 rfl rfl ?_
  refine j_iload (pc := 285) hC 4 dL_law_285 rfl ?_
  refine j_iconst (pc := 287) hC (1 : Int32) dL_law_287 (by decide) ?_
  refine j_iadd (pc := 288) hC dL_law_288 ?_
  refine j_qld (pc := 289) hC hX hbl hbA (hi (1 : Int32) (by decide) (by decide)) dL_law_289 ?_
  refine j_vL (pc := 290) hC hR [.int (xs (i + (1 : Int32)).toNatClampNeg)] (c_X12_end hL k1 e2) iy_X12_end (q := (RX12, TX12, 40)) (ci := 12) rfl rfl (by decide) k1 km_L_41 dL_law_290 rfl (by decide) (Nat.le_of_ble_eq_true rfl) (Nat.le_of_ble_eq_true rfl) ⟨hk.1, hk.2⟩ rfl ?_
  exact j_icmp_eq (pc := 293) hC 1675 dL_law_293 (by decide) (fun _ => kk _ hr2) (fun c => absurd rfl c)
set_option maxHeartbeats 4000000 in
theorem lc_2 {X : jX} {G : jG} {L : jL} {b Ln : Nat} {xs : Nat → Int32} (hw : jLw X G L b Ln xs) {i : Int32} (hi : ∀ k : Int32, 0 ≤ k → k < 5 → vp_in (i + k) Ln) {kc ks : Nat} (hk : kc + 1 ≤ 601024 ∧ ks + 6 ≤ 7293034) {Q : State → Prop} {μ : jM} (hr : Rel μ) (kk : ∀ μ2, Rel μ2 → jJ X G 8 L (kc + 1) (ks + 6) Q 1675 (lwlv b L i) [] μ2) : jJ X G 8 L kc ks Q 298 (lwlv b L i) [] μ := by
  obtain ⟨hC, h5, hR, hs, hX, hbl, hbA, hL⟩ := hw
  have k0 : jK L 0 11 := jK_of hL 0 11 (by decide +kernel)
  have k1 : jK L 201 12 := jK_of hL 201 12 (by decide +kernel)
  have k9 : jK L 224 14 := jK_of hL 224 14 (by decide +kernel)
  have n9 : (L.2.1 224).2.1 = 1 := by rw [jlen_ok hL]; decide +kernel
  obtain ⟨w, hg, hw5⟩ := sim_cell hr (xs (i + (1 : Int32)).toNatClampNeg)
  obtain ⟨r, μ2, e2, hF⟩ := hw5 _ (hO_ou hr (w.map Int32.toInt64))
  unfold lwlv at *
  refine j_aload_n (pc := 298) hC 1 1 dL_law_298 rfl rfl ?_
  refine j_aload_n (pc := 299) hC 0 0 dL_law_299 rfl rfl ?_
  refine j_iload (pc := 300) hC 4 dL_law_300 rfl ?_
  refine j_iconst (pc := 302) hC (1 : Int32) dL_law_302 (by decide) ?_
  refine j_iadd (pc := 303) hC dL_law_303 ?_
  refine j_qld (pc := 304) hC hX hbl hbA (hi (1 : Int32) (by decide) (by decide)) dL_law_304 ?_
  refine j_aload_n (pc := 305) hC 3 3 dL_law_305 rfl rfl ?_
  refine j_cH (n := 3) (pc := 306) hC h5 hR [.ref (L.2.2 0), .int (xs (i + (1 : Int32)).toNatClampNeg), .ref (L.2.2 224)] (cH_cell hs hL hg) kLw_cell kLs_cell kL_i ⟨by decide +kernel, by decide +kernel, by decide +kernel⟩ km_L_42 dL_law_306 rfl (by decide) (by decide) (Nat.le_of_ble_eq_true rfl) hk rfl ?_
  refine j_istore (pc := 309) hC [(5, .int (hB w)), (0, .ref b), (1, .ref (L.2.2 0)), (2, .ref (L.2.2 201)), (3, .ref (L.2.2 224)), (4, .int i)] dL_law_309 (by decide) rfl rfl ?_
  refine j_aload_n (pc := 311) hC 2 3 dL_law_311 rfl rfl ?_
  refine j_aload_n (pc := 312) hC 0 1 dL_law_312 rfl rfl ?_
  refine j_iload (pc := 313) hC 5 dL_law_313 rfl ?_
  refine j_iconst (pc := 315) hC (1 : Int32) dL_law_315 (by decide) ?_
  refine j_iadd (pc := 316) hC dL_law_316 ?_
  refine j_qld (pc := 317) hC hX hbl hbA (hi (1 : Int32) (by decide) (by decide)) dL_law_317 ?_
  refine j_vL (pc := 318) hC hR [.int (xs (i + (1 : Int32)).toNatClampNeg)] (c_X12_cell hL k1 e2) iy_X12_cell (q := (RX12, TX12, 40)) (ci := 12) rfl rfl (by decide) k1 km_L_47 dL_law_318 rfl (by decide) (Nat.le_of_ble_eq_true rfl) (Nat.le_of_ble_eq_true rfl) ⟨hk.1, hk.2⟩ rfl ?_
  refine j_istore (pc := 321) hC [(6, .int r), (5, .int (hB w)), (0, .ref b), (1, .ref (L.2.2 0)), (2, .ref (L.2.2 201)), (3, .ref (L.2.2 224)), (4, .int i)] dL_law_321 (by decide) rfl rfl ?_
  refine j_aload_n (pc := 323) hC 2 4 dL_law_323 rfl rfl ?_
  refine j_vL (pc := 324) hC hR [] (c_X12_thrown hL k1 (F5_thr hF)) iy_X12_thrown (q := (RX12, TX12, 40)) (ci := 12) rfl rfl (by decide) k1 km_L_48 dL_law_324 rfl (by decide) (Nat.le_of_ble_eq_true rfl) (Nat.le_of_ble_eq_true rfl) ⟨hk.1, hk.2⟩ rfl ?_
  refine j_iload (pc := 327) hC 1 dL_law_327 rfl ?_
  refine j_icmp_eq (pc := 329) hC 334 dL_law_329 (by decide) (fun _ => ?_) (fun c => absurd rfl c)
  refine j_iload (pc := 334) hC 1 dL_law_334 rfl ?_
  have hend : jJ X G 8 L (kc + 1) (ks + 6) Q 351 [(6, .int r), (5, .int (hB w)), (0, .ref b), (1, .ref (L.2.2 0)), (2, .ref (L.2.2 201)), (3, .ref (L.2.2 224)), (4, .int i)] [] μ2 := by
    refine j_goto (pc := 351) hC 1675 dL_law_351 (by decide) ?_
    exact j_lv [2, 3, 4, 5, 6] rfl (kk _ hF.1)
  refine j_if_ne (pc := 336) hC 351 dL_law_336 (by decide) (fun _ => hend) (fun c0 => ?_)
  refine j_aload_n (pc := 339) hC 3 5 dL_law_339 rfl rfl ?_
  refine j_iconst (pc := 340) hC (0 : Int32) dL_law_340 (by decide) ?_
  refine j_lald (pc := 341) hC dL_law_341 k9 n9 (by unfold vp_in; decide) (v := μ2.2 224 0) rfl ?_
  refine j_iload (pc := 342) hC 0 dL_law_342 rfl ?_
  refine j_i2l (pc := 344) hC dL_law_344 ?_
  refine j_lcmp (pc := 345) hC dL_law_345 ?_
  rw [F5_val hF c0, lg_cmp_self]
  exact j_if_eq (pc := 346) hC 351 dL_law_346 (by decide) (fun _ => hend) (fun c => absurd rfl c)
set_option maxHeartbeats 4000000 in
theorem lc_3 {X : jX} {G : jG} {L : jL} {b Ln : Nat} {xs : Nat → Int32} (hw : jLw X G L b Ln xs) {i : Int32} (hi : ∀ k : Int32, 0 ≤ k → k < 5 → vp_in (i + k) Ln) {kc ks : Nat} (hk : kc + 1 ≤ 601024 ∧ ks + 6 ≤ 7293034) {Q : State → Prop} {μ : jM} (hr : Rel μ) (kk : ∀ μ2, Rel μ2 → jJ X G 8 L (kc + 1) (ks + 6) Q 1675 (lwlv b L i) [] μ2) : jJ X G 8 L kc ks Q 354 (lwlv b L i) [] μ := by
  obtain ⟨hC, h5, hR, hs, hX, hbl, hbA, hL⟩ := hw
  have k0 : jK L 0 11 := jK_of hL 0 11 (by decide +kernel)
  have k1 : jK L 201 12 := jK_of hL 201 12 (by decide +kernel)
  have k9 : jK L 224 14 := jK_of hL 224 14 (by decide +kernel)
  have n9 : (L.2.1 224).2.1 = 1 := by rw [jlen_ok hL]; decide +kernel
  obtain ⟨w, hg, hw5⟩ := sim_values hr (xs (i + (1 : Int32)).toNatClampNeg)
  obtain ⟨r, μ2, e2, hF⟩ := hw5 _ (hO_ou hr (w.map Int32.toInt64))
  unfold lwlv at *
  refine j_aload_n (pc := 354) hC 1 1 dL_law_354 rfl rfl ?_
  refine j_aload_n (pc := 355) hC 0 0 dL_law_355 rfl rfl ?_
  refine j_iload (pc := 356) hC 4 dL_law_356 rfl ?_
  refine j_iconst (pc := 358) hC (1 : Int32) dL_law_358 (by decide) ?_
  refine j_iadd (pc := 359) hC dL_law_359 ?_
  refine j_qld (pc := 360) hC hX hbl hbA (hi (1 : Int32) (by decide) (by decide)) dL_law_360 ?_
  refine j_aload_n (pc := 361) hC 3 3 dL_law_361 rfl rfl ?_
  refine j_cH (n := 3) (pc := 362) hC h5 hR [.ref (L.2.2 0), .int (xs (i + (1 : Int32)).toNatClampNeg), .ref (L.2.2 224)] (cH_values hs hL hg) kLw_values kLs_values kL_i ⟨by decide +kernel, by decide +kernel, by decide +kernel⟩ km_L_52 dL_law_362 rfl (by decide) (by decide) (Nat.le_of_ble_eq_true rfl) hk rfl ?_
  refine j_istore (pc := 365) hC [(5, .int (hB w)), (0, .ref b), (1, .ref (L.2.2 0)), (2, .ref (L.2.2 201)), (3, .ref (L.2.2 224)), (4, .int i)] dL_law_365 (by decide) rfl rfl ?_
  refine j_aload_n (pc := 367) hC 2 3 dL_law_367 rfl rfl ?_
  refine j_aload_n (pc := 368) hC 0 1 dL_law_368 rfl rfl ?_
  refine j_iload (pc := 369) hC 5 dL_law_369 rfl ?_
  refine j_iconst (pc := 371) hC (1 : Int32) dL_law_371 (by decide) ?_
  refine j_iadd (pc := 372) hC dL_law_372 ?_
  refine j_qld (pc := 373) hC hX hbl hbA (hi (1 : Int32) (by decide) (by decide)) dL_law_373 ?_
  refine j_vL (pc := 374) hC hR [.int (xs (i + (1 : Int32)).toNatClampNeg)] (c_X12_values hL k1 e2) iy_X12_values (q := (RX12, TX12, 40)) (ci := 12) rfl rfl (by decide) k1 km_L_54 dL_law_374 rfl (by decide) (Nat.le_of_ble_eq_true rfl) (Nat.le_of_ble_eq_true rfl) ⟨hk.1, hk.2⟩ rfl ?_
  refine j_istore (pc := 377) hC [(6, .int r), (5, .int (hB w)), (0, .ref b), (1, .ref (L.2.2 0)), (2, .ref (L.2.2 201)), (3, .ref (L.2.2 224)), (4, .int i)] dL_law_377 (by decide) rfl rfl ?_
  refine j_aload_n (pc := 379) hC 2 4 dL_law_379 rfl rfl ?_
  refine j_vL (pc := 380) hC hR [] (c_X12_thrown hL k1 (F5_thr hF)) iy_X12_thrown (q := (RX12, TX12, 40)) (ci := 12) rfl rfl (by decide) k1 km_L_48 dL_law_380 rfl (by decide) (Nat.le_of_ble_eq_true rfl) (Nat.le_of_ble_eq_true rfl) ⟨hk.1, hk.2⟩ rfl ?_
  refine j_iload (pc := 383) hC 1 dL_law_383 rfl ?_
  refine j_icmp_eq (pc := 385) hC 390 dL_law_385 (by decide) (fun _ => ?_) (fun c => absurd rfl c)
  refine j_iload (pc := 390) hC 1 dL_law_390 rfl ?_
  have hend : jJ X G 8 L (kc + 1) (ks + 6) Q 407 [(6, .int r), (5, .int (hB w)), (0, .ref b), (1, .ref (L.2.2 0)), (2, .ref (L.2.2 201)), (3, .ref (L.2.2 224)), (4, .int i)] [] μ2 := by
    refine j_goto (pc := 407) hC 1675 dL_law_407 (by decide) ?_
    exact j_lv [2, 3, 4, 5, 6] rfl (kk _ hF.1)
  refine j_if_ne (pc := 392) hC 407 dL_law_392 (by decide) (fun _ => hend) (fun c0 => ?_)
  refine j_aload_n (pc := 395) hC 3 5 dL_law_395 rfl rfl ?_
  refine j_iconst (pc := 396) hC (0 : Int32) dL_law_396 (by decide) ?_
  refine j_lald (pc := 397) hC dL_law_397 k9 n9 (by unfold vp_in; decide) (v := μ2.2 224 0) rfl ?_
  refine j_iload (pc := 398) hC 0 dL_law_398 rfl ?_
  refine j_i2l (pc := 400) hC dL_law_400 ?_
  refine j_lcmp (pc := 401) hC dL_law_401 ?_
  rw [F5_val hF c0, lg_cmp_self]
  exact j_if_eq (pc := 402) hC 407 dL_law_402 (by decide) (fun _ => hend) (fun c => absurd rfl c)
set_option maxHeartbeats 4000000 in
theorem lc_4 {X : jX} {G : jG} {L : jL} {b Ln : Nat} {xs : Nat → Int32} (hw : jLw X G L b Ln xs) {i : Int32} (hi : ∀ k : Int32, 0 ≤ k → k < 5 → vp_in (i + k) Ln) {kc ks : Nat} (hk : kc + 1 ≤ 601024 ∧ ks + 6 ≤ 7293034) {Q : State → Prop} {μ : jM} (hr : Rel μ) (kk : ∀ μ2, Rel μ2 → jJ X G 8 L (kc + 1) (ks + 6) Q 1675 (lwlv b L i) [] μ2) : jJ X G 8 L kc ks Q 410 (lwlv b L i) [] μ := by
  obtain ⟨hC, h5, hR, hs, hX, hbl, hbA, hL⟩ := hw
  have k0 : jK L 0 11 := jK_of hL 0 11 (by decide +kernel)
  have k1 : jK L 201 12 := jK_of hL 201 12 (by decide +kernel)
  have k9 : jK L 224 14 := jK_of hL 224 14 (by decide +kernel)
  have n9 : (L.2.1 224).2.1 = 1 := by rw [jlen_ok hL]; decide +kernel
  obtain ⟨w, hg, hw5⟩ := sim_pair hr (xs (i + (1 : Int32)).toNatClampNeg) (xs (i + (2 : Int32)).toNatClampNeg)
  obtain ⟨r, μ2, e2, hF⟩ := hw5 _ (hO_ou hr (w.map Int32.toInt64))
  unfold lwlv at *
  refine j_aload_n (pc := 410) hC 1 1 dL_law_410 rfl rfl ?_
  refine j_aload_n (pc := 411) hC 0 0 dL_law_411 rfl rfl ?_
  refine j_iload (pc := 412) hC 4 dL_law_412 rfl ?_
  refine j_iconst (pc := 414) hC (1 : Int32) dL_law_414 (by decide) ?_
  refine j_iadd (pc := 415) hC dL_law_415 ?_
  refine j_qld (pc := 416) hC hX hbl hbA (hi (1 : Int32) (by decide) (by decide)) dL_law_416 ?_
  refine j_aload_n (pc := 417) hC 0 0 dL_law_417 rfl rfl ?_
  refine j_iload (pc := 418) hC 4 dL_law_418 rfl ?_
  refine j_iconst (pc := 420) hC (2 : Int32) dL_law_420 (by decide) ?_
  refine j_iadd (pc := 421) hC dL_law_421 ?_
  refine j_qld (pc := 422) hC hX hbl hbA (hi (2 : Int32) (by decide) (by decide)) dL_law_422 ?_
  refine j_aload_n (pc := 423) hC 3 3 dL_law_423 rfl rfl ?_
  refine j_cH (n := 4) (pc := 424) hC h5 hR [.ref (L.2.2 0), .int (xs (i + (1 : Int32)).toNatClampNeg), .int (xs (i + (2 : Int32)).toNatClampNeg), .ref (L.2.2 224)] (cH_pair hs hL hg) kLw_pair kLs_pair kL_i ⟨by decide +kernel, by decide +kernel, by decide +kernel⟩ km_L_55 dL_law_424 rfl (by decide) (by decide) (Nat.le_of_ble_eq_true rfl) hk rfl ?_
  refine j_istore (pc := 427) hC [(5, .int (hB w)), (0, .ref b), (1, .ref (L.2.2 0)), (2, .ref (L.2.2 201)), (3, .ref (L.2.2 224)), (4, .int i)] dL_law_427 (by decide) rfl rfl ?_
  refine j_aload_n (pc := 429) hC 2 3 dL_law_429 rfl rfl ?_
  refine j_aload_n (pc := 430) hC 0 1 dL_law_430 rfl rfl ?_
  refine j_iload (pc := 431) hC 5 dL_law_431 rfl ?_
  refine j_iconst (pc := 433) hC (1 : Int32) dL_law_433 (by decide) ?_
  refine j_iadd (pc := 434) hC dL_law_434 ?_
  refine j_qld (pc := 435) hC hX hbl hbA (hi (1 : Int32) (by decide) (by decide)) dL_law_435 ?_
  refine j_aload_n (pc := 436) hC 0 1 dL_law_436 rfl rfl ?_
  refine j_iload (pc := 437) hC 5 dL_law_437 rfl ?_
  refine j_iconst (pc := 439) hC (2 : Int32) dL_law_439 (by decide) ?_
  refine j_iadd (pc := 440) hC dL_law_440 ?_
  refine j_qld (pc := 441) hC hX hbl hbA (hi (2 : Int32) (by decide) (by decide)) dL_law_441 ?_
  refine j_vL (pc := 442) hC hR [.int (xs (i + (1 : Int32)).toNatClampNeg), .int (xs (i + (2 : Int32)).toNatClampNeg)] (c_X12_pair hL k1 e2) iy_X12_pair (q := (RX12, TX12, 40)) (ci := 12) rfl rfl (by decide) k1 km_L_58 dL_law_442 rfl (by decide) (Nat.le_of_ble_eq_true rfl) (Nat.le_of_ble_eq_true rfl) ⟨hk.1, hk.2⟩ rfl ?_
  refine j_istore (pc := 445) hC [(6, .int r), (5, .int (hB w)), (0, .ref b), (1, .ref (L.2.2 0)), (2, .ref (L.2.2 201)), (3, .ref (L.2.2 224)), (4, .int i)] dL_law_445 (by decide) rfl rfl ?_
  refine j_aload_n (pc := 447) hC 2 4 dL_law_447 rfl rfl ?_
  refine j_vL (pc := 448) hC hR [] (c_X12_thrown hL k1 (F5_thr hF)) iy_X12_thrown (q := (RX12, TX12, 40)) (ci := 12) rfl rfl (by decide) k1 km_L_48 dL_law_448 rfl (by decide) (Nat.le_of_ble_eq_true rfl) (Nat.le_of_ble_eq_true rfl) ⟨hk.1, hk.2⟩ rfl ?_
  refine j_iload (pc := 451) hC 1 dL_law_451 rfl ?_
  refine j_icmp_eq (pc := 453) hC 458 dL_law_453 (by decide) (fun _ => ?_) (fun c => absurd rfl c)
  refine j_iload (pc := 458) hC 1 dL_law_458 rfl ?_
  have hend : jJ X G 8 L (kc + 1) (ks + 6) Q 475 [(6, .int r), (5, .int (hB w)), (0, .ref b), (1, .ref (L.2.2 0)), (2, .ref (L.2.2 201)), (3, .ref (L.2.2 224)), (4, .int i)] [] μ2 := by
    refine j_goto (pc := 475) hC 1675 dL_law_475 (by decide) ?_
    exact j_lv [2, 3, 4, 5, 6] rfl (kk _ hF.1)
  refine j_if_ne (pc := 460) hC 475 dL_law_460 (by decide) (fun _ => hend) (fun c0 => ?_)
  refine j_aload_n (pc := 463) hC 3 5 dL_law_463 rfl rfl ?_
  refine j_iconst (pc := 464) hC (0 : Int32) dL_law_464 (by decide) ?_
  refine j_lald (pc := 465) hC dL_law_465 k9 n9 (by unfold vp_in; decide) (v := μ2.2 224 0) rfl ?_
  refine j_iload (pc := 466) hC 0 dL_law_466 rfl ?_
  refine j_i2l (pc := 468) hC dL_law_468 ?_
  refine j_lcmp (pc := 469) hC dL_law_469 ?_
  rw [F5_val hF c0, lg_cmp_self]
  exact j_if_eq (pc := 470) hC 475 dL_law_470 (by decide) (fun _ => hend) (fun c => absurd rfl c)
set_option maxHeartbeats 4000000 in
theorem lc_5 {X : jX} {G : jG} {L : jL} {b Ln : Nat} {xs : Nat → Int32} (hw : jLw X G L b Ln xs) {i : Int32} (hi : ∀ k : Int32, 0 ≤ k → k < 5 → vp_in (i + k) Ln) {kc ks : Nat} (hk : kc + 1 ≤ 601024 ∧ ks + 6 ≤ 7293034) {Q : State → Prop} {μ : jM} (hr : Rel μ) (kk : ∀ μ2, Rel μ2 → jJ X G 8 L (kc + 1) (ks + 6) Q 1675 (lwlv b L i) [] μ2) : jJ X G 8 L kc ks Q 478 (lwlv b L i) [] μ := by
  obtain ⟨hC, h5, hR, hs, hX, hbl, hbA, hL⟩ := hw
  have k0 : jK L 0 11 := jK_of hL 0 11 (by decide +kernel)
  have k1 : jK L 201 12 := jK_of hL 201 12 (by decide +kernel)
  have k9 : jK L 224 14 := jK_of hL 224 14 (by decide +kernel)
  have n9 : (L.2.1 224).2.1 = 1 := by rw [jlen_ok hL]; decide +kernel
  obtain ⟨w, hg, hw5⟩ := sim_constraint hr (xs (i + (1 : Int32)).toNatClampNeg) (xs (i + (2 : Int32)).toNatClampNeg)
  obtain ⟨r, μ2, e2, hF⟩ := hw5 _ (hO_ou hr (w.map Int32.toInt64))
  unfold lwlv at *
  refine j_aload_n (pc := 478) hC 1 1 dL_law_478 rfl rfl ?_
  refine j_aload_n (pc := 479) hC 0 0 dL_law_479 rfl rfl ?_
  refine j_iload (pc := 480) hC 4 dL_law_480 rfl ?_
  refine j_iconst (pc := 482) hC (1 : Int32) dL_law_482 (by decide) ?_
  refine j_iadd (pc := 483) hC dL_law_483 ?_
  refine j_qld (pc := 484) hC hX hbl hbA (hi (1 : Int32) (by decide) (by decide)) dL_law_484 ?_
  refine j_aload_n (pc := 485) hC 0 0 dL_law_485 rfl rfl ?_
  refine j_iload (pc := 486) hC 4 dL_law_486 rfl ?_
  refine j_iconst (pc := 488) hC (2 : Int32) dL_law_488 (by decide) ?_
  refine j_iadd (pc := 489) hC dL_law_489 ?_
  refine j_qld (pc := 490) hC hX hbl hbA (hi (2 : Int32) (by decide) (by decide)) dL_law_490 ?_
  refine j_aload_n (pc := 491) hC 3 3 dL_law_491 rfl rfl ?_
  refine j_cH (n := 4) (pc := 492) hC h5 hR [.ref (L.2.2 0), .int (xs (i + (1 : Int32)).toNatClampNeg), .int (xs (i + (2 : Int32)).toNatClampNeg), .ref (L.2.2 224)] (cH_constraint hs hL hg) kLw_constraint kLs_constraint kL_i ⟨by decide +kernel, by decide +kernel, by decide +kernel⟩ km_L_59 dL_law_492 rfl (by decide) (by decide) (Nat.le_of_ble_eq_true rfl) hk rfl ?_
  refine j_istore (pc := 495) hC [(5, .int (hB w)), (0, .ref b), (1, .ref (L.2.2 0)), (2, .ref (L.2.2 201)), (3, .ref (L.2.2 224)), (4, .int i)] dL_law_495 (by decide) rfl rfl ?_
  refine j_aload_n (pc := 497) hC 2 3 dL_law_497 rfl rfl ?_
  refine j_aload_n (pc := 498) hC 0 1 dL_law_498 rfl rfl ?_
  refine j_iload (pc := 499) hC 5 dL_law_499 rfl ?_
  refine j_iconst (pc := 501) hC (1 : Int32) dL_law_501 (by decide) ?_
  refine j_iadd (pc := 502) hC dL_law_502 ?_
  refine j_qld (pc := 503) hC hX hbl hbA (hi (1 : Int32) (by decide) (by decide)) dL_law_503 ?_
  refine j_aload_n (pc := 504) hC 0 1 dL_law_504 rfl rfl ?_
  refine j_iload (pc := 505) hC 5 dL_law_505 rfl ?_
  refine j_iconst (pc := 507) hC (2 : Int32) dL_law_507 (by decide) ?_
  refine j_iadd (pc := 508) hC dL_law_508 ?_
  refine j_qld (pc := 509) hC hX hbl hbA (hi (2 : Int32) (by decide) (by decide)) dL_law_509 ?_
  refine j_vL (pc := 510) hC hR [.int (xs (i + (1 : Int32)).toNatClampNeg), .int (xs (i + (2 : Int32)).toNatClampNeg)] (c_X12_constraint hL k1 e2) iy_X12_constraint (q := (RX12, TX12, 40)) (ci := 12) rfl rfl (by decide) k1 km_L_61 dL_law_510 rfl (by decide) (Nat.le_of_ble_eq_true rfl) (Nat.le_of_ble_eq_true rfl) ⟨hk.1, hk.2⟩ rfl ?_
  refine j_istore (pc := 513) hC [(6, .int r), (5, .int (hB w)), (0, .ref b), (1, .ref (L.2.2 0)), (2, .ref (L.2.2 201)), (3, .ref (L.2.2 224)), (4, .int i)] dL_law_513 (by decide) rfl rfl ?_
  refine j_aload_n (pc := 515) hC 2 4 dL_law_515 rfl rfl ?_
  refine j_vL (pc := 516) hC hR [] (c_X12_thrown hL k1 (F5_thr hF)) iy_X12_thrown (q := (RX12, TX12, 40)) (ci := 12) rfl rfl (by decide) k1 km_L_48 dL_law_516 rfl (by decide) (Nat.le_of_ble_eq_true rfl) (Nat.le_of_ble_eq_true rfl) ⟨hk.1, hk.2⟩ rfl ?_
  refine j_iload (pc := 519) hC 1 dL_law_519 rfl ?_
  refine j_icmp_eq (pc := 521) hC 526 dL_law_521 (by decide) (fun _ => ?_) (fun c => absurd rfl c)
  refine j_iload (pc := 526) hC 1 dL_law_526 rfl ?_
  have hend : jJ X G 8 L (kc + 1) (ks + 6) Q 543 [(6, .int r), (5, .int (hB w)), (0, .ref b), (1, .ref (L.2.2 0)), (2, .ref (L.2.2 201)), (3, .ref (L.2.2 224)), (4, .int i)] [] μ2 := by
    refine j_goto (pc := 543) hC 1675 dL_law_543 (by decide) ?_
    exact j_lv [2, 3, 4, 5, 6] rfl (kk _ hF.1)
  refine j_if_ne (pc := 528) hC 543 dL_law_528 (by decide) (fun _ => hend) (fun c0 => ?_)
  refine j_aload_n (pc := 531) hC 3 5 dL_law_531 rfl rfl ?_
  refine j_iconst (pc := 532) hC (0 : Int32) dL_law_532 (by decide) ?_
  refine j_lald (pc := 533) hC dL_law_533 k9 n9 (by unfold vp_in; decide) (v := μ2.2 224 0) rfl ?_
  refine j_iload (pc := 534) hC 0 dL_law_534 rfl ?_
  refine j_i2l (pc := 536) hC dL_law_536 ?_
  refine j_lcmp (pc := 537) hC dL_law_537 ?_
  rw [F5_val hF c0, lg_cmp_self]
  exact j_if_eq (pc := 538) hC 543 dL_law_538 (by decide) (fun _ => hend) (fun c => absurd rfl c)
set_option maxHeartbeats 4000000 in
theorem lc_6 {X : jX} {G : jG} {L : jL} {b Ln : Nat} {xs : Nat → Int32} (hw : jLw X G L b Ln xs) {i : Int32} (hi : ∀ k : Int32, 0 ≤ k → k < 5 → vp_in (i + k) Ln) {kc ks : Nat} (hk : kc + 1 ≤ 601024 ∧ ks + 6 ≤ 7293034) {Q : State → Prop} {μ : jM} (hr : Rel μ) (kk : ∀ μ2, Rel μ2 → jJ X G 8 L (kc + 1) (ks + 6) Q 1675 (lwlv b L i) [] μ2) : jJ X G 8 L kc ks Q 546 (lwlv b L i) [] μ := by
  obtain ⟨hC, h5, hR, hs, hX, hbl, hbA, hL⟩ := hw
  have k0 : jK L 0 11 := jK_of hL 0 11 (by decide +kernel)
  have k1 : jK L 201 12 := jK_of hL 201 12 (by decide +kernel)
  obtain ⟨r, μ1, μ2, e1, e2, hr2⟩ := sim_sheet hr (xs (i + (1 : Int32)).toNatClampNeg) (xs (i + (2 : Int32)).toNatClampNeg) (xs (i + (3 : Int32)).toNatClampNeg) (xs (i + (4 : Int32)).toNatClampNeg)
  unfold lwlv at *
  refine j_widen (Nat.le_succ kc) (Nat.le_add_right ks 6) ?_
  refine j_aload_n (pc := 546) hC 1 1 dL_law_546 rfl rfl ?_
  refine j_aload_n (pc := 547) hC 0 0 dL_law_547 rfl rfl ?_
  refine j_iload (pc := 548) hC 4 dL_law_548 rfl ?_
  refine j_iconst (pc := 550) hC (1 : Int32) dL_law_550 (by decide) ?_
  refine j_iadd (pc := 551) hC dL_law_551 ?_
  refine j_qld (pc := 552) hC hX hbl hbA (hi (1 : Int32) (by decide) (by decide)) dL_law_552 ?_
  refine j_aload_n (pc := 553) hC 0 0 dL_law_553 rfl rfl ?_
  refine j_iload (pc := 554) hC 4 dL_law_554 rfl ?_
  refine j_iconst (pc := 556) hC (2 : Int32) dL_law_556 (by decide) ?_
  refine j_iadd (pc := 557) hC dL_law_557 ?_
  refine j_qld (pc := 558) hC hX hbl hbA (hi (2 : Int32) (by decide) (by decide)) dL_law_558 ?_
  refine j_aload_n (pc := 559) hC 0 0 dL_law_559 rfl rfl ?_
  refine j_iload (pc := 560) hC 4 dL_law_560 rfl ?_
  refine j_iconst (pc := 562) hC (3 : Int32) dL_law_562 (by decide) ?_
  refine j_iadd (pc := 563) hC dL_law_563 ?_
  refine j_qld (pc := 564) hC hX hbl hbA (hi (3 : Int32) (by decide) (by decide)) dL_law_564 ?_
  refine j_aload_n (pc := 565) hC 0 0 dL_law_565 rfl rfl ?_
  refine j_iload (pc := 566) hC 4 dL_law_566 rfl ?_
  refine j_iconst (pc := 568) hC (4 : Int32) dL_law_568 (by decide) ?_
  refine j_iadd (pc := 569) hC dL_law_569 ?_
  refine j_qld (pc := 570) hC hX hbl hbA (hi (4 : Int32) (by decide) (by decide)) dL_law_570 ?_
  refine j_vL (pc := 571) hC hR [.int (xs (i + (1 : Int32)).toNatClampNeg), .int (xs (i + (2 : Int32)).toNatClampNeg), .int (xs (i + (3 : Int32)).toNatClampNeg), .int (xs (i + (4 : Int32)).toNatClampNeg)] (c_X11_sheet hL k0 e1) iy_X11_sheet (q := (RX11, TX11, 15)) (ci := 11) rfl rfl (by decide) k0 km_L_62 dL_law_571 rfl (by decide) (Nat.le_of_ble_eq_true rfl) (Nat.le_of_ble_eq_true rfl) ⟨hk.1, hk.2⟩ rfl ?_
  refine j_aload_n (pc := 574) hC 2 2 dL_law_574 rfl rfl ?_
  refine j_aload_n (pc := 575) hC 0 0 dL_law_575 rfl rfl ?_
  refine j_iload (pc := 576) hC 4 dL_law_576 rfl ?_
  refine j_iconst (pc := 578) hC (1 : Int32) dL_law_578 (by decide) ?_
  refine j_iadd (pc := 579) hC dL_law_579 ?_
  refine j_qld (pc := 580) hC hX hbl hbA (hi (1 : Int32) (by decide) (by decide)) dL_law_580 ?_
  refine j_aload_n (pc := 581) hC 0 0 dL_law_581 rfl rfl ?_
  refine j_iload (pc := 582) hC 4 dL_law_582 rfl ?_
  refine j_iconst (pc := 584) hC (2 : Int32) dL_law_584 (by decide) ?_
  refine j_iadd (pc := 585) hC dL_law_585 ?_
  refine j_qld (pc := 586) hC hX hbl hbA (hi (2 : Int32) (by decide) (by decide)) dL_law_586 ?_
  refine j_aload_n (pc := 587) hC 0 0 dL_law_587 rfl rfl ?_
  refine j_iload (pc := 588) hC 4 dL_law_588 rfl ?_
  refine j_iconst (pc := 590) hC (3 : Int32) dL_law_590 (by decide) ?_
  refine j_iadd (pc := 591) hC dL_law_591 ?_
  refine j_qld (pc := 592) hC hX hbl hbA (hi (3 : Int32) (by decide) (by decide)) dL_law_592 ?_
  refine j_aload_n (pc := 593) hC 0 0 dL_law_593 rfl rfl ?_
  refine j_iload (pc := 594) hC 4 dL_law_594 rfl ?_
  refine j_iconst (pc := 596) hC (4 : Int32) dL_law_596 (by decide) ?_
  refine j_iadd (pc := 597) hC dL_law_597 ?_
  refine j_qld (pc := 598) hC hX hbl hbA (hi (4 : Int32) (by decide) (by decide)) dL_law_598 ?_
  refine j_vL (pc := 599) hC hR [.int (xs (i + (1 : Int32)).toNatClampNeg), .int (xs (i + (2 : Int32)).toNatClampNeg), .int (xs (i + (3 : Int32)).toNatClampNeg), .int (xs (i + (4 : Int32)).toNatClampNeg)] (c_X12_sheet hL k1 e2) iy_X12_sheet (q := (RX12, TX12, 40)) (ci := 12) rfl rfl (by decide) k1 km_L_66 dL_law_599 rfl (by decide) (Nat.le_of_ble_eq_true rfl) (Nat.le_of_ble_eq_true rfl) ⟨hk.1, hk.2⟩ rfl ?_
  exact j_icmp_eq (pc := 602) hC 1675 dL_law_602 (by decide) (fun _ => kk _ hr2) (fun c => absurd rfl c)
set_option maxHeartbeats 4000000 in
theorem lc_7 {X : jX} {G : jG} {L : jL} {b Ln : Nat} {xs : Nat → Int32} (hw : jLw X G L b Ln xs) {i : Int32} (hi : ∀ k : Int32, 0 ≤ k → k < 5 → vp_in (i + k) Ln) {kc ks : Nat} (hk : kc + 1 ≤ 601024 ∧ ks + 6 ≤ 7293034) {Q : State → Prop} {μ : jM} (hr : Rel μ) (kk : ∀ μ2, Rel μ2 → jJ X G 8 L (kc + 1) (ks + 6) Q 1675 (lwlv b L i) [] μ2) : jJ X G 8 L kc ks Q 607 (lwlv b L i) [] μ := by
  obtain ⟨hC, h5, hR, hs, hX, hbl, hbA, hL⟩ := hw
  have k0 : jK L 0 11 := jK_of hL 0 11 (by decide +kernel)
  have k1 : jK L 201 12 := jK_of hL 201 12 (by decide +kernel)
  obtain ⟨r, μ1, μ2, e1, e2, hr2⟩ := sim_sets hr (xs (i + (1 : Int32)).toNatClampNeg) (xs (i + (2 : Int32)).toNatClampNeg)
  unfold lwlv at *
  refine j_widen (Nat.le_succ kc) (Nat.le_add_right ks 6) ?_
  refine j_aload_n (pc := 607) hC 1 1 dL_law_607 rfl rfl ?_
  refine j_aload_n (pc := 608) hC 0 0 dL_law_608 rfl rfl ?_
  refine j_iload (pc := 609) hC 4 dL_law_609 rfl ?_
  refine j_iconst (pc := 611) hC (1 : Int32) dL_law_611 (by decide) ?_
  refine j_iadd (pc := 612) hC dL_law_612 ?_
  refine j_qld (pc := 613) hC hX hbl hbA (hi (1 : Int32) (by decide) (by decide)) dL_law_613 ?_
  refine j_aload_n (pc := 614) hC 0 0 dL_law_614 rfl rfl ?_
  refine j_iload (pc := 615) hC 4 dL_law_615 rfl ?_
  refine j_iconst (pc := 617) hC (2 : Int32) dL_law_617 (by decide) ?_
  refine j_iadd (pc := 618) hC dL_law_618 ?_
  refine j_qld (pc := 619) hC hX hbl hbA (hi (2 : Int32) (by decide) (by decide)) dL_law_619 ?_
  refine j_vL (pc := 620) hC hR [.int (xs (i + (1 : Int32)).toNatClampNeg), .int (xs (i + (2 : Int32)).toNatClampNeg)] (c_X11_sets hL k0 e1) iy_X11_sets (q := (RX11, TX11, 15)) (ci := 11) rfl rfl (by decide) k0 km_L_67 dL_law_620 rfl (by decide) (Nat.le_of_ble_eq_true rfl) (Nat.le_of_ble_eq_true rfl) ⟨hk.1, hk.2⟩ rfl ?_
  refine j_aload_n (pc := 623) hC 2 2 dL_law_623 rfl rfl ?_
  refine j_aload_n (pc := 624) hC 0 0 dL_law_624 rfl rfl ?_
  refine j_iload (pc := 625) hC 4 dL_law_625 rfl ?_
  refine j_iconst (pc := 627) hC (1 : Int32) dL_law_627 (by decide) ?_
  refine j_iadd (pc := 628) hC dL_law_628 ?_
  refine j_qld (pc := 629) hC hX hbl hbA (hi (1 : Int32) (by decide) (by decide)) dL_law_629 ?_
  refine j_aload_n (pc := 630) hC 0 0 dL_law_630 rfl rfl ?_
  refine j_iload (pc := 631) hC 4 dL_law_631 rfl ?_
  refine j_iconst (pc := 633) hC (2 : Int32) dL_law_633 (by decide) ?_
  refine j_iadd (pc := 634) hC dL_law_634 ?_
  refine j_qld (pc := 635) hC hX hbl hbA (hi (2 : Int32) (by decide) (by decide)) dL_law_635 ?_
  refine j_vL (pc := 636) hC hR [.int (xs (i + (1 : Int32)).toNatClampNeg), .int (xs (i + (2 : Int32)).toNatClampNeg)] (c_X12_sets hL k1 e2) iy_X12_sets (q := (RX12, TX12, 40)) (ci := 12) rfl rfl (by decide) k1 km_L_70 dL_law_636 rfl (by decide) (Nat.le_of_ble_eq_true rfl) (Nat.le_of_ble_eq_true rfl) ⟨hk.1, hk.2⟩ rfl ?_
  exact j_icmp_eq (pc := 639) hC 1675 dL_law_639 (by decide) (fun _ => kk _ hr2) (fun c => absurd rfl c)
set_option maxHeartbeats 4000000 in
theorem lc_8 {X : jX} {G : jG} {L : jL} {b Ln : Nat} {xs : Nat → Int32} (hw : jLw X G L b Ln xs) {i : Int32} (hi : ∀ k : Int32, 0 ≤ k → k < 5 → vp_in (i + k) Ln) {kc ks : Nat} (hk : kc + 1 ≤ 601024 ∧ ks + 6 ≤ 7293034) {Q : State → Prop} {μ : jM} (hr : Rel μ) (kk : ∀ μ2, Rel μ2 → jJ X G 8 L (kc + 1) (ks + 6) Q 1675 (lwlv b L i) [] μ2) : jJ X G 8 L kc ks Q 644 (lwlv b L i) [] μ := by
  obtain ⟨hC, h5, hR, hs, hX, hbl, hbA, hL⟩ := hw
  have k0 : jK L 0 11 := jK_of hL 0 11 (by decide +kernel)
  have k1 : jK L 201 12 := jK_of hL 201 12 (by decide +kernel)
  obtain ⟨r, μ1, μ2, e1, e2, hr2⟩ := sim_adds hr (xs (i + (1 : Int32)).toNatClampNeg) (xs (i + (2 : Int32)).toNatClampNeg)
  unfold lwlv at *
  refine j_widen (Nat.le_succ kc) (Nat.le_add_right ks 6) ?_
  refine j_aload_n (pc := 644) hC 1 1 dL_law_644 rfl rfl ?_
  refine j_aload_n (pc := 645) hC 0 0 dL_law_645 rfl rfl ?_
  refine j_iload (pc := 646) hC 4 dL_law_646 rfl ?_
  refine j_iconst (pc := 648) hC (1 : Int32) dL_law_648 (by decide) ?_
  refine j_iadd (pc := 649) hC dL_law_649 ?_
  refine j_qld (pc := 650) hC hX hbl hbA (hi (1 : Int32) (by decide) (by decide)) dL_law_650 ?_
  refine j_aload_n (pc := 651) hC 0 0 dL_law_651 rfl rfl ?_
  refine j_iload (pc := 652) hC 4 dL_law_652 rfl ?_
  refine j_iconst (pc := 654) hC (2 : Int32) dL_law_654 (by decide) ?_
  refine j_iadd (pc := 655) hC dL_law_655 ?_
  refine j_qld (pc := 656) hC hX hbl hbA (hi (2 : Int32) (by decide) (by decide)) dL_law_656 ?_
  refine j_vL (pc := 657) hC hR [.int (xs (i + (1 : Int32)).toNatClampNeg), .int (xs (i + (2 : Int32)).toNatClampNeg)] (c_X11_adds hL k0 e1) iy_X11_adds (q := (RX11, TX11, 15)) (ci := 11) rfl rfl (by decide) k0 km_L_71 dL_law_657 rfl (by decide) (Nat.le_of_ble_eq_true rfl) (Nat.le_of_ble_eq_true rfl) ⟨hk.1, hk.2⟩ rfl ?_
  refine j_aload_n (pc := 660) hC 2 2 dL_law_660 rfl rfl ?_
  refine j_aload_n (pc := 661) hC 0 0 dL_law_661 rfl rfl ?_
  refine j_iload (pc := 662) hC 4 dL_law_662 rfl ?_
  refine j_iconst (pc := 664) hC (1 : Int32) dL_law_664 (by decide) ?_
  refine j_iadd (pc := 665) hC dL_law_665 ?_
  refine j_qld (pc := 666) hC hX hbl hbA (hi (1 : Int32) (by decide) (by decide)) dL_law_666 ?_
  refine j_aload_n (pc := 667) hC 0 0 dL_law_667 rfl rfl ?_
  refine j_iload (pc := 668) hC 4 dL_law_668 rfl ?_
  refine j_iconst (pc := 670) hC (2 : Int32) dL_law_670 (by decide) ?_
  refine j_iadd (pc := 671) hC dL_law_671 ?_
  refine j_qld (pc := 672) hC hX hbl hbA (hi (2 : Int32) (by decide) (by decide)) dL_law_672 ?_
  refine j_vL (pc := 673) hC hR [.int (xs (i + (1 : Int32)).toNatClampNeg), .int (xs (i + (2 : Int32)).toNatClampNeg)] (c_X12_adds hL k1 e2) iy_X12_adds (q := (RX12, TX12, 40)) (ci := 12) rfl rfl (by decide) k1 km_L_74 dL_law_673 rfl (by decide) (Nat.le_of_ble_eq_true rfl) (Nat.le_of_ble_eq_true rfl) ⟨hk.1, hk.2⟩ rfl ?_
  exact j_icmp_eq (pc := 676) hC 1675 dL_law_676 (by decide) (fun _ => kk _ hr2) (fun c => absurd rfl c)
set_option maxHeartbeats 4000000 in
theorem lc_9 {X : jX} {G : jG} {L : jL} {b Ln : Nat} {xs : Nat → Int32} (hw : jLw X G L b Ln xs) {i : Int32} (hi : ∀ k : Int32, 0 ≤ k → k < 5 → vp_in (i + k) Ln) {kc ks : Nat} (hk : kc + 1 ≤ 601024 ∧ ks + 6 ≤ 7293034) {Q : State → Prop} {μ : jM} (hr : Rel μ) (kk : ∀ μ2, Rel μ2 → jJ X G 8 L (kc + 1) (ks + 6) Q 1675 (lwlv b L i) [] μ2) : jJ X G 8 L kc ks Q 681 (lwlv b L i) [] μ := by
  obtain ⟨hC, h5, hR, hs, hX, hbl, hbA, hL⟩ := hw
  have k0 : jK L 0 11 := jK_of hL 0 11 (by decide +kernel)
  have k1 : jK L 201 12 := jK_of hL 201 12 (by decide +kernel)
  obtain ⟨r, μ1, μ2, e1, e2, hr2⟩ := sim_removes hr (xs (i + (1 : Int32)).toNatClampNeg) (xs (i + (2 : Int32)).toNatClampNeg)
  unfold lwlv at *
  refine j_widen (Nat.le_succ kc) (Nat.le_add_right ks 6) ?_
  refine j_aload_n (pc := 681) hC 1 1 dL_law_681 rfl rfl ?_
  refine j_aload_n (pc := 682) hC 0 0 dL_law_682 rfl rfl ?_
  refine j_iload (pc := 683) hC 4 dL_law_683 rfl ?_
  refine j_iconst (pc := 685) hC (1 : Int32) dL_law_685 (by decide) ?_
  refine j_iadd (pc := 686) hC dL_law_686 ?_
  refine j_qld (pc := 687) hC hX hbl hbA (hi (1 : Int32) (by decide) (by decide)) dL_law_687 ?_
  refine j_aload_n (pc := 688) hC 0 0 dL_law_688 rfl rfl ?_
  refine j_iload (pc := 689) hC 4 dL_law_689 rfl ?_
  refine j_iconst (pc := 691) hC (2 : Int32) dL_law_691 (by decide) ?_
  refine j_iadd (pc := 692) hC dL_law_692 ?_
  refine j_qld (pc := 693) hC hX hbl hbA (hi (2 : Int32) (by decide) (by decide)) dL_law_693 ?_
  refine j_vL (pc := 694) hC hR [.int (xs (i + (1 : Int32)).toNatClampNeg), .int (xs (i + (2 : Int32)).toNatClampNeg)] (c_X11_removes hL k0 e1) iy_X11_removes (q := (RX11, TX11, 15)) (ci := 11) rfl rfl (by decide) k0 km_L_75 dL_law_694 rfl (by decide) (Nat.le_of_ble_eq_true rfl) (Nat.le_of_ble_eq_true rfl) ⟨hk.1, hk.2⟩ rfl ?_
  refine j_aload_n (pc := 697) hC 2 2 dL_law_697 rfl rfl ?_
  refine j_aload_n (pc := 698) hC 0 0 dL_law_698 rfl rfl ?_
  refine j_iload (pc := 699) hC 4 dL_law_699 rfl ?_
  refine j_iconst (pc := 701) hC (1 : Int32) dL_law_701 (by decide) ?_
  refine j_iadd (pc := 702) hC dL_law_702 ?_
  refine j_qld (pc := 703) hC hX hbl hbA (hi (1 : Int32) (by decide) (by decide)) dL_law_703 ?_
  refine j_aload_n (pc := 704) hC 0 0 dL_law_704 rfl rfl ?_
  refine j_iload (pc := 705) hC 4 dL_law_705 rfl ?_
  refine j_iconst (pc := 707) hC (2 : Int32) dL_law_707 (by decide) ?_
  refine j_iadd (pc := 708) hC dL_law_708 ?_
  refine j_qld (pc := 709) hC hX hbl hbA (hi (2 : Int32) (by decide) (by decide)) dL_law_709 ?_
  refine j_vL (pc := 710) hC hR [.int (xs (i + (1 : Int32)).toNatClampNeg), .int (xs (i + (2 : Int32)).toNatClampNeg)] (c_X12_removes hL k1 e2) iy_X12_removes (q := (RX12, TX12, 40)) (ci := 12) rfl rfl (by decide) k1 km_L_78 dL_law_710 rfl (by decide) (Nat.le_of_ble_eq_true rfl) (Nat.le_of_ble_eq_true rfl) ⟨hk.1, hk.2⟩ rfl ?_
  exact j_icmp_eq (pc := 713) hC 1675 dL_law_713 (by decide) (fun _ => kk _ hr2) (fun c => absurd rfl c)
set_option maxHeartbeats 4000000 in
theorem lc_10 {X : jX} {G : jG} {L : jL} {b Ln : Nat} {xs : Nat → Int32} (hw : jLw X G L b Ln xs) {i : Int32} (hi : ∀ k : Int32, 0 ≤ k → k < 5 → vp_in (i + k) Ln) {kc ks : Nat} (hk : kc + 1 ≤ 601024 ∧ ks + 6 ≤ 7293034) {Q : State → Prop} {μ : jM} (hr : Rel μ) (kk : ∀ μ2, Rel μ2 → jJ X G 8 L (kc + 1) (ks + 6) Q 1675 (lwlv b L i) [] μ2) : jJ X G 8 L kc ks Q 718 (lwlv b L i) [] μ := by
  obtain ⟨hC, h5, hR, hs, hX, hbl, hbA, hL⟩ := hw
  have k0 : jK L 0 11 := jK_of hL 0 11 (by decide +kernel)
  have k1 : jK L 201 12 := jK_of hL 201 12 (by decide +kernel)
  obtain ⟨r, μ1, μ2, e1, e2, hr2⟩ := sim_fixes hr (xs (i + (1 : Int32)).toNatClampNeg) (xs (i + (2 : Int32)).toNatClampNeg)
  unfold lwlv at *
  refine j_widen (Nat.le_succ kc) (Nat.le_add_right ks 6) ?_
  refine j_aload_n (pc := 718) hC 1 1 dL_law_718 rfl rfl ?_
  refine j_aload_n (pc := 719) hC 0 0 dL_law_719 rfl rfl ?_
  refine j_iload (pc := 720) hC 4 dL_law_720 rfl ?_
  refine j_iconst (pc := 722) hC (1 : Int32) dL_law_722 (by decide) ?_
  refine j_iadd (pc := 723) hC dL_law_723 ?_
  refine j_qld (pc := 724) hC hX hbl hbA (hi (1 : Int32) (by decide) (by decide)) dL_law_724 ?_
  refine j_aload_n (pc := 725) hC 0 0 dL_law_725 rfl rfl ?_
  refine j_iload (pc := 726) hC 4 dL_law_726 rfl ?_
  refine j_iconst (pc := 728) hC (2 : Int32) dL_law_728 (by decide) ?_
  refine j_iadd (pc := 729) hC dL_law_729 ?_
  refine j_qld (pc := 730) hC hX hbl hbA (hi (2 : Int32) (by decide) (by decide)) dL_law_730 ?_
  refine j_vL (pc := 731) hC hR [.int (xs (i + (1 : Int32)).toNatClampNeg), .int (xs (i + (2 : Int32)).toNatClampNeg)] (c_X11_fixes hL k0 e1) iy_X11_fixes (q := (RX11, TX11, 15)) (ci := 11) rfl rfl (by decide) k0 km_L_79 dL_law_731 rfl (by decide) (Nat.le_of_ble_eq_true rfl) (Nat.le_of_ble_eq_true rfl) ⟨hk.1, hk.2⟩ rfl ?_
  refine j_aload_n (pc := 734) hC 2 2 dL_law_734 rfl rfl ?_
  refine j_aload_n (pc := 735) hC 0 0 dL_law_735 rfl rfl ?_
  refine j_iload (pc := 736) hC 4 dL_law_736 rfl ?_
  refine j_iconst (pc := 738) hC (1 : Int32) dL_law_738 (by decide) ?_
  refine j_iadd (pc := 739) hC dL_law_739 ?_
  refine j_qld (pc := 740) hC hX hbl hbA (hi (1 : Int32) (by decide) (by decide)) dL_law_740 ?_
  refine j_aload_n (pc := 741) hC 0 0 dL_law_741 rfl rfl ?_
  refine j_iload (pc := 742) hC 4 dL_law_742 rfl ?_
  refine j_iconst (pc := 744) hC (2 : Int32) dL_law_744 (by decide) ?_
  refine j_iadd (pc := 745) hC dL_law_745 ?_
  refine j_qld (pc := 746) hC hX hbl hbA (hi (2 : Int32) (by decide) (by decide)) dL_law_746 ?_
  refine j_vL (pc := 747) hC hR [.int (xs (i + (1 : Int32)).toNatClampNeg), .int (xs (i + (2 : Int32)).toNatClampNeg)] (c_X12_fixes hL k1 e2) iy_X12_fixes (q := (RX12, TX12, 40)) (ci := 12) rfl rfl (by decide) k1 km_L_82 dL_law_747 rfl (by decide) (Nat.le_of_ble_eq_true rfl) (Nat.le_of_ble_eq_true rfl) ⟨hk.1, hk.2⟩ rfl ?_
  exact j_icmp_eq (pc := 750) hC 1675 dL_law_750 (by decide) (fun _ => kk _ hr2) (fun c => absurd rfl c)
set_option maxHeartbeats 4000000 in
theorem lc_11 {X : jX} {G : jG} {L : jL} {b Ln : Nat} {xs : Nat → Int32} (hw : jLw X G L b Ln xs) {i : Int32} (hi : ∀ k : Int32, 0 ≤ k → k < 5 → vp_in (i + k) Ln) {kc ks : Nat} (hk : kc + 1 ≤ 601024 ∧ ks + 6 ≤ 7293034) {Q : State → Prop} {μ : jM} (hr : Rel μ) (kk : ∀ μ2, Rel μ2 → jJ X G 8 L (kc + 1) (ks + 6) Q 1675 (lwlv b L i) [] μ2) : jJ X G 8 L kc ks Q 755 (lwlv b L i) [] μ := by
  obtain ⟨hC, h5, hR, hs, hX, hbl, hbA, hL⟩ := hw
  have k0 : jK L 0 11 := jK_of hL 0 11 (by decide +kernel)
  have k1 : jK L 201 12 := jK_of hL 201 12 (by decide +kernel)
  obtain ⟨r, μ1, μ2, e1, e2, hr2⟩ := sim_limits hr (xs (i + (1 : Int32)).toNatClampNeg) (xs (i + (2 : Int32)).toNatClampNeg) (xs (i + (3 : Int32)).toNatClampNeg)
  unfold lwlv at *
  refine j_widen (Nat.le_succ kc) (Nat.le_add_right ks 6) ?_
  refine j_aload_n (pc := 755) hC 1 1 dL_law_755 rfl rfl ?_
  refine j_aload_n (pc := 756) hC 0 0 dL_law_756 rfl rfl ?_
  refine j_iload (pc := 757) hC 4 dL_law_757 rfl ?_
  refine j_iconst (pc := 759) hC (1 : Int32) dL_law_759 (by decide) ?_
  refine j_iadd (pc := 760) hC dL_law_760 ?_
  refine j_qld (pc := 761) hC hX hbl hbA (hi (1 : Int32) (by decide) (by decide)) dL_law_761 ?_
  refine j_aload_n (pc := 762) hC 0 0 dL_law_762 rfl rfl ?_
  refine j_iload (pc := 763) hC 4 dL_law_763 rfl ?_
  refine j_iconst (pc := 765) hC (2 : Int32) dL_law_765 (by decide) ?_
  refine j_iadd (pc := 766) hC dL_law_766 ?_
  refine j_qld (pc := 767) hC hX hbl hbA (hi (2 : Int32) (by decide) (by decide)) dL_law_767 ?_
  refine j_aload_n (pc := 768) hC 0 0 dL_law_768 rfl rfl ?_
  refine j_iload (pc := 769) hC 4 dL_law_769 rfl ?_
  refine j_iconst (pc := 771) hC (3 : Int32) dL_law_771 (by decide) ?_
  refine j_iadd (pc := 772) hC dL_law_772 ?_
  refine j_qld (pc := 773) hC hX hbl hbA (hi (3 : Int32) (by decide) (by decide)) dL_law_773 ?_
  refine j_vL (pc := 774) hC hR [.int (xs (i + (1 : Int32)).toNatClampNeg), .int (xs (i + (2 : Int32)).toNatClampNeg), .int (xs (i + (3 : Int32)).toNatClampNeg)] (c_X11_limits hL k0 e1) iy_X11_limits (q := (RX11, TX11, 15)) (ci := 11) rfl rfl (by decide) k0 km_L_83 dL_law_774 rfl (by decide) (Nat.le_of_ble_eq_true rfl) (Nat.le_of_ble_eq_true rfl) ⟨hk.1, hk.2⟩ rfl ?_
  refine j_aload_n (pc := 777) hC 2 2 dL_law_777 rfl rfl ?_
  refine j_aload_n (pc := 778) hC 0 0 dL_law_778 rfl rfl ?_
  refine j_iload (pc := 779) hC 4 dL_law_779 rfl ?_
  refine j_iconst (pc := 781) hC (1 : Int32) dL_law_781 (by decide) ?_
  refine j_iadd (pc := 782) hC dL_law_782 ?_
  refine j_qld (pc := 783) hC hX hbl hbA (hi (1 : Int32) (by decide) (by decide)) dL_law_783 ?_
  refine j_aload_n (pc := 784) hC 0 0 dL_law_784 rfl rfl ?_
  refine j_iload (pc := 785) hC 4 dL_law_785 rfl ?_
  refine j_iconst (pc := 787) hC (2 : Int32) dL_law_787 (by decide) ?_
  refine j_iadd (pc := 788) hC dL_law_788 ?_
  refine j_qld (pc := 789) hC hX hbl hbA (hi (2 : Int32) (by decide) (by decide)) dL_law_789 ?_
  refine j_aload_n (pc := 790) hC 0 0 dL_law_790 rfl rfl ?_
  refine j_iload (pc := 791) hC 4 dL_law_791 rfl ?_
  refine j_iconst (pc := 793) hC (3 : Int32) dL_law_793 (by decide) ?_
  refine j_iadd (pc := 794) hC dL_law_794 ?_
  refine j_qld (pc := 795) hC hX hbl hbA (hi (3 : Int32) (by decide) (by decide)) dL_law_795 ?_
  refine j_vL (pc := 796) hC hR [.int (xs (i + (1 : Int32)).toNatClampNeg), .int (xs (i + (2 : Int32)).toNatClampNeg), .int (xs (i + (3 : Int32)).toNatClampNeg)] (c_X12_limits hL k1 e2) iy_X12_limits (q := (RX12, TX12, 40)) (ci := 12) rfl rfl (by decide) k1 km_L_87 dL_law_796 rfl (by decide) (Nat.le_of_ble_eq_true rfl) (Nat.le_of_ble_eq_true rfl) ⟨hk.1, hk.2⟩ rfl ?_
  exact j_icmp_eq (pc := 799) hC 1675 dL_law_799 (by decide) (fun _ => kk _ hr2) (fun c => absurd rfl c)
set_option maxHeartbeats 4000000 in
theorem lc_12 {X : jX} {G : jG} {L : jL} {b Ln : Nat} {xs : Nat → Int32} (hw : jLw X G L b Ln xs) {i : Int32} (hi : ∀ k : Int32, 0 ≤ k → k < 5 → vp_in (i + k) Ln) {kc ks : Nat} (hk : kc + 1 ≤ 601024 ∧ ks + 6 ≤ 7293034) {Q : State → Prop} {μ : jM} (hr : Rel μ) (kk : ∀ μ2, Rel μ2 → jJ X G 8 L (kc + 1) (ks + 6) Q 1675 (lwlv b L i) [] μ2) : jJ X G 8 L kc ks Q 804 (lwlv b L i) [] μ := by
  obtain ⟨hC, h5, hR, hs, hX, hbl, hbA, hL⟩ := hw
  have k0 : jK L 0 11 := jK_of hL 0 11 (by decide +kernel)
  have k1 : jK L 201 12 := jK_of hL 201 12 (by decide +kernel)
  obtain ⟨r, μ1, μ2, e1, e2, hr2⟩ := sim_renews hr (xs (i + (1 : Int32)).toNatClampNeg)
  unfold lwlv at *
  refine j_widen (Nat.le_succ kc) (Nat.le_add_right ks 6) ?_
  refine j_aload_n (pc := 804) hC 1 1 dL_law_804 rfl rfl ?_
  refine j_aload_n (pc := 805) hC 0 0 dL_law_805 rfl rfl ?_
  refine j_iload (pc := 806) hC 4 dL_law_806 rfl ?_
  refine j_iconst (pc := 808) hC (1 : Int32) dL_law_808 (by decide) ?_
  refine j_iadd (pc := 809) hC dL_law_809 ?_
  refine j_qld (pc := 810) hC hX hbl hbA (hi (1 : Int32) (by decide) (by decide)) dL_law_810 ?_
  refine j_vL (pc := 811) hC hR [.int (xs (i + (1 : Int32)).toNatClampNeg)] (c_X11_renews hL k0 e1) iy_X11_renews (q := (RX11, TX11, 15)) (ci := 11) rfl rfl (by decide) k0 km_L_88 dL_law_811 rfl (by decide) (Nat.le_of_ble_eq_true rfl) (Nat.le_of_ble_eq_true rfl) ⟨hk.1, hk.2⟩ rfl ?_
  refine j_aload_n (pc := 814) hC 2 2 dL_law_814 rfl rfl ?_
  refine j_aload_n (pc := 815) hC 0 0 dL_law_815 rfl rfl ?_
  refine j_iload (pc := 816) hC 4 dL_law_816 rfl ?_
  refine j_iconst (pc := 818) hC (1 : Int32) dL_law_818 (by decide) ?_
  refine j_iadd (pc := 819) hC dL_law_819 ?_
  refine j_qld (pc := 820) hC hX hbl hbA (hi (1 : Int32) (by decide) (by decide)) dL_law_820 ?_
  refine j_vL (pc := 821) hC hR [.int (xs (i + (1 : Int32)).toNatClampNeg)] (c_X12_renews hL k1 e2) iy_X12_renews (q := (RX12, TX12, 40)) (ci := 12) rfl rfl (by decide) k1 km_L_91 dL_law_821 rfl (by decide) (Nat.le_of_ble_eq_true rfl) (Nat.le_of_ble_eq_true rfl) ⟨hk.1, hk.2⟩ rfl ?_
  exact j_icmp_eq (pc := 824) hC 1675 dL_law_824 (by decide) (fun _ => kk _ hr2) (fun c => absurd rfl c)
set_option maxHeartbeats 4000000 in
theorem lc_13 {X : jX} {G : jG} {L : jL} {b Ln : Nat} {xs : Nat → Int32} (hw : jLw X G L b Ln xs) {i : Int32} (hi : ∀ k : Int32, 0 ≤ k → k < 5 → vp_in (i + k) Ln) {kc ks : Nat} (hk : kc + 1 ≤ 601024 ∧ ks + 6 ≤ 7293034) {Q : State → Prop} {μ : jM} (hr : Rel μ) (kk : ∀ μ2, Rel μ2 → jJ X G 8 L (kc + 1) (ks + 6) Q 1675 (lwlv b L i) [] μ2) : jJ X G 8 L kc ks Q 829 (lwlv b L i) [] μ := by
  obtain ⟨hC, h5, hR, hs, hX, hbl, hbA, hL⟩ := hw
  have k0 : jK L 0 11 := jK_of hL 0 11 (by decide +kernel)
  have k1 : jK L 201 12 := jK_of hL 201 12 (by decide +kernel)
  obtain ⟨r, μ1, μ2, e1, e2, hr2⟩ := sim_puts hr (xs (i + (1 : Int32)).toNatClampNeg) (xs (i + (2 : Int32)).toNatClampNeg)
  unfold lwlv at *
  refine j_widen (Nat.le_succ kc) (Nat.le_add_right ks 6) ?_
  refine j_aload_n (pc := 829) hC 1 1 dL_law_829 rfl rfl ?_
  refine j_aload_n (pc := 830) hC 0 0 dL_law_830 rfl rfl ?_
  refine j_iload (pc := 831) hC 4 dL_law_831 rfl ?_
  refine j_iconst (pc := 833) hC (1 : Int32) dL_law_833 (by decide) ?_
  refine j_iadd (pc := 834) hC dL_law_834 ?_
  refine j_qld (pc := 835) hC hX hbl hbA (hi (1 : Int32) (by decide) (by decide)) dL_law_835 ?_
  refine j_aload_n (pc := 836) hC 0 0 dL_law_836 rfl rfl ?_
  refine j_iload (pc := 837) hC 4 dL_law_837 rfl ?_
  refine j_iconst (pc := 839) hC (2 : Int32) dL_law_839 (by decide) ?_
  refine j_iadd (pc := 840) hC dL_law_840 ?_
  refine j_qld (pc := 841) hC hX hbl hbA (hi (2 : Int32) (by decide) (by decide)) dL_law_841 ?_
  refine j_vL (pc := 842) hC hR [.int (xs (i + (1 : Int32)).toNatClampNeg), .int (xs (i + (2 : Int32)).toNatClampNeg)] (c_X11_puts hL k0 e1) iy_X11_puts (q := (RX11, TX11, 15)) (ci := 11) rfl rfl (by decide) k0 km_L_92 dL_law_842 rfl (by decide) (Nat.le_of_ble_eq_true rfl) (Nat.le_of_ble_eq_true rfl) ⟨hk.1, hk.2⟩ rfl ?_
  refine j_aload_n (pc := 845) hC 2 2 dL_law_845 rfl rfl ?_
  refine j_aload_n (pc := 846) hC 0 0 dL_law_846 rfl rfl ?_
  refine j_iload (pc := 847) hC 4 dL_law_847 rfl ?_
  refine j_iconst (pc := 849) hC (1 : Int32) dL_law_849 (by decide) ?_
  refine j_iadd (pc := 850) hC dL_law_850 ?_
  refine j_qld (pc := 851) hC hX hbl hbA (hi (1 : Int32) (by decide) (by decide)) dL_law_851 ?_
  refine j_aload_n (pc := 852) hC 0 0 dL_law_852 rfl rfl ?_
  refine j_iload (pc := 853) hC 4 dL_law_853 rfl ?_
  refine j_iconst (pc := 855) hC (2 : Int32) dL_law_855 (by decide) ?_
  refine j_iadd (pc := 856) hC dL_law_856 ?_
  refine j_qld (pc := 857) hC hX hbl hbA (hi (2 : Int32) (by decide) (by decide)) dL_law_857 ?_
  refine j_vL (pc := 858) hC hR [.int (xs (i + (1 : Int32)).toNatClampNeg), .int (xs (i + (2 : Int32)).toNatClampNeg)] (c_X12_puts hL k1 e2) iy_X12_puts (q := (RX12, TX12, 40)) (ci := 12) rfl rfl (by decide) k1 km_L_95 dL_law_858 rfl (by decide) (Nat.le_of_ble_eq_true rfl) (Nat.le_of_ble_eq_true rfl) ⟨hk.1, hk.2⟩ rfl ?_
  exact j_icmp_eq (pc := 861) hC 1675 dL_law_861 (by decide) (fun _ => kk _ hr2) (fun c => absurd rfl c)
set_option maxHeartbeats 4000000 in
theorem lc_14 {X : jX} {G : jG} {L : jL} {b Ln : Nat} {xs : Nat → Int32} (hw : jLw X G L b Ln xs) {i : Int32} (hi : ∀ k : Int32, 0 ≤ k → k < 5 → vp_in (i + k) Ln) {kc ks : Nat} (hk : kc + 1 ≤ 601024 ∧ ks + 6 ≤ 7293034) {Q : State → Prop} {μ : jM} (hr : Rel μ) (kk : ∀ μ2, Rel μ2 → jJ X G 8 L (kc + 1) (ks + 6) Q 1675 (lwlv b L i) [] μ2) : jJ X G 8 L kc ks Q 866 (lwlv b L i) [] μ := by
  obtain ⟨hC, h5, hR, hs, hX, hbl, hbA, hL⟩ := hw
  have k0 : jK L 0 11 := jK_of hL 0 11 (by decide +kernel)
  have k1 : jK L 201 12 := jK_of hL 201 12 (by decide +kernel)
  obtain ⟨r, μ1, μ2, e1, e2, hr2⟩ := sim_drops hr (xs (i + (1 : Int32)).toNatClampNeg)
  unfold lwlv at *
  refine j_widen (Nat.le_succ kc) (Nat.le_add_right ks 6) ?_
  refine j_aload_n (pc := 866) hC 1 1 dL_law_866 rfl rfl ?_
  refine j_aload_n (pc := 867) hC 0 0 dL_law_867 rfl rfl ?_
  refine j_iload (pc := 868) hC 4 dL_law_868 rfl ?_
  refine j_iconst (pc := 870) hC (1 : Int32) dL_law_870 (by decide) ?_
  refine j_iadd (pc := 871) hC dL_law_871 ?_
  refine j_qld (pc := 872) hC hX hbl hbA (hi (1 : Int32) (by decide) (by decide)) dL_law_872 ?_
  refine j_vL (pc := 873) hC hR [.int (xs (i + (1 : Int32)).toNatClampNeg)] (c_X11_drops hL k0 e1) iy_X11_drops (q := (RX11, TX11, 15)) (ci := 11) rfl rfl (by decide) k0 km_L_96 dL_law_873 rfl (by decide) (Nat.le_of_ble_eq_true rfl) (Nat.le_of_ble_eq_true rfl) ⟨hk.1, hk.2⟩ rfl ?_
  refine j_aload_n (pc := 876) hC 2 2 dL_law_876 rfl rfl ?_
  refine j_aload_n (pc := 877) hC 0 0 dL_law_877 rfl rfl ?_
  refine j_iload (pc := 878) hC 4 dL_law_878 rfl ?_
  refine j_iconst (pc := 880) hC (1 : Int32) dL_law_880 (by decide) ?_
  refine j_iadd (pc := 881) hC dL_law_881 ?_
  refine j_qld (pc := 882) hC hX hbl hbA (hi (1 : Int32) (by decide) (by decide)) dL_law_882 ?_
  refine j_vL (pc := 883) hC hR [.int (xs (i + (1 : Int32)).toNatClampNeg)] (c_X12_drops hL k1 e2) iy_X12_drops (q := (RX12, TX12, 40)) (ci := 12) rfl rfl (by decide) k1 km_L_99 dL_law_883 rfl (by decide) (Nat.le_of_ble_eq_true rfl) (Nat.le_of_ble_eq_true rfl) ⟨hk.1, hk.2⟩ rfl ?_
  exact j_icmp_eq (pc := 886) hC 1675 dL_law_886 (by decide) (fun _ => kk _ hr2) (fun c => absurd rfl c)
set_option maxHeartbeats 4000000 in
theorem lc_15 {X : jX} {G : jG} {L : jL} {b Ln : Nat} {xs : Nat → Int32} (hw : jLw X G L b Ln xs) {i : Int32} (hi : ∀ k : Int32, 0 ≤ k → k < 5 → vp_in (i + k) Ln) {kc ks : Nat} (hk : kc + 1 ≤ 601024 ∧ ks + 6 ≤ 7293034) {Q : State → Prop} {μ : jM} (hr : Rel μ) (kk : ∀ μ2, Rel μ2 → jJ X G 8 L (kc + 1) (ks + 6) Q 1675 (lwlv b L i) [] μ2) : jJ X G 8 L kc ks Q 891 (lwlv b L i) [] μ := by
  obtain ⟨hC, h5, hR, hs, hX, hbl, hbA, hL⟩ := hw
  have k0 : jK L 0 11 := jK_of hL 0 11 (by decide +kernel)
  have k1 : jK L 201 12 := jK_of hL 201 12 (by decide +kernel)
  obtain ⟨r, μ1, μ2, e1, e2, hr2⟩ := sim_posts hr 
  unfold lwlv at *
  refine j_widen (Nat.le_succ kc) (Nat.le_add_right ks 6) ?_
  refine j_aload_n (pc := 891) hC 1 1 dL_law_891 rfl rfl ?_
  refine j_vL (pc := 892) hC hR [] (c_X11_posts hL k0 e1) iy_X11_posts (q := (RX11, TX11, 15)) (ci := 11) rfl rfl (by decide) k0 km_L_100 dL_law_892 rfl (by decide) (Nat.le_of_ble_eq_true rfl) (Nat.le_of_ble_eq_true rfl) ⟨hk.1, hk.2⟩ rfl ?_
  refine j_aload_n (pc := 895) hC 2 2 dL_law_895 rfl rfl ?_
  refine j_vL (pc := 896) hC hR [] (c_X12_posts hL k1 e2) iy_X12_posts (q := (RX12, TX12, 40)) (ci := 12) rfl rfl (by decide) k1 km_L_103 dL_law_896 rfl (by decide) (Nat.le_of_ble_eq_true rfl) (Nat.le_of_ble_eq_true rfl) ⟨hk.1, hk.2⟩ rfl ?_
  exact j_icmp_eq (pc := 899) hC 1675 dL_law_899 (by decide) (fun _ => kk _ hr2) (fun c => absurd rfl c)
set_option maxHeartbeats 4000000 in
theorem lc_16 {X : jX} {G : jG} {L : jL} {b Ln : Nat} {xs : Nat → Int32} (hw : jLw X G L b Ln xs) {i : Int32} (hi : ∀ k : Int32, 0 ≤ k → k < 5 → vp_in (i + k) Ln) {kc ks : Nat} (hk : kc + 1 ≤ 601024 ∧ ks + 6 ≤ 7293034) {Q : State → Prop} {μ : jM} (hr : Rel μ) (kk : ∀ μ2, Rel μ2 → jJ X G 8 L (kc + 1) (ks + 6) Q 1675 (lwlv b L i) [] μ2) : jJ X G 8 L kc ks Q 904 (lwlv b L i) [] μ := by
  obtain ⟨hC, h5, hR, hs, hX, hbl, hbA, hL⟩ := hw
  have k0 : jK L 0 11 := jK_of hL 0 11 (by decide +kernel)
  have k1 : jK L 201 12 := jK_of hL 201 12 (by decide +kernel)
  obtain ⟨r, μ1, μ2, e1, e2, hr2⟩ := sim_lifts hr (xs (i + (1 : Int32)).toNatClampNeg)
  unfold lwlv at *
  refine j_widen (Nat.le_succ kc) (Nat.le_add_right ks 6) ?_
  refine j_aload_n (pc := 904) hC 1 1 dL_law_904 rfl rfl ?_
  refine j_aload_n (pc := 905) hC 0 0 dL_law_905 rfl rfl ?_
  refine j_iload (pc := 906) hC 4 dL_law_906 rfl ?_
  refine j_iconst (pc := 908) hC (1 : Int32) dL_law_908 (by decide) ?_
  refine j_iadd (pc := 909) hC dL_law_909 ?_
  refine j_qld (pc := 910) hC hX hbl hbA (hi (1 : Int32) (by decide) (by decide)) dL_law_910 ?_
  refine j_vL (pc := 911) hC hR [.int (xs (i + (1 : Int32)).toNatClampNeg)] (c_X11_lifts hL k0 e1) iy_X11_lifts (q := (RX11, TX11, 15)) (ci := 11) rfl rfl (by decide) k0 km_L_104 dL_law_911 rfl (by decide) (Nat.le_of_ble_eq_true rfl) (Nat.le_of_ble_eq_true rfl) ⟨hk.1, hk.2⟩ rfl ?_
  refine j_aload_n (pc := 914) hC 2 2 dL_law_914 rfl rfl ?_
  refine j_aload_n (pc := 915) hC 0 0 dL_law_915 rfl rfl ?_
  refine j_iload (pc := 916) hC 4 dL_law_916 rfl ?_
  refine j_iconst (pc := 918) hC (1 : Int32) dL_law_918 (by decide) ?_
  refine j_iadd (pc := 919) hC dL_law_919 ?_
  refine j_qld (pc := 920) hC hX hbl hbA (hi (1 : Int32) (by decide) (by decide)) dL_law_920 ?_
  refine j_vL (pc := 921) hC hR [.int (xs (i + (1 : Int32)).toNatClampNeg)] (c_X12_lifts hL k1 e2) iy_X12_lifts (q := (RX12, TX12, 40)) (ci := 12) rfl rfl (by decide) k1 km_L_107 dL_law_921 rfl (by decide) (Nat.le_of_ble_eq_true rfl) (Nat.le_of_ble_eq_true rfl) ⟨hk.1, hk.2⟩ rfl ?_
  exact j_icmp_eq (pc := 924) hC 1675 dL_law_924 (by decide) (fun _ => kk _ hr2) (fun c => absurd rfl c)
