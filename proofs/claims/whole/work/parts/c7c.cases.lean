set_option maxHeartbeats 4000000 in
theorem lc_34 {X : jX} {G : jG} {L : jL} {b Ln : Nat} {xs : Nat → Int32} (hw : jLw X G L b Ln xs) {i : Int32} (hi : ∀ k : Int32, 0 ≤ k → k < 5 → vp_in (i + k) Ln) {kc ks : Nat} (hk : kc + 1 ≤ 601024 ∧ ks + 6 ≤ 7293034) {Q : State → Prop} {μ : jM} (hr : Rel μ) (kk : ∀ μ2, Rel μ2 → jJ X G 8 L (kc + 1) (ks + 6) Q 1675 (lwlv b L i) [] μ2) : jJ X G 8 L kc ks Q 1282 (lwlv b L i) [] μ := by
  obtain ⟨hC, h5, hR, hs, hX, hbl, hbA, hL⟩ := hw
  have k0 : jK L 0 11 := jK_of hL 0 11 (by decide +kernel)
  have k1 : jK L 201 12 := jK_of hL 201 12 (by decide +kernel)
  obtain ⟨r, μ1, μ2, e1, e2, hr2⟩ := sim_probes hr 
  unfold lwlv at *
  refine j_widen (Nat.le_succ kc) (Nat.le_add_right ks 6) ?_
  refine j_aload_n (pc := 1282) hC 1 1 dL_law_1282 rfl rfl ?_
  refine j_vL (pc := 1283) hC hR [] (c_X11_probes hL k0 e1) iy_X11_probes (q := (RX11, TX11, 15)) (ci := 11) rfl rfl (by decide) k0 km_L_176 dL_law_1283 rfl (by decide) (Nat.le_of_ble_eq_true rfl) (Nat.le_of_ble_eq_true rfl) ⟨hk.1, hk.2⟩ rfl ?_
  refine j_aload_n (pc := 1286) hC 2 2 dL_law_1286 rfl rfl ?_
  refine j_vL (pc := 1287) hC hR [] (c_X12_probes hL k1 e2) iy_X12_probes (q := (RX12, TX12, 40)) (ci := 12) rfl rfl (by decide) k1 km_L_179 dL_law_1287 rfl (by decide) (Nat.le_of_ble_eq_true rfl) (Nat.le_of_ble_eq_true rfl) ⟨hk.1, hk.2⟩ rfl ?_
  exact j_icmp_eq (pc := 1290) hC 1675 dL_law_1290 (by decide) (fun _ => kk _ hr2) (fun c => absurd rfl c)
set_option maxHeartbeats 4000000 in
theorem lc_35 {X : jX} {G : jG} {L : jL} {b Ln : Nat} {xs : Nat → Int32} (hw : jLw X G L b Ln xs) {i : Int32} (hi : ∀ k : Int32, 0 ≤ k → k < 5 → vp_in (i + k) Ln) {kc ks : Nat} (hk : kc + 1 ≤ 601024 ∧ ks + 6 ≤ 7293034) {Q : State → Prop} {μ : jM} (hr : Rel μ) (kk : ∀ μ2, Rel μ2 → jJ X G 8 L (kc + 1) (ks + 6) Q 1675 (lwlv b L i) [] μ2) : jJ X G 8 L kc ks Q 1295 (lwlv b L i) [] μ := by
  obtain ⟨hC, h5, hR, hs, hX, hbl, hbA, hL⟩ := hw
  have k0 : jK L 0 11 := jK_of hL 0 11 (by decide +kernel)
  have k1 : jK L 201 12 := jK_of hL 201 12 (by decide +kernel)
  obtain ⟨r, μ1, μ2, e1, e2, hr2⟩ := sim_leaves hr (xs (i + (1 : Int32)).toNatClampNeg) (xs (i + (2 : Int32)).toNatClampNeg)
  unfold lwlv at *
  refine j_widen (Nat.le_succ kc) (Nat.le_add_right ks 6) ?_
  refine j_aload_n (pc := 1295) hC 1 1 dL_law_1295 rfl rfl ?_
  refine j_aload_n (pc := 1296) hC 0 0 dL_law_1296 rfl rfl ?_
  refine j_iload (pc := 1297) hC 4 dL_law_1297 rfl ?_
  refine j_iconst (pc := 1299) hC (1 : Int32) dL_law_1299 (by decide) ?_
  refine j_iadd (pc := 1300) hC dL_law_1300 ?_
  refine j_qld (pc := 1301) hC hX hbl hbA (hi (1 : Int32) (by decide) (by decide)) dL_law_1301 ?_
  refine j_aload_n (pc := 1302) hC 0 0 dL_law_1302 rfl rfl ?_
  refine j_iload (pc := 1303) hC 4 dL_law_1303 rfl ?_
  refine j_iconst (pc := 1305) hC (2 : Int32) dL_law_1305 (by decide) ?_
  refine j_iadd (pc := 1306) hC dL_law_1306 ?_
  refine j_qld (pc := 1307) hC hX hbl hbA (hi (2 : Int32) (by decide) (by decide)) dL_law_1307 ?_
  refine j_vL (pc := 1308) hC hR [.int (xs (i + (1 : Int32)).toNatClampNeg), .int (xs (i + (2 : Int32)).toNatClampNeg)] (c_X11_leaves hL k0 e1) iy_X11_leaves (q := (RX11, TX11, 15)) (ci := 11) rfl rfl (by decide) k0 km_L_180 dL_law_1308 rfl (by decide) (Nat.le_of_ble_eq_true rfl) (Nat.le_of_ble_eq_true rfl) ⟨hk.1, hk.2⟩ rfl ?_
  refine j_aload_n (pc := 1311) hC 2 2 dL_law_1311 rfl rfl ?_
  refine j_aload_n (pc := 1312) hC 0 0 dL_law_1312 rfl rfl ?_
  refine j_iload (pc := 1313) hC 4 dL_law_1313 rfl ?_
  refine j_iconst (pc := 1315) hC (1 : Int32) dL_law_1315 (by decide) ?_
  refine j_iadd (pc := 1316) hC dL_law_1316 ?_
  refine j_qld (pc := 1317) hC hX hbl hbA (hi (1 : Int32) (by decide) (by decide)) dL_law_1317 ?_
  refine j_aload_n (pc := 1318) hC 0 0 dL_law_1318 rfl rfl ?_
  refine j_iload (pc := 1319) hC 4 dL_law_1319 rfl ?_
  refine j_iconst (pc := 1321) hC (2 : Int32) dL_law_1321 (by decide) ?_
  refine j_iadd (pc := 1322) hC dL_law_1322 ?_
  refine j_qld (pc := 1323) hC hX hbl hbA (hi (2 : Int32) (by decide) (by decide)) dL_law_1323 ?_
  refine j_vL (pc := 1324) hC hR [.int (xs (i + (1 : Int32)).toNatClampNeg), .int (xs (i + (2 : Int32)).toNatClampNeg)] (c_X12_leaves hL k1 e2) iy_X12_leaves (q := (RX12, TX12, 40)) (ci := 12) rfl rfl (by decide) k1 km_L_183 dL_law_1324 rfl (by decide) (Nat.le_of_ble_eq_true rfl) (Nat.le_of_ble_eq_true rfl) ⟨hk.1, hk.2⟩ rfl ?_
  exact j_icmp_eq (pc := 1327) hC 1675 dL_law_1327 (by decide) (fun _ => kk _ hr2) (fun c => absurd rfl c)
set_option maxHeartbeats 4000000 in
theorem lc_36 {X : jX} {G : jG} {L : jL} {b Ln : Nat} {xs : Nat → Int32} (hw : jLw X G L b Ln xs) {i : Int32} (hi : ∀ k : Int32, 0 ≤ k → k < 5 → vp_in (i + k) Ln) {kc ks : Nat} (hk : kc + 1 ≤ 601024 ∧ ks + 6 ≤ 7293034) {Q : State → Prop} {μ : jM} (hr : Rel μ) (kk : ∀ μ2, Rel μ2 → jJ X G 8 L (kc + 1) (ks + 6) Q 1675 (lwlv b L i) [] μ2) : jJ X G 8 L kc ks Q 1332 (lwlv b L i) [] μ := by
  obtain ⟨hC, h5, hR, hs, hX, hbl, hbA, hL⟩ := hw
  have k0 : jK L 0 11 := jK_of hL 0 11 (by decide +kernel)
  have k1 : jK L 201 12 := jK_of hL 201 12 (by decide +kernel)
  obtain ⟨r, μ1, μ2, e1, e2, hr2⟩ := sim_culprits hr 
  unfold lwlv at *
  refine j_widen (Nat.le_succ kc) (Nat.le_add_right ks 6) ?_
  refine j_aload_n (pc := 1332) hC 1 1 dL_law_1332 rfl rfl ?_
  refine j_vL (pc := 1333) hC hR [] (c_X11_culprits hL k0 e1) iy_X11_culprits (q := (RX11, TX11, 15)) (ci := 11) rfl rfl (by decide) k0 km_L_184 dL_law_1333 rfl (by decide) (Nat.le_of_ble_eq_true rfl) (Nat.le_of_ble_eq_true rfl) ⟨hk.1, hk.2⟩ rfl ?_
  refine j_aload_n (pc := 1336) hC 2 2 dL_law_1336 rfl rfl ?_
  refine j_vL (pc := 1337) hC hR [] (c_X12_culprits hL k1 e2) iy_X12_culprits (q := (RX12, TX12, 40)) (ci := 12) rfl rfl (by decide) k1 km_L_187 dL_law_1337 rfl (by decide) (Nat.le_of_ble_eq_true rfl) (Nat.le_of_ble_eq_true rfl) ⟨hk.1, hk.2⟩ rfl ?_
  exact j_icmp_eq (pc := 1340) hC 1675 dL_law_1340 (by decide) (fun _ => kk _ hr2) (fun c => absurd rfl c)
set_option maxHeartbeats 4000000 in
theorem lc_37 {X : jX} {G : jG} {L : jL} {b Ln : Nat} {xs : Nat → Int32} (hw : jLw X G L b Ln xs) {i : Int32} (hi : ∀ k : Int32, 0 ≤ k → k < 5 → vp_in (i + k) Ln) {kc ks : Nat} (hk : kc + 1 ≤ 601024 ∧ ks + 6 ≤ 7293034) {Q : State → Prop} {μ : jM} (hr : Rel μ) (kk : ∀ μ2, Rel μ2 → jJ X G 8 L (kc + 1) (ks + 6) Q 1675 (lwlv b L i) [] μ2) : jJ X G 8 L kc ks Q 1345 (lwlv b L i) [] μ := by
  obtain ⟨hC, h5, hR, hs, hX, hbl, hbA, hL⟩ := hw
  have k0 : jK L 0 11 := jK_of hL 0 11 (by decide +kernel)
  have k1 : jK L 201 12 := jK_of hL 201 12 (by decide +kernel)
  obtain ⟨r, μ1, μ2, e1, e2, hr2⟩ := sim_why hr (xs (i + (1 : Int32)).toNatClampNeg) (xs (i + (2 : Int32)).toNatClampNeg)
  unfold lwlv at *
  refine j_widen (Nat.le_succ kc) (Nat.le_add_right ks 6) ?_
  refine j_aload_n (pc := 1345) hC 1 1 dL_law_1345 rfl rfl ?_
  refine j_aload_n (pc := 1346) hC 0 0 dL_law_1346 rfl rfl ?_
  refine j_iload (pc := 1347) hC 4 dL_law_1347 rfl ?_
  refine j_iconst (pc := 1349) hC (1 : Int32) dL_law_1349 (by decide) ?_
  refine j_iadd (pc := 1350) hC dL_law_1350 ?_
  refine j_qld (pc := 1351) hC hX hbl hbA (hi (1 : Int32) (by decide) (by decide)) dL_law_1351 ?_
  refine j_aload_n (pc := 1352) hC 0 0 dL_law_1352 rfl rfl ?_
  refine j_iload (pc := 1353) hC 4 dL_law_1353 rfl ?_
  refine j_iconst (pc := 1355) hC (2 : Int32) dL_law_1355 (by decide) ?_
  refine j_iadd (pc := 1356) hC dL_law_1356 ?_
  refine j_qld (pc := 1357) hC hX hbl hbA (hi (2 : Int32) (by decide) (by decide)) dL_law_1357 ?_
  refine j_vL (pc := 1358) hC hR [.int (xs (i + (1 : Int32)).toNatClampNeg), .int (xs (i + (2 : Int32)).toNatClampNeg)] (c_X11_why hL k0 e1) iy_X11_why (q := (RX11, TX11, 15)) (ci := 11) rfl rfl (by decide) k0 km_L_188 dL_law_1358 rfl (by decide) (Nat.le_of_ble_eq_true rfl) (Nat.le_of_ble_eq_true rfl) ⟨hk.1, hk.2⟩ rfl ?_
  refine j_aload_n (pc := 1361) hC 2 2 dL_law_1361 rfl rfl ?_
  refine j_aload_n (pc := 1362) hC 0 0 dL_law_1362 rfl rfl ?_
  refine j_iload (pc := 1363) hC 4 dL_law_1363 rfl ?_
  refine j_iconst (pc := 1365) hC (1 : Int32) dL_law_1365 (by decide) ?_
  refine j_iadd (pc := 1366) hC dL_law_1366 ?_
  refine j_qld (pc := 1367) hC hX hbl hbA (hi (1 : Int32) (by decide) (by decide)) dL_law_1367 ?_
  refine j_aload_n (pc := 1368) hC 0 0 dL_law_1368 rfl rfl ?_
  refine j_iload (pc := 1369) hC 4 dL_law_1369 rfl ?_
  refine j_iconst (pc := 1371) hC (2 : Int32) dL_law_1371 (by decide) ?_
  refine j_iadd (pc := 1372) hC dL_law_1372 ?_
  refine j_qld (pc := 1373) hC hX hbl hbA (hi (2 : Int32) (by decide) (by decide)) dL_law_1373 ?_
  refine j_vL (pc := 1374) hC hR [.int (xs (i + (1 : Int32)).toNatClampNeg), .int (xs (i + (2 : Int32)).toNatClampNeg)] (c_X12_why hL k1 e2) iy_X12_why (q := (RX12, TX12, 40)) (ci := 12) rfl rfl (by decide) k1 km_L_191 dL_law_1374 rfl (by decide) (Nat.le_of_ble_eq_true rfl) (Nat.le_of_ble_eq_true rfl) ⟨hk.1, hk.2⟩ rfl ?_
  exact j_icmp_eq (pc := 1377) hC 1675 dL_law_1377 (by decide) (fun _ => kk _ hr2) (fun c => absurd rfl c)
set_option maxHeartbeats 4000000 in
theorem lc_38 {X : jX} {G : jG} {L : jL} {b Ln : Nat} {xs : Nat → Int32} (hw : jLw X G L b Ln xs) {i : Int32} (hi : ∀ k : Int32, 0 ≤ k → k < 5 → vp_in (i + k) Ln) {kc ks : Nat} (hk : kc + 1 ≤ 601024 ∧ ks + 6 ≤ 7293034) {Q : State → Prop} {μ : jM} (hr : Rel μ) (kk : ∀ μ2, Rel μ2 → jJ X G 8 L (kc + 1) (ks + 6) Q 1675 (lwlv b L i) [] μ2) : jJ X G 8 L kc ks Q 1382 (lwlv b L i) [] μ := by
  obtain ⟨hC, h5, hR, hs, hX, hbl, hbA, hL⟩ := hw
  have k0 : jK L 0 11 := jK_of hL 0 11 (by decide +kernel)
  have k1 : jK L 201 12 := jK_of hL 201 12 (by decide +kernel)
  obtain ⟨r, μ1, μ2, e1, e2, hr2⟩ := sim_mends hr 
  unfold lwlv at *
  refine j_widen (Nat.le_succ kc) (Nat.le_add_right ks 6) ?_
  refine j_aload_n (pc := 1382) hC 1 1 dL_law_1382 rfl rfl ?_
  refine j_vL (pc := 1383) hC hR [] (c_X11_mends hL k0 e1) iy_X11_mends (q := (RX11, TX11, 15)) (ci := 11) rfl rfl (by decide) k0 km_L_192 dL_law_1383 rfl (by decide) (Nat.le_of_ble_eq_true rfl) (Nat.le_of_ble_eq_true rfl) ⟨hk.1, hk.2⟩ rfl ?_
  refine j_aload_n (pc := 1386) hC 2 2 dL_law_1386 rfl rfl ?_
  refine j_vL (pc := 1387) hC hR [] (c_X12_mends hL k1 e2) iy_X12_mends (q := (RX12, TX12, 40)) (ci := 12) rfl rfl (by decide) k1 km_L_195 dL_law_1387 rfl (by decide) (Nat.le_of_ble_eq_true rfl) (Nat.le_of_ble_eq_true rfl) ⟨hk.1, hk.2⟩ rfl ?_
  exact j_icmp_eq (pc := 1390) hC 1675 dL_law_1390 (by decide) (fun _ => kk _ hr2) (fun c => absurd rfl c)
set_option maxHeartbeats 4000000 in
theorem lc_39 {X : jX} {G : jG} {L : jL} {b Ln : Nat} {xs : Nat → Int32} (hw : jLw X G L b Ln xs) {i : Int32} (hi : ∀ k : Int32, 0 ≤ k → k < 5 → vp_in (i + k) Ln) {kc ks : Nat} (hk : kc + 1 ≤ 601024 ∧ ks + 6 ≤ 7293034) {Q : State → Prop} {μ : jM} (hr : Rel μ) (kk : ∀ μ2, Rel μ2 → jJ X G 8 L (kc + 1) (ks + 6) Q 1675 (lwlv b L i) [] μ2) : jJ X G 8 L kc ks Q 1395 (lwlv b L i) [] μ := by
  obtain ⟨hC, h5, hR, hs, hX, hbl, hbA, hL⟩ := hw
  have k0 : jK L 0 11 := jK_of hL 0 11 (by decide +kernel)
  have k1 : jK L 201 12 := jK_of hL 201 12 (by decide +kernel)
  obtain ⟨r, μ1, μ2, e1, e2, hr2⟩ := sim_heard hr (xs (i + (1 : Int32)).toNatClampNeg) (xs (i + (2 : Int32)).toNatClampNeg) (xs (i + (3 : Int32)).toNatClampNeg)
  unfold lwlv at *
  refine j_widen (Nat.le_succ kc) (Nat.le_add_right ks 6) ?_
  refine j_aload_n (pc := 1395) hC 1 1 dL_law_1395 rfl rfl ?_
  refine j_aload_n (pc := 1396) hC 0 0 dL_law_1396 rfl rfl ?_
  refine j_iload (pc := 1397) hC 4 dL_law_1397 rfl ?_
  refine j_iconst (pc := 1399) hC (1 : Int32) dL_law_1399 (by decide) ?_
  refine j_iadd (pc := 1400) hC dL_law_1400 ?_
  refine j_qld (pc := 1401) hC hX hbl hbA (hi (1 : Int32) (by decide) (by decide)) dL_law_1401 ?_
  refine j_aload_n (pc := 1402) hC 0 0 dL_law_1402 rfl rfl ?_
  refine j_iload (pc := 1403) hC 4 dL_law_1403 rfl ?_
  refine j_iconst (pc := 1405) hC (2 : Int32) dL_law_1405 (by decide) ?_
  refine j_iadd (pc := 1406) hC dL_law_1406 ?_
  refine j_qld (pc := 1407) hC hX hbl hbA (hi (2 : Int32) (by decide) (by decide)) dL_law_1407 ?_
  refine j_aload_n (pc := 1408) hC 0 0 dL_law_1408 rfl rfl ?_
  refine j_iload (pc := 1409) hC 4 dL_law_1409 rfl ?_
  refine j_iconst (pc := 1411) hC (3 : Int32) dL_law_1411 (by decide) ?_
  refine j_iadd (pc := 1412) hC dL_law_1412 ?_
  refine j_qld (pc := 1413) hC hX hbl hbA (hi (3 : Int32) (by decide) (by decide)) dL_law_1413 ?_
  refine j_vL (pc := 1414) hC hR [.int (xs (i + (1 : Int32)).toNatClampNeg), .int (xs (i + (2 : Int32)).toNatClampNeg), .int (xs (i + (3 : Int32)).toNatClampNeg)] (c_X11_heard hL k0 e1) iy_X11_heard (q := (RX11, TX11, 15)) (ci := 11) rfl rfl (by decide) k0 km_L_196 dL_law_1414 rfl (by decide) (Nat.le_of_ble_eq_true rfl) (Nat.le_of_ble_eq_true rfl) ⟨hk.1, hk.2⟩ rfl ?_
  refine j_aload_n (pc := 1417) hC 2 2 dL_law_1417 rfl rfl ?_
  refine j_aload_n (pc := 1418) hC 0 0 dL_law_1418 rfl rfl ?_
  refine j_iload (pc := 1419) hC 4 dL_law_1419 rfl ?_
  refine j_iconst (pc := 1421) hC (1 : Int32) dL_law_1421 (by decide) ?_
  refine j_iadd (pc := 1422) hC dL_law_1422 ?_
  refine j_qld (pc := 1423) hC hX hbl hbA (hi (1 : Int32) (by decide) (by decide)) dL_law_1423 ?_
  refine j_aload_n (pc := 1424) hC 0 0 dL_law_1424 rfl rfl ?_
  refine j_iload (pc := 1425) hC 4 dL_law_1425 rfl ?_
  refine j_iconst (pc := 1427) hC (2 : Int32) dL_law_1427 (by decide) ?_
  refine j_iadd (pc := 1428) hC dL_law_1428 ?_
  refine j_qld (pc := 1429) hC hX hbl hbA (hi (2 : Int32) (by decide) (by decide)) dL_law_1429 ?_
  refine j_aload_n (pc := 1430) hC 0 0 dL_law_1430 rfl rfl ?_
  refine j_iload (pc := 1431) hC 4 dL_law_1431 rfl ?_
  refine j_iconst (pc := 1433) hC (3 : Int32) dL_law_1433 (by decide) ?_
  refine j_iadd (pc := 1434) hC dL_law_1434 ?_
  refine j_qld (pc := 1435) hC hX hbl hbA (hi (3 : Int32) (by decide) (by decide)) dL_law_1435 ?_
  refine j_vL (pc := 1436) hC hR [.int (xs (i + (1 : Int32)).toNatClampNeg), .int (xs (i + (2 : Int32)).toNatClampNeg), .int (xs (i + (3 : Int32)).toNatClampNeg)] (c_X12_heard hL k1 e2) iy_X12_heard (q := (RX12, TX12, 40)) (ci := 12) rfl rfl (by decide) k1 km_L_199 dL_law_1436 rfl (by decide) (Nat.le_of_ble_eq_true rfl) (Nat.le_of_ble_eq_true rfl) ⟨hk.1, hk.2⟩ rfl ?_
  exact j_icmp_eq (pc := 1439) hC 1675 dL_law_1439 (by decide) (fun _ => kk _ hr2) (fun c => absurd rfl c)
set_option maxHeartbeats 4000000 in
theorem lc_40 {X : jX} {G : jG} {L : jL} {b Ln : Nat} {xs : Nat → Int32} (hw : jLw X G L b Ln xs) {i : Int32} (hi : ∀ k : Int32, 0 ≤ k → k < 5 → vp_in (i + k) Ln) {kc ks : Nat} (hk : kc + 1 ≤ 601024 ∧ ks + 6 ≤ 7293034) {Q : State → Prop} {μ : jM} (hr : Rel μ) (kk : ∀ μ2, Rel μ2 → jJ X G 8 L (kc + 1) (ks + 6) Q 1675 (lwlv b L i) [] μ2) : jJ X G 8 L kc ks Q 1444 (lwlv b L i) [] μ := by
  obtain ⟨hC, h5, hR, hs, hX, hbl, hbA, hL⟩ := hw
  have k0 : jK L 0 11 := jK_of hL 0 11 (by decide +kernel)
  have k1 : jK L 201 12 := jK_of hL 201 12 (by decide +kernel)
  obtain ⟨r, μ1, μ2, e1, e2, hr2⟩ := sim_forget hr 
  unfold lwlv at *
  refine j_widen (Nat.le_succ kc) (Nat.le_add_right ks 6) ?_
  refine j_aload_n (pc := 1444) hC 1 1 dL_law_1444 rfl rfl ?_
  refine j_vL (pc := 1445) hC hR [] (c_X11_forget hL k0 e1) iy_X11_forget (q := (RX11, TX11, 15)) (ci := 11) rfl rfl (by decide) k0 km_L_200 dL_law_1445 rfl (by decide) (Nat.le_of_ble_eq_true rfl) (Nat.le_of_ble_eq_true rfl) ⟨hk.1, hk.2⟩ rfl ?_
  refine j_aload_n (pc := 1448) hC 2 2 dL_law_1448 rfl rfl ?_
  refine j_vL (pc := 1449) hC hR [] (c_X12_forget hL k1 e2) iy_X12_forget (q := (RX12, TX12, 40)) (ci := 12) rfl rfl (by decide) k1 km_L_203 dL_law_1449 rfl (by decide) (Nat.le_of_ble_eq_true rfl) (Nat.le_of_ble_eq_true rfl) ⟨hk.1, hk.2⟩ rfl ?_
  exact j_icmp_eq (pc := 1452) hC 1675 dL_law_1452 (by decide) (fun _ => kk _ hr2) (fun c => absurd rfl c)
set_option maxHeartbeats 4000000 in
theorem lc_41 {X : jX} {G : jG} {L : jL} {b Ln : Nat} {xs : Nat → Int32} (hw : jLw X G L b Ln xs) {i : Int32} (hi : ∀ k : Int32, 0 ≤ k → k < 5 → vp_in (i + k) Ln) {kc ks : Nat} (hk : kc + 1 ≤ 601024 ∧ ks + 6 ≤ 7293034) {Q : State → Prop} {μ : jM} (hr : Rel μ) (kk : ∀ μ2, Rel μ2 → jJ X G 8 L (kc + 1) (ks + 6) Q 1675 (lwlv b L i) [] μ2) : jJ X G 8 L kc ks Q 1457 (lwlv b L i) [] μ := by
  obtain ⟨hC, h5, hR, hs, hX, hbl, hbA, hL⟩ := hw
  have k0 : jK L 0 11 := jK_of hL 0 11 (by decide +kernel)
  have k1 : jK L 201 12 := jK_of hL 201 12 (by decide +kernel)
  obtain ⟨r, μ1, μ2, e1, e2, hr2⟩ := sim_fits hr 
  unfold lwlv at *
  refine j_widen (Nat.le_succ kc) (Nat.le_add_right ks 6) ?_
  refine j_aload_n (pc := 1457) hC 1 1 dL_law_1457 rfl rfl ?_
  refine j_vL (pc := 1458) hC hR [] (c_X11_fits hL k0 e1) iy_X11_fits (q := (RX11, TX11, 15)) (ci := 11) rfl rfl (by decide) k0 km_L_204 dL_law_1458 rfl (by decide) (Nat.le_of_ble_eq_true rfl) (Nat.le_of_ble_eq_true rfl) ⟨hk.1, hk.2⟩ rfl ?_
  refine j_aload_n (pc := 1461) hC 2 2 dL_law_1461 rfl rfl ?_
  refine j_vL (pc := 1462) hC hR [] (c_X12_fits hL k1 e2) iy_X12_fits (q := (RX12, TX12, 40)) (ci := 12) rfl rfl (by decide) k1 km_L_207 dL_law_1462 rfl (by decide) (Nat.le_of_ble_eq_true rfl) (Nat.le_of_ble_eq_true rfl) ⟨hk.1, hk.2⟩ rfl ?_
  exact j_icmp_eq (pc := 1465) hC 1675 dL_law_1465 (by decide) (fun _ => kk _ hr2) (fun c => absurd rfl c)
set_option maxHeartbeats 4000000 in
theorem lc_42 {X : jX} {G : jG} {L : jL} {b Ln : Nat} {xs : Nat → Int32} (hw : jLw X G L b Ln xs) {i : Int32} (hi : ∀ k : Int32, 0 ≤ k → k < 5 → vp_in (i + k) Ln) {kc ks : Nat} (hk : kc + 1 ≤ 601024 ∧ ks + 6 ≤ 7293034) {Q : State → Prop} {μ : jM} (hr : Rel μ) (kk : ∀ μ2, Rel μ2 → jJ X G 8 L (kc + 1) (ks + 6) Q 1675 (lwlv b L i) [] μ2) : jJ X G 8 L kc ks Q 1470 (lwlv b L i) [] μ := by
  obtain ⟨hC, h5, hR, hs, hX, hbl, hbA, hL⟩ := hw
  have k0 : jK L 0 11 := jK_of hL 0 11 (by decide +kernel)
  have k1 : jK L 201 12 := jK_of hL 201 12 (by decide +kernel)
  obtain ⟨r, μ1, μ2, e1, e2, hr2⟩ := sim_asks hr 
  unfold lwlv at *
  refine j_widen (Nat.le_succ kc) (Nat.le_add_right ks 6) ?_
  refine j_aload_n (pc := 1470) hC 1 1 dL_law_1470 rfl rfl ?_
  refine j_vL (pc := 1471) hC hR [] (c_X11_asks hL k0 e1) iy_X11_asks (q := (RX11, TX11, 15)) (ci := 11) rfl rfl (by decide) k0 km_L_208 dL_law_1471 rfl (by decide) (Nat.le_of_ble_eq_true rfl) (Nat.le_of_ble_eq_true rfl) ⟨hk.1, hk.2⟩ rfl ?_
  refine j_aload_n (pc := 1474) hC 2 2 dL_law_1474 rfl rfl ?_
  refine j_vL (pc := 1475) hC hR [] (c_X12_asks hL k1 e2) iy_X12_asks (q := (RX12, TX12, 40)) (ci := 12) rfl rfl (by decide) k1 km_L_211 dL_law_1475 rfl (by decide) (Nat.le_of_ble_eq_true rfl) (Nat.le_of_ble_eq_true rfl) ⟨hk.1, hk.2⟩ rfl ?_
  exact j_icmp_eq (pc := 1478) hC 1675 dL_law_1478 (by decide) (fun _ => kk _ hr2) (fun c => absurd rfl c)
set_option maxHeartbeats 4000000 in
theorem lc_43 {X : jX} {G : jG} {L : jL} {b Ln : Nat} {xs : Nat → Int32} (hw : jLw X G L b Ln xs) {i : Int32} (hi : ∀ k : Int32, 0 ≤ k → k < 5 → vp_in (i + k) Ln) {kc ks : Nat} (hk : kc + 1 ≤ 601024 ∧ ks + 6 ≤ 7293034) {Q : State → Prop} {μ : jM} (hr : Rel μ) (kk : ∀ μ2, Rel μ2 → jJ X G 8 L (kc + 1) (ks + 6) Q 1675 (lwlv b L i) [] μ2) : jJ X G 8 L kc ks Q 1483 (lwlv b L i) [] μ := by
  obtain ⟨hC, h5, hR, hs, hX, hbl, hbA, hL⟩ := hw
  have k0 : jK L 0 11 := jK_of hL 0 11 (by decide +kernel)
  have k1 : jK L 201 12 := jK_of hL 201 12 (by decide +kernel)
  obtain ⟨r, μ1, μ2, e1, e2, hr2⟩ := sim_years hr (xs (i + (1 : Int32)).toNatClampNeg) (xs (i + (2 : Int32)).toNatClampNeg)
  unfold lwlv at *
  refine j_widen (Nat.le_succ kc) (Nat.le_add_right ks 6) ?_
  refine j_aload_n (pc := 1483) hC 1 1 dL_law_1483 rfl rfl ?_
  refine j_aload_n (pc := 1484) hC 0 0 dL_law_1484 rfl rfl ?_
  refine j_iload (pc := 1485) hC 4 dL_law_1485 rfl ?_
  refine j_iconst (pc := 1487) hC (1 : Int32) dL_law_1487 (by decide) ?_
  refine j_iadd (pc := 1488) hC dL_law_1488 ?_
  refine j_qld (pc := 1489) hC hX hbl hbA (hi (1 : Int32) (by decide) (by decide)) dL_law_1489 ?_
  refine j_aload_n (pc := 1490) hC 0 0 dL_law_1490 rfl rfl ?_
  refine j_iload (pc := 1491) hC 4 dL_law_1491 rfl ?_
  refine j_iconst (pc := 1493) hC (2 : Int32) dL_law_1493 (by decide) ?_
  refine j_iadd (pc := 1494) hC dL_law_1494 ?_
  refine j_qld (pc := 1495) hC hX hbl hbA (hi (2 : Int32) (by decide) (by decide)) dL_law_1495 ?_
  refine j_vL (pc := 1496) hC hR [.int (xs (i + (1 : Int32)).toNatClampNeg), .int (xs (i + (2 : Int32)).toNatClampNeg)] (c_X11_years hL k0 e1) iy_X11_years (q := (RX11, TX11, 15)) (ci := 11) rfl rfl (by decide) k0 km_L_212 dL_law_1496 rfl (by decide) (Nat.le_of_ble_eq_true rfl) (Nat.le_of_ble_eq_true rfl) ⟨hk.1, hk.2⟩ rfl ?_
  refine j_aload_n (pc := 1499) hC 2 2 dL_law_1499 rfl rfl ?_
  refine j_aload_n (pc := 1500) hC 0 0 dL_law_1500 rfl rfl ?_
  refine j_iload (pc := 1501) hC 4 dL_law_1501 rfl ?_
  refine j_iconst (pc := 1503) hC (1 : Int32) dL_law_1503 (by decide) ?_
  refine j_iadd (pc := 1504) hC dL_law_1504 ?_
  refine j_qld (pc := 1505) hC hX hbl hbA (hi (1 : Int32) (by decide) (by decide)) dL_law_1505 ?_
  refine j_aload_n (pc := 1506) hC 0 0 dL_law_1506 rfl rfl ?_
  refine j_iload (pc := 1507) hC 4 dL_law_1507 rfl ?_
  refine j_iconst (pc := 1509) hC (2 : Int32) dL_law_1509 (by decide) ?_
  refine j_iadd (pc := 1510) hC dL_law_1510 ?_
  refine j_qld (pc := 1511) hC hX hbl hbA (hi (2 : Int32) (by decide) (by decide)) dL_law_1511 ?_
  refine j_vL (pc := 1512) hC hR [.int (xs (i + (1 : Int32)).toNatClampNeg), .int (xs (i + (2 : Int32)).toNatClampNeg)] (c_X12_years hL k1 e2) iy_X12_years (q := (RX12, TX12, 40)) (ci := 12) rfl rfl (by decide) k1 km_L_215 dL_law_1512 rfl (by decide) (Nat.le_of_ble_eq_true rfl) (Nat.le_of_ble_eq_true rfl) ⟨hk.1, hk.2⟩ rfl ?_
  exact j_icmp_eq (pc := 1515) hC 1675 dL_law_1515 (by decide) (fun _ => kk _ hr2) (fun c => absurd rfl c)
set_option maxHeartbeats 4000000 in
theorem lc_44 {X : jX} {G : jG} {L : jL} {b Ln : Nat} {xs : Nat → Int32} (hw : jLw X G L b Ln xs) {i : Int32} (hi : ∀ k : Int32, 0 ≤ k → k < 5 → vp_in (i + k) Ln) {kc ks : Nat} (hk : kc + 1 ≤ 601024 ∧ ks + 6 ≤ 7293034) {Q : State → Prop} {μ : jM} (hr : Rel μ) (kk : ∀ μ2, Rel μ2 → jJ X G 8 L (kc + 1) (ks + 6) Q 1675 (lwlv b L i) [] μ2) : jJ X G 8 L kc ks Q 1520 (lwlv b L i) [] μ := by
  obtain ⟨hC, h5, hR, hs, hX, hbl, hbA, hL⟩ := hw
  have k0 : jK L 0 11 := jK_of hL 0 11 (by decide +kernel)
  have k1 : jK L 201 12 := jK_of hL 201 12 (by decide +kernel)
  obtain ⟨r, μ1, μ2, e1, e2, hr2⟩ := sim_keep hr (xs (i + (1 : Int32)).toNatClampNeg)
  unfold lwlv at *
  refine j_widen (Nat.le_succ kc) (Nat.le_add_right ks 6) ?_
  refine j_aload_n (pc := 1520) hC 1 1 dL_law_1520 rfl rfl ?_
  refine j_aload_n (pc := 1521) hC 0 0 dL_law_1521 rfl rfl ?_
  refine j_iload (pc := 1522) hC 4 dL_law_1522 rfl ?_
  refine j_iconst (pc := 1524) hC (1 : Int32) dL_law_1524 (by decide) ?_
  refine j_iadd (pc := 1525) hC dL_law_1525 ?_
  refine j_qld (pc := 1526) hC hX hbl hbA (hi (1 : Int32) (by decide) (by decide)) dL_law_1526 ?_
  refine j_vL (pc := 1527) hC hR [.int (xs (i + (1 : Int32)).toNatClampNeg)] (c_X11_keep hL k0 e1) iy_X11_keep (q := (RX11, TX11, 15)) (ci := 11) rfl rfl (by decide) k0 km_L_216 dL_law_1527 rfl (by decide) (Nat.le_of_ble_eq_true rfl) (Nat.le_of_ble_eq_true rfl) ⟨hk.1, hk.2⟩ rfl ?_
  refine j_aload_n (pc := 1530) hC 2 2 dL_law_1530 rfl rfl ?_
  refine j_aload_n (pc := 1531) hC 0 0 dL_law_1531 rfl rfl ?_
  refine j_iload (pc := 1532) hC 4 dL_law_1532 rfl ?_
  refine j_iconst (pc := 1534) hC (1 : Int32) dL_law_1534 (by decide) ?_
  refine j_iadd (pc := 1535) hC dL_law_1535 ?_
  refine j_qld (pc := 1536) hC hX hbl hbA (hi (1 : Int32) (by decide) (by decide)) dL_law_1536 ?_
  refine j_vL (pc := 1537) hC hR [.int (xs (i + (1 : Int32)).toNatClampNeg)] (c_X12_keep hL k1 e2) iy_X12_keep (q := (RX12, TX12, 40)) (ci := 12) rfl rfl (by decide) k1 km_L_219 dL_law_1537 rfl (by decide) (Nat.le_of_ble_eq_true rfl) (Nat.le_of_ble_eq_true rfl) ⟨hk.1, hk.2⟩ rfl ?_
  exact j_icmp_eq (pc := 1540) hC 1675 dL_law_1540 (by decide) (fun _ => kk _ hr2) (fun c => absurd rfl c)
set_option maxHeartbeats 4000000 in
theorem lc_45 {X : jX} {G : jG} {L : jL} {b Ln : Nat} {xs : Nat → Int32} (hw : jLw X G L b Ln xs) {i : Int32} (hi : ∀ k : Int32, 0 ≤ k → k < 5 → vp_in (i + k) Ln) {kc ks : Nat} (hk : kc + 1 ≤ 601024 ∧ ks + 6 ≤ 7293034) {Q : State → Prop} {μ : jM} (hr : Rel μ) (kk : ∀ μ2, Rel μ2 → jJ X G 8 L (kc + 1) (ks + 6) Q 1675 (lwlv b L i) [] μ2) : jJ X G 8 L kc ks Q 1545 (lwlv b L i) [] μ := by
  obtain ⟨hC, h5, hR, hs, hX, hbl, hbA, hL⟩ := hw
  have k0 : jK L 0 11 := jK_of hL 0 11 (by decide +kernel)
  have k1 : jK L 201 12 := jK_of hL 201 12 (by decide +kernel)
  obtain ⟨r, μ1, μ2, e1, e2, hr2⟩ := sim_again hr (xs (i + (1 : Int32)).toNatClampNeg)
  unfold lwlv at *
  refine j_widen (Nat.le_succ kc) (Nat.le_add_right ks 6) ?_
  refine j_aload_n (pc := 1545) hC 1 1 dL_law_1545 rfl rfl ?_
  refine j_aload_n (pc := 1546) hC 0 0 dL_law_1546 rfl rfl ?_
  refine j_iload (pc := 1547) hC 4 dL_law_1547 rfl ?_
  refine j_iconst (pc := 1549) hC (1 : Int32) dL_law_1549 (by decide) ?_
  refine j_iadd (pc := 1550) hC dL_law_1550 ?_
  refine j_qld (pc := 1551) hC hX hbl hbA (hi (1 : Int32) (by decide) (by decide)) dL_law_1551 ?_
  refine j_vL (pc := 1552) hC hR [.int (xs (i + (1 : Int32)).toNatClampNeg)] (c_X11_again hL k0 e1) iy_X11_again (q := (RX11, TX11, 15)) (ci := 11) rfl rfl (by decide) k0 km_L_220 dL_law_1552 rfl (by decide) (Nat.le_of_ble_eq_true rfl) (Nat.le_of_ble_eq_true rfl) ⟨hk.1, hk.2⟩ rfl ?_
  refine j_aload_n (pc := 1555) hC 2 2 dL_law_1555 rfl rfl ?_
  refine j_aload_n (pc := 1556) hC 0 0 dL_law_1556 rfl rfl ?_
  refine j_iload (pc := 1557) hC 4 dL_law_1557 rfl ?_
  refine j_iconst (pc := 1559) hC (1 : Int32) dL_law_1559 (by decide) ?_
  refine j_iadd (pc := 1560) hC dL_law_1560 ?_
  refine j_qld (pc := 1561) hC hX hbl hbA (hi (1 : Int32) (by decide) (by decide)) dL_law_1561 ?_
  refine j_vL (pc := 1562) hC hR [.int (xs (i + (1 : Int32)).toNatClampNeg)] (c_X12_again hL k1 e2) iy_X12_again (q := (RX12, TX12, 40)) (ci := 12) rfl rfl (by decide) k1 km_L_223 dL_law_1562 rfl (by decide) (Nat.le_of_ble_eq_true rfl) (Nat.le_of_ble_eq_true rfl) ⟨hk.1, hk.2⟩ rfl ?_
  exact j_icmp_eq (pc := 1565) hC 1675 dL_law_1565 (by decide) (fun _ => kk _ hr2) (fun c => absurd rfl c)
set_option maxHeartbeats 4000000 in
theorem lc_46 {X : jX} {G : jG} {L : jL} {b Ln : Nat} {xs : Nat → Int32} (hw : jLw X G L b Ln xs) {i : Int32} (hi : ∀ k : Int32, 0 ≤ k → k < 5 → vp_in (i + k) Ln) {kc ks : Nat} (hk : kc + 1 ≤ 601024 ∧ ks + 6 ≤ 7293034) {Q : State → Prop} {μ : jM} (hr : Rel μ) (kk : ∀ μ2, Rel μ2 → jJ X G 8 L (kc + 1) (ks + 6) Q 1675 (lwlv b L i) [] μ2) : jJ X G 8 L kc ks Q 1570 (lwlv b L i) [] μ := by
  obtain ⟨hC, h5, hR, hs, hX, hbl, hbA, hL⟩ := hw
  have k0 : jK L 0 11 := jK_of hL 0 11 (by decide +kernel)
  have k1 : jK L 201 12 := jK_of hL 201 12 (by decide +kernel)
  obtain ⟨r, μ1, μ2, e1, e2, hr2⟩ := sim_differs hr (xs (i + (1 : Int32)).toNatClampNeg)
  unfold lwlv at *
  refine j_widen (Nat.le_succ kc) (Nat.le_add_right ks 6) ?_
  refine j_aload_n (pc := 1570) hC 1 1 dL_law_1570 rfl rfl ?_
  refine j_aload_n (pc := 1571) hC 0 0 dL_law_1571 rfl rfl ?_
  refine j_iload (pc := 1572) hC 4 dL_law_1572 rfl ?_
  refine j_iconst (pc := 1574) hC (1 : Int32) dL_law_1574 (by decide) ?_
  refine j_iadd (pc := 1575) hC dL_law_1575 ?_
  refine j_qld (pc := 1576) hC hX hbl hbA (hi (1 : Int32) (by decide) (by decide)) dL_law_1576 ?_
  refine j_vL (pc := 1577) hC hR [.int (xs (i + (1 : Int32)).toNatClampNeg)] (c_X11_differs hL k0 e1) iy_X11_differs (q := (RX11, TX11, 15)) (ci := 11) rfl rfl (by decide) k0 km_L_224 dL_law_1577 rfl (by decide) (Nat.le_of_ble_eq_true rfl) (Nat.le_of_ble_eq_true rfl) ⟨hk.1, hk.2⟩ rfl ?_
  refine j_aload_n (pc := 1580) hC 2 2 dL_law_1580 rfl rfl ?_
  refine j_aload_n (pc := 1581) hC 0 0 dL_law_1581 rfl rfl ?_
  refine j_iload (pc := 1582) hC 4 dL_law_1582 rfl ?_
  refine j_iconst (pc := 1584) hC (1 : Int32) dL_law_1584 (by decide) ?_
  refine j_iadd (pc := 1585) hC dL_law_1585 ?_
  refine j_qld (pc := 1586) hC hX hbl hbA (hi (1 : Int32) (by decide) (by decide)) dL_law_1586 ?_
  refine j_vL (pc := 1587) hC hR [.int (xs (i + (1 : Int32)).toNatClampNeg)] (c_X12_differs hL k1 e2) iy_X12_differs (q := (RX12, TX12, 40)) (ci := 12) rfl rfl (by decide) k1 km_L_227 dL_law_1587 rfl (by decide) (Nat.le_of_ble_eq_true rfl) (Nat.le_of_ble_eq_true rfl) ⟨hk.1, hk.2⟩ rfl ?_
  exact j_icmp_eq (pc := 1590) hC 1675 dL_law_1590 (by decide) (fun _ => kk _ hr2) (fun c => absurd rfl c)
set_option maxHeartbeats 4000000 in
theorem lc_47 {X : jX} {G : jG} {L : jL} {b Ln : Nat} {xs : Nat → Int32} (hw : jLw X G L b Ln xs) {i : Int32} (hi : ∀ k : Int32, 0 ≤ k → k < 5 → vp_in (i + k) Ln) {kc ks : Nat} (hk : kc + 1 ≤ 601024 ∧ ks + 6 ≤ 7293034) {Q : State → Prop} {μ : jM} (hr : Rel μ) (kk : ∀ μ2, Rel μ2 → jJ X G 8 L (kc + 1) (ks + 6) Q 1675 (lwlv b L i) [] μ2) : jJ X G 8 L kc ks Q 1595 (lwlv b L i) [] μ := by
  obtain ⟨hC, h5, hR, hs, hX, hbl, hbA, hL⟩ := hw
  have k0 : jK L 0 11 := jK_of hL 0 11 (by decide +kernel)
  have k1 : jK L 201 12 := jK_of hL 201 12 (by decide +kernel)
  obtain ⟨r, μ2, e1, e2, hr2⟩ := sim_count hr (xs (i + (1 : Int32)).toNatClampNeg)
  unfold lwlv at *
  refine j_widen (Nat.le_succ kc) (Nat.le_add_right ks 6) ?_
  refine j_aload_n (pc := 1595) hC 1 1 dL_law_1595 rfl rfl ?_
  refine j_aload_n (pc := 1596) hC 0 0 dL_law_1596 rfl rfl ?_
  refine j_iload (pc := 1597) hC 4 dL_law_1597 rfl ?_
  refine j_iconst (pc := 1599) hC (1 : Int32) dL_law_1599 (by decide) ?_
  refine j_iadd (pc := 1600) hC dL_law_1600 ?_
  refine j_qld (pc := 1601) hC hX hbl hbA (hi (1 : Int32) (by decide) (by decide)) dL_law_1601 ?_
  refine j_vL (pc := 1602) hC hR [.int (xs (i + (1 : Int32)).toNatClampNeg)] (c_X11_count hL k0 e1) iy_X11_count (q := (RX11, TX11, 15)) (ci := 11) rfl rfl (by decide) k0 km_L_228 dL_law_1602 rfl (by decide) (Nat.le_of_ble_eq_true rfl) (Nat.le_of_ble_eq_true rfl) ⟨hk.1, hk.2⟩ rfl ?_
  refine j_aload_n (pc := 1605) hC 2 2 dL_law_1605 rfl rfl ?_
  refine j_aload_n (pc := 1606) hC 0 0 dL_law_1606 rfl rfl ?_
  refine j_iload (pc := 1607) hC 4 dL_law_1607 rfl ?_
  refine j_iconst (pc := 1609) hC (1 : Int32) dL_law_1609 (by decide) ?_
  refine j_iadd (pc := 1610) hC dL_law_1610 ?_
  refine j_qld (pc := 1611) hC hX hbl hbA (hi (1 : Int32) (by decide) (by decide)) dL_law_1611 ?_
  refine j_vL (pc := 1612) hC hR [.int (xs (i + (1 : Int32)).toNatClampNeg)] (c_X12_count hL k1 e2) iy_X12_count (q := (RX12, TX12, 40)) (ci := 12) rfl rfl (by decide) k1 km_L_231 dL_law_1612 rfl (by decide) (Nat.le_of_ble_eq_true rfl) (Nat.le_of_ble_eq_true rfl) ⟨hk.1, hk.2⟩ rfl ?_
  exact j_icmp_eq (pc := 1615) hC 1675 dL_law_1615 (by decide) (fun _ => kk _ hr2) (fun c => absurd rfl c)
set_option maxHeartbeats 4000000 in
theorem lc_48 {X : jX} {G : jG} {L : jL} {b Ln : Nat} {xs : Nat → Int32} (hw : jLw X G L b Ln xs) {i : Int32} (hi : ∀ k : Int32, 0 ≤ k → k < 5 → vp_in (i + k) Ln) {kc ks : Nat} (hk : kc + 1 ≤ 601024 ∧ ks + 6 ≤ 7293034) {Q : State → Prop} {μ : jM} (hr : Rel μ) (kk : ∀ μ2, Rel μ2 → jJ X G 8 L (kc + 1) (ks + 6) Q 1675 (lwlv b L i) [] μ2) : jJ X G 8 L kc ks Q 1620 (lwlv b L i) [] μ := by
  obtain ⟨hC, h5, hR, hs, hX, hbl, hbA, hL⟩ := hw
  have k0 : jK L 0 11 := jK_of hL 0 11 (by decide +kernel)
  have k1 : jK L 201 12 := jK_of hL 201 12 (by decide +kernel)
  have k9 : jK L 224 14 := jK_of hL 224 14 (by decide +kernel)
  have n9 : (L.2.1 224).2.1 = 1 := by rw [jlen_ok hL]; decide +kernel
  obtain ⟨w, hg, hw5⟩ := sim_rowA hr (xs (i + (1 : Int32)).toNatClampNeg)
  obtain ⟨r, μ2, e2, hF⟩ := hw5 _ (hO_ou hr w)
  unfold lwlv at *
  refine j_aload_n (pc := 1620) hC 1 1 dL_law_1620 rfl rfl ?_
  refine j_aload_n (pc := 1621) hC 0 0 dL_law_1621 rfl rfl ?_
  refine j_iload (pc := 1622) hC 4 dL_law_1622 rfl ?_
  refine j_iconst (pc := 1624) hC (1 : Int32) dL_law_1624 (by decide) ?_
  refine j_iadd (pc := 1625) hC dL_law_1625 ?_
  refine j_qld (pc := 1626) hC hX hbl hbA (hi (1 : Int32) (by decide) (by decide)) dL_law_1626 ?_
  refine j_aload_n (pc := 1627) hC 3 3 dL_law_1627 rfl rfl ?_
  refine j_cH (n := 3) (pc := 1628) hC h5 hR [.ref (L.2.2 0), .int (xs (i + (1 : Int32)).toNatClampNeg), .ref (L.2.2 224)] (cH_row hs hL hg) kLw_row kLs_row kL_i ⟨by decide +kernel, by decide +kernel, by decide +kernel⟩ km_L_232 dL_law_1628 rfl (by decide) (by decide) (Nat.le_of_ble_eq_true rfl) hk rfl ?_
  refine j_istore (pc := 1631) hC [(5, .int (hB w)), (0, .ref b), (1, .ref (L.2.2 0)), (2, .ref (L.2.2 201)), (3, .ref (L.2.2 224)), (4, .int i)] dL_law_1631 (by decide) rfl rfl ?_
  refine j_aload_n (pc := 1633) hC 2 3 dL_law_1633 rfl rfl ?_
  refine j_aload_n (pc := 1634) hC 0 1 dL_law_1634 rfl rfl ?_
  refine j_iload (pc := 1635) hC 5 dL_law_1635 rfl ?_
  refine j_iconst (pc := 1637) hC (1 : Int32) dL_law_1637 (by decide) ?_
  refine j_iadd (pc := 1638) hC dL_law_1638 ?_
  refine j_qld (pc := 1639) hC hX hbl hbA (hi (1 : Int32) (by decide) (by decide)) dL_law_1639 ?_
  refine j_vL (pc := 1640) hC hR [.int (xs (i + (1 : Int32)).toNatClampNeg)] (c_X12_row hL k1 e2) iy_X12_row (q := (RX12, TX12, 40)) (ci := 12) rfl rfl (by decide) k1 km_L_234 dL_law_1640 rfl (by decide) (Nat.le_of_ble_eq_true rfl) (Nat.le_of_ble_eq_true rfl) ⟨hk.1, hk.2⟩ rfl ?_
  refine j_lstore (pc := 1643) hC [(6, .long r), (5, .int (hB w)), (0, .ref b), (1, .ref (L.2.2 0)), (2, .ref (L.2.2 201)), (3, .ref (L.2.2 224)), (4, .int i)] dL_law_1643 (by decide) rfl rfl ?_
  refine j_aload_n (pc := 1645) hC 2 4 dL_law_1645 rfl rfl ?_
  refine j_vL (pc := 1646) hC hR [] (c_X12_thrown hL k1 (F5_thr hF)) iy_X12_thrown (q := (RX12, TX12, 40)) (ci := 12) rfl rfl (by decide) k1 km_L_48 dL_law_1646 rfl (by decide) (Nat.le_of_ble_eq_true rfl) (Nat.le_of_ble_eq_true rfl) ⟨hk.1, hk.2⟩ rfl ?_
  refine j_iload (pc := 1649) hC 1 dL_law_1649 rfl ?_
  refine j_icmp_eq (pc := 1651) hC 1656 dL_law_1651 (by decide) (fun _ => ?_) (fun c => absurd rfl c)
  refine j_iload (pc := 1656) hC 1 dL_law_1656 rfl ?_
  have hend : jJ X G 8 L (kc + 1) (ks + 6) Q 1672 [(6, .long r), (5, .int (hB w)), (0, .ref b), (1, .ref (L.2.2 0)), (2, .ref (L.2.2 201)), (3, .ref (L.2.2 224)), (4, .int i)] [] μ2 := by
    refine j_goto (pc := 1672) hC 1675 dL_law_1672 (by decide) ?_
    exact j_lv [2, 3, 4, 5, 6] rfl (kk _ hF.1)
  refine j_if_ne (pc := 1658) hC 1672 dL_law_1658 (by decide) (fun _ => hend) (fun c0 => ?_)
  refine j_aload_n (pc := 1661) hC 3 5 dL_law_1661 rfl rfl ?_
  refine j_iconst (pc := 1662) hC (0 : Int32) dL_law_1662 (by decide) ?_
  refine j_lald (pc := 1663) hC dL_law_1663 k9 n9 (by unfold vp_in; decide) (v := μ2.2 224 0) rfl ?_
  refine j_lload (pc := 1664) hC 0 dL_law_1664 rfl ?_
  refine j_lcmp (pc := 1666) hC dL_law_1666 ?_
  rw [F5_vall hF c0, lg_cmp_self]
  exact j_if_eq (pc := 1667) hC 1672 dL_law_1667 (by decide) (fun _ => hend) (fun c => absurd rfl c)
