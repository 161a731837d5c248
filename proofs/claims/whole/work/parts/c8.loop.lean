set_option maxHeartbeats 4000000 in
theorem law_switch {X : jX} {G : jG} {L : jL} {b Ln : Nat} {xs : Nat → Int32} (hw : jLw X G L b Ln xs) {i : Int32} (hi : ∀ k : Int32, 0 ≤ k → k < 5 → vp_in (i + k) Ln) {kc ks : Nat} (hk : kc + 1 ≤ 601024 ∧ ks + 6 ≤ 7293034) {Q : State → Prop} {μ : jM} (hr : Rel μ) (kk : ∀ μ2, Rel μ2 → jJ X G 8 L (kc + 1) (ks + 6) Q 1675 (lwlv b L i) [] μ2) {v : Int32} : jJ X G 8 L kc ks Q 39 (lwlv b L i) [.int v] μ := by
  have hC := hw.1
  by_cases c0 : v = (0 : Int32)
  · exact j_tableIn (pc := 39) hC 248 dL_law_39 (by rw [c0]; decide) (by rw [c0]; decide) (by rw [c0]; rfl) (by decide) (lc_0 hw hi hk hr kk)
  by_cases c1 : v = (1 : Int32)
  · exact j_tableIn (pc := 39) hC 273 dL_law_39 (by rw [c1]; decide) (by rw [c1]; decide) (by rw [c1]; rfl) (by decide) (lc_1 hw hi hk hr kk)
  by_cases c2 : v = (2 : Int32)
  · exact j_tableIn (pc := 39) hC 298 dL_law_39 (by rw [c2]; decide) (by rw [c2]; decide) (by rw [c2]; rfl) (by decide) (lc_2 hw hi hk hr kk)
  by_cases c3 : v = (3 : Int32)
  · exact j_tableIn (pc := 39) hC 354 dL_law_39 (by rw [c3]; decide) (by rw [c3]; decide) (by rw [c3]; rfl) (by decide) (lc_3 hw hi hk hr kk)
  by_cases c4 : v = (4 : Int32)
  · exact j_tableIn (pc := 39) hC 410 dL_law_39 (by rw [c4]; decide) (by rw [c4]; decide) (by rw [c4]; rfl) (by decide) (lc_4 hw hi hk hr kk)
  by_cases c5 : v = (5 : Int32)
  · exact j_tableIn (pc := 39) hC 478 dL_law_39 (by rw [c5]; decide) (by rw [c5]; decide) (by rw [c5]; rfl) (by decide) (lc_5 hw hi hk hr kk)
  by_cases c6 : v = (6 : Int32)
  · exact j_tableIn (pc := 39) hC 546 dL_law_39 (by rw [c6]; decide) (by rw [c6]; decide) (by rw [c6]; rfl) (by decide) (lc_6 hw hi hk hr kk)
  by_cases c7 : v = (7 : Int32)
  · exact j_tableIn (pc := 39) hC 607 dL_law_39 (by rw [c7]; decide) (by rw [c7]; decide) (by rw [c7]; rfl) (by decide) (lc_7 hw hi hk hr kk)
  by_cases c8 : v = (8 : Int32)
  · exact j_tableIn (pc := 39) hC 644 dL_law_39 (by rw [c8]; decide) (by rw [c8]; decide) (by rw [c8]; rfl) (by decide) (lc_8 hw hi hk hr kk)
  by_cases c9 : v = (9 : Int32)
  · exact j_tableIn (pc := 39) hC 681 dL_law_39 (by rw [c9]; decide) (by rw [c9]; decide) (by rw [c9]; rfl) (by decide) (lc_9 hw hi hk hr kk)
  by_cases c10 : v = (10 : Int32)
  · exact j_tableIn (pc := 39) hC 718 dL_law_39 (by rw [c10]; decide) (by rw [c10]; decide) (by rw [c10]; rfl) (by decide) (lc_10 hw hi hk hr kk)
  by_cases c11 : v = (11 : Int32)
  · exact j_tableIn (pc := 39) hC 755 dL_law_39 (by rw [c11]; decide) (by rw [c11]; decide) (by rw [c11]; rfl) (by decide) (lc_11 hw hi hk hr kk)
  by_cases c12 : v = (12 : Int32)
  · exact j_tableIn (pc := 39) hC 804 dL_law_39 (by rw [c12]; decide) (by rw [c12]; decide) (by rw [c12]; rfl) (by decide) (lc_12 hw hi hk hr kk)
  by_cases c13 : v = (13 : Int32)
  · exact j_tableIn (pc := 39) hC 829 dL_law_39 (by rw [c13]; decide) (by rw [c13]; decide) (by rw [c13]; rfl) (by decide) (lc_13 hw hi hk hr kk)
  by_cases c14 : v = (14 : Int32)
  · exact j_tableIn (pc := 39) hC 866 dL_law_39 (by rw [c14]; decide) (by rw [c14]; decide) (by rw [c14]; rfl) (by decide) (lc_14 hw hi hk hr kk)
  by_cases c15 : v = (15 : Int32)
  · exact j_tableIn (pc := 39) hC 891 dL_law_39 (by rw [c15]; decide) (by rw [c15]; decide) (by rw [c15]; rfl) (by decide) (lc_15 hw hi hk hr kk)
  by_cases c16 : v = (16 : Int32)
  · exact j_tableIn (pc := 39) hC 904 dL_law_39 (by rw [c16]; decide) (by rw [c16]; decide) (by rw [c16]; rfl) (by decide) (lc_16 hw hi hk hr kk)
  by_cases c17 : v = (17 : Int32)
  · exact j_tableIn (pc := 39) hC 929 dL_law_39 (by rw [c17]; decide) (by rw [c17]; decide) (by rw [c17]; rfl) (by decide) (lc_17 hw hi hk hr kk)
  by_cases c18 : v = (18 : Int32)
  · exact j_tableIn (pc := 39) hC 942 dL_law_39 (by rw [c18]; decide) (by rw [c18]; decide) (by rw [c18]; rfl) (by decide) (lc_18 hw hi hk hr kk)
  by_cases c19 : v = (19 : Int32)
  · exact j_tableIn (pc := 39) hC 955 dL_law_39 (by rw [c19]; decide) (by rw [c19]; decide) (by rw [c19]; rfl) (by decide) (lc_19 hw hi hk hr kk)
  by_cases c20 : v = (20 : Int32)
  · exact j_tableIn (pc := 39) hC 968 dL_law_39 (by rw [c20]; decide) (by rw [c20]; decide) (by rw [c20]; rfl) (by decide) (lc_20 hw hi hk hr kk)
  by_cases c21 : v = (21 : Int32)
  · exact j_tableIn (pc := 39) hC 993 dL_law_39 (by rw [c21]; decide) (by rw [c21]; decide) (by rw [c21]; rfl) (by decide) (lc_21 hw hi hk hr kk)
  by_cases c22 : v = (22 : Int32)
  · exact j_tableIn (pc := 39) hC 1006 dL_law_39 (by rw [c22]; decide) (by rw [c22]; decide) (by rw [c22]; rfl) (by decide) (lc_22 hw hi hk hr kk)
  by_cases c23 : v = (23 : Int32)
  · exact j_tableIn (pc := 39) hC 1019 dL_law_39 (by rw [c23]; decide) (by rw [c23]; decide) (by rw [c23]; rfl) (by decide) (lc_23 hw hi hk hr kk)
  by_cases c24 : v = (24 : Int32)
  · exact j_tableIn (pc := 39) hC 1056 dL_law_39 (by rw [c24]; decide) (by rw [c24]; decide) (by rw [c24]; rfl) (by decide) (lc_24 hw hi hk hr kk)
  by_cases c25 : v = (25 : Int32)
  · exact j_tableIn (pc := 39) hC 1081 dL_law_39 (by rw [c25]; decide) (by rw [c25]; decide) (by rw [c25]; rfl) (by decide) (lc_25 hw hi hk hr kk)
  by_cases c26 : v = (26 : Int32)
  · exact j_tableIn (pc := 39) hC 1106 dL_law_39 (by rw [c26]; decide) (by rw [c26]; decide) (by rw [c26]; rfl) (by decide) (lc_26 hw hi hk hr kk)
  by_cases c27 : v = (27 : Int32)
  · exact j_tableIn (pc := 39) hC 1131 dL_law_39 (by rw [c27]; decide) (by rw [c27]; decide) (by rw [c27]; rfl) (by decide) (lc_27 hw hi hk hr kk)
  by_cases c28 : v = (28 : Int32)
  · exact j_tableIn (pc := 39) hC 1168 dL_law_39 (by rw [c28]; decide) (by rw [c28]; decide) (by rw [c28]; rfl) (by decide) (lc_28 hw hi hk hr kk)
  by_cases c29 : v = (29 : Int32)
  · exact j_tableIn (pc := 39) hC 1181 dL_law_39 (by rw [c29]; decide) (by rw [c29]; decide) (by rw [c29]; rfl) (by decide) (lc_29 hw hi hk hr kk)
  by_cases c30 : v = (30 : Int32)
  · exact j_tableIn (pc := 39) hC 1206 dL_law_39 (by rw [c30]; decide) (by rw [c30]; decide) (by rw [c30]; rfl) (by decide) (lc_30 hw hi hk hr kk)
  by_cases c31 : v = (31 : Int32)
  · exact j_tableIn (pc := 39) hC 1219 dL_law_39 (by rw [c31]; decide) (by rw [c31]; decide) (by rw [c31]; rfl) (by decide) (lc_31 hw hi hk hr kk)
  by_cases c32 : v = (32 : Int32)
  · exact j_tableIn (pc := 39) hC 1244 dL_law_39 (by rw [c32]; decide) (by rw [c32]; decide) (by rw [c32]; rfl) (by decide) (lc_32 hw hi hk hr kk)
  by_cases c33 : v = (33 : Int32)
  · exact j_tableIn (pc := 39) hC 1257 dL_law_39 (by rw [c33]; decide) (by rw [c33]; decide) (by rw [c33]; rfl) (by decide) (lc_33 hw hi hk hr kk)
  by_cases c34 : v = (34 : Int32)
  · exact j_tableIn (pc := 39) hC 1282 dL_law_39 (by rw [c34]; decide) (by rw [c34]; decide) (by rw [c34]; rfl) (by decide) (lc_34 hw hi hk hr kk)
  by_cases c35 : v = (35 : Int32)
  · exact j_tableIn (pc := 39) hC 1295 dL_law_39 (by rw [c35]; decide) (by rw [c35]; decide) (by rw [c35]; rfl) (by decide) (lc_35 hw hi hk hr kk)
  by_cases c36 : v = (36 : Int32)
  · exact j_tableIn (pc := 39) hC 1332 dL_law_39 (by rw [c36]; decide) (by rw [c36]; decide) (by rw [c36]; rfl) (by decide) (lc_36 hw hi hk hr kk)
  by_cases c37 : v = (37 : Int32)
  · exact j_tableIn (pc := 39) hC 1345 dL_law_39 (by rw [c37]; decide) (by rw [c37]; decide) (by rw [c37]; rfl) (by decide) (lc_37 hw hi hk hr kk)
  by_cases c38 : v = (38 : Int32)
  · exact j_tableIn (pc := 39) hC 1382 dL_law_39 (by rw [c38]; decide) (by rw [c38]; decide) (by rw [c38]; rfl) (by decide) (lc_38 hw hi hk hr kk)
  by_cases c39 : v = (39 : Int32)
  · exact j_tableIn (pc := 39) hC 1395 dL_law_39 (by rw [c39]; decide) (by rw [c39]; decide) (by rw [c39]; rfl) (by decide) (lc_39 hw hi hk hr kk)
  by_cases c40 : v = (40 : Int32)
  · exact j_tableIn (pc := 39) hC 1444 dL_law_39 (by rw [c40]; decide) (by rw [c40]; decide) (by rw [c40]; rfl) (by decide) (lc_40 hw hi hk hr kk)
  by_cases c41 : v = (41 : Int32)
  · exact j_tableIn (pc := 39) hC 1457 dL_law_39 (by rw [c41]; decide) (by rw [c41]; decide) (by rw [c41]; rfl) (by decide) (lc_41 hw hi hk hr kk)
  by_cases c42 : v = (42 : Int32)
  · exact j_tableIn (pc := 39) hC 1470 dL_law_39 (by rw [c42]; decide) (by rw [c42]; decide) (by rw [c42]; rfl) (by decide) (lc_42 hw hi hk hr kk)
  by_cases c43 : v = (43 : Int32)
  · exact j_tableIn (pc := 39) hC 1483 dL_law_39 (by rw [c43]; decide) (by rw [c43]; decide) (by rw [c43]; rfl) (by decide) (lc_43 hw hi hk hr kk)
  by_cases c44 : v = (44 : Int32)
  · exact j_tableIn (pc := 39) hC 1520 dL_law_39 (by rw [c44]; decide) (by rw [c44]; decide) (by rw [c44]; rfl) (by decide) (lc_44 hw hi hk hr kk)
  by_cases c45 : v = (45 : Int32)
  · exact j_tableIn (pc := 39) hC 1545 dL_law_39 (by rw [c45]; decide) (by rw [c45]; decide) (by rw [c45]; rfl) (by decide) (lc_45 hw hi hk hr kk)
  by_cases c46 : v = (46 : Int32)
  · exact j_tableIn (pc := 39) hC 1570 dL_law_39 (by rw [c46]; decide) (by rw [c46]; decide) (by rw [c46]; rfl) (by decide) (lc_46 hw hi hk hr kk)
  by_cases c47 : v = (47 : Int32)
  · exact j_tableIn (pc := 39) hC 1595 dL_law_39 (by rw [c47]; decide) (by rw [c47]; decide) (by rw [c47]; rfl) (by decide) (lc_47 hw hi hk hr kk)
  by_cases c48 : v = (48 : Int32)
  · exact j_tableIn (pc := 39) hC 1620 dL_law_39 (by rw [c48]; decide) (by rw [c48]; decide) (by rw [c48]; rfl) (by decide) (lc_48 hw hi hk hr kk)
  refine j_tableOut (pc := 39) hC 1675 dL_law_39 (by have := lv_neT c0 (show (0 : Int32).toInt = 0 by decide); have := lv_neT c1 (show (1 : Int32).toInt = 1 by decide); have := lv_neT c2 (show (2 : Int32).toInt = 2 by decide); have := lv_neT c3 (show (3 : Int32).toInt = 3 by decide); have := lv_neT c4 (show (4 : Int32).toInt = 4 by decide); have := lv_neT c5 (show (5 : Int32).toInt = 5 by decide); have := lv_neT c6 (show (6 : Int32).toInt = 6 by decide); have := lv_neT c7 (show (7 : Int32).toInt = 7 by decide); have := lv_neT c8 (show (8 : Int32).toInt = 8 by decide); have := lv_neT c9 (show (9 : Int32).toInt = 9 by decide); have := lv_neT c10 (show (10 : Int32).toInt = 10 by decide); have := lv_neT c11 (show (11 : Int32).toInt = 11 by decide); have := lv_neT c12 (show (12 : Int32).toInt = 12 by decide); have := lv_neT c13 (show (13 : Int32).toInt = 13 by decide); have := lv_neT c14 (show (14 : Int32).toInt = 14 by decide); have := lv_neT c15 (show (15 : Int32).toInt = 15 by decide); have := lv_neT c16 (show (16 : Int32).toInt = 16 by decide); have := lv_neT c17 (show (17 : Int32).toInt = 17 by decide); have := lv_neT c18 (show (18 : Int32).toInt = 18 by decide); have := lv_neT c19 (show (19 : Int32).toInt = 19 by decide); have := lv_neT c20 (show (20 : Int32).toInt = 20 by decide); have := lv_neT c21 (show (21 : Int32).toInt = 21 by decide); have := lv_neT c22 (show (22 : Int32).toInt = 22 by decide); have := lv_neT c23 (show (23 : Int32).toInt = 23 by decide); have := lv_neT c24 (show (24 : Int32).toInt = 24 by decide); have := lv_neT c25 (show (25 : Int32).toInt = 25 by decide); have := lv_neT c26 (show (26 : Int32).toInt = 26 by decide); have := lv_neT c27 (show (27 : Int32).toInt = 27 by decide); have := lv_neT c28 (show (28 : Int32).toInt = 28 by decide); have := lv_neT c29 (show (29 : Int32).toInt = 29 by decide); have := lv_neT c30 (show (30 : Int32).toInt = 30 by decide); have := lv_neT c31 (show (31 : Int32).toInt = 31 by decide); have := lv_neT c32 (show (32 : Int32).toInt = 32 by decide); have := lv_neT c33 (show (33 : Int32).toInt = 33 by decide); have := lv_neT c34 (show (34 : Int32).toInt = 34 by decide); have := lv_neT c35 (show (35 : Int32).toInt = 35 by decide); have := lv_neT c36 (show (36 : Int32).toInt = 36 by decide); have := lv_neT c37 (show (37 : Int32).toInt = 37 by decide); have := lv_neT c38 (show (38 : Int32).toInt = 38 by decide); have := lv_neT c39 (show (39 : Int32).toInt = 39 by decide); have := lv_neT c40 (show (40 : Int32).toInt = 40 by decide); have := lv_neT c41 (show (41 : Int32).toInt = 41 by decide); have := lv_neT c42 (show (42 : Int32).toInt = 42 by decide); have := lv_neT c43 (show (43 : Int32).toInt = 43 by decide); have := lv_neT c44 (show (44 : Int32).toInt = 44 by decide); have := lv_neT c45 (show (45 : Int32).toInt = 45 by decide); have := lv_neT c46 (show (46 : Int32).toInt = 46 by decide); have := lv_neT c47 (show (47 : Int32).toInt = 47 by decide); have := lv_neT c48 (show (48 : Int32).toInt = 48 by decide); omega) (by decide) ?_
  exact j_widen (Nat.le_succ kc) (Nat.le_add_right ks 6) (kk _ hr)
theorem law_loop {X : jX} {G : jG} {L : jL} {b Ln : Nat} {xs : Nat → Int32} (hw : jLw X G L b Ln xs) (hLn : Ln ≤ 2560) {c0 s0 : Nat} (hc0 : c0 + 600 ≤ 601024) (hs0 : s0 + 3600 ≤ 7293034) {Q : State → Prop} (kend : ∀ (kc ks : Nat) (lv : List (Nat × Value)) (μ : jM), kc ≤ 601024 → ks ≤ 7293034 → jJ X G 8 L kc ks Q 1681 lv [] μ) :
    ∀ (n j : Nat), 5 * j ≤ Ln → Ln < 5 * j + 5 * n → ∀ μ : jM, Rel μ → jJ X G 8 L (c0 + j) (s0 + 6 * j) Q 23 (lwlv b L (nI (5 * j))) [] μ := by
  have hC := hw.1
  obtain ⟨-, -, -, -, hX, hbl, hbA, -⟩ := id hw
  intro n
  induction n with
  | zero => intro j h1 h2; omega
  | succ n ih =>
    intro j h1 h2 μ hr
    have ei := nI_toInt (n := 5 * j) (by omega)
    have el : (nI Ln - (5 : Int32)).toInt = (Ln : Int) - 5 := pk_sub_toInt (b := 5) (by omega) (by omega)
    unfold lwlv
    refine j_iload (pc := 23) hC 4 dL_law_23 rfl ?_
    refine j_aload_n (pc := 25) hC 0 0 dL_law_25 rfl rfl ?_
    refine j_qlen (pc := 26) hC hX hbl hbA dL_law_26 ?_
    refine j_iconst (pc := 27) hC (5 : Int32) dL_law_27 (by decide) ?_
    refine j_isub (pc := 28) hC dL_law_28 ?_
    refine j_icmp_gt (pc := 29) hC 1681 dL_law_29 (by decide) (fun _ => kend _ _ _ _ (by omega) (by omega)) (fun c => ?_)
    have hle : 5 * j + 5 ≤ Ln := by
      rw [Int32.lt_iff_toInt_lt, ei, el] at c
      omega
    refine j_aload_n (pc := 32) hC 0 0 dL_law_32 rfl rfl ?_
    refine j_iload (pc := 33) hC 4 dL_law_33 rfl ?_
    refine j_qld (pc := 35) hC hX hbl hbA (vp_in_nI (by omega) (by omega)) dL_law_35 ?_
    refine j_bipush (pc := 36) hC (63 : Int32) dL_law_36 (by decide) ?_
    refine j_iand (pc := 38) hC dL_law_38 ?_
    refine law_switch hw (fun k k0 k5 => ?_) ⟨by omega, by omega⟩ hr (fun μ2 hr2 => ?_)
    · have k0' : (0 : Int32).toInt ≤ k.toInt := Int32.le_iff_toInt_le.mp k0
      have k5' : k.toInt < (5 : Int32).toInt := Int32.lt_iff_toInt_lt.mp k5
      obtain ⟨m, hm, rfl⟩ := nI_iof (n := 5) (x := k) ⟨k0', k5'⟩ (by decide)
      rw [nI_add]
      exact vp_in_nI (by omega) (by omega)
    · unfold lwlv
      refine j_iinc (pc := 1675) hC 4 (nI (5 * (j + 1))) [(4, .int (nI (5 * (j + 1)))), (0, .ref b), (1, .ref (L.2.2 0)), (2, .ref (L.2.2 201)), (3, .ref (L.2.2 224))] dL_law_1675 rfl ?_ (by decide) rfl ?_
      · show nI (5 * (j + 1)) = nI (5 * j) + nI 5
        rw [nI_add]
        rfl
      · refine j_goto (pc := 1678) hC 23 dL_law_1678 (by decide) ?_
        have h := ih (j + 1) (by omega) (by omega) μ2 hr2
        exact j_lv [1, 2, 3, 4, 0] rfl h
