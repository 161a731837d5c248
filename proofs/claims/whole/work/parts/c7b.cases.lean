set_option maxHeartbeats 4000000 in
theorem lc_17 {X : jX} {G : jG} {L : jL} {b Ln : Nat} {xs : Nat → Int32} (hw : jLw X G L b Ln xs) {i : Int32} (hi : ∀ k : Int32, 0 ≤ k → k < 5 → vp_in (i + k) Ln) {kc ks : Nat} (hk : kc + 1 ≤ 601024 ∧ ks + 6 ≤ 7293034) {Q : State → Prop} {μ : jM} (hr : Rel μ) (kk : ∀ μ2, Rel μ2 → jJ X G 8 L (kc + 1) (ks + 6) Q 1675 (lwlv b L i) [] μ2) : jJ X G 8 L kc ks Q 929 (lwlv b L i) [] μ := by
  obtain ⟨hC, h5, hR, hs, hX, hbl, hbA, hL⟩ := hw
  have k0 : jK L 0 11 := jK_of hL 0 11 (by decide +kernel)
  have k1 : jK L 201 12 := jK_of hL 201 12 (by decide +kernel)
  obtain ⟨r, μ1, μ2, e1, e2, hr2⟩ := sim_spreads hr 
  unfold lwlv at *
  refine j_widen (Nat.le_succ kc) (Nat.le_add_right ks 6) ?_
  refine j_aload_n (pc := 929) hC 1 1 dL_law_929 rfl rfl ?_
  refine j_vL (pc := 930) hC hR [] (c_X11_spreads hL k0 e1) iy_X11_spreads (q := (RX11, TX11, 15)) (ci := 11) rfl rfl (by decide) k0 km_L_108 dL_law_930 rfl (by decide) (Nat.le_of_ble_eq_true rfl) (Nat.le_of_ble_eq_true rfl) ⟨hk.1, hk.2⟩ rfl ?_
  refine j_aload_n (pc := 933) hC 2 2 dL_law_933 rfl rfl ?_
  refine j_vL (pc := 934) hC hR [] (c_X12_spreads hL k1 e2) iy_X12_spreads (q := (RX12, TX12, 40)) (ci := 12) rfl rfl (by decide) k1 km_L_111 dL_law_934 rfl (by decide) (Nat.le_of_ble_eq_true rfl) (Nat.le_of_ble_eq_true rfl) ⟨hk.1, hk.2⟩ rfl ?_
  exact j_icmp_eq (pc := 937) hC 1675 dL_law_937 (by decide) (fun _ => kk _ hr2) (fun c => absurd rfl c)
set_option maxHeartbeats 4000000 in
theorem lc_18 {X : jX} {G : jG} {L : jL} {b Ln : Nat} {xs : Nat → Int32} (hw : jLw X G L b Ln xs) {i : Int32} (hi : ∀ k : Int32, 0 ≤ k → k < 5 → vp_in (i + k) Ln) {kc ks : Nat} (hk : kc + 1 ≤ 601024 ∧ ks + 6 ≤ 7293034) {Q : State → Prop} {μ : jM} (hr : Rel μ) (kk : ∀ μ2, Rel μ2 → jJ X G 8 L (kc + 1) (ks + 6) Q 1675 (lwlv b L i) [] μ2) : jJ X G 8 L kc ks Q 942 (lwlv b L i) [] μ := by
  obtain ⟨hC, h5, hR, hs, hX, hbl, hbA, hL⟩ := hw
  have k0 : jK L 0 11 := jK_of hL 0 11 (by decide +kernel)
  have k1 : jK L 201 12 := jK_of hL 201 12 (by decide +kernel)
  obtain ⟨r, μ1, μ2, e1, e2, hr2⟩ := sim_opens hr 
  unfold lwlv at *
  refine j_widen (Nat.le_succ kc) (Nat.le_add_right ks 6) ?_
  refine j_aload_n (pc := 942) hC 1 1 dL_law_942 rfl rfl ?_
  refine j_vL (pc := 943) hC hR [] (c_X11_opens hL k0 e1) iy_X11_opens (q := (RX11, TX11, 15)) (ci := 11) rfl rfl (by decide) k0 km_L_112 dL_law_943 rfl (by decide) (Nat.le_of_ble_eq_true rfl) (Nat.le_of_ble_eq_true rfl) ⟨hk.1, hk.2⟩ rfl ?_
  refine j_aload_n (pc := 946) hC 2 2 dL_law_946 rfl rfl ?_
  refine j_vL (pc := 947) hC hR [] (c_X12_opens hL k1 e2) iy_X12_opens (q := (RX12, TX12, 40)) (ci := 12) rfl rfl (by decide) k1 km_L_115 dL_law_947 rfl (by decide) (Nat.le_of_ble_eq_true rfl) (Nat.le_of_ble_eq_true rfl) ⟨hk.1, hk.2⟩ rfl ?_
  exact j_icmp_eq (pc := 950) hC 1675 dL_law_950 (by decide) (fun _ => kk _ hr2) (fun c => absurd rfl c)
set_option maxHeartbeats 4000000 in
theorem lc_19 {X : jX} {G : jG} {L : jL} {b Ln : Nat} {xs : Nat → Int32} (hw : jLw X G L b Ln xs) {i : Int32} (hi : ∀ k : Int32, 0 ≤ k → k < 5 → vp_in (i + k) Ln) {kc ks : Nat} (hk : kc + 1 ≤ 601024 ∧ ks + 6 ≤ 7293034) {Q : State → Prop} {μ : jM} (hr : Rel μ) (kk : ∀ μ2, Rel μ2 → jJ X G 8 L (kc + 1) (ks + 6) Q 1675 (lwlv b L i) [] μ2) : jJ X G 8 L kc ks Q 955 (lwlv b L i) [] μ := by
  obtain ⟨hC, h5, hR, hs, hX, hbl, hbA, hL⟩ := hw
  have k0 : jK L 0 11 := jK_of hL 0 11 (by decide +kernel)
  have k1 : jK L 201 12 := jK_of hL 201 12 (by decide +kernel)
  obtain ⟨r, μ1, μ2, e1, e2, hr2⟩ := sim_closes hr 
  unfold lwlv at *
  refine j_widen (Nat.le_succ kc) (Nat.le_add_right ks 6) ?_
  refine j_aload_n (pc := 955) hC 1 1 dL_law_955 rfl rfl ?_
  refine j_vL (pc := 956) hC hR [] (c_X11_closes hL k0 e1) iy_X11_closes (q := (RX11, TX11, 15)) (ci := 11) rfl rfl (by decide) k0 km_L_116 dL_law_956 rfl (by decide) (Nat.le_of_ble_eq_true rfl) (Nat.le_of_ble_eq_true rfl) ⟨hk.1, hk.2⟩ rfl ?_
  refine j_aload_n (pc := 959) hC 2 2 dL_law_959 rfl rfl ?_
  refine j_vL (pc := 960) hC hR [] (c_X12_closes hL k1 e2) iy_X12_closes (q := (RX12, TX12, 40)) (ci := 12) rfl rfl (by decide) k1 km_L_119 dL_law_960 rfl (by decide) (Nat.le_of_ble_eq_true rfl) (Nat.le_of_ble_eq_true rfl) ⟨hk.1, hk.2⟩ rfl ?_
  exact j_icmp_eq (pc := 963) hC 1675 dL_law_963 (by decide) (fun _ => kk _ hr2) (fun c => absurd rfl c)
set_option maxHeartbeats 4000000 in
theorem lc_20 {X : jX} {G : jG} {L : jL} {b Ln : Nat} {xs : Nat → Int32} (hw : jLw X G L b Ln xs) {i : Int32} (hi : ∀ k : Int32, 0 ≤ k → k < 5 → vp_in (i + k) Ln) {kc ks : Nat} (hk : kc + 1 ≤ 601024 ∧ ks + 6 ≤ 7293034) {Q : State → Prop} {μ : jM} (hr : Rel μ) (kk : ∀ μ2, Rel μ2 → jJ X G 8 L (kc + 1) (ks + 6) Q 1675 (lwlv b L i) [] μ2) : jJ X G 8 L kc ks Q 968 (lwlv b L i) [] μ := by
  obtain ⟨hC, h5, hR, hs, hX, hbl, hbA, hL⟩ := hw
  have k0 : jK L 0 11 := jK_of hL 0 11 (by decide +kernel)
  have k1 : jK L 201 12 := jK_of hL 201 12 (by decide +kernel)
  obtain ⟨r, μ1, μ2, e1, e2, hr2⟩ := sim_back hr (xs (i + (1 : Int32)).toNatClampNeg)
  unfold lwlv at *
  refine j_widen (Nat.le_succ kc) (Nat.le_add_right ks 6) ?_
  refine j_aload_n (pc := 968) hC 1 1 dL_law_968 rfl rfl ?_
  refine j_aload_n (pc := 969) hC 0 0 dL_law_969 rfl rfl ?_
  refine j_iload (pc := 970) hC 4 dL_law_970 rfl ?_
  refine j_iconst (pc := 972) hC (1 : Int32) dL_law_972 (by decide) ?_
  refine j_iadd (pc := 973) hC dL_law_973 ?_
  refine j_qld (pc := 974) hC hX hbl hbA (hi (1 : Int32) (by decide) (by decide)) dL_law_974 ?_
  refine j_vL (pc := 975) hC hR [.int (xs (i + (1 : Int32)).toNatClampNeg)] (c_X11_back hL k0 e1) iy_X11_back (q := (RX11, TX11, 15)) (ci := 11) rfl rfl (by decide) k0 km_L_120 dL_law_975 rfl (by decide) (Nat.le_of_ble_eq_true rfl) (Nat.le_of_ble_eq_true rfl) ⟨hk.1, hk.2⟩ rfl ?_
  refine j_aload_n (pc := 978) hC 2 2 dL_law_978 rfl rfl ?_
  refine j_aload_n (pc := 979) hC 0 0 dL_law_979 rfl rfl ?_
  refine j_iload (pc := 980) hC 4 dL_law_980 rfl ?_
  refine j_iconst (pc := 982) hC (1 : Int32) dL_law_982 (by decide) ?_
  refine j_iadd (pc := 983) hC dL_law_983 ?_
  refine j_qld (pc := 984) hC hX hbl hbA (hi (1 : Int32) (by decide) (by decide)) dL_law_984 ?_
  refine j_vL (pc := 985) hC hR [.int (xs (i + (1 : Int32)).toNatClampNeg)] (c_X12_back hL k1 e2) iy_X12_back (q := (RX12, TX12, 40)) (ci := 12) rfl rfl (by decide) k1 km_L_123 dL_law_985 rfl (by decide) (Nat.le_of_ble_eq_true rfl) (Nat.le_of_ble_eq_true rfl) ⟨hk.1, hk.2⟩ rfl ?_
  exact j_icmp_eq (pc := 988) hC 1675 dL_law_988 (by decide) (fun _ => kk _ hr2) (fun c => absurd rfl c)
set_option maxHeartbeats 4000000 in
theorem lc_21 {X : jX} {G : jG} {L : jL} {b Ln : Nat} {xs : Nat → Int32} (hw : jLw X G L b Ln xs) {i : Int32} (hi : ∀ k : Int32, 0 ≤ k → k < 5 → vp_in (i + k) Ln) {kc ks : Nat} (hk : kc + 1 ≤ 601024 ∧ ks + 6 ≤ 7293034) {Q : State → Prop} {μ : jM} (hr : Rel μ) (kk : ∀ μ2, Rel μ2 → jJ X G 8 L (kc + 1) (ks + 6) Q 1675 (lwlv b L i) [] μ2) : jJ X G 8 L kc ks Q 993 (lwlv b L i) [] μ := by
  obtain ⟨hC, h5, hR, hs, hX, hbl, hbA, hL⟩ := hw
  have k0 : jK L 0 11 := jK_of hL 0 11 (by decide +kernel)
  have k1 : jK L 201 12 := jK_of hL 201 12 (by decide +kernel)
  obtain ⟨r, μ1, μ2, e1, e2, hr2⟩ := sim_commits hr 
  unfold lwlv at *
  refine j_widen (Nat.le_succ kc) (Nat.le_add_right ks 6) ?_
  refine j_aload_n (pc := 993) hC 1 1 dL_law_993 rfl rfl ?_
  refine j_vL (pc := 994) hC hR [] (c_X11_commits hL k0 e1) iy_X11_commits (q := (RX11, TX11, 15)) (ci := 11) rfl rfl (by decide) k0 km_L_124 dL_law_994 rfl (by decide) (Nat.le_of_ble_eq_true rfl) (Nat.le_of_ble_eq_true rfl) ⟨hk.1, hk.2⟩ rfl ?_
  refine j_aload_n (pc := 997) hC 2 2 dL_law_997 rfl rfl ?_
  refine j_vL (pc := 998) hC hR [] (c_X12_commits hL k1 e2) iy_X12_commits (q := (RX12, TX12, 40)) (ci := 12) rfl rfl (by decide) k1 km_L_127 dL_law_998 rfl (by decide) (Nat.le_of_ble_eq_true rfl) (Nat.le_of_ble_eq_true rfl) ⟨hk.1, hk.2⟩ rfl ?_
  exact j_icmp_eq (pc := 1001) hC 1675 dL_law_1001 (by decide) (fun _ => kk _ hr2) (fun c => absurd rfl c)
set_option maxHeartbeats 4000000 in
theorem lc_22 {X : jX} {G : jG} {L : jL} {b Ln : Nat} {xs : Nat → Int32} (hw : jLw X G L b Ln xs) {i : Int32} (hi : ∀ k : Int32, 0 ≤ k → k < 5 → vp_in (i + k) Ln) {kc ks : Nat} (hk : kc + 1 ≤ 601024 ∧ ks + 6 ≤ 7293034) {Q : State → Prop} {μ : jM} (hr : Rel μ) (kk : ∀ μ2, Rel μ2 → jJ X G 8 L (kc + 1) (ks + 6) Q 1675 (lwlv b L i) [] μ2) : jJ X G 8 L kc ks Q 1006 (lwlv b L i) [] μ := by
  obtain ⟨hC, h5, hR, hs, hX, hbl, hbA, hL⟩ := hw
  have k0 : jK L 0 11 := jK_of hL 0 11 (by decide +kernel)
  have k1 : jK L 201 12 := jK_of hL 201 12 (by decide +kernel)
  obtain ⟨r, μ1, μ2, e1, e2, hr2⟩ := sim_run hr 
  unfold lwlv at *
  refine j_widen (Nat.le_succ kc) (Nat.le_add_right ks 6) ?_
  refine j_aload_n (pc := 1006) hC 1 1 dL_law_1006 rfl rfl ?_
  refine j_vL (pc := 1007) hC hR [] (c_X11_run hL k0 e1) iy_X11_run (q := (RX11, TX11, 15)) (ci := 11) rfl rfl (by decide) k0 km_L_128 dL_law_1007 rfl (by decide) (Nat.le_of_ble_eq_true rfl) (Nat.le_of_ble_eq_true rfl) ⟨hk.1, hk.2⟩ rfl ?_
  refine j_aload_n (pc := 1010) hC 2 2 dL_law_1010 rfl rfl ?_
  refine j_vL (pc := 1011) hC hR [] (c_X12_run hL k1 e2) iy_X12_run (q := (RX12, TX12, 40)) (ci := 12) rfl rfl (by decide) k1 km_L_131 dL_law_1011 rfl (by decide) (Nat.le_of_ble_eq_true rfl) (Nat.le_of_ble_eq_true rfl) ⟨hk.1, hk.2⟩ rfl ?_
  exact j_icmp_eq (pc := 1014) hC 1675 dL_law_1014 (by decide) (fun _ => kk _ hr2) (fun c => absurd rfl c)
set_option maxHeartbeats 4000000 in
theorem lc_23 {X : jX} {G : jG} {L : jL} {b Ln : Nat} {xs : Nat → Int32} (hw : jLw X G L b Ln xs) {i : Int32} (hi : ∀ k : Int32, 0 ≤ k → k < 5 → vp_in (i + k) Ln) {kc ks : Nat} (hk : kc + 1 ≤ 601024 ∧ ks + 6 ≤ 7293034) {Q : State → Prop} {μ : jM} (hr : Rel μ) (kk : ∀ μ2, Rel μ2 → jJ X G 8 L (kc + 1) (ks + 6) Q 1675 (lwlv b L i) [] μ2) : jJ X G 8 L kc ks Q 1019 (lwlv b L i) [] μ := by
  obtain ⟨hC, h5, hR, hs, hX, hbl, hbA, hL⟩ := hw
  have k0 : jK L 0 11 := jK_of hL 0 11 (by decide +kernel)
  have k1 : jK L 201 12 := jK_of hL 201 12 (by decide +kernel)
  obtain ⟨r, μ2, e1, e2, hr2⟩ := sim_was hr (xs (i + (1 : Int32)).toNatClampNeg) (xs (i + (2 : Int32)).toNatClampNeg)
  unfold lwlv at *
  refine j_widen (Nat.le_succ kc) (Nat.le_add_right ks 6) ?_
  refine j_aload_n (pc := 1019) hC 1 1 dL_law_1019 rfl rfl ?_
  refine j_aload_n (pc := 1020) hC 0 0 dL_law_1020 rfl rfl ?_
  refine j_iload (pc := 1021) hC 4 dL_law_1021 rfl ?_
  refine j_iconst (pc := 1023) hC (1 : Int32) dL_law_1023 (by decide) ?_
  refine j_iadd (pc := 1024) hC dL_law_1024 ?_
  refine j_qld (pc := 1025) hC hX hbl hbA (hi (1 : Int32) (by decide) (by decide)) dL_law_1025 ?_
  refine j_aload_n (pc := 1026) hC 0 0 dL_law_1026 rfl rfl ?_
  refine j_iload (pc := 1027) hC 4 dL_law_1027 rfl ?_
  refine j_iconst (pc := 1029) hC (2 : Int32) dL_law_1029 (by decide) ?_
  refine j_iadd (pc := 1030) hC dL_law_1030 ?_
  refine j_qld (pc := 1031) hC hX hbl hbA (hi (2 : Int32) (by decide) (by decide)) dL_law_1031 ?_
  refine j_vL (pc := 1032) hC hR [.int (xs (i + (1 : Int32)).toNatClampNeg), .int (xs (i + (2 : Int32)).toNatClampNeg)] (c_X11_was hL k0 e1) iy_X11_was (q := (RX11, TX11, 15)) (ci := 11) rfl rfl (by decide) k0 km_L_132 dL_law_1032 rfl (by decide) (Nat.le_of_ble_eq_true rfl) (Nat.le_of_ble_eq_true rfl) ⟨hk.1, hk.2⟩ rfl ?_
  refine j_aload_n (pc := 1035) hC 2 2 dL_law_1035 rfl rfl ?_
  refine j_aload_n (pc := 1036) hC 0 0 dL_law_1036 rfl rfl ?_
  refine j_iload (pc := 1037) hC 4 dL_law_1037 rfl ?_
  refine j_iconst (pc := 1039) hC (1 : Int32) dL_law_1039 (by decide) ?_
  refine j_iadd (pc := 1040) hC dL_law_1040 ?_
  refine j_qld (pc := 1041) hC hX hbl hbA (hi (1 : Int32) (by decide) (by decide)) dL_law_1041 ?_
  refine j_aload_n (pc := 1042) hC 0 0 dL_law_1042 rfl rfl ?_
  refine j_iload (pc := 1043) hC 4 dL_law_1043 rfl ?_
  refine j_iconst (pc := 1045) hC (2 : Int32) dL_law_1045 (by decide) ?_
  refine j_iadd (pc := 1046) hC dL_law_1046 ?_
  refine j_qld (pc := 1047) hC hX hbl hbA (hi (2 : Int32) (by decide) (by decide)) dL_law_1047 ?_
  refine j_vL (pc := 1048) hC hR [.int (xs (i + (1 : Int32)).toNatClampNeg), .int (xs (i + (2 : Int32)).toNatClampNeg)] (c_X12_was hL k1 e2) iy_X12_was (q := (RX12, TX12, 40)) (ci := 12) rfl rfl (by decide) k1 km_L_135 dL_law_1048 rfl (by decide) (Nat.le_of_ble_eq_true rfl) (Nat.le_of_ble_eq_true rfl) ⟨hk.1, hk.2⟩ rfl ?_
  exact j_icmp_eq (pc := 1051) hC 1675 dL_law_1051 (by decide) (fun _ => kk _ hr2) (fun c => absurd rfl c)
set_option maxHeartbeats 4000000 in
theorem lc_24 {X : jX} {G : jG} {L : jL} {b Ln : Nat} {xs : Nat → Int32} (hw : jLw X G L b Ln xs) {i : Int32} (hi : ∀ k : Int32, 0 ≤ k → k < 5 → vp_in (i + k) Ln) {kc ks : Nat} (hk : kc + 1 ≤ 601024 ∧ ks + 6 ≤ 7293034) {Q : State → Prop} {μ : jM} (hr : Rel μ) (kk : ∀ μ2, Rel μ2 → jJ X G 8 L (kc + 1) (ks + 6) Q 1675 (lwlv b L i) [] μ2) : jJ X G 8 L kc ks Q 1056 (lwlv b L i) [] μ := by
  obtain ⟨hC, h5, hR, hs, hX, hbl, hbA, hL⟩ := hw
  have k0 : jK L 0 11 := jK_of hL 0 11 (by decide +kernel)
  have k1 : jK L 201 12 := jK_of hL 201 12 (by decide +kernel)
  obtain ⟨r, μ1, μ2, e1, e2, hr2⟩ := sim_trail hr (xs (i + (1 : Int32)).toNatClampNeg)
  unfold lwlv at *
  refine j_widen (Nat.le_succ kc) (Nat.le_add_right ks 6) ?_
  refine j_aload_n (pc := 1056) hC 1 1 dL_law_1056 rfl rfl ?_
  refine j_aload_n (pc := 1057) hC 0 0 dL_law_1057 rfl rfl ?_
  refine j_iload (pc := 1058) hC 4 dL_law_1058 rfl ?_
  refine j_iconst (pc := 1060) hC (1 : Int32) dL_law_1060 (by decide) ?_
  refine j_iadd (pc := 1061) hC dL_law_1061 ?_
  refine j_qld (pc := 1062) hC hX hbl hbA (hi (1 : Int32) (by decide) (by decide)) dL_law_1062 ?_
  refine j_vL (pc := 1063) hC hR [.int (xs (i + (1 : Int32)).toNatClampNeg)] (c_X11_trail hL k0 e1) iy_X11_trail (q := (RX11, TX11, 15)) (ci := 11) rfl rfl (by decide) k0 km_L_136 dL_law_1063 rfl (by decide) (Nat.le_of_ble_eq_true rfl) (Nat.le_of_ble_eq_true rfl) ⟨hk.1, hk.2⟩ rfl ?_
  refine j_aload_n (pc := 1066) hC 2 2 dL_law_1066 rfl rfl ?_
  refine j_aload_n (pc := 1067) hC 0 0 dL_law_1067 rfl rfl ?_
  refine j_iload (pc := 1068) hC 4 dL_law_1068 rfl ?_
  refine j_iconst (pc := 1070) hC (1 : Int32) dL_law_1070 (by decide) ?_
  refine j_iadd (pc := 1071) hC dL_law_1071 ?_
  refine j_qld (pc := 1072) hC hX hbl hbA (hi (1 : Int32) (by decide) (by decide)) dL_law_1072 ?_
  refine j_vL (pc := 1073) hC hR [.int (xs (i + (1 : Int32)).toNatClampNeg)] (c_X12_trail hL k1 e2) iy_X12_trail (q := (RX12, TX12, 40)) (ci := 12) rfl rfl (by decide) k1 km_L_139 dL_law_1073 rfl (by decide) (Nat.le_of_ble_eq_true rfl) (Nat.le_of_ble_eq_true rfl) ⟨hk.1, hk.2⟩ rfl ?_
  exact j_icmp_eq (pc := 1076) hC 1675 dL_law_1076 (by decide) (fun _ => kk _ hr2) (fun c => absurd rfl c)
set_option maxHeartbeats 4000000 in
theorem lc_25 {X : jX} {G : jG} {L : jL} {b Ln : Nat} {xs : Nat → Int32} (hw : jLw X G L b Ln xs) {i : Int32} (hi : ∀ k : Int32, 0 ≤ k → k < 5 → vp_in (i + k) Ln) {kc ks : Nat} (hk : kc + 1 ≤ 601024 ∧ ks + 6 ≤ 7293034) {Q : State → Prop} {μ : jM} (hr : Rel μ) (kk : ∀ μ2, Rel μ2 → jJ X G 8 L (kc + 1) (ks + 6) Q 1675 (lwlv b L i) [] μ2) : jJ X G 8 L kc ks Q 1081 (lwlv b L i) [] μ := by
  obtain ⟨hC, h5, hR, hs, hX, hbl, hbA, hL⟩ := hw
  have k0 : jK L 0 11 := jK_of hL 0 11 (by decide +kernel)
  have k1 : jK L 201 12 := jK_of hL 201 12 (by decide +kernel)
  obtain ⟨r, μ1, μ2, e1, e2, hr2⟩ := sim_since hr (xs (i + (1 : Int32)).toNatClampNeg)
  unfold lwlv at *
  refine j_widen (Nat.le_succ kc) (Nat.le_add_right ks 6) ?_
  refine j_aload_n (pc := 1081) hC 1 1 dL_law_1081 rfl rfl ?_
  refine j_aload_n (pc := 1082) hC 0 0 dL_law_1082 rfl rfl ?_
  refine j_iload (pc := 1083) hC 4 dL_law_1083 rfl ?_
  refine j_iconst (pc := 1085) hC (1 : Int32) dL_law_1085 (by decide) ?_
  refine j_iadd (pc := 1086) hC dL_law_1086 ?_
  refine j_qld (pc := 1087) hC hX hbl hbA (hi (1 : Int32) (by decide) (by decide)) dL_law_1087 ?_
  refine j_vL (pc := 1088) hC hR [.int (xs (i + (1 : Int32)).toNatClampNeg)] (c_X11_since hL k0 e1) iy_X11_since (q := (RX11, TX11, 15)) (ci := 11) rfl rfl (by decide) k0 km_L_140 dL_law_1088 rfl (by decide) (Nat.le_of_ble_eq_true rfl) (Nat.le_of_ble_eq_true rfl) ⟨hk.1, hk.2⟩ rfl ?_
  refine j_aload_n (pc := 1091) hC 2 2 dL_law_1091 rfl rfl ?_
  refine j_aload_n (pc := 1092) hC 0 0 dL_law_1092 rfl rfl ?_
  refine j_iload (pc := 1093) hC 4 dL_law_1093 rfl ?_
  refine j_iconst (pc := 1095) hC (1 : Int32) dL_law_1095 (by decide) ?_
  refine j_iadd (pc := 1096) hC dL_law_1096 ?_
  refine j_qld (pc := 1097) hC hX hbl hbA (hi (1 : Int32) (by decide) (by decide)) dL_law_1097 ?_
  refine j_vL (pc := 1098) hC hR [.int (xs (i + (1 : Int32)).toNatClampNeg)] (c_X12_since hL k1 e2) iy_X12_since (q := (RX12, TX12, 40)) (ci := 12) rfl rfl (by decide) k1 km_L_143 dL_law_1098 rfl (by decide) (Nat.le_of_ble_eq_true rfl) (Nat.le_of_ble_eq_true rfl) ⟨hk.1, hk.2⟩ rfl ?_
  exact j_icmp_eq (pc := 1101) hC 1675 dL_law_1101 (by decide) (fun _ => kk _ hr2) (fun c => absurd rfl c)
set_option maxHeartbeats 4000000 in
theorem lc_26 {X : jX} {G : jG} {L : jL} {b Ln : Nat} {xs : Nat → Int32} (hw : jLw X G L b Ln xs) {i : Int32} (hi : ∀ k : Int32, 0 ≤ k → k < 5 → vp_in (i + k) Ln) {kc ks : Nat} (hk : kc + 1 ≤ 601024 ∧ ks + 6 ≤ 7293034) {Q : State → Prop} {μ : jM} (hr : Rel μ) (kk : ∀ μ2, Rel μ2 → jJ X G 8 L (kc + 1) (ks + 6) Q 1675 (lwlv b L i) [] μ2) : jJ X G 8 L kc ks Q 1106 (lwlv b L i) [] μ := by
  obtain ⟨hC, h5, hR, hs, hX, hbl, hbA, hL⟩ := hw
  have k0 : jK L 0 11 := jK_of hL 0 11 (by decide +kernel)
  have k1 : jK L 201 12 := jK_of hL 201 12 (by decide +kernel)
  obtain ⟨r, μ1, μ2, e1, e2, hr2⟩ := sim_would hr (xs (i + (1 : Int32)).toNatClampNeg)
  unfold lwlv at *
  refine j_widen (Nat.le_succ kc) (Nat.le_add_right ks 6) ?_
  refine j_aload_n (pc := 1106) hC 1 1 dL_law_1106 rfl rfl ?_
  refine j_aload_n (pc := 1107) hC 0 0 dL_law_1107 rfl rfl ?_
  refine j_iload (pc := 1108) hC 4 dL_law_1108 rfl ?_
  refine j_iconst (pc := 1110) hC (1 : Int32) dL_law_1110 (by decide) ?_
  refine j_iadd (pc := 1111) hC dL_law_1111 ?_
  refine j_qld (pc := 1112) hC hX hbl hbA (hi (1 : Int32) (by decide) (by decide)) dL_law_1112 ?_
  refine j_vL (pc := 1113) hC hR [.int (xs (i + (1 : Int32)).toNatClampNeg)] (c_X11_would hL k0 e1) iy_X11_would (q := (RX11, TX11, 15)) (ci := 11) rfl rfl (by decide) k0 km_L_144 dL_law_1113 rfl (by decide) (Nat.le_of_ble_eq_true rfl) (Nat.le_of_ble_eq_true rfl) ⟨hk.1, hk.2⟩ rfl ?_
  refine j_aload_n (pc := 1116) hC 2 2 dL_law_1116 rfl rfl ?_
  refine j_aload_n (pc := 1117) hC 0 0 dL_law_1117 rfl rfl ?_
  refine j_iload (pc := 1118) hC 4 dL_law_1118 rfl ?_
  refine j_iconst (pc := 1120) hC (1 : Int32) dL_law_1120 (by decide) ?_
  refine j_iadd (pc := 1121) hC dL_law_1121 ?_
  refine j_qld (pc := 1122) hC hX hbl hbA (hi (1 : Int32) (by decide) (by decide)) dL_law_1122 ?_
  refine j_vL (pc := 1123) hC hR [.int (xs (i + (1 : Int32)).toNatClampNeg)] (c_X12_would hL k1 e2) iy_X12_would (q := (RX12, TX12, 40)) (ci := 12) rfl rfl (by decide) k1 km_L_147 dL_law_1123 rfl (by decide) (Nat.le_of_ble_eq_true rfl) (Nat.le_of_ble_eq_true rfl) ⟨hk.1, hk.2⟩ rfl ?_
  exact j_icmp_eq (pc := 1126) hC 1675 dL_law_1126 (by decide) (fun _ => kk _ hr2) (fun c => absurd rfl c)
set_option maxHeartbeats 4000000 in
theorem lc_27 {X : jX} {G : jG} {L : jL} {b Ln : Nat} {xs : Nat → Int32} (hw : jLw X G L b Ln xs) {i : Int32} (hi : ∀ k : Int32, 0 ≤ k → k < 5 → vp_in (i + k) Ln) {kc ks : Nat} (hk : kc + 1 ≤ 601024 ∧ ks + 6 ≤ 7293034) {Q : State → Prop} {μ : jM} (hr : Rel μ) (kk : ∀ μ2, Rel μ2 → jJ X G 8 L (kc + 1) (ks + 6) Q 1675 (lwlv b L i) [] μ2) : jJ X G 8 L kc ks Q 1131 (lwlv b L i) [] μ := by
  obtain ⟨hC, h5, hR, hs, hX, hbl, hbA, hL⟩ := hw
  have k0 : jK L 0 11 := jK_of hL 0 11 (by decide +kernel)
  have k1 : jK L 201 12 := jK_of hL 201 12 (by decide +kernel)
  obtain ⟨r, μ1, μ2, e1, e2, hr2⟩ := sim_between hr (xs (i + (1 : Int32)).toNatClampNeg) (xs (i + (2 : Int32)).toNatClampNeg)
  unfold lwlv at *
  refine j_widen (Nat.le_succ kc) (Nat.le_add_right ks 6) ?_
  refine j_aload_n (pc := 1131) hC 1 1 dL_law_1131 rfl rfl ?_
  refine j_aload_n (pc := 1132) hC 0 0 dL_law_1132 rfl rfl ?_
  refine j_iload (pc := 1133) hC 4 dL_law_1133 rfl ?_
  refine j_iconst (pc := 1135) hC (1 : Int32) dL_law_1135 (by decide) ?_
  refine j_iadd (pc := 1136) hC dL_law_1136 ?_
  refine j_qld (pc := 1137) hC hX hbl hbA (hi (1 : Int32) (by decide) (by decide)) dL_law_1137 ?_
  refine j_aload_n (pc := 1138) hC 0 0 dL_law_1138 rfl rfl ?_
  refine j_iload (pc := 1139) hC 4 dL_law_1139 rfl ?_
  refine j_iconst (pc := 1141) hC (2 : Int32) dL_law_1141 (by decide) ?_
  refine j_iadd (pc := 1142) hC dL_law_1142 ?_
  refine j_qld (pc := 1143) hC hX hbl hbA (hi (2 : Int32) (by decide) (by decide)) dL_law_1143 ?_
  refine j_vL (pc := 1144) hC hR [.int (xs (i + (1 : Int32)).toNatClampNeg), .int (xs (i + (2 : Int32)).toNatClampNeg)] (c_X11_between hL k0 e1) iy_X11_between (q := (RX11, TX11, 15)) (ci := 11) rfl rfl (by decide) k0 km_L_148 dL_law_1144 rfl (by decide) (Nat.le_of_ble_eq_true rfl) (Nat.le_of_ble_eq_true rfl) ⟨hk.1, hk.2⟩ rfl ?_
  refine j_aload_n (pc := 1147) hC 2 2 dL_law_1147 rfl rfl ?_
  refine j_aload_n (pc := 1148) hC 0 0 dL_law_1148 rfl rfl ?_
  refine j_iload (pc := 1149) hC 4 dL_law_1149 rfl ?_
  refine j_iconst (pc := 1151) hC (1 : Int32) dL_law_1151 (by decide) ?_
  refine j_iadd (pc := 1152) hC dL_law_1152 ?_
  refine j_qld (pc := 1153) hC hX hbl hbA (hi (1 : Int32) (by decide) (by decide)) dL_law_1153 ?_
  refine j_aload_n (pc := 1154) hC 0 0 dL_law_1154 rfl rfl ?_
  refine j_iload (pc := 1155) hC 4 dL_law_1155 rfl ?_
  refine j_iconst (pc := 1157) hC (2 : Int32) dL_law_1157 (by decide) ?_
  refine j_iadd (pc := 1158) hC dL_law_1158 ?_
  refine j_qld (pc := 1159) hC hX hbl hbA (hi (2 : Int32) (by decide) (by decide)) dL_law_1159 ?_
  refine j_vL (pc := 1160) hC hR [.int (xs (i + (1 : Int32)).toNatClampNeg), .int (xs (i + (2 : Int32)).toNatClampNeg)] (c_X12_between hL k1 e2) iy_X12_between (q := (RX12, TX12, 40)) (ci := 12) rfl rfl (by decide) k1 km_L_151 dL_law_1160 rfl (by decide) (Nat.le_of_ble_eq_true rfl) (Nat.le_of_ble_eq_true rfl) ⟨hk.1, hk.2⟩ rfl ?_
  exact j_icmp_eq (pc := 1163) hC 1675 dL_law_1163 (by decide) (fun _ => kk _ hr2) (fun c => absurd rfl c)
set_option maxHeartbeats 4000000 in
theorem lc_28 {X : jX} {G : jG} {L : jL} {b Ln : Nat} {xs : Nat → Int32} (hw : jLw X G L b Ln xs) {i : Int32} (hi : ∀ k : Int32, 0 ≤ k → k < 5 → vp_in (i + k) Ln) {kc ks : Nat} (hk : kc + 1 ≤ 601024 ∧ ks + 6 ≤ 7293034) {Q : State → Prop} {μ : jM} (hr : Rel μ) (kk : ∀ μ2, Rel μ2 → jJ X G 8 L (kc + 1) (ks + 6) Q 1675 (lwlv b L i) [] μ2) : jJ X G 8 L kc ks Q 1168 (lwlv b L i) [] μ := by
  obtain ⟨hC, h5, hR, hs, hX, hbl, hbA, hL⟩ := hw
  have k0 : jK L 0 11 := jK_of hL 0 11 (by decide +kernel)
  have k1 : jK L 201 12 := jK_of hL 201 12 (by decide +kernel)
  obtain ⟨r, μ1, μ2, e1, e2, hr2⟩ := sim_many hr 
  unfold lwlv at *
  refine j_widen (Nat.le_succ kc) (Nat.le_add_right ks 6) ?_
  refine j_aload_n (pc := 1168) hC 1 1 dL_law_1168 rfl rfl ?_
  refine j_vL (pc := 1169) hC hR [] (c_X11_many hL k0 e1) iy_X11_many (q := (RX11, TX11, 15)) (ci := 11) rfl rfl (by decide) k0 km_L_152 dL_law_1169 rfl (by decide) (Nat.le_of_ble_eq_true rfl) (Nat.le_of_ble_eq_true rfl) ⟨hk.1, hk.2⟩ rfl ?_
  refine j_aload_n (pc := 1172) hC 2 2 dL_law_1172 rfl rfl ?_
  refine j_vL (pc := 1173) hC hR [] (c_X12_many hL k1 e2) iy_X12_many (q := (RX12, TX12, 40)) (ci := 12) rfl rfl (by decide) k1 km_L_155 dL_law_1173 rfl (by decide) (Nat.le_of_ble_eq_true rfl) (Nat.le_of_ble_eq_true rfl) ⟨hk.1, hk.2⟩ rfl ?_
  exact j_icmp_eq (pc := 1176) hC 1675 dL_law_1176 (by decide) (fun _ => kk _ hr2) (fun c => absurd rfl c)
set_option maxHeartbeats 4000000 in
theorem lc_29 {X : jX} {G : jG} {L : jL} {b Ln : Nat} {xs : Nat → Int32} (hw : jLw X G L b Ln xs) {i : Int32} (hi : ∀ k : Int32, 0 ≤ k → k < 5 → vp_in (i + k) Ln) {kc ks : Nat} (hk : kc + 1 ≤ 601024 ∧ ks + 6 ≤ 7293034) {Q : State → Prop} {μ : jM} (hr : Rel μ) (kk : ∀ μ2, Rel μ2 → jJ X G 8 L (kc + 1) (ks + 6) Q 1675 (lwlv b L i) [] μ2) : jJ X G 8 L kc ks Q 1181 (lwlv b L i) [] μ := by
  obtain ⟨hC, h5, hR, hs, hX, hbl, hbA, hL⟩ := hw
  have k0 : jK L 0 11 := jK_of hL 0 11 (by decide +kernel)
  have k1 : jK L 201 12 := jK_of hL 201 12 (by decide +kernel)
  obtain ⟨r, μ1, μ2, e1, e2, hr2⟩ := sim_nth hr (xs (i + (1 : Int32)).toNatClampNeg)
  unfold lwlv at *
  refine j_widen (Nat.le_succ kc) (Nat.le_add_right ks 6) ?_
  refine j_aload_n (pc := 1181) hC 1 1 dL_law_1181 rfl rfl ?_
  refine j_aload_n (pc := 1182) hC 0 0 dL_law_1182 rfl rfl ?_
  refine j_iload (pc := 1183) hC 4 dL_law_1183 rfl ?_
  refine j_iconst (pc := 1185) hC (1 : Int32) dL_law_1185 (by decide) ?_
  refine j_iadd (pc := 1186) hC dL_law_1186 ?_
  refine j_qld (pc := 1187) hC hX hbl hbA (hi (1 : Int32) (by decide) (by decide)) dL_law_1187 ?_
  refine j_vL (pc := 1188) hC hR [.int (xs (i + (1 : Int32)).toNatClampNeg)] (c_X11_nth hL k0 e1) iy_X11_nth (q := (RX11, TX11, 15)) (ci := 11) rfl rfl (by decide) k0 km_L_156 dL_law_1188 rfl (by decide) (Nat.le_of_ble_eq_true rfl) (Nat.le_of_ble_eq_true rfl) ⟨hk.1, hk.2⟩ rfl ?_
  refine j_aload_n (pc := 1191) hC 2 2 dL_law_1191 rfl rfl ?_
  refine j_aload_n (pc := 1192) hC 0 0 dL_law_1192 rfl rfl ?_
  refine j_iload (pc := 1193) hC 4 dL_law_1193 rfl ?_
  refine j_iconst (pc := 1195) hC (1 : Int32) dL_law_1195 (by decide) ?_
  refine j_iadd (pc := 1196) hC dL_law_1196 ?_
  refine j_qld (pc := 1197) hC hX hbl hbA (hi (1 : Int32) (by decide) (by decide)) dL_law_1197 ?_
  refine j_vL (pc := 1198) hC hR [.int (xs (i + (1 : Int32)).toNatClampNeg)] (c_X12_nth hL k1 e2) iy_X12_nth (q := (RX12, TX12, 40)) (ci := 12) rfl rfl (by decide) k1 km_L_159 dL_law_1198 rfl (by decide) (Nat.le_of_ble_eq_true rfl) (Nat.le_of_ble_eq_true rfl) ⟨hk.1, hk.2⟩ rfl ?_
  exact j_icmp_eq (pc := 1201) hC 1675 dL_law_1201 (by decide) (fun _ => kk _ hr2) (fun c => absurd rfl c)
set_option maxHeartbeats 4000000 in
theorem lc_30 {X : jX} {G : jG} {L : jL} {b Ln : Nat} {xs : Nat → Int32} (hw : jLw X G L b Ln xs) {i : Int32} (hi : ∀ k : Int32, 0 ≤ k → k < 5 → vp_in (i + k) Ln) {kc ks : Nat} (hk : kc + 1 ≤ 601024 ∧ ks + 6 ≤ 7293034) {Q : State → Prop} {μ : jM} (hr : Rel μ) (kk : ∀ μ2, Rel μ2 → jJ X G 8 L (kc + 1) (ks + 6) Q 1675 (lwlv b L i) [] μ2) : jJ X G 8 L kc ks Q 1206 (lwlv b L i) [] μ := by
  obtain ⟨hC, h5, hR, hs, hX, hbl, hbA, hL⟩ := hw
  have k0 : jK L 0 11 := jK_of hL 0 11 (by decide +kernel)
  have k1 : jK L 201 12 := jK_of hL 201 12 (by decide +kernel)
  obtain ⟨r, μ1, μ2, e1, e2, hr2⟩ := sim_always hr 
  unfold lwlv at *
  refine j_widen (Nat.le_succ kc) (Nat.le_add_right ks 6) ?_
  refine j_aload_n (pc := 1206) hC 1 1 dL_law_1206 rfl rfl ?_
  refine j_vL (pc := 1207) hC hR [] (c_X11_always hL k0 e1) iy_X11_always (q := (RX11, TX11, 15)) (ci := 11) rfl rfl (by decide) k0 km_L_160 dL_law_1207 rfl (by decide) (Nat.le_of_ble_eq_true rfl) (Nat.le_of_ble_eq_true rfl) ⟨hk.1, hk.2⟩ rfl ?_
  refine j_aload_n (pc := 1210) hC 2 2 dL_law_1210 rfl rfl ?_
  refine j_vL (pc := 1211) hC hR [] (c_X12_always hL k1 e2) iy_X12_always (q := (RX12, TX12, 40)) (ci := 12) rfl rfl (by decide) k1 km_L_163 dL_law_1211 rfl (by decide) (Nat.le_of_ble_eq_true rfl) (Nat.le_of_ble_eq_true rfl) ⟨hk.1, hk.2⟩ rfl ?_
  exact j_icmp_eq (pc := 1214) hC 1675 dL_law_1214 (by decide) (fun _ => kk _ hr2) (fun c => absurd rfl c)
set_option maxHeartbeats 4000000 in
theorem lc_31 {X : jX} {G : jG} {L : jL} {b Ln : Nat} {xs : Nat → Int32} (hw : jLw X G L b Ln xs) {i : Int32} (hi : ∀ k : Int32, 0 ≤ k → k < 5 → vp_in (i + k) Ln) {kc ks : Nat} (hk : kc + 1 ≤ 601024 ∧ ks + 6 ≤ 7293034) {Q : State → Prop} {μ : jM} (hr : Rel μ) (kk : ∀ μ2, Rel μ2 → jJ X G 8 L (kc + 1) (ks + 6) Q 1675 (lwlv b L i) [] μ2) : jJ X G 8 L kc ks Q 1219 (lwlv b L i) [] μ := by
  obtain ⟨hC, h5, hR, hs, hX, hbl, hbA, hL⟩ := hw
  have k0 : jK L 0 11 := jK_of hL 0 11 (by decide +kernel)
  have k1 : jK L 201 12 := jK_of hL 201 12 (by decide +kernel)
  obtain ⟨r, μ1, μ2, e1, e2, hr2⟩ := sim_search hr (xs (i + (1 : Int32)).toNatClampNeg)
  unfold lwlv at *
  refine j_widen (Nat.le_succ kc) (Nat.le_add_right ks 6) ?_
  refine j_aload_n (pc := 1219) hC 1 1 dL_law_1219 rfl rfl ?_
  refine j_aload_n (pc := 1220) hC 0 0 dL_law_1220 rfl rfl ?_
  refine j_iload (pc := 1221) hC 4 dL_law_1221 rfl ?_
  refine j_iconst (pc := 1223) hC (1 : Int32) dL_law_1223 (by decide) ?_
  refine j_iadd (pc := 1224) hC dL_law_1224 ?_
  refine j_qld (pc := 1225) hC hX hbl hbA (hi (1 : Int32) (by decide) (by decide)) dL_law_1225 ?_
  refine j_vL (pc := 1226) hC hR [.int (xs (i + (1 : Int32)).toNatClampNeg)] (c_X11_search hL k0 e1) iy_X11_search (q := (RX11, TX11, 15)) (ci := 11) rfl rfl (by decide) k0 km_L_164 dL_law_1226 rfl (by decide) (Nat.le_of_ble_eq_true rfl) (Nat.le_of_ble_eq_true rfl) ⟨hk.1, hk.2⟩ rfl ?_
  refine j_aload_n (pc := 1229) hC 2 2 dL_law_1229 rfl rfl ?_
  refine j_aload_n (pc := 1230) hC 0 0 dL_law_1230 rfl rfl ?_
  refine j_iload (pc := 1231) hC 4 dL_law_1231 rfl ?_
  refine j_iconst (pc := 1233) hC (1 : Int32) dL_law_1233 (by decide) ?_
  refine j_iadd (pc := 1234) hC dL_law_1234 ?_
  refine j_qld (pc := 1235) hC hX hbl hbA (hi (1 : Int32) (by decide) (by decide)) dL_law_1235 ?_
  refine j_vL (pc := 1236) hC hR [.int (xs (i + (1 : Int32)).toNatClampNeg)] (c_X12_search hL k1 e2) iy_X12_search (q := (RX12, TX12, 40)) (ci := 12) rfl rfl (by decide) k1 km_L_167 dL_law_1236 rfl (by decide) (Nat.le_of_ble_eq_true rfl) (Nat.le_of_ble_eq_true rfl) ⟨hk.1, hk.2⟩ rfl ?_
  exact j_icmp_eq (pc := 1239) hC 1675 dL_law_1239 (by decide) (fun _ => kk _ hr2) (fun c => absurd rfl c)
set_option maxHeartbeats 4000000 in
theorem lc_32 {X : jX} {G : jG} {L : jL} {b Ln : Nat} {xs : Nat → Int32} (hw : jLw X G L b Ln xs) {i : Int32} (hi : ∀ k : Int32, 0 ≤ k → k < 5 → vp_in (i + k) Ln) {kc ks : Nat} (hk : kc + 1 ≤ 601024 ∧ ks + 6 ≤ 7293034) {Q : State → Prop} {μ : jM} (hr : Rel μ) (kk : ∀ μ2, Rel μ2 → jJ X G 8 L (kc + 1) (ks + 6) Q 1675 (lwlv b L i) [] μ2) : jJ X G 8 L kc ks Q 1244 (lwlv b L i) [] μ := by
  obtain ⟨hC, h5, hR, hs, hX, hbl, hbA, hL⟩ := hw
  have k0 : jK L 0 11 := jK_of hL 0 11 (by decide +kernel)
  have k1 : jK L 201 12 := jK_of hL 201 12 (by decide +kernel)
  obtain ⟨r, μ1, μ2, e1, e2, hr2⟩ := sim_best hr 
  unfold lwlv at *
  refine j_widen (Nat.le_succ kc) (Nat.le_add_right ks 6) ?_
  refine j_aload_n (pc := 1244) hC 1 1 dL_law_1244 rfl rfl ?_
  refine j_vL (pc := 1245) hC hR [] (c_X11_best hL k0 e1) iy_X11_best (q := (RX11, TX11, 15)) (ci := 11) rfl rfl (by decide) k0 km_L_168 dL_law_1245 rfl (by decide) (Nat.le_of_ble_eq_true rfl) (Nat.le_of_ble_eq_true rfl) ⟨hk.1, hk.2⟩ rfl ?_
  refine j_aload_n (pc := 1248) hC 2 2 dL_law_1248 rfl rfl ?_
  refine j_vL (pc := 1249) hC hR [] (c_X12_best hL k1 e2) iy_X12_best (q := (RX12, TX12, 40)) (ci := 12) rfl rfl (by decide) k1 km_L_171 dL_law_1249 rfl (by decide) (Nat.le_of_ble_eq_true rfl) (Nat.le_of_ble_eq_true rfl) ⟨hk.1, hk.2⟩ rfl ?_
  exact j_icmp_eq (pc := 1252) hC 1675 dL_law_1252 (by decide) (fun _ => kk _ hr2) (fun c => absurd rfl c)
set_option maxHeartbeats 4000000 in
theorem lc_33 {X : jX} {G : jG} {L : jL} {b Ln : Nat} {xs : Nat → Int32} (hw : jLw X G L b Ln xs) {i : Int32} (hi : ∀ k : Int32, 0 ≤ k → k < 5 → vp_in (i + k) Ln) {kc ks : Nat} (hk : kc + 1 ≤ 601024 ∧ ks + 6 ≤ 7293034) {Q : State → Prop} {μ : jM} (hr : Rel μ) (kk : ∀ μ2, Rel μ2 → jJ X G 8 L (kc + 1) (ks + 6) Q 1675 (lwlv b L i) [] μ2) : jJ X G 8 L kc ks Q 1257 (lwlv b L i) [] μ := by
  obtain ⟨hC, h5, hR, hs, hX, hbl, hbA, hL⟩ := hw
  have k0 : jK L 0 11 := jK_of hL 0 11 (by decide +kernel)
  have k1 : jK L 201 12 := jK_of hL 201 12 (by decide +kernel)
  obtain ⟨r, μ1, μ2, e1, e2, hr2⟩ := sim_shadows hr (xs (i + (1 : Int32)).toNatClampNeg)
  unfold lwlv at *
  refine j_widen (Nat.le_succ kc) (Nat.le_add_right ks 6) ?_
  refine j_aload_n (pc := 1257) hC 1 1 dL_law_1257 rfl rfl ?_
  refine j_aload_n (pc := 1258) hC 0 0 dL_law_1258 rfl rfl ?_
  refine j_iload (pc := 1259) hC 4 dL_law_1259 rfl ?_
  refine j_iconst (pc := 1261) hC (1 : Int32) dL_law_1261 (by decide) ?_
  refine j_iadd (pc := 1262) hC dL_law_1262 ?_
  refine j_qld (pc := 1263) hC hX hbl hbA (hi (1 : Int32) (by decide) (by decide)) dL_law_1263 ?_
  refine j_vL (pc := 1264) hC hR [.int (xs (i + (1 : Int32)).toNatClampNeg)] (c_X11_shadows hL k0 e1) iy_X11_shadows (q := (RX11, TX11, 15)) (ci := 11) rfl rfl (by decide) k0 km_L_172 dL_law_1264 rfl (by decide) (Nat.le_of_ble_eq_true rfl) (Nat.le_of_ble_eq_true rfl) ⟨hk.1, hk.2⟩ rfl ?_
  refine j_aload_n (pc := 1267) hC 2 2 dL_law_1267 rfl rfl ?_
  refine j_aload_n (pc := 1268) hC 0 0 dL_law_1268 rfl rfl ?_
  refine j_iload (pc := 1269) hC 4 dL_law_1269 rfl ?_
  refine j_iconst (pc := 1271) hC (1 : Int32) dL_law_1271 (by decide) ?_
  refine j_iadd (pc := 1272) hC dL_law_1272 ?_
  refine j_qld (pc := 1273) hC hX hbl hbA (hi (1 : Int32) (by decide) (by decide)) dL_law_1273 ?_
  refine j_vL (pc := 1274) hC hR [.int (xs (i + (1 : Int32)).toNatClampNeg)] (c_X12_shadows hL k1 e2) iy_X12_shadows (q := (RX12, TX12, 40)) (ci := 12) rfl rfl (by decide) k1 km_L_175 dL_law_1274 rfl (by decide) (Nat.le_of_ble_eq_true rfl) (Nat.le_of_ble_eq_true rfl) ⟨hk.1, hk.2⟩ rfl ?_
  exact j_icmp_eq (pc := 1277) hC 1675 dL_law_1277 (by decide) (fun _ => kk _ hr2) (fun c => absurd rfl c)
