theorem kL_c13 : Cond.classLink RL 13 nse ∈ tblG := tb_mem (by decide +kernel)
theorem kL_i : Cond.initialized RL ∈ tblG := tb_mem (by decide +kernel)
def hB {α : Type} (w : Option α) : Int32 := match w with
  | none => 1
  | some _ => 0
def hO (μ : jM) (w : Option Int64) : jM := match w with
  | none => μ
  | some v => jsl μ 224 0 v
theorem dL_cell_0 : decode cL_cell 0 = .ok (.aload_n 2, 1) := by decide +kernel
theorem dL_cell_1 : decode cL_cell 1 = .ok (.iconst 0, 1) := by decide +kernel
theorem dL_cell_2 : decode cL_cell 2 = .ok (.aload_n 0, 1) := by decide +kernel
theorem dL_cell_3 : decode cL_cell 3 = .ok (.iload_n 1, 1) := by decide +kernel
theorem dL_cell_4 : decode cL_cell 4 = .ok (.invokevirtual 7, 3) := by decide +kernel
theorem dL_cell_7 : decode cL_cell 7 = .ok (.i2l, 1) := by decide +kernel
theorem dL_cell_8 : decode cL_cell 8 = .ok (.lastore, 1) := by decide +kernel
theorem dL_cell_9 : decode cL_cell 9 = .ok (.goto 6, 3) := by decide +kernel
theorem dL_cell_12 : decode cL_cell 12 = .ok (.astore_n 3, 1) := by decide +kernel
theorem dL_cell_13 : decode cL_cell 13 = .ok (.iconst 1, 1) := by decide +kernel
theorem dL_cell_14 : decode cL_cell 14 = .ok (.ireturn, 1) := by decide +kernel
theorem dL_cell_15 : decode cL_cell 15 = .ok (.iconst 0, 1) := by decide +kernel
theorem dL_cell_16 : decode cL_cell 16 = .ok (.ireturn, 1) := by decide +kernel
theorem kLw_cell : Cond.codeWith yL_cell cL_cell 4 (some .int) [(0, 9, 12, 13)] ∈ tblG := tb_mem (by decide +kernel)
theorem kLs_cell : Cond.static yL_cell ∈ tblG := tb_mem (by decide +kernel)
theorem cH_cell {l : Launch} (hs : l.stackTraces = false) {G : jG} {L : jL} (hL : jOKL L) {x1 : Int32} {μ : jM} {w : Option Int32} (h : g_cell x1 μ = some w) : jCH l G L 8 yL_cell cL_cell 4 (some .int) [(0, 9, 12, 13)] [.ref (L.2.2 0), .int x1, .ref (L.2.2 224)] μ (.int (hB w)) (hO μ (w.map Int32.toInt64)) := by
  refine jCH_of (by decide) (Nat.le_of_ble_eq_true rfl) (fun X hC hX hR h5 htb => ?_)
  subst hX
  have hC : jC X G cL_cell 4 RL (some .int) := hC
  have k0 : jK L 0 11 := jK_of hL 0 11 (by decide +kernel)
  have k9 : jK L 224 14 := jK_of hL 224 14 (by decide +kernel)
  have n9 : (L.2.1 224).2.1 = 1 := by rw [jlen_ok hL]; decide +kernel
  show jJ X G 4 L 0 0 _ 0 [(0, .ref (L.2.2 0)), (1, .int x1), (2, .ref (L.2.2 224))] [] μ
  refine j_aload_n (pc := 0) hC 2 2 dL_cell_0 rfl rfl ?_
  refine j_iconst (pc := 1) hC (0 : Int32) dL_cell_1 (by decide) ?_
  refine j_aload_n (pc := 2) hC 0 0 dL_cell_2 rfl rfl ?_
  refine j_iload_n (pc := 3) hC 1 1 dL_cell_3 rfl rfl ?_
  refine j_call5 (pc := 4) hC h5 (w := w.map .int) [.int x1] (c5_cell hs hL k0 h) iy_X11_cell (q := (RX11, TX11, 15)) (ci := 11) rfl rfl (by decide) k0 km_L_7 dL_cell_4 rfl (Nat.le_of_ble_eq_true rfl) (by rw [hR]; exact ⟨Nat.le_of_ble_eq_true rfl, Nat.le_of_ble_eq_true rfl⟩) (by rw [hR]; exact ⟨Nat.le_of_ble_eq_true rfl, Nat.le_of_ble_eq_true rfl⟩) rfl htb (by decide) (by decide) kL_c13 (fun v hv => ?_) (fun hv q => ?_)
  · obtain ⟨u, rfl, rfl⟩ := Option.map_eq_some_iff.mp hv
    refine j_i2l (pc := 7) hC dL_cell_7 ?_
    refine j_last (pc := 8) hC dL_cell_8 k9 n9 (by unfold vp_in; decide) (μ1 := jsl μ 224 0 (u.toInt64)) rfl ?_
    refine j_goto (pc := 9) hC 15 dL_cell_9 (by decide) ?_
    refine j_iconst (pc := 15) hC (0 : Int32) dL_cell_15 (by decide) ?_
    exact j_iret (pc := 16) hC dL_cell_16 rfl
  · obtain rfl := Option.map_eq_none_iff.mp hv
    refine j_astore_n (pc := 12) hC 3 [(3, .ref q), (0, .ref (L.2.2 0)), (1, .int x1), (2, .ref (L.2.2 224))] dL_cell_12 rfl (by decide) rfl rfl ?_
    refine j_iconst (pc := 13) hC (1 : Int32) dL_cell_13 (by decide) ?_
    exact j_iret (pc := 14) hC dL_cell_14 rfl
theorem dL_values_0 : decode cL_values 0 = .ok (.aload_n 2, 1) := by decide +kernel
theorem dL_values_1 : decode cL_values 1 = .ok (.iconst 0, 1) := by decide +kernel
theorem dL_values_2 : decode cL_values 2 = .ok (.aload_n 0, 1) := by decide +kernel
theorem dL_values_3 : decode cL_values 3 = .ok (.iload_n 1, 1) := by decide +kernel
theorem dL_values_4 : decode cL_values 4 = .ok (.invokevirtual 15, 3) := by decide +kernel
theorem dL_values_7 : decode cL_values 7 = .ok (.i2l, 1) := by decide +kernel
theorem dL_values_8 : decode cL_values 8 = .ok (.lastore, 1) := by decide +kernel
theorem dL_values_9 : decode cL_values 9 = .ok (.goto 6, 3) := by decide +kernel
theorem dL_values_12 : decode cL_values 12 = .ok (.astore_n 3, 1) := by decide +kernel
theorem dL_values_13 : decode cL_values 13 = .ok (.iconst 1, 1) := by decide +kernel
theorem dL_values_14 : decode cL_values 14 = .ok (.ireturn, 1) := by decide +kernel
theorem dL_values_15 : decode cL_values 15 = .ok (.iconst 0, 1) := by decide +kernel
theorem dL_values_16 : decode cL_values 16 = .ok (.ireturn, 1) := by decide +kernel
theorem kLw_values : Cond.codeWith yL_values cL_values 4 (some .int) [(0, 9, 12, 13)] ∈ tblG := tb_mem (by decide +kernel)
theorem kLs_values : Cond.static yL_values ∈ tblG := tb_mem (by decide +kernel)
theorem cH_values {l : Launch} (hs : l.stackTraces = false) {G : jG} {L : jL} (hL : jOKL L) {x1 : Int32} {μ : jM} {w : Option Int32} (h : g_values x1 μ = some w) : jCH l G L 8 yL_values cL_values 4 (some .int) [(0, 9, 12, 13)] [.ref (L.2.2 0), .int x1, .ref (L.2.2 224)] μ (.int (hB w)) (hO μ (w.map Int32.toInt64)) := by
  refine jCH_of (by decide) (Nat.le_of_ble_eq_true rfl) (fun X hC hX hR h5 htb => ?_)
  subst hX
  have hC : jC X G cL_values 4 RL (some .int) := hC
  have k0 : jK L 0 11 := jK_of hL 0 11 (by decide +kernel)
  have k9 : jK L 224 14 := jK_of hL 224 14 (by decide +kernel)
  have n9 : (L.2.1 224).2.1 = 1 := by rw [jlen_ok hL]; decide +kernel
  show jJ X G 4 L 0 0 _ 0 [(0, .ref (L.2.2 0)), (1, .int x1), (2, .ref (L.2.2 224))] [] μ
  refine j_aload_n (pc := 0) hC 2 2 dL_values_0 rfl rfl ?_
  refine j_iconst (pc := 1) hC (0 : Int32) dL_values_1 (by decide) ?_
  refine j_aload_n (pc := 2) hC 0 0 dL_values_2 rfl rfl ?_
  refine j_iload_n (pc := 3) hC 1 1 dL_values_3 rfl rfl ?_
  refine j_call5 (pc := 4) hC h5 (w := w.map .int) [.int x1] (c5_values hs hL k0 h) iy_X11_values (q := (RX11, TX11, 15)) (ci := 11) rfl rfl (by decide) k0 km_L_15 dL_values_4 rfl (Nat.le_of_ble_eq_true rfl) (by rw [hR]; exact ⟨Nat.le_of_ble_eq_true rfl, Nat.le_of_ble_eq_true rfl⟩) (by rw [hR]; exact ⟨Nat.le_of_ble_eq_true rfl, Nat.le_of_ble_eq_true rfl⟩) rfl htb (by decide) (by decide) kL_c13 (fun v hv => ?_) (fun hv q => ?_)
  · obtain ⟨u, rfl, rfl⟩ := Option.map_eq_some_iff.mp hv
    refine j_i2l (pc := 7) hC dL_values_7 ?_
    refine j_last (pc := 8) hC dL_values_8 k9 n9 (by unfold vp_in; decide) (μ1 := jsl μ 224 0 (u.toInt64)) rfl ?_
    refine j_goto (pc := 9) hC 15 dL_values_9 (by decide) ?_
    refine j_iconst (pc := 15) hC (0 : Int32) dL_values_15 (by decide) ?_
    exact j_iret (pc := 16) hC dL_values_16 rfl
  · obtain rfl := Option.map_eq_none_iff.mp hv
    refine j_astore_n (pc := 12) hC 3 [(3, .ref q), (0, .ref (L.2.2 0)), (1, .int x1), (2, .ref (L.2.2 224))] dL_values_12 rfl (by decide) rfl rfl ?_
    refine j_iconst (pc := 13) hC (1 : Int32) dL_values_13 (by decide) ?_
    exact j_iret (pc := 14) hC dL_values_14 rfl
theorem dL_pair_0 : decode cL_pair 0 = .ok (.aload_n 3, 1) := by decide +kernel
theorem dL_pair_1 : decode cL_pair 1 = .ok (.iconst 0, 1) := by decide +kernel
theorem dL_pair_2 : decode cL_pair 2 = .ok (.aload_n 0, 1) := by decide +kernel
theorem dL_pair_3 : decode cL_pair 3 = .ok (.iload_n 1, 1) := by decide +kernel
theorem dL_pair_4 : decode cL_pair 4 = .ok (.iload_n 2, 1) := by decide +kernel
theorem dL_pair_5 : decode cL_pair 5 = .ok (.invokevirtual 18, 3) := by decide +kernel
theorem dL_pair_8 : decode cL_pair 8 = .ok (.i2l, 1) := by decide +kernel
theorem dL_pair_9 : decode cL_pair 9 = .ok (.lastore, 1) := by decide +kernel
theorem dL_pair_10 : decode cL_pair 10 = .ok (.goto 7, 3) := by decide +kernel
theorem dL_pair_13 : decode cL_pair 13 = .ok (.astore 4, 2) := by decide +kernel
theorem dL_pair_15 : decode cL_pair 15 = .ok (.iconst 1, 1) := by decide +kernel
theorem dL_pair_16 : decode cL_pair 16 = .ok (.ireturn, 1) := by decide +kernel
theorem dL_pair_17 : decode cL_pair 17 = .ok (.iconst 0, 1) := by decide +kernel
theorem dL_pair_18 : decode cL_pair 18 = .ok (.ireturn, 1) := by decide +kernel
theorem kLw_pair : Cond.codeWith yL_pair cL_pair 5 (some .int) [(0, 10, 13, 13)] ∈ tblG := tb_mem (by decide +kernel)
theorem kLs_pair : Cond.static yL_pair ∈ tblG := tb_mem (by decide +kernel)
theorem cH_pair {l : Launch} (hs : l.stackTraces = false) {G : jG} {L : jL} (hL : jOKL L) {x1 x2 : Int32} {μ : jM} {w : Option Int32} (h : g_pair x1 x2 μ = some w) : jCH l G L 8 yL_pair cL_pair 5 (some .int) [(0, 10, 13, 13)] [.ref (L.2.2 0), .int x1, .int x2, .ref (L.2.2 224)] μ (.int (hB w)) (hO μ (w.map Int32.toInt64)) := by
  refine jCH_of (by decide) (Nat.le_of_ble_eq_true rfl) (fun X hC hX hR h5 htb => ?_)
  subst hX
  have hC : jC X G cL_pair 5 RL (some .int) := hC
  have k0 : jK L 0 11 := jK_of hL 0 11 (by decide +kernel)
  have k9 : jK L 224 14 := jK_of hL 224 14 (by decide +kernel)
  have n9 : (L.2.1 224).2.1 = 1 := by rw [jlen_ok hL]; decide +kernel
  show jJ X G 5 L 0 0 _ 0 [(0, .ref (L.2.2 0)), (1, .int x1), (2, .int x2), (3, .ref (L.2.2 224))] [] μ
  refine j_aload_n (pc := 0) hC 3 3 dL_pair_0 rfl rfl ?_
  refine j_iconst (pc := 1) hC (0 : Int32) dL_pair_1 (by decide) ?_
  refine j_aload_n (pc := 2) hC 0 0 dL_pair_2 rfl rfl ?_
  refine j_iload_n (pc := 3) hC 1 1 dL_pair_3 rfl rfl ?_
  refine j_iload_n (pc := 4) hC 2 2 dL_pair_4 rfl rfl ?_
  refine j_call5 (pc := 5) hC h5 (w := w.map .int) [.int x1, .int x2] (c5_pair hs hL k0 h) iy_X11_pair (q := (RX11, TX11, 15)) (ci := 11) rfl rfl (by decide) k0 km_L_18 dL_pair_5 rfl (Nat.le_of_ble_eq_true rfl) (by rw [hR]; exact ⟨Nat.le_of_ble_eq_true rfl, Nat.le_of_ble_eq_true rfl⟩) (by rw [hR]; exact ⟨Nat.le_of_ble_eq_true rfl, Nat.le_of_ble_eq_true rfl⟩) rfl htb (by decide) (by decide) kL_c13 (fun v hv => ?_) (fun hv q => ?_)
  · obtain ⟨u, rfl, rfl⟩ := Option.map_eq_some_iff.mp hv
    refine j_i2l (pc := 8) hC dL_pair_8 ?_
    refine j_last (pc := 9) hC dL_pair_9 k9 n9 (by unfold vp_in; decide) (μ1 := jsl μ 224 0 (u.toInt64)) rfl ?_
    refine j_goto (pc := 10) hC 17 dL_pair_10 (by decide) ?_
    refine j_iconst (pc := 17) hC (0 : Int32) dL_pair_17 (by decide) ?_
    exact j_iret (pc := 18) hC dL_pair_18 rfl
  · obtain rfl := Option.map_eq_none_iff.mp hv
    refine j_astore (pc := 13) hC [(4, .ref q), (0, .ref (L.2.2 0)), (1, .int x1), (2, .int x2), (3, .ref (L.2.2 224))] dL_pair_13 (by decide) rfl rfl ?_
    refine j_iconst (pc := 15) hC (1 : Int32) dL_pair_15 (by decide) ?_
    exact j_iret (pc := 16) hC dL_pair_16 rfl
theorem dL_constraint_0 : decode cL_constraint 0 = .ok (.aload_n 3, 1) := by decide +kernel
theorem dL_constraint_1 : decode cL_constraint 1 = .ok (.iconst 0, 1) := by decide +kernel
theorem dL_constraint_2 : decode cL_constraint 2 = .ok (.aload_n 0, 1) := by decide +kernel
theorem dL_constraint_3 : decode cL_constraint 3 = .ok (.iload_n 1, 1) := by decide +kernel
theorem dL_constraint_4 : decode cL_constraint 4 = .ok (.iload_n 2, 1) := by decide +kernel
theorem dL_constraint_5 : decode cL_constraint 5 = .ok (.invokevirtual 22, 3) := by decide +kernel
theorem dL_constraint_8 : decode cL_constraint 8 = .ok (.i2l, 1) := by decide +kernel
theorem dL_constraint_9 : decode cL_constraint 9 = .ok (.lastore, 1) := by decide +kernel
theorem dL_constraint_10 : decode cL_constraint 10 = .ok (.goto 7, 3) := by decide +kernel
theorem dL_constraint_13 : decode cL_constraint 13 = .ok (.astore 4, 2) := by decide +kernel
theorem dL_constraint_15 : decode cL_constraint 15 = .ok (.iconst 1, 1) := by decide +kernel
theorem dL_constraint_16 : decode cL_constraint 16 = .ok (.ireturn, 1) := by decide +kernel
theorem dL_constraint_17 : decode cL_constraint 17 = .ok (.iconst 0, 1) := by decide +kernel
theorem dL_constraint_18 : decode cL_constraint 18 = .ok (.ireturn, 1) := by decide +kernel
theorem kLw_constraint : Cond.codeWith yL_constraint cL_constraint 5 (some .int) [(0, 10, 13, 13)] ∈ tblG := tb_mem (by decide +kernel)
theorem kLs_constraint : Cond.static yL_constraint ∈ tblG := tb_mem (by decide +kernel)
theorem cH_constraint {l : Launch} (hs : l.stackTraces = false) {G : jG} {L : jL} (hL : jOKL L) {x1 x2 : Int32} {μ : jM} {w : Option Int32} (h : g_constraint x1 x2 μ = some w) : jCH l G L 8 yL_constraint cL_constraint 5 (some .int) [(0, 10, 13, 13)] [.ref (L.2.2 0), .int x1, .int x2, .ref (L.2.2 224)] μ (.int (hB w)) (hO μ (w.map Int32.toInt64)) := by
  refine jCH_of (by decide) (Nat.le_of_ble_eq_true rfl) (fun X hC hX hR h5 htb => ?_)
  subst hX
  have hC : jC X G cL_constraint 5 RL (some .int) := hC
  have k0 : jK L 0 11 := jK_of hL 0 11 (by decide +kernel)
  have k9 : jK L 224 14 := jK_of hL 224 14 (by decide +kernel)
  have n9 : (L.2.1 224).2.1 = 1 := by rw [jlen_ok hL]; decide +kernel
  show jJ X G 5 L 0 0 _ 0 [(0, .ref (L.2.2 0)), (1, .int x1), (2, .int x2), (3, .ref (L.2.2 224))] [] μ
  refine j_aload_n (pc := 0) hC 3 3 dL_constraint_0 rfl rfl ?_
  refine j_iconst (pc := 1) hC (0 : Int32) dL_constraint_1 (by decide) ?_
  refine j_aload_n (pc := 2) hC 0 0 dL_constraint_2 rfl rfl ?_
  refine j_iload_n (pc := 3) hC 1 1 dL_constraint_3 rfl rfl ?_
  refine j_iload_n (pc := 4) hC 2 2 dL_constraint_4 rfl rfl ?_
  refine j_call5 (pc := 5) hC h5 (w := w.map .int) [.int x1, .int x2] (c5_constraint hs hL k0 h) iy_X11_constraint (q := (RX11, TX11, 15)) (ci := 11) rfl rfl (by decide) k0 km_L_22 dL_constraint_5 rfl (Nat.le_of_ble_eq_true rfl) (by rw [hR]; exact ⟨Nat.le_of_ble_eq_true rfl, Nat.le_of_ble_eq_true rfl⟩) (by rw [hR]; exact ⟨Nat.le_of_ble_eq_true rfl, Nat.le_of_ble_eq_true rfl⟩) rfl htb (by decide) (by decide) kL_c13 (fun v hv => ?_) (fun hv q => ?_)
  · obtain ⟨u, rfl, rfl⟩ := Option.map_eq_some_iff.mp hv
    refine j_i2l (pc := 8) hC dL_constraint_8 ?_
    refine j_last (pc := 9) hC dL_constraint_9 k9 n9 (by unfold vp_in; decide) (μ1 := jsl μ 224 0 (u.toInt64)) rfl ?_
    refine j_goto (pc := 10) hC 17 dL_constraint_10 (by decide) ?_
    refine j_iconst (pc := 17) hC (0 : Int32) dL_constraint_17 (by decide) ?_
    exact j_iret (pc := 18) hC dL_constraint_18 rfl
  · obtain rfl := Option.map_eq_none_iff.mp hv
    refine j_astore (pc := 13) hC [(4, .ref q), (0, .ref (L.2.2 0)), (1, .int x1), (2, .int x2), (3, .ref (L.2.2 224))] dL_constraint_13 (by decide) rfl rfl ?_
    refine j_iconst (pc := 15) hC (1 : Int32) dL_constraint_15 (by decide) ?_
    exact j_iret (pc := 16) hC dL_constraint_16 rfl
theorem dL_row_0 : decode cL_row 0 = .ok (.aload_n 2, 1) := by decide +kernel
theorem dL_row_1 : decode cL_row 1 = .ok (.iconst 0, 1) := by decide +kernel
theorem dL_row_2 : decode cL_row 2 = .ok (.aload_n 0, 1) := by decide +kernel
theorem dL_row_3 : decode cL_row 3 = .ok (.iload_n 1, 1) := by decide +kernel
theorem dL_row_4 : decode cL_row 4 = .ok (.invokevirtual 25, 3) := by decide +kernel
theorem dL_row_7 : decode cL_row 7 = .ok (.lastore, 1) := by decide +kernel
theorem dL_row_8 : decode cL_row 8 = .ok (.goto 6, 3) := by decide +kernel
theorem dL_row_11 : decode cL_row 11 = .ok (.astore_n 3, 1) := by decide +kernel
theorem dL_row_12 : decode cL_row 12 = .ok (.iconst 1, 1) := by decide +kernel
theorem dL_row_13 : decode cL_row 13 = .ok (.ireturn, 1) := by decide +kernel
theorem dL_row_14 : decode cL_row 14 = .ok (.iconst 0, 1) := by decide +kernel
theorem dL_row_15 : decode cL_row 15 = .ok (.ireturn, 1) := by decide +kernel
theorem kLw_row : Cond.codeWith yL_row cL_row 4 (some .int) [(0, 8, 11, 13)] ∈ tblG := tb_mem (by decide +kernel)
theorem kLs_row : Cond.static yL_row ∈ tblG := tb_mem (by decide +kernel)
theorem cH_row {l : Launch} (hs : l.stackTraces = false) {G : jG} {L : jL} (hL : jOKL L) {x1 : Int32} {μ : jM} {w : Option Int64} (h : g_row x1 μ = some w) : jCH l G L 8 yL_row cL_row 4 (some .int) [(0, 8, 11, 13)] [.ref (L.2.2 0), .int x1, .ref (L.2.2 224)] μ (.int (hB w)) (hO μ w) := by
  refine jCH_of (by decide) (Nat.le_of_ble_eq_true rfl) (fun X hC hX hR h5 htb => ?_)
  subst hX
  have hC : jC X G cL_row 4 RL (some .int) := hC
  have k0 : jK L 0 11 := jK_of hL 0 11 (by decide +kernel)
  have k9 : jK L 224 14 := jK_of hL 224 14 (by decide +kernel)
  have n9 : (L.2.1 224).2.1 = 1 := by rw [jlen_ok hL]; decide +kernel
  show jJ X G 4 L 0 0 _ 0 [(0, .ref (L.2.2 0)), (1, .int x1), (2, .ref (L.2.2 224))] [] μ
  refine j_aload_n (pc := 0) hC 2 2 dL_row_0 rfl rfl ?_
  refine j_iconst (pc := 1) hC (0 : Int32) dL_row_1 (by decide) ?_
  refine j_aload_n (pc := 2) hC 0 0 dL_row_2 rfl rfl ?_
  refine j_iload_n (pc := 3) hC 1 1 dL_row_3 rfl rfl ?_
  refine j_call5 (pc := 4) hC h5 (w := w.map .long) [.int x1] (c5_row hs hL k0 h) iy_X11_row (q := (RX11, TX11, 15)) (ci := 11) rfl rfl (by decide) k0 km_L_25 dL_row_4 rfl (Nat.le_of_ble_eq_true rfl) (by rw [hR]; exact ⟨Nat.le_of_ble_eq_true rfl, Nat.le_of_ble_eq_true rfl⟩) (by rw [hR]; exact ⟨Nat.le_of_ble_eq_true rfl, Nat.le_of_ble_eq_true rfl⟩) rfl htb (by decide) (by decide) kL_c13 (fun v hv => ?_) (fun hv q => ?_)
  · obtain ⟨u, rfl, rfl⟩ := Option.map_eq_some_iff.mp hv
    refine j_last (pc := 7) hC dL_row_7 k9 n9 (by unfold vp_in; decide) (μ1 := jsl μ 224 0 u) rfl ?_
    refine j_goto (pc := 8) hC 14 dL_row_8 (by decide) ?_
    refine j_iconst (pc := 14) hC (0 : Int32) dL_row_14 (by decide) ?_
    exact j_iret (pc := 15) hC dL_row_15 rfl
  · obtain rfl := Option.map_eq_none_iff.mp hv
    refine j_astore_n (pc := 11) hC 3 [(3, .ref q), (0, .ref (L.2.2 0)), (1, .int x1), (2, .ref (L.2.2 224))] dL_row_11 rfl (by decide) rfl rfl ?_
    refine j_iconst (pc := 12) hC (1 : Int32) dL_row_12 (by decide) ?_
    exact j_iret (pc := 13) hC dL_row_13 rfl
