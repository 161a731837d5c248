theorem jle_if {α : Type} {x y : Int32} {p q : α} : (if x ≤ y then p else q) = (if y < x then q else p) := by
  by_cases c : y < x
  · rw [if_pos c, if_neg (Int32.not_le.mpr c)]
  · rw [if_neg c, if_pos (Int32.not_lt.mp c)]
theorem dX11_cell_0 : decode cX11_cell 0 = .ok (.iload_n 1, 1) := by decide +kernel
theorem dX11_cell_1 : decode cX11_cell 1 = .ok (.invokestatic 113, 3) := by decide +kernel
theorem dX11_cell_4 : decode cX11_cell 4 = .ok (.ifCond .ne 11, 3) := by decide +kernel
theorem dX11_cell_7 : decode cX11_cell 7 = .ok (.new 116, 3) := by decide +kernel
theorem dX11_cell_10 : decode cX11_cell 10 = .ok (.dup, 1) := by decide +kernel
theorem dX11_cell_11 : decode cX11_cell 11 = .ok (.invokespecial 118, 3) := by decide +kernel
theorem dX11_cell_14 : decode cX11_cell 14 = .ok (.athrow, 1) := by decide +kernel
theorem dX11_cell_15 : decode cX11_cell 15 = .ok (.aload_n 0, 1) := by decide +kernel
theorem dX11_cell_16 : decode cX11_cell 16 = .ok (.getfield 26, 3) := by decide +kernel
theorem dX11_cell_19 : decode cX11_cell 19 = .ok (.getfield 42, 3) := by decide +kernel
theorem dX11_cell_22 : decode cX11_cell 22 = .ok (.getfield 119, 3) := by decide +kernel
theorem dX11_cell_25 : decode cX11_cell 25 = .ok (.iload_n 1, 1) := by decide +kernel
theorem dX11_cell_26 : decode cX11_cell 26 = .ok (.iaload, 1) := by decide +kernel
theorem dX11_cell_27 : decode cX11_cell 27 = .ok (.ireturn, 1) := by decide +kernel
set_option maxHeartbeats 4000000 in
theorem c5_cell {l : Launch} (hs : l.stackTraces = false) {G : jG} {L : jL} (hL : jOKL L) (ka0 : jK L 0 11) {x1 : Int32} {μ : jM} {w : Option Int32} (h : g_cell x1 μ = some w) : jC5 l G L 7 yX11_cell cX11_cell 2 (some .int) [.ref (L.2.2 0), .int x1] μ (w.map .int) := by
  refine jC5_of (by decide) (Nat.le_of_ble_eq_true rfl) (fun X hC hX hR h5 hx => ?_)
  subst hX
  have hC : jC X G cX11_cell 2 RX11 (some .int) := hC
  unfold g_cell at h
  show jJ X G 2 L 0 0 (jM5 X G L (w.map .int) μ) 0 [(0, .ref (L.2.2 0)), (1, .int x1)] [] μ
  refine j_iload_n (pc := 0) hC 1 1 dX11_cell_0 rfl rfl ?_
  refine j_si5 (pc := 1) hC hR [.int x1] iy_X11_isCell km_X11_113 dX11_cell_1 rfl (by decide) (c_X11_isCell hL  rfl) (by decide) (Nat.le_of_ble_eq_true rfl) rfl ?_
  refine j_if_ne (pc := 4) hC 15 dX11_cell_4 (by decide) (fun c1 => ?_) (fun c1 => ?_)
  · rw [if_neg c1] at h
    refine j_aload_n (pc := 15) hC 0 0 dX11_cell_15 rfl rfl ?_
    refine jgr_11 (pc := 16) hC 2 (by decide) rfl kf_X11_26 dX11_cell_16 ka0 (ly_11_2 hL ka0).1 ?_
    refine jgr_7 (pc := 19) hC 0 (by decide) rfl kf_X11_42 dX11_cell_19 (ly_11_2 hL ka0).2.1 (ly_7_0 hL (ly_11_2 hL ka0).2.1).1 ?_
    refine jgr_9 (pc := 22) hC 0 (by decide) rfl kf_X11_119 dX11_cell_22 (ly_7_0 hL (ly_11_2 hL ka0).2.1).2.1 (ly_9_0 hL (ly_7_0 hL (ly_11_2 hL ka0).2.1).2.1).1 ?_
    refine j_iload_n (pc := 25) hC 1 1 dX11_cell_25 rfl rfl ?_
    obtain ⟨i2, v3, e4, h⟩ := jrd_some h
    refine j_iald (pc := 26) hC dX11_cell_26 (ly_9_0 hL (ly_7_0 hL (ly_11_2 hL ka0).2.1).2.1).2.1 (ly_9_0 hL (ly_7_0 hL (ly_11_2 hL ka0).2.1).2.1).2.2 i2 e4 ?_
    obtain rfl := Option.some.inj h
    exact j_iret5 (pc := 27) hC dX11_cell_27 rfl
  · rw [if_pos c1] at h
    obtain rfl := Option.some.inj h
    exact j_throw5 (pc := 7) hC hR (by decide) hs h5 hx dX11_cell_7 dX11_cell_10 dX11_cell_11 dX11_cell_14
theorem dX11_values_0 : decode cX11_values 0 = .ok (.iload_n 1, 1) := by decide +kernel
theorem dX11_values_1 : decode cX11_values 1 = .ok (.invokestatic 122, 3) := by decide +kernel
theorem dX11_values_4 : decode cX11_values 4 = .ok (.ifCond .ne 11, 3) := by decide +kernel
theorem dX11_values_7 : decode cX11_values 7 = .ok (.new 116, 3) := by decide +kernel
theorem dX11_values_10 : decode cX11_values 10 = .ok (.dup, 1) := by decide +kernel
theorem dX11_values_11 : decode cX11_values 11 = .ok (.invokespecial 118, 3) := by decide +kernel
theorem dX11_values_14 : decode cX11_values 14 = .ok (.athrow, 1) := by decide +kernel
theorem dX11_values_15 : decode cX11_values 15 = .ok (.aload_n 0, 1) := by decide +kernel
theorem dX11_values_16 : decode cX11_values 16 = .ok (.getfield 26, 3) := by decide +kernel
theorem dX11_values_19 : decode cX11_values 19 = .ok (.getfield 42, 3) := by decide +kernel
theorem dX11_values_22 : decode cX11_values 22 = .ok (.getfield 125, 3) := by decide +kernel
theorem dX11_values_25 : decode cX11_values 25 = .ok (.iload_n 1, 1) := by decide +kernel
theorem dX11_values_26 : decode cX11_values 26 = .ok (.iaload, 1) := by decide +kernel
theorem dX11_values_27 : decode cX11_values 27 = .ok (.ireturn, 1) := by decide +kernel
set_option maxHeartbeats 4000000 in
theorem c5_values {l : Launch} (hs : l.stackTraces = false) {G : jG} {L : jL} (hL : jOKL L) (ka0 : jK L 0 11) {x1 : Int32} {μ : jM} {w : Option Int32} (h : g_values x1 μ = some w) : jC5 l G L 7 yX11_values cX11_values 2 (some .int) [.ref (L.2.2 0), .int x1] μ (w.map .int) := by
  refine jC5_of (by decide) (Nat.le_of_ble_eq_true rfl) (fun X hC hX hR h5 hx => ?_)
  subst hX
  have hC : jC X G cX11_values 2 RX11 (some .int) := hC
  unfold g_values at h
  show jJ X G 2 L 0 0 (jM5 X G L (w.map .int) μ) 0 [(0, .ref (L.2.2 0)), (1, .int x1)] [] μ
  refine j_iload_n (pc := 0) hC 1 1 dX11_values_0 rfl rfl ?_
  refine j_si5 (pc := 1) hC hR [.int x1] iy_X11_isVariable km_X11_122 dX11_values_1 rfl (by decide) (c_X11_isVariable hL  rfl) (by decide) (Nat.le_of_ble_eq_true rfl) rfl ?_
  refine j_if_ne (pc := 4) hC 15 dX11_values_4 (by decide) (fun c1 => ?_) (fun c1 => ?_)
  · rw [if_neg c1] at h
    refine j_aload_n (pc := 15) hC 0 0 dX11_values_15 rfl rfl ?_
    refine jgr_11 (pc := 16) hC 2 (by decide) rfl kf_X11_26 dX11_values_16 ka0 (ly_11_2 hL ka0).1 ?_
    refine jgr_7 (pc := 19) hC 0 (by decide) rfl kf_X11_42 dX11_values_19 (ly_11_2 hL ka0).2.1 (ly_7_0 hL (ly_11_2 hL ka0).2.1).1 ?_
    refine jgr_9 (pc := 22) hC 1 (by decide) rfl kf_X11_125 dX11_values_22 (ly_7_0 hL (ly_11_2 hL ka0).2.1).2.1 (ly_9_1 hL (ly_7_0 hL (ly_11_2 hL ka0).2.1).2.1).1 ?_
    refine j_iload_n (pc := 25) hC 1 1 dX11_values_25 rfl rfl ?_
    obtain ⟨i2, v3, e4, h⟩ := jrd_some h
    refine j_iald (pc := 26) hC dX11_values_26 (ly_9_1 hL (ly_7_0 hL (ly_11_2 hL ka0).2.1).2.1).2.1 (ly_9_1 hL (ly_7_0 hL (ly_11_2 hL ka0).2.1).2.1).2.2 i2 e4 ?_
    obtain rfl := Option.some.inj h
    exact j_iret5 (pc := 27) hC dX11_values_27 rfl
  · rw [if_pos c1] at h
    obtain rfl := Option.some.inj h
    exact j_throw5 (pc := 7) hC hR (by decide) hs h5 hx dX11_values_7 dX11_values_10 dX11_values_11 dX11_values_14
theorem dX11_pair_0 : decode cX11_pair 0 = .ok (.aload_n 0, 1) := by decide +kernel
theorem dX11_pair_1 : decode cX11_pair 1 = .ok (.getfield 26, 3) := by decide +kernel
theorem dX11_pair_4 : decode cX11_pair 4 = .ok (.getfield 42, 3) := by decide +kernel
theorem dX11_pair_7 : decode cX11_pair 7 = .ok (.astore_n 3, 1) := by decide +kernel
theorem dX11_pair_8 : decode cX11_pair 8 = .ok (.iload_n 1, 1) := by decide +kernel
theorem dX11_pair_9 : decode cX11_pair 9 = .ok (.ifCond .lt 20, 3) := by decide +kernel
theorem dX11_pair_12 : decode cX11_pair 12 = .ok (.iload_n 1, 1) := by decide +kernel
theorem dX11_pair_13 : decode cX11_pair 13 = .ok (.aload_n 3, 1) := by decide +kernel
theorem dX11_pair_14 : decode cX11_pair 14 = .ok (.getfield 128, 3) := by decide +kernel
theorem dX11_pair_17 : decode cX11_pair 17 = .ok (.if_icmp .ge 12, 3) := by decide +kernel
theorem dX11_pair_20 : decode cX11_pair 20 = .ok (.iload_n 2, 1) := by decide +kernel
theorem dX11_pair_21 : decode cX11_pair 21 = .ok (.ifCond .lt 8, 3) := by decide +kernel
theorem dX11_pair_24 : decode cX11_pair 24 = .ok (.iload_n 2, 1) := by decide +kernel
theorem dX11_pair_25 : decode cX11_pair 25 = .ok (.iconst 1, 1) := by decide +kernel
theorem dX11_pair_26 : decode cX11_pair 26 = .ok (.if_icmp .le 11, 3) := by decide +kernel
theorem dX11_pair_29 : decode cX11_pair 29 = .ok (.new 116, 3) := by decide +kernel
theorem dX11_pair_32 : decode cX11_pair 32 = .ok (.dup, 1) := by decide +kernel
theorem dX11_pair_33 : decode cX11_pair 33 = .ok (.invokespecial 118, 3) := by decide +kernel
theorem dX11_pair_36 : decode cX11_pair 36 = .ok (.athrow, 1) := by decide +kernel
theorem dX11_pair_37 : decode cX11_pair 37 = .ok (.iload_n 2, 1) := by decide +kernel
theorem dX11_pair_38 : decode cX11_pair 38 = .ok (.ifCond .ne 12, 3) := by decide +kernel
theorem dX11_pair_41 : decode cX11_pair 41 = .ok (.aload_n 3, 1) := by decide +kernel
theorem dX11_pair_42 : decode cX11_pair 42 = .ok (.getfield 132, 3) := by decide +kernel
theorem dX11_pair_45 : decode cX11_pair 45 = .ok (.iload_n 1, 1) := by decide +kernel
theorem dX11_pair_46 : decode cX11_pair 46 = .ok (.iaload, 1) := by decide +kernel
theorem dX11_pair_47 : decode cX11_pair 47 = .ok (.goto 9, 3) := by decide +kernel
theorem dX11_pair_50 : decode cX11_pair 50 = .ok (.aload_n 3, 1) := by decide +kernel
theorem dX11_pair_51 : decode cX11_pair 51 = .ok (.getfield 135, 3) := by decide +kernel
theorem dX11_pair_54 : decode cX11_pair 54 = .ok (.iload_n 1, 1) := by decide +kernel
theorem dX11_pair_55 : decode cX11_pair 55 = .ok (.iaload, 1) := by decide +kernel
theorem dX11_pair_56 : decode cX11_pair 56 = .ok (.ireturn, 1) := by decide +kernel
set_option maxHeartbeats 4000000 in
theorem c5_pair {l : Launch} (hs : l.stackTraces = false) {G : jG} {L : jL} (hL : jOKL L) (ka0 : jK L 0 11) {x1 x2 : Int32} {μ : jM} {w : Option Int32} (h : g_pair x1 x2 μ = some w) : jC5 l G L 7 yX11_pair cX11_pair 4 (some .int) [.ref (L.2.2 0), .int x1, .int x2] μ (w.map .int) := by
  refine jC5_of (by decide) (Nat.le_of_ble_eq_true rfl) (fun X hC hX hR h5 hx => ?_)
  subst hX
  have hC : jC X G cX11_pair 4 RX11 (some .int) := hC
  unfold g_pair at h
  show jJ X G 4 L 0 0 (jM5 X G L (w.map .int) μ) 0 [(0, .ref (L.2.2 0)), (1, .int x1), (2, .int x2)] [] μ
  refine j_aload_n (pc := 0) hC 0 0 dX11_pair_0 rfl rfl ?_
  refine jgr_11 (pc := 1) hC 2 (by decide) rfl kf_X11_26 dX11_pair_1 ka0 (ly_11_2 hL ka0).1 ?_
  refine jgr_7 (pc := 4) hC 0 (by decide) rfl kf_X11_42 dX11_pair_4 (ly_11_2 hL ka0).2.1 (ly_7_0 hL (ly_11_2 hL ka0).2.1).1 ?_
  refine j_astore_n (pc := 7) hC 3 [(3, .ref (L.2.2 6)), (0, .ref (L.2.2 0)), (1, .int x1), (2, .int x2)] dX11_pair_7 rfl (by decide) rfl rfl ?_
  refine j_iload_n (pc := 8) hC 1 2 dX11_pair_8 rfl rfl ?_
  refine j_if_lt (pc := 9) hC 29 dX11_pair_9 (by decide) (fun c1 => ?_) (fun c1 => ?_)
  · rw [if_pos c1] at h
    obtain rfl := Option.some.inj h
    exact j_throw5 (pc := 29) hC hR (by decide) hs h5 hx dX11_pair_29 dX11_pair_32 dX11_pair_33 dX11_pair_36
  · rw [if_neg c1] at h
    refine j_iload_n (pc := 12) hC 1 2 dX11_pair_12 rfl rfl ?_
    refine j_aload_n (pc := 13) hC 3 0 dX11_pair_13 rfl rfl ?_
    refine jgi_9 (pc := 14) hC 5 (by decide) rfl kf_X11_128 dX11_pair_14 (ly_7_0 hL (ly_11_2 hL ka0).2.1).2.1 ?_
    refine j_icmp_ge (pc := 17) hC 29 dX11_pair_17 (by decide) (fun c2 => ?_) (fun c2 => ?_)
    · rw [if_pos c2] at h
      obtain rfl := Option.some.inj h
      exact j_throw5 (pc := 29) hC hR (by decide) hs h5 hx dX11_pair_29 dX11_pair_32 dX11_pair_33 dX11_pair_36
    · rw [if_neg c2] at h
      refine j_iload_n (pc := 20) hC 2 3 dX11_pair_20 rfl rfl ?_
      refine j_if_lt (pc := 21) hC 29 dX11_pair_21 (by decide) (fun c3 => ?_) (fun c3 => ?_)
      · rw [if_pos c3] at h
        obtain rfl := Option.some.inj h
        exact j_throw5 (pc := 29) hC hR (by decide) hs h5 hx dX11_pair_29 dX11_pair_32 dX11_pair_33 dX11_pair_36
      · rw [if_neg c3] at h
        refine j_iload_n (pc := 24) hC 2 3 dX11_pair_24 rfl rfl ?_
        refine j_iconst (pc := 25) hC (1 : Int32) dX11_pair_25 (by decide) ?_
        refine j_icmp_le (pc := 26) hC 37 dX11_pair_26 (by decide) (fun c4 => ?_) (fun c4 => ?_)
        · rw [if_pos c4] at h
          refine j_iload_n (pc := 37) hC 2 3 dX11_pair_37 rfl rfl ?_
          refine j_if_ne (pc := 38) hC 50 dX11_pair_38 (by decide) (fun c5 => ?_) (fun c5 => ?_)
          · rw [if_neg c5] at h
            refine j_aload_n (pc := 50) hC 3 0 dX11_pair_50 rfl rfl ?_
            refine jgr_9 (pc := 51) hC 3 (by decide) rfl kf_X11_135 dX11_pair_51 (ly_7_0 hL (ly_11_2 hL ka0).2.1).2.1 (ly_9_3 hL (ly_7_0 hL (ly_11_2 hL ka0).2.1).2.1).1 ?_
            refine j_iload_n (pc := 54) hC 1 2 dX11_pair_54 rfl rfl ?_
            obtain ⟨i6, v7, e8, h⟩ := jrd_some h
            refine j_iald (pc := 55) hC dX11_pair_55 (ly_9_3 hL (ly_7_0 hL (ly_11_2 hL ka0).2.1).2.1).2.1 (ly_9_3 hL (ly_7_0 hL (ly_11_2 hL ka0).2.1).2.1).2.2 i6 e8 ?_
            obtain rfl := Option.some.inj h
            exact j_iret5 (pc := 56) hC dX11_pair_56 rfl
          · rw [if_pos c5] at h
            refine j_aload_n (pc := 41) hC 3 0 dX11_pair_41 rfl rfl ?_
            refine jgr_9 (pc := 42) hC 2 (by decide) rfl kf_X11_132 dX11_pair_42 (ly_7_0 hL (ly_11_2 hL ka0).2.1).2.1 (ly_9_2 hL (ly_7_0 hL (ly_11_2 hL ka0).2.1).2.1).1 ?_
            refine j_iload_n (pc := 45) hC 1 2 dX11_pair_45 rfl rfl ?_
            obtain ⟨i9, v10, e11, h⟩ := jrd_some h
            refine j_iald (pc := 46) hC dX11_pair_46 (ly_9_2 hL (ly_7_0 hL (ly_11_2 hL ka0).2.1).2.1).2.1 (ly_9_2 hL (ly_7_0 hL (ly_11_2 hL ka0).2.1).2.1).2.2 i9 e11 ?_
            refine j_goto (pc := 47) hC 56 dX11_pair_47 (by decide) ?_
            obtain rfl := Option.some.inj h
            exact j_iret5 (pc := 56) hC dX11_pair_56 rfl
        · rw [if_neg c4] at h
          obtain rfl := Option.some.inj h
          exact j_throw5 (pc := 29) hC hR (by decide) hs h5 hx dX11_pair_29 dX11_pair_32 dX11_pair_33 dX11_pair_36
theorem dX11_constraint_0 : decode cX11_constraint 0 = .ok (.aload_n 0, 1) := by decide +kernel
theorem dX11_constraint_1 : decode cX11_constraint 1 = .ok (.getfield 26, 3) := by decide +kernel
theorem dX11_constraint_4 : decode cX11_constraint 4 = .ok (.getfield 42, 3) := by decide +kernel
theorem dX11_constraint_7 : decode cX11_constraint 7 = .ok (.astore_n 3, 1) := by decide +kernel
theorem dX11_constraint_8 : decode cX11_constraint 8 = .ok (.iload_n 1, 1) := by decide +kernel
theorem dX11_constraint_9 : decode cX11_constraint 9 = .ok (.ifCond .lt 20, 3) := by decide +kernel
theorem dX11_constraint_12 : decode cX11_constraint 12 = .ok (.iload_n 1, 1) := by decide +kernel
theorem dX11_constraint_13 : decode cX11_constraint 13 = .ok (.aload_n 3, 1) := by decide +kernel
theorem dX11_constraint_14 : decode cX11_constraint 14 = .ok (.getfield 138, 3) := by decide +kernel
theorem dX11_constraint_17 : decode cX11_constraint 17 = .ok (.if_icmp .ge 12, 3) := by decide +kernel
theorem dX11_constraint_20 : decode cX11_constraint 20 = .ok (.iload_n 2, 1) := by decide +kernel
theorem dX11_constraint_21 : decode cX11_constraint 21 = .ok (.ifCond .lt 8, 3) := by decide +kernel
theorem dX11_constraint_24 : decode cX11_constraint 24 = .ok (.iload_n 2, 1) := by decide +kernel
theorem dX11_constraint_25 : decode cX11_constraint 25 = .ok (.iconst 4, 1) := by decide +kernel
theorem dX11_constraint_26 : decode cX11_constraint 26 = .ok (.if_icmp .lt 11, 3) := by decide +kernel
theorem dX11_constraint_29 : decode cX11_constraint 29 = .ok (.new 116, 3) := by decide +kernel
theorem dX11_constraint_32 : decode cX11_constraint 32 = .ok (.dup, 1) := by decide +kernel
theorem dX11_constraint_33 : decode cX11_constraint 33 = .ok (.invokespecial 118, 3) := by decide +kernel
theorem dX11_constraint_36 : decode cX11_constraint 36 = .ok (.athrow, 1) := by decide +kernel
theorem dX11_constraint_37 : decode cX11_constraint 37 = .ok (.aload_n 3, 1) := by decide +kernel
theorem dX11_constraint_38 : decode cX11_constraint 38 = .ok (.getfield 141, 3) := by decide +kernel
theorem dX11_constraint_41 : decode cX11_constraint 41 = .ok (.iconst 4, 1) := by decide +kernel
theorem dX11_constraint_42 : decode cX11_constraint 42 = .ok (.iload_n 1, 1) := by decide +kernel
theorem dX11_constraint_43 : decode cX11_constraint 43 = .ok (.imul, 1) := by decide +kernel
theorem dX11_constraint_44 : decode cX11_constraint 44 = .ok (.iload_n 2, 1) := by decide +kernel
theorem dX11_constraint_45 : decode cX11_constraint 45 = .ok (.iadd, 1) := by decide +kernel
theorem dX11_constraint_46 : decode cX11_constraint 46 = .ok (.iaload, 1) := by decide +kernel
theorem dX11_constraint_47 : decode cX11_constraint 47 = .ok (.ireturn, 1) := by decide +kernel
set_option maxHeartbeats 4000000 in
theorem c5_constraint {l : Launch} (hs : l.stackTraces = false) {G : jG} {L : jL} (hL : jOKL L) (ka0 : jK L 0 11) {x1 x2 : Int32} {μ : jM} {w : Option Int32} (h : g_constraint x1 x2 μ = some w) : jC5 l G L 7 yX11_constraint cX11_constraint 4 (some .int) [.ref (L.2.2 0), .int x1, .int x2] μ (w.map .int) := by
  refine jC5_of (by decide) (Nat.le_of_ble_eq_true rfl) (fun X hC hX hR h5 hx => ?_)
  subst hX
  have hC : jC X G cX11_constraint 4 RX11 (some .int) := hC
  unfold g_constraint at h
  show jJ X G 4 L 0 0 (jM5 X G L (w.map .int) μ) 0 [(0, .ref (L.2.2 0)), (1, .int x1), (2, .int x2)] [] μ
  refine j_aload_n (pc := 0) hC 0 0 dX11_constraint_0 rfl rfl ?_
  refine jgr_11 (pc := 1) hC 2 (by decide) rfl kf_X11_26 dX11_constraint_1 ka0 (ly_11_2 hL ka0).1 ?_
  refine jgr_7 (pc := 4) hC 0 (by decide) rfl kf_X11_42 dX11_constraint_4 (ly_11_2 hL ka0).2.1 (ly_7_0 hL (ly_11_2 hL ka0).2.1).1 ?_
  refine j_astore_n (pc := 7) hC 3 [(3, .ref (L.2.2 6)), (0, .ref (L.2.2 0)), (1, .int x1), (2, .int x2)] dX11_constraint_7 rfl (by decide) rfl rfl ?_
  refine j_iload_n (pc := 8) hC 1 2 dX11_constraint_8 rfl rfl ?_
  refine j_if_lt (pc := 9) hC 29 dX11_constraint_9 (by decide) (fun c1 => ?_) (fun c1 => ?_)
  · rw [if_pos c1] at h
    obtain rfl := Option.some.inj h
    exact j_throw5 (pc := 29) hC hR (by decide) hs h5 hx dX11_constraint_29 dX11_constraint_32 dX11_constraint_33 dX11_constraint_36
  · rw [if_neg c1] at h
    refine j_iload_n (pc := 12) hC 1 2 dX11_constraint_12 rfl rfl ?_
    refine j_aload_n (pc := 13) hC 3 0 dX11_constraint_13 rfl rfl ?_
    refine jgi_9 (pc := 14) hC 6 (by decide) rfl kf_X11_138 dX11_constraint_14 (ly_7_0 hL (ly_11_2 hL ka0).2.1).2.1 ?_
    refine j_icmp_ge (pc := 17) hC 29 dX11_constraint_17 (by decide) (fun c2 => ?_) (fun c2 => ?_)
    · rw [if_pos c2] at h
      obtain rfl := Option.some.inj h
      exact j_throw5 (pc := 29) hC hR (by decide) hs h5 hx dX11_constraint_29 dX11_constraint_32 dX11_constraint_33 dX11_constraint_36
    · rw [if_neg c2] at h
      refine j_iload_n (pc := 20) hC 2 3 dX11_constraint_20 rfl rfl ?_
      refine j_if_lt (pc := 21) hC 29 dX11_constraint_21 (by decide) (fun c3 => ?_) (fun c3 => ?_)
      · rw [if_pos c3] at h
        obtain rfl := Option.some.inj h
        exact j_throw5 (pc := 29) hC hR (by decide) hs h5 hx dX11_constraint_29 dX11_constraint_32 dX11_constraint_33 dX11_constraint_36
      · rw [if_neg c3] at h
        refine j_iload_n (pc := 24) hC 2 3 dX11_constraint_24 rfl rfl ?_
        refine j_iconst (pc := 25) hC (4 : Int32) dX11_constraint_25 (by decide) ?_
        refine j_icmp_lt (pc := 26) hC 37 dX11_constraint_26 (by decide) (fun c4 => ?_) (fun c4 => ?_)
        · rw [if_pos c4] at h
          refine j_aload_n (pc := 37) hC 3 0 dX11_constraint_37 rfl rfl ?_
          refine jgr_9 (pc := 38) hC 4 (by decide) rfl kf_X11_141 dX11_constraint_38 (ly_7_0 hL (ly_11_2 hL ka0).2.1).2.1 (ly_9_4 hL (ly_7_0 hL (ly_11_2 hL ka0).2.1).2.1).1 ?_
          refine j_iconst (pc := 41) hC (4 : Int32) dX11_constraint_41 (by decide) ?_
          refine j_iload_n (pc := 42) hC 1 2 dX11_constraint_42 rfl rfl ?_
          refine j_imul (pc := 43) hC dX11_constraint_43 ?_
          refine j_iload_n (pc := 44) hC 2 3 dX11_constraint_44 rfl rfl ?_
          refine j_iadd (pc := 45) hC dX11_constraint_45 ?_
          obtain ⟨i5, v6, e7, h⟩ := jrd_some h
          refine j_iald (pc := 46) hC dX11_constraint_46 (ly_9_4 hL (ly_7_0 hL (ly_11_2 hL ka0).2.1).2.1).2.1 (ly_9_4 hL (ly_7_0 hL (ly_11_2 hL ka0).2.1).2.1).2.2 i5 e7 ?_
          obtain rfl := Option.some.inj h
          exact j_iret5 (pc := 47) hC dX11_constraint_47 rfl
        · rw [if_neg c4] at h
          obtain rfl := Option.some.inj h
          exact j_throw5 (pc := 29) hC hR (by decide) hs h5 hx dX11_constraint_29 dX11_constraint_32 dX11_constraint_33 dX11_constraint_36
theorem dX11_row_0 : decode cX11_row 0 = .ok (.iload_n 1, 1) := by decide +kernel
theorem dX11_row_1 : decode cX11_row 1 = .ok (.ifCond .lt 14, 3) := by decide +kernel
theorem dX11_row_4 : decode cX11_row 4 = .ok (.iload_n 1, 1) := by decide +kernel
theorem dX11_row_5 : decode cX11_row 5 = .ok (.aload_n 0, 1) := by decide +kernel
theorem dX11_row_6 : decode cX11_row 6 = .ok (.getfield 19, 3) := by decide +kernel
theorem dX11_row_9 : decode cX11_row 9 = .ok (.getfield 297, 3) := by decide +kernel
theorem dX11_row_12 : decode cX11_row 12 = .ok (.if_icmp .lt 11, 3) := by decide +kernel
theorem dX11_row_15 : decode cX11_row 15 = .ok (.new 116, 3) := by decide +kernel
theorem dX11_row_18 : decode cX11_row 18 = .ok (.dup, 1) := by decide +kernel
theorem dX11_row_19 : decode cX11_row 19 = .ok (.invokespecial 118, 3) := by decide +kernel
theorem dX11_row_22 : decode cX11_row 22 = .ok (.athrow, 1) := by decide +kernel
theorem dX11_row_23 : decode cX11_row 23 = .ok (.aload_n 0, 1) := by decide +kernel
theorem dX11_row_24 : decode cX11_row 24 = .ok (.getfield 19, 3) := by decide +kernel
theorem dX11_row_27 : decode cX11_row 27 = .ok (.getfield 422, 3) := by decide +kernel
theorem dX11_row_30 : decode cX11_row 30 = .ok (.iload_n 1, 1) := by decide +kernel
theorem dX11_row_31 : decode cX11_row 31 = .ok (.laload, 1) := by decide +kernel
theorem dX11_row_32 : decode cX11_row 32 = .ok (.lreturn, 1) := by decide +kernel
set_option maxHeartbeats 4000000 in
theorem c5_row {l : Launch} (hs : l.stackTraces = false) {G : jG} {L : jL} (hL : jOKL L) (ka0 : jK L 0 11) {x1 : Int32} {μ : jM} {w : Option Int64} (h : g_row x1 μ = some w) : jC5 l G L 7 yX11_row cX11_row 2 (some .long) [.ref (L.2.2 0), .int x1] μ (w.map .long) := by
  refine jC5_of (by decide) (Nat.le_of_ble_eq_true rfl) (fun X hC hX hR h5 hx => ?_)
  subst hX
  have hC : jC X G cX11_row 2 RX11 (some .long) := hC
  unfold g_row at h
  rw [jle_if] at h
  show jJ X G 2 L 0 0 (jM5 X G L (w.map .long) μ) 0 [(0, .ref (L.2.2 0)), (1, .int x1)] [] μ
  refine j_iload_n (pc := 0) hC 1 1 dX11_row_0 rfl rfl ?_
  refine j_if_lt (pc := 1) hC 15 dX11_row_1 (by decide) (fun c1 => ?_) (fun c1 => ?_)
  · rw [if_pos c1] at h
    obtain rfl := Option.some.inj h
    exact j_throw5 (pc := 15) hC hR (by decide) hs h5 hx dX11_row_15 dX11_row_18 dX11_row_19 dX11_row_22
  · rw [if_neg c1] at h
    refine j_iload_n (pc := 4) hC 1 1 dX11_row_4 rfl rfl ?_
    refine j_aload_n (pc := 5) hC 0 0 dX11_row_5 rfl rfl ?_
    refine jgr_11 (pc := 6) hC 1 (by decide) rfl kf_X11_19 dX11_row_6 ka0 (ly_11_1 hL ka0).1 ?_
    refine jgi_3 (pc := 9) hC 1 (by decide) rfl kf_X11_297 dX11_row_9 (ly_11_1 hL ka0).2.1 ?_
    refine j_icmp_lt (pc := 12) hC 23 dX11_row_12 (by decide) (fun c2 => ?_) (fun c2 => ?_)
    · rw [if_pos c2] at h
      refine j_aload_n (pc := 23) hC 0 0 dX11_row_23 rfl rfl ?_
      refine jgr_11 (pc := 24) hC 1 (by decide) rfl kf_X11_19 dX11_row_24 ka0 (ly_11_1 hL ka0).1 ?_
      refine jgr_3 (pc := 27) hC 0 (by decide) rfl kf_X11_422 dX11_row_27 (ly_11_1 hL ka0).2.1 (ly_3_0 hL (ly_11_1 hL ka0).2.1).1 ?_
      refine j_iload_n (pc := 30) hC 1 1 dX11_row_30 rfl rfl ?_
      obtain ⟨i3, v4, e5, h⟩ := jrd_some h
      refine j_lald (pc := 31) hC dX11_row_31 (ly_3_0 hL (ly_11_1 hL ka0).2.1).2.1 (ly_3_0 hL (ly_11_1 hL ka0).2.1).2.2 i3 e5 ?_
      obtain rfl := Option.some.inj h
      exact j_lret5 (pc := 32) hC dX11_row_32 rfl
    · rw [if_neg c2] at h
      obtain rfl := Option.some.inj h
      exact j_throw5 (pc := 15) hC hR (by decide) hs h5 hx dX11_row_15 dX11_row_18 dX11_row_19 dX11_row_22
