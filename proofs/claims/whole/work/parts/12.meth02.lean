theorem dX4_begin_0 : decode cX4_begin 0 = .ok (.aload_n 0, 1) := by decide +kernel
theorem dX4_begin_1 : decode cX4_begin 1 = .ok (.iconst 0, 1) := by decide +kernel
theorem dX4_begin_2 : decode cX4_begin 2 = .ok (.putfield 111, 3) := by decide +kernel
theorem dX4_begin_5 : decode cX4_begin 5 = .ok (.aload_n 0, 1) := by decide +kernel
theorem dX4_begin_6 : decode cX4_begin 6 = .ok (.iconst 0, 1) := by decide +kernel
theorem dX4_begin_7 : decode cX4_begin 7 = .ok (.putfield 114, 3) := by decide +kernel
theorem dX4_begin_10 : decode cX4_begin 10 = .ok (.return_, 1) := by decide +kernel
def f_X4_begin (a0 : Nat) (μ : jM) : jM :=
  jbd (jsi μ a0 4 (0 : Int32)) (fun m1 => jbd (jsi m1 a0 5 (0 : Int32)) (fun m3 => m3))
set_option maxHeartbeats 4000000 in
set_option maxRecDepth 100000 in
theorem c_X4_begin {l : Launch} {G : jG} {L : jL} (hL : jOKL L) {a0 : Nat} (ka0 : jK L a0 4) {μ μ' : jM} (h : f_X4_begin a0 μ = μ') : jCt l G L 3 yX4_begin cX4_begin 1 none [.ref (L.2.2 a0)] μ none μ' := by
  refine jCt_of (by decide) (Nat.le_of_ble_eq_true rfl) (fun X hC hX hR => ?_)
  subst hX
  have hC : jC X G cX4_begin 1 RX4 none := hC
  unfold f_X4_begin at h
  show jJ X G 1 L 0 0 (jQM X G L none μ' 0 0) 0 [(0, .ref (L.2.2 a0))] [] μ
  refine j_aload_n (pc := 0) hC 0 0 dX4_begin_0 rfl rfl ?_
  refine j_iconst (pc := 1) hC (0 : Int32) dX4_begin_1 (by decide) ?_
  obtain ⟨m1, e2, h⟩ := jbd_ex h
  refine jpi_4 (pc := 2) hC 4 (by decide) rfl kf_X4_111 dX4_begin_2 rfl (by decide) ka0 e2 ?_
  refine j_aload_n (pc := 5) hC 0 0 dX4_begin_5 rfl rfl ?_
  refine j_iconst (pc := 6) hC (0 : Int32) dX4_begin_6 (by decide) ?_
  obtain ⟨m3, e4, h⟩ := jbd_ex h
  refine jpi_4 (pc := 7) hC 5 (by decide) rfl kf_X4_114 dX4_begin_7 rfl (by decide) ka0 e4 ?_
  subst h
  exact j_vret (pc := 10) hC dX4_begin_10 rfl
theorem dX11_isCell_0 : decode cX11_isCell 0 = .ok (.iload_n 0, 1) := by decide +kernel
theorem dX11_isCell_1 : decode cX11_isCell 1 = .ok (.ifCond .lt 13, 3) := by decide +kernel
theorem dX11_isCell_4 : decode cX11_isCell 4 = .ok (.iload_n 0, 1) := by decide +kernel
theorem dX11_isCell_5 : decode cX11_isCell 5 = .ok (.bipush 6, 2) := by decide +kernel
theorem dX11_isCell_7 : decode cX11_isCell 7 = .ok (.if_icmp .ge 7, 3) := by decide +kernel
theorem dX11_isCell_10 : decode cX11_isCell 10 = .ok (.iconst 1, 1) := by decide +kernel
theorem dX11_isCell_11 : decode cX11_isCell 11 = .ok (.goto 4, 3) := by decide +kernel
theorem dX11_isCell_14 : decode cX11_isCell 14 = .ok (.iconst 0, 1) := by decide +kernel
theorem dX11_isCell_15 : decode cX11_isCell 15 = .ok (.ireturn, 1) := by decide +kernel
def f_X11_isCell (x0 : Int32) : Int32 :=
  (if x0 < (0 : Int32) then (0 : Int32) else (if (6 : Int32) ≤ x0 then (0 : Int32) else (1 : Int32)))
set_option maxHeartbeats 4000000 in
set_option maxRecDepth 100000 in
theorem c_X11_isCell {l : Launch} {G : jG} {L : jL} (hL : jOKL L) {x0 : Int32}  {μ : jM} {r : Int32} (h : f_X11_isCell x0 = r) : jCt l G L 3 yX11_isCell cX11_isCell 1 (some .boolean) [.int x0] μ (some (.int r)) μ := by
  refine jCt_of (by decide) (Nat.le_of_ble_eq_true rfl) (fun X hC hX hR => ?_)
  subst hX
  have hC : jC X G cX11_isCell 1 RX11 (some .boolean) := hC
  unfold f_X11_isCell at h
  show jJ X G 1 L 0 0 (jQM X G L (some (.int r)) μ 0 0) 0 [(0, .int x0)] [] μ
  refine j_iload_n (pc := 0) hC 0 0 dX11_isCell_0 rfl rfl ?_
  refine j_if_lt (pc := 1) hC 14 dX11_isCell_1 (by decide) (fun c1 => ?_) (fun c1 => ?_)
  · rw [if_pos c1] at h
    refine j_iconst (pc := 14) hC (0 : Int32) dX11_isCell_14 (by decide) ?_
    subst h
    exact j_bret (pc := 15) hC dX11_isCell_15 rfl rfl
  · rw [if_neg c1] at h
    refine j_iload_n (pc := 4) hC 0 0 dX11_isCell_4 rfl rfl ?_
    refine j_bipush (pc := 5) hC (6 : Int32) dX11_isCell_5 (by decide) ?_
    refine j_icmp_ge (pc := 7) hC 14 dX11_isCell_7 (by decide) (fun c2 => ?_) (fun c2 => ?_)
    · rw [if_pos c2] at h
      refine j_iconst (pc := 14) hC (0 : Int32) dX11_isCell_14 (by decide) ?_
      subst h
      exact j_bret (pc := 15) hC dX11_isCell_15 rfl rfl
    · rw [if_neg c2] at h
      refine j_iconst (pc := 10) hC (1 : Int32) dX11_isCell_10 (by decide) ?_
      refine j_goto (pc := 11) hC 15 dX11_isCell_11 (by decide) ?_
      subst h
      exact j_bret (pc := 15) hC dX11_isCell_15 rfl rfl
theorem dX8_cellAt_0 : decode cX8_cellAt 0 = .ok (.aload_n 0, 1) := by decide +kernel
theorem dX8_cellAt_1 : decode cX8_cellAt 1 = .ok (.iload_n 1, 1) := by decide +kernel
theorem dX8_cellAt_2 : decode cX8_cellAt 2 = .ok (.invokevirtual 19, 3) := by decide +kernel
theorem dX8_cellAt_5 : decode cX8_cellAt 5 = .ok (.bipush 65, 2) := by decide +kernel
theorem dX8_cellAt_7 : decode cX8_cellAt 7 = .ok (.isub, 1) := by decide +kernel
theorem dX8_cellAt_8 : decode cX8_cellAt 8 = .ok (.istore_n 2, 1) := by decide +kernel
theorem dX8_cellAt_9 : decode cX8_cellAt 9 = .ok (.iload_n 2, 1) := by decide +kernel
theorem dX8_cellAt_10 : decode cX8_cellAt 10 = .ok (.invokestatic 23, 3) := by decide +kernel
theorem dX8_cellAt_13 : decode cX8_cellAt 13 = .ok (.ifCond .eq 7, 3) := by decide +kernel
theorem dX8_cellAt_16 : decode cX8_cellAt 16 = .ok (.iload_n 2, 1) := by decide +kernel
theorem dX8_cellAt_17 : decode cX8_cellAt 17 = .ok (.goto 4, 3) := by decide +kernel
theorem dX8_cellAt_20 : decode cX8_cellAt 20 = .ok (.iconst (-1), 1) := by decide +kernel
theorem dX8_cellAt_21 : decode cX8_cellAt 21 = .ok (.ireturn, 1) := by decide +kernel
def f_X8_cellAt (a0 : Nat) (x1 : Int32) (μ : jM) : Option (Int32) :=
  jcl (f_X8_signAt a0 x1 μ) (fun v1 => some ((if (f_X11_isCell (v1 - (65 : Int32))) = (0 : Int32) then (-1 : Int32) else v1 - (65 : Int32))))
set_option maxHeartbeats 4000000 in
set_option maxRecDepth 100000 in
theorem c_X8_cellAt {l : Launch} {G : jG} {L : jL} (hL : jOKL L) {a0 : Nat} {x1 : Int32} (ka0 : jK L a0 8) {μ : jM} {r : Int32} (h : f_X8_cellAt a0 x1 μ = some r) : jCt l G L 4 yX8_cellAt cX8_cellAt 3 (some .int) [.ref (L.2.2 a0), .int x1] μ (some (.int r)) μ := by
  refine jCt_of (by decide) (Nat.le_of_ble_eq_true rfl) (fun X hC hX hR => ?_)
  subst hX
  have hC : jC X G cX8_cellAt 3 RX8 (some .int) := hC
  unfold f_X8_cellAt at h
  show jJ X G 3 L 0 0 (jQM X G L (some (.int r)) μ 0 0) 0 [(0, .ref (L.2.2 a0)), (1, .int x1)] [] μ
  refine j_aload_n (pc := 0) hC 0 0 dX8_cellAt_0 rfl rfl ?_
  refine j_iload_n (pc := 1) hC 1 1 dX8_cellAt_1 rfl rfl ?_
  obtain ⟨v1, e2, h⟩ := jcl_some h
  refine j_vi (pc := 2) hC hR [.int x1] iy_X8_signAt (q := (RX8, TX8, 2)) (ci := 8) rfl rfl (by decide) km_X8_19 dX8_cellAt_2 rfl (by decide) ka0 (c_X8_signAt hL ka0 e2) (by decide) (Nat.le_of_ble_eq_true rfl) rfl ?_
  refine j_bipush (pc := 5) hC (65 : Int32) dX8_cellAt_5 (by decide) ?_
  refine j_isub (pc := 7) hC dX8_cellAt_7 ?_
  refine j_istore_n (pc := 8) hC 2 [(2, .int (v1 - (65 : Int32))), (0, .ref (L.2.2 a0)), (1, .int x1)] dX8_cellAt_8 rfl (by decide) rfl rfl ?_
  refine j_iload_n (pc := 9) hC 2 0 dX8_cellAt_9 rfl rfl ?_
  refine j_ni (pc := 10) hC hR [.int (v1 - (65 : Int32))] iy_X11_isCell kn_X8_23 dX8_cellAt_10 rfl (by decide) (c_X11_isCell hL  rfl) (by decide) (Nat.le_of_ble_eq_true rfl) rfl ?_
  refine jmg (B := jJ X G 3 L 0 0 (jQM X G L (some (.int r)) μ 0 0) 21 [(2, .int (v1 - (65 : Int32))), (0, .ref (L.2.2 a0)), (1, .int x1)] [.int ((if (f_X11_isCell (v1 - (65 : Int32))) = (0 : Int32) then (-1 : Int32) else v1 - (65 : Int32)))] μ) (fun hj => ?_) ?_
  · refine j_if_eq (pc := 13) hC 20 dX8_cellAt_13 (by decide) (fun c3 => ?_) (fun c3 => ?_)
    · rw [if_pos c3] at hj
      refine j_iconst (pc := 20) hC (-1 : Int32) dX8_cellAt_20 (by decide) ?_
      exact hj
    · rw [if_neg c3] at hj
      refine j_iload_n (pc := 16) hC 2 0 dX8_cellAt_16 rfl rfl ?_
      refine j_goto (pc := 17) hC 21 dX8_cellAt_17 (by decide) ?_
      exact hj
  obtain rfl := Option.some.inj h
  exact j_iret (pc := 21) hC dX8_cellAt_21 rfl
theorem dX8_twoDigitsAt_0 : decode cX8_twoDigitsAt 0 = .ok (.bipush 10, 2) := by decide +kernel
theorem dX8_twoDigitsAt_2 : decode cX8_twoDigitsAt 2 = .ok (.aload_n 0, 1) := by decide +kernel
theorem dX8_twoDigitsAt_3 : decode cX8_twoDigitsAt 3 = .ok (.iload_n 1, 1) := by decide +kernel
theorem dX8_twoDigitsAt_4 : decode cX8_twoDigitsAt 4 = .ok (.invokevirtual 30, 3) := by decide +kernel
theorem dX8_twoDigitsAt_7 : decode cX8_twoDigitsAt 7 = .ok (.imul, 1) := by decide +kernel
theorem dX8_twoDigitsAt_8 : decode cX8_twoDigitsAt 8 = .ok (.aload_n 0, 1) := by decide +kernel
theorem dX8_twoDigitsAt_9 : decode cX8_twoDigitsAt 9 = .ok (.iload_n 1, 1) := by decide +kernel
theorem dX8_twoDigitsAt_10 : decode cX8_twoDigitsAt 10 = .ok (.iconst 1, 1) := by decide +kernel
theorem dX8_twoDigitsAt_11 : decode cX8_twoDigitsAt 11 = .ok (.iadd, 1) := by decide +kernel
theorem dX8_twoDigitsAt_12 : decode cX8_twoDigitsAt 12 = .ok (.invokevirtual 30, 3) := by decide +kernel
theorem dX8_twoDigitsAt_15 : decode cX8_twoDigitsAt 15 = .ok (.iadd, 1) := by decide +kernel
theorem dX8_twoDigitsAt_16 : decode cX8_twoDigitsAt 16 = .ok (.ireturn, 1) := by decide +kernel
def f_X8_twoDigitsAt (a0 : Nat) (x1 : Int32) (μ : jM) : Option (Int32) :=
  jcl (f_X8_digitAt a0 x1 μ) (fun v1 => jcl (f_X8_digitAt a0 (x1 + (1 : Int32)) μ) (fun v3 => some (((10 : Int32) * v1) + v3)))
set_option maxHeartbeats 4000000 in
set_option maxRecDepth 100000 in
theorem c_X8_twoDigitsAt {l : Launch} {G : jG} {L : jL} (hL : jOKL L) {a0 : Nat} {x1 : Int32} (ka0 : jK L a0 8) {μ : jM} {r : Int32} (h : f_X8_twoDigitsAt a0 x1 μ = some r) : jCt l G L 5 yX8_twoDigitsAt cX8_twoDigitsAt 2 (some .int) [.ref (L.2.2 a0), .int x1] μ (some (.int r)) μ := by
  refine jCt_of (by decide) (Nat.le_of_ble_eq_true rfl) (fun X hC hX hR => ?_)
  subst hX
  have hC : jC X G cX8_twoDigitsAt 2 RX8 (some .int) := hC
  unfold f_X8_twoDigitsAt at h
  show jJ X G 2 L 0 0 (jQM X G L (some (.int r)) μ 0 0) 0 [(0, .ref (L.2.2 a0)), (1, .int x1)] [] μ
  refine j_bipush (pc := 0) hC (10 : Int32) dX8_twoDigitsAt_0 (by decide) ?_
  refine j_aload_n (pc := 2) hC 0 0 dX8_twoDigitsAt_2 rfl rfl ?_
  refine j_iload_n (pc := 3) hC 1 1 dX8_twoDigitsAt_3 rfl rfl ?_
  obtain ⟨v1, e2, h⟩ := jcl_some h
  refine j_vi (pc := 4) hC hR [.int x1] iy_X8_digitAt (q := (RX8, TX8, 2)) (ci := 8) rfl rfl (by decide) km_X8_30 dX8_twoDigitsAt_4 rfl (by decide) ka0 (c_X8_digitAt hL ka0 e2) (by decide) (Nat.le_of_ble_eq_true rfl) rfl ?_
  refine j_imul (pc := 7) hC dX8_twoDigitsAt_7 ?_
  refine j_aload_n (pc := 8) hC 0 0 dX8_twoDigitsAt_8 rfl rfl ?_
  refine j_iload_n (pc := 9) hC 1 1 dX8_twoDigitsAt_9 rfl rfl ?_
  refine j_iconst (pc := 10) hC (1 : Int32) dX8_twoDigitsAt_10 (by decide) ?_
  refine j_iadd (pc := 11) hC dX8_twoDigitsAt_11 ?_
  obtain ⟨v3, e4, h⟩ := jcl_some h
  refine j_vi (pc := 12) hC hR [.int (x1 + (1 : Int32))] iy_X8_digitAt (q := (RX8, TX8, 2)) (ci := 8) rfl rfl (by decide) km_X8_30 dX8_twoDigitsAt_12 rfl (by decide) ka0 (c_X8_digitAt hL ka0 e4) (by decide) (Nat.le_of_ble_eq_true rfl) rfl ?_
  refine j_iadd (pc := 15) hC dX8_twoDigitsAt_15 ?_
  obtain rfl := Option.some.inj h
  exact j_iret (pc := 16) hC dX8_twoDigitsAt_16 rfl
theorem dX11_isValue_0 : decode cX11_isValue 0 = .ok (.iload_n 0, 1) := by decide +kernel
theorem dX11_isValue_1 : decode cX11_isValue 1 = .ok (.ifCond .lt 13, 3) := by decide +kernel
theorem dX11_isValue_4 : decode cX11_isValue 4 = .ok (.iload_n 0, 1) := by decide +kernel
theorem dX11_isValue_5 : decode cX11_isValue 5 = .ok (.bipush 6, 2) := by decide +kernel
theorem dX11_isValue_7 : decode cX11_isValue 7 = .ok (.if_icmp .ge 7, 3) := by decide +kernel
theorem dX11_isValue_10 : decode cX11_isValue 10 = .ok (.iconst 1, 1) := by decide +kernel
theorem dX11_isValue_11 : decode cX11_isValue 11 = .ok (.goto 4, 3) := by decide +kernel
theorem dX11_isValue_14 : decode cX11_isValue 14 = .ok (.iconst 0, 1) := by decide +kernel
theorem dX11_isValue_15 : decode cX11_isValue 15 = .ok (.ireturn, 1) := by decide +kernel
def f_X11_isValue (x0 : Int32) : Int32 :=
  (if x0 < (0 : Int32) then (0 : Int32) else (if (6 : Int32) ≤ x0 then (0 : Int32) else (1 : Int32)))
set_option maxHeartbeats 4000000 in
set_option maxRecDepth 100000 in
theorem c_X11_isValue {l : Launch} {G : jG} {L : jL} (hL : jOKL L) {x0 : Int32}  {μ : jM} {r : Int32} (h : f_X11_isValue x0 = r) : jCt l G L 3 yX11_isValue cX11_isValue 1 (some .boolean) [.int x0] μ (some (.int r)) μ := by
  refine jCt_of (by decide) (Nat.le_of_ble_eq_true rfl) (fun X hC hX hR => ?_)
  subst hX
  have hC : jC X G cX11_isValue 1 RX11 (some .boolean) := hC
  unfold f_X11_isValue at h
  show jJ X G 1 L 0 0 (jQM X G L (some (.int r)) μ 0 0) 0 [(0, .int x0)] [] μ
  refine j_iload_n (pc := 0) hC 0 0 dX11_isValue_0 rfl rfl ?_
  refine j_if_lt (pc := 1) hC 14 dX11_isValue_1 (by decide) (fun c1 => ?_) (fun c1 => ?_)
  · rw [if_pos c1] at h
    refine j_iconst (pc := 14) hC (0 : Int32) dX11_isValue_14 (by decide) ?_
    subst h
    exact j_bret (pc := 15) hC dX11_isValue_15 rfl rfl
  · rw [if_neg c1] at h
    refine j_iload_n (pc := 4) hC 0 0 dX11_isValue_4 rfl rfl ?_
    refine j_bipush (pc := 5) hC (6 : Int32) dX11_isValue_5 (by decide) ?_
    refine j_icmp_ge (pc := 7) hC 14 dX11_isValue_7 (by decide) (fun c2 => ?_) (fun c2 => ?_)
    · rw [if_pos c2] at h
      refine j_iconst (pc := 14) hC (0 : Int32) dX11_isValue_14 (by decide) ?_
      subst h
      exact j_bret (pc := 15) hC dX11_isValue_15 rfl rfl
    · rw [if_neg c2] at h
      refine j_iconst (pc := 10) hC (1 : Int32) dX11_isValue_10 (by decide) ?_
      refine j_goto (pc := 11) hC 15 dX11_isValue_11 (by decide) ?_
      subst h
      exact j_bret (pc := 15) hC dX11_isValue_15 rfl rfl
theorem dX9_hasValue_0 : decode cX9_hasValue 0 = .ok (.iload_n 1, 1) := by decide +kernel
theorem dX9_hasValue_1 : decode cX9_hasValue 1 = .ok (.invokestatic 46, 3) := by decide +kernel
theorem dX9_hasValue_4 : decode cX9_hasValue 4 = .ok (.ifCond .eq 28, 3) := by decide +kernel
theorem dX9_hasValue_7 : decode cX9_hasValue 7 = .ok (.iload_n 2, 1) := by decide +kernel
theorem dX9_hasValue_8 : decode cX9_hasValue 8 = .ok (.invokestatic 50, 3) := by decide +kernel
theorem dX9_hasValue_11 : decode cX9_hasValue 11 = .ok (.ifCond .eq 21, 3) := by decide +kernel
theorem dX9_hasValue_14 : decode cX9_hasValue 14 = .ok (.aload_n 0, 1) := by decide +kernel
theorem dX9_hasValue_15 : decode cX9_hasValue 15 = .ok (.getfield 15, 3) := by decide +kernel
theorem dX9_hasValue_18 : decode cX9_hasValue 18 = .ok (.iload_n 1, 1) := by decide +kernel
theorem dX9_hasValue_19 : decode cX9_hasValue 19 = .ok (.iaload, 1) := by decide +kernel
theorem dX9_hasValue_20 : decode cX9_hasValue 20 = .ok (.iload_n 2, 1) := by decide +kernel
theorem dX9_hasValue_21 : decode cX9_hasValue 21 = .ok (.iushr, 1) := by decide +kernel
theorem dX9_hasValue_22 : decode cX9_hasValue 22 = .ok (.iconst 1, 1) := by decide +kernel
theorem dX9_hasValue_23 : decode cX9_hasValue 23 = .ok (.iand, 1) := by decide +kernel
theorem dX9_hasValue_24 : decode cX9_hasValue 24 = .ok (.iconst 1, 1) := by decide +kernel
theorem dX9_hasValue_25 : decode cX9_hasValue 25 = .ok (.if_icmp .ne 7, 3) := by decide +kernel
theorem dX9_hasValue_28 : decode cX9_hasValue 28 = .ok (.iconst 1, 1) := by decide +kernel
theorem dX9_hasValue_29 : decode cX9_hasValue 29 = .ok (.goto 4, 3) := by decide +kernel
theorem dX9_hasValue_32 : decode cX9_hasValue 32 = .ok (.iconst 0, 1) := by decide +kernel
theorem dX9_hasValue_33 : decode cX9_hasValue 33 = .ok (.ireturn, 1) := by decide +kernel
def f_X9_hasValue (a0 : Nat) (x1 : Int32) (x2 : Int32) (μ : jM) : Option (Int32) :=
  (if (f_X11_isVariable x1) = (0 : Int32) then some (0 : Int32) else (if (f_X11_isValue x2) = (0 : Int32) then some (0 : Int32) else jrd (μ.1 (a0 + 2)) x1 5 (fun v4 => (if ((jushr v4 x2) &&& (1 : Int32)) = (1 : Int32) then some (1 : Int32) else some (0 : Int32)))))
set_option maxHeartbeats 4000000 in
set_option maxRecDepth 100000 in
theorem c_X9_hasValue {l : Launch} {G : jG} {L : jL} (hL : jOKL L) {a0 : Nat} {x1 : Int32} {x2 : Int32} (ka0 : jK L a0 9) {μ : jM} {r : Int32} (h : f_X9_hasValue a0 x1 x2 μ = some r) : jCt l G L 4 yX9_hasValue cX9_hasValue 3 (some .boolean) [.ref (L.2.2 a0), .int x1, .int x2] μ (some (.int r)) μ := by
  refine jCt_of (by decide) (Nat.le_of_ble_eq_true rfl) (fun X hC hX hR => ?_)
  subst hX
  have hC : jC X G cX9_hasValue 3 RX9 (some .boolean) := hC
  unfold f_X9_hasValue at h
  show jJ X G 3 L 0 0 (jQM X G L (some (.int r)) μ 0 0) 0 [(0, .ref (L.2.2 a0)), (1, .int x1), (2, .int x2)] [] μ
  refine j_iload_n (pc := 0) hC 1 1 dX9_hasValue_0 rfl rfl ?_
  refine j_ni (pc := 1) hC hR [.int x1] iy_X11_isVariable kn_X9_46 dX9_hasValue_1 rfl (by decide) (c_X11_isVariable hL  rfl) (by decide) (Nat.le_of_ble_eq_true rfl) rfl ?_
  refine j_if_eq (pc := 4) hC 32 dX9_hasValue_4 (by decide) (fun c1 => ?_) (fun c1 => ?_)
  · rw [if_pos c1] at h
    refine j_iconst (pc := 32) hC (0 : Int32) dX9_hasValue_32 (by decide) ?_
    obtain rfl := Option.some.inj h
    exact j_bret (pc := 33) hC dX9_hasValue_33 rfl rfl
  · rw [if_neg c1] at h
    refine j_iload_n (pc := 7) hC 2 2 dX9_hasValue_7 rfl rfl ?_
    refine j_ni (pc := 8) hC hR [.int x2] iy_X11_isValue kn_X9_50 dX9_hasValue_8 rfl (by decide) (c_X11_isValue hL  rfl) (by decide) (Nat.le_of_ble_eq_true rfl) rfl ?_
    refine j_if_eq (pc := 11) hC 32 dX9_hasValue_11 (by decide) (fun c2 => ?_) (fun c2 => ?_)
    · rw [if_pos c2] at h
      refine j_iconst (pc := 32) hC (0 : Int32) dX9_hasValue_32 (by decide) ?_
      obtain rfl := Option.some.inj h
      exact j_bret (pc := 33) hC dX9_hasValue_33 rfl rfl
    · rw [if_neg c2] at h
      refine j_aload_n (pc := 14) hC 0 0 dX9_hasValue_14 rfl rfl ?_
      refine jgr_9 (pc := 15) hC 1 (by decide) rfl kf_X9_15 dX9_hasValue_15 ka0 (ly_9_1 hL ka0).1 ?_
      refine j_iload_n (pc := 18) hC 1 1 dX9_hasValue_18 rfl rfl ?_
      obtain ⟨i3, v4, e5, h⟩ := jrd_some h
      refine j_iald (pc := 19) hC dX9_hasValue_19 (ly_9_1 hL ka0).2.1 (ly_9_1 hL ka0).2.2 i3 e5 ?_
      refine j_iload_n (pc := 20) hC 2 2 dX9_hasValue_20 rfl rfl ?_
      refine j_iushr (pc := 21) hC dX9_hasValue_21 ?_
      refine j_iconst (pc := 22) hC (1 : Int32) dX9_hasValue_22 (by decide) ?_
      refine j_iand (pc := 23) hC dX9_hasValue_23 ?_
      refine j_iconst (pc := 24) hC (1 : Int32) dX9_hasValue_24 (by decide) ?_
      refine j_icmp_ne (pc := 25) hC 32 dX9_hasValue_25 (by decide) (fun c6 => ?_) (fun c6 => ?_)
      · rw [if_neg c6] at h
        refine j_iconst (pc := 32) hC (0 : Int32) dX9_hasValue_32 (by decide) ?_
        obtain rfl := Option.some.inj h
        exact j_bret (pc := 33) hC dX9_hasValue_33 rfl rfl
      · rw [if_pos c6] at h
        refine j_iconst (pc := 28) hC (1 : Int32) dX9_hasValue_28 (by decide) ?_
        refine j_goto (pc := 29) hC 33 dX9_hasValue_29 (by decide) ?_
        obtain rfl := Option.some.inj h
        exact j_bret (pc := 33) hC dX9_hasValue_33 rfl rfl
theorem dX9_placeOf_0 : decode cX9_placeOf 0 = .ok (.iconst 0, 1) := by decide +kernel
theorem dX9_placeOf_1 : decode cX9_placeOf 1 = .ok (.istore_n 2, 1) := by decide +kernel
theorem dX9_placeOf_2 : decode cX9_placeOf 2 = .ok (.iload_n 2, 1) := by decide +kernel
theorem dX9_placeOf_3 : decode cX9_placeOf 3 = .ok (.aload_n 0, 1) := by decide +kernel
theorem dX9_placeOf_4 : decode cX9_placeOf 4 = .ok (.getfield 39, 3) := by decide +kernel
theorem dX9_placeOf_7 : decode cX9_placeOf 7 = .ok (.if_icmp .ge 21, 3) := by decide +kernel
theorem dX9_placeOf_10 : decode cX9_placeOf 10 = .ok (.aload_n 0, 1) := by decide +kernel
theorem dX9_placeOf_11 : decode cX9_placeOf 11 = .ok (.getfield 18, 3) := by decide +kernel
theorem dX9_placeOf_14 : decode cX9_placeOf 14 = .ok (.iload_n 2, 1) := by decide +kernel
theorem dX9_placeOf_15 : decode cX9_placeOf 15 = .ok (.iaload, 1) := by decide +kernel
theorem dX9_placeOf_16 : decode cX9_placeOf 16 = .ok (.iload_n 1, 1) := by decide +kernel
theorem dX9_placeOf_17 : decode cX9_placeOf 17 = .ok (.if_icmp .ne 5, 3) := by decide +kernel
theorem dX9_placeOf_20 : decode cX9_placeOf 20 = .ok (.iload_n 2, 1) := by decide +kernel
theorem dX9_placeOf_21 : decode cX9_placeOf 21 = .ok (.ireturn, 1) := by decide +kernel
theorem dX9_placeOf_22 : decode cX9_placeOf 22 = .ok (.iinc 2 1, 3) := by decide +kernel
theorem dX9_placeOf_25 : decode cX9_placeOf 25 = .ok (.goto (-23), 3) := by decide +kernel
theorem dX9_placeOf_28 : decode cX9_placeOf 28 = .ok (.iconst (-1), 1) := by decide +kernel
theorem dX9_placeOf_29 : decode cX9_placeOf 29 = .ok (.ireturn, 1) := by decide +kernel
def f_X9_placeOf_L2 (a0 : Nat) (x1 : Int32) (μ : jM) (u1 : Int32) : Option ((Int32) ⊕ ((Int32) ⊕ (Unit))) :=
  (if (μ.1 a0 5) ≤ u1 then some (.inr (.inr (()))) else jrd (μ.1 (a0 + 3)) u1 8 (fun v4 => (if v4 = x1 then some (.inr (.inl u1)) else some (.inl (u1 + (1 : Int32))))))
def f_X9_placeOf (a0 : Nat) (x1 : Int32) (μ : jM) : Option (Int32) :=
  jcl (jloop (fun (s : Int32) => f_X9_placeOf_L2 a0 x1 μ s) jfu (0 : Int32)) (fun w7 => match w7 with | .inl w7 => some w7 | .inr w7 => some (-1 : Int32))
set_option maxHeartbeats 4000000 in
set_option maxRecDepth 100000 in
theorem c_X9_placeOf {l : Launch} {G : jG} {L : jL} (hL : jOKL L) {a0 : Nat} {x1 : Int32} (ka0 : jK L a0 9) {μ : jM} {r : Int32} (h : f_X9_placeOf a0 x1 μ = some r) : jCt l G L 3 yX9_placeOf cX9_placeOf 3 (some .int) [.ref (L.2.2 a0), .int x1] μ (some (.int r)) μ := by
  refine jCt_of (by decide) (Nat.le_of_ble_eq_true rfl) (fun X hC hX hR => ?_)
  subst hX
  have hC : jC X G cX9_placeOf 3 RX9 (some .int) := hC
  unfold f_X9_placeOf at h
  show jJ X G 3 L 0 0 (jQM X G L (some (.int r)) μ 0 0) 0 [(0, .ref (L.2.2 a0)), (1, .int x1)] [] μ
  refine j_iconst (pc := 0) hC (0 : Int32) dX9_placeOf_0 (by decide) ?_
  refine j_istore_n (pc := 1) hC 2 [(2, .int (0 : Int32)), (0, .ref (L.2.2 a0)), (1, .int x1)] dX9_placeOf_1 rfl (by decide) rfl rfl ?_
  obtain ⟨w7, hw8, h⟩ := jcl_some h
  refine j_lv [1, 2, 0] rfl ?_
  refine j_loop (step := (fun (s : Int32) => f_X9_placeOf_L2 a0 x1 μ s)) (P := (fun (s : Int32) => jJ X G 3 L 0 0 (jQM X G L (some (.int r)) μ 0 0) 2 [(0, .ref (L.2.2 a0)), (1, .int x1), (2, .int s)] [] μ)) (R := (fun (e : (Int32) ⊕ (Unit)) => match e with | .inl e => jJ X G 3 L 0 0 (jQM X G L (some (.int r)) μ 0 0) 20 [(2, .int e)] [] μ | .inr e => jJ X G 3 L 0 0 (jQM X G L (some (.int r)) μ 0 0) 28 [] [] μ)) ?_ jfu (0 : Int32) w7 hw8 ?_
  · intro u1 o h hk
    change f_X9_placeOf_L2 a0 x1 μ u1 = some o at h
    unfold f_X9_placeOf_L2 at h
    show jJ X G 3 L 0 0 (jQM X G L (some (.int r)) μ 0 0) 2 [(0, .ref (L.2.2 a0)), (1, .int x1), (2, .int u1)] [] μ
    refine j_iload_n (pc := 2) hC 2 2 dX9_placeOf_2 rfl rfl ?_
    refine j_aload_n (pc := 3) hC 0 0 dX9_placeOf_3 rfl rfl ?_
    refine jgi_9 (pc := 4) hC 5 (by decide) rfl kf_X9_39 dX9_placeOf_4 ka0 ?_
    refine j_icmp_ge (pc := 7) hC 28 dX9_placeOf_7 (by decide) (fun c2 => ?_) (fun c2 => ?_)
    · rw [if_pos c2] at h
      obtain rfl := Option.some.inj h
      have hk : jJ X G 3 L 0 0 (jQM X G L (some (.int r)) μ 0 0) 28 [] [] μ := hk
      exact j_lv [] rfl hk
    · rw [if_neg c2] at h
      refine j_aload_n (pc := 10) hC 0 0 dX9_placeOf_10 rfl rfl ?_
      refine jgr_9 (pc := 11) hC 2 (by decide) rfl kf_X9_18 dX9_placeOf_11 ka0 (ly_9_2 hL ka0).1 ?_
      refine j_iload_n (pc := 14) hC 2 2 dX9_placeOf_14 rfl rfl ?_
      obtain ⟨i3, v4, e5, h⟩ := jrd_some h
      refine j_iald (pc := 15) hC dX9_placeOf_15 (ly_9_2 hL ka0).2.1 (ly_9_2 hL ka0).2.2 i3 e5 ?_
      refine j_iload_n (pc := 16) hC 1 1 dX9_placeOf_16 rfl rfl ?_
      refine j_icmp_ne (pc := 17) hC 22 dX9_placeOf_17 (by decide) (fun c6 => ?_) (fun c6 => ?_)
      · rw [if_neg c6] at h
        refine j_iinc (pc := 22) hC 2 (u1 + (1 : Int32)) [(2, .int (u1 + (1 : Int32))), (0, .ref (L.2.2 a0)), (1, .int x1)] dX9_placeOf_22 rfl rfl (by decide) rfl ?_
        refine j_goto (pc := 25) hC 2 dX9_placeOf_25 (by decide) ?_
        obtain rfl := Option.some.inj h
        have hk : jJ X G 3 L 0 0 (jQM X G L (some (.int r)) μ 0 0) 2 [(0, .ref (L.2.2 a0)), (1, .int x1), (2, .int (u1 + (1 : Int32)))] [] μ := hk
        exact j_lv [1, 2, 0] rfl hk
      · rw [if_pos c6] at h
        obtain rfl := Option.some.inj h
        have hk : jJ X G 3 L 0 0 (jQM X G L (some (.int r)) μ 0 0) 20 [(2, .int u1)] [] μ := hk
        exact j_lv [2] rfl hk
  · cases w7 with
    | inl w7 =>
      try dsimp only at h
      obtain ⟨z10, rfl⟩ : ∃ y, y = w7 := ⟨_, rfl⟩
      try dsimp only at h
      show jJ X G 3 L 0 0 (jQM X G L (some (.int r)) μ 0 0) 20 [(2, .int z10)] [] μ
      refine j_iload_n (pc := 20) hC 2 0 dX9_placeOf_20 rfl rfl ?_
      obtain rfl := Option.some.inj h
      exact j_iret (pc := 21) hC dX9_placeOf_21 rfl
    | inr w7 =>
      try dsimp only at h
      try dsimp only at h
      show jJ X G 3 L 0 0 (jQM X G L (some (.int r)) μ 0 0) 28 [] [] μ
      refine j_iconst (pc := 28) hC (-1 : Int32) dX9_placeOf_28 (by decide) ?_
      obtain rfl := Option.some.inj h
      exact j_iret (pc := 29) hC dX9_placeOf_29 rfl
theorem dX4_isSo_0 : decode cX4_isSo 0 = .ok (.aload_n 0, 1) := by decide +kernel
theorem dX4_isSo_1 : decode cX4_isSo 1 = .ok (.getfield 19, 3) := by decide +kernel
theorem dX4_isSo_4 : decode cX4_isSo 4 = .ok (.aload_n 0, 1) := by decide +kernel
theorem dX4_isSo_5 : decode cX4_isSo 5 = .ok (.getfield 111, 3) := by decide +kernel
theorem dX4_isSo_8 : decode cX4_isSo 8 = .ok (.iconst 1, 1) := by decide +kernel
theorem dX4_isSo_9 : decode cX4_isSo 9 = .ok (.iadd, 1) := by decide +kernel
theorem dX4_isSo_10 : decode cX4_isSo 10 = .ok (.invokevirtual 145, 3) := by decide +kernel
theorem dX4_isSo_13 : decode cX4_isSo 13 = .ok (.istore_n 2, 1) := by decide +kernel
theorem dX4_isSo_14 : decode cX4_isSo 14 = .ok (.iload_n 2, 1) := by decide +kernel
theorem dX4_isSo_15 : decode cX4_isSo 15 = .ok (.invokestatic 186, 3) := by decide +kernel
theorem dX4_isSo_18 : decode cX4_isSo 18 = .ok (.ifCond .eq 18, 3) := by decide +kernel
theorem dX4_isSo_21 : decode cX4_isSo 21 = .ok (.aload_n 0, 1) := by decide +kernel
theorem dX4_isSo_22 : decode cX4_isSo 22 = .ok (.getfield 15, 3) := by decide +kernel
theorem dX4_isSo_25 : decode cX4_isSo 25 = .ok (.getfield 189, 3) := by decide +kernel
theorem dX4_isSo_28 : decode cX4_isSo 28 = .ok (.getfield 193, 3) := by decide +kernel
theorem dX4_isSo_31 : decode cX4_isSo 31 = .ok (.iload_n 2, 1) := by decide +kernel
theorem dX4_isSo_32 : decode cX4_isSo 32 = .ok (.iaload, 1) := by decide +kernel
theorem dX4_isSo_33 : decode cX4_isSo 33 = .ok (.goto 4, 3) := by decide +kernel
theorem dX4_isSo_36 : decode cX4_isSo 36 = .ok (.iconst 0, 1) := by decide +kernel
theorem dX4_isSo_37 : decode cX4_isSo 37 = .ok (.istore_n 3, 1) := by decide +kernel
theorem dX4_isSo_38 : decode cX4_isSo 38 = .ok (.iload_n 1, 1) := by decide +kernel
theorem dX4_isSo_39 : decode cX4_isSo 39 = .ok (.tableswitch 172 10 14 #[33, 56, 79, 102, 139], 33) := by decide +kernel
theorem dX4_isSo_72 : decode cX4_isSo 72 = .ok (.iload_n 3, 1) := by decide +kernel
theorem dX4_isSo_73 : decode cX4_isSo 73 = .ok (.aload_n 0, 1) := by decide +kernel
theorem dX4_isSo_74 : decode cX4_isSo 74 = .ok (.getfield 19, 3) := by decide +kernel
theorem dX4_isSo_77 : decode cX4_isSo 77 = .ok (.aload_n 0, 1) := by decide +kernel
theorem dX4_isSo_78 : decode cX4_isSo 78 = .ok (.getfield 111, 3) := by decide +kernel
theorem dX4_isSo_81 : decode cX4_isSo 81 = .ok (.iconst 3, 1) := by decide +kernel
theorem dX4_isSo_82 : decode cX4_isSo 82 = .ok (.iadd, 1) := by decide +kernel
theorem dX4_isSo_83 : decode cX4_isSo 83 = .ok (.invokevirtual 148, 3) := by decide +kernel
theorem dX4_isSo_86 : decode cX4_isSo 86 = .ok (.if_icmp .ge 7, 3) := by decide +kernel
theorem dX4_isSo_89 : decode cX4_isSo 89 = .ok (.iconst 1, 1) := by decide +kernel
theorem dX4_isSo_90 : decode cX4_isSo 90 = .ok (.goto 4, 3) := by decide +kernel
theorem dX4_isSo_93 : decode cX4_isSo 93 = .ok (.iconst 0, 1) := by decide +kernel
theorem dX4_isSo_94 : decode cX4_isSo 94 = .ok (.ireturn, 1) := by decide +kernel
theorem dX4_isSo_95 : decode cX4_isSo 95 = .ok (.iload_n 3, 1) := by decide +kernel
theorem dX4_isSo_96 : decode cX4_isSo 96 = .ok (.aload_n 0, 1) := by decide +kernel
theorem dX4_isSo_97 : decode cX4_isSo 97 = .ok (.getfield 19, 3) := by decide +kernel
theorem dX4_isSo_100 : decode cX4_isSo 100 = .ok (.aload_n 0, 1) := by decide +kernel
theorem dX4_isSo_101 : decode cX4_isSo 101 = .ok (.getfield 111, 3) := by decide +kernel
theorem dX4_isSo_104 : decode cX4_isSo 104 = .ok (.iconst 3, 1) := by decide +kernel
theorem dX4_isSo_105 : decode cX4_isSo 105 = .ok (.iadd, 1) := by decide +kernel
theorem dX4_isSo_106 : decode cX4_isSo 106 = .ok (.invokevirtual 148, 3) := by decide +kernel
theorem dX4_isSo_109 : decode cX4_isSo 109 = .ok (.if_icmp .ne 7, 3) := by decide +kernel
theorem dX4_isSo_112 : decode cX4_isSo 112 = .ok (.iconst 1, 1) := by decide +kernel
theorem dX4_isSo_113 : decode cX4_isSo 113 = .ok (.goto 4, 3) := by decide +kernel
theorem dX4_isSo_116 : decode cX4_isSo 116 = .ok (.iconst 0, 1) := by decide +kernel
theorem dX4_isSo_117 : decode cX4_isSo 117 = .ok (.ireturn, 1) := by decide +kernel
theorem dX4_isSo_118 : decode cX4_isSo 118 = .ok (.iload_n 3, 1) := by decide +kernel
theorem dX4_isSo_119 : decode cX4_isSo 119 = .ok (.aload_n 0, 1) := by decide +kernel
theorem dX4_isSo_120 : decode cX4_isSo 120 = .ok (.getfield 19, 3) := by decide +kernel
theorem dX4_isSo_123 : decode cX4_isSo 123 = .ok (.aload_n 0, 1) := by decide +kernel
theorem dX4_isSo_124 : decode cX4_isSo 124 = .ok (.getfield 111, 3) := by decide +kernel
theorem dX4_isSo_127 : decode cX4_isSo 127 = .ok (.iconst 3, 1) := by decide +kernel
theorem dX4_isSo_128 : decode cX4_isSo 128 = .ok (.iadd, 1) := by decide +kernel
theorem dX4_isSo_129 : decode cX4_isSo 129 = .ok (.invokevirtual 148, 3) := by decide +kernel
theorem dX4_isSo_132 : decode cX4_isSo 132 = .ok (.if_icmp .le 7, 3) := by decide +kernel
theorem dX4_isSo_135 : decode cX4_isSo 135 = .ok (.iconst 1, 1) := by decide +kernel
theorem dX4_isSo_136 : decode cX4_isSo 136 = .ok (.goto 4, 3) := by decide +kernel
theorem dX4_isSo_139 : decode cX4_isSo 139 = .ok (.iconst 0, 1) := by decide +kernel
theorem dX4_isSo_140 : decode cX4_isSo 140 = .ok (.ireturn, 1) := by decide +kernel
theorem dX4_isSo_141 : decode cX4_isSo 141 = .ok (.aload_n 0, 1) := by decide +kernel
theorem dX4_isSo_142 : decode cX4_isSo 142 = .ok (.getfield 15, 3) := by decide +kernel
theorem dX4_isSo_145 : decode cX4_isSo 145 = .ok (.getfield 189, 3) := by decide +kernel
theorem dX4_isSo_148 : decode cX4_isSo 148 = .ok (.aload_n 0, 1) := by decide +kernel
theorem dX4_isSo_149 : decode cX4_isSo 149 = .ok (.getfield 19, 3) := by decide +kernel
theorem dX4_isSo_152 : decode cX4_isSo 152 = .ok (.aload_n 0, 1) := by decide +kernel
theorem dX4_isSo_153 : decode cX4_isSo 153 = .ok (.getfield 111, 3) := by decide +kernel
theorem dX4_isSo_156 : decode cX4_isSo 156 = .ok (.iconst 1, 1) := by decide +kernel
theorem dX4_isSo_157 : decode cX4_isSo 157 = .ok (.iadd, 1) := by decide +kernel
theorem dX4_isSo_158 : decode cX4_isSo 158 = .ok (.invokevirtual 157, 3) := by decide +kernel
theorem dX4_isSo_161 : decode cX4_isSo 161 = .ok (.aload_n 0, 1) := by decide +kernel
theorem dX4_isSo_162 : decode cX4_isSo 162 = .ok (.getfield 19, 3) := by decide +kernel
theorem dX4_isSo_165 : decode cX4_isSo 165 = .ok (.aload_n 0, 1) := by decide +kernel
theorem dX4_isSo_166 : decode cX4_isSo 166 = .ok (.getfield 111, 3) := by decide +kernel
theorem dX4_isSo_169 : decode cX4_isSo 169 = .ok (.iconst 2, 1) := by decide +kernel
theorem dX4_isSo_170 : decode cX4_isSo 170 = .ok (.iadd, 1) := by decide +kernel
theorem dX4_isSo_171 : decode cX4_isSo 171 = .ok (.invokevirtual 160, 3) := by decide +kernel
theorem dX4_isSo_174 : decode cX4_isSo 174 = .ok (.invokevirtual 198, 3) := by decide +kernel
theorem dX4_isSo_177 : decode cX4_isSo 177 = .ok (.ireturn, 1) := by decide +kernel
theorem dX4_isSo_178 : decode cX4_isSo 178 = .ok (.aload_n 0, 1) := by decide +kernel
theorem dX4_isSo_179 : decode cX4_isSo 179 = .ok (.getfield 15, 3) := by decide +kernel
theorem dX4_isSo_182 : decode cX4_isSo 182 = .ok (.getfield 189, 3) := by decide +kernel
theorem dX4_isSo_185 : decode cX4_isSo 185 = .ok (.aload_n 0, 1) := by decide +kernel
theorem dX4_isSo_186 : decode cX4_isSo 186 = .ok (.getfield 19, 3) := by decide +kernel
theorem dX4_isSo_189 : decode cX4_isSo 189 = .ok (.aload_n 0, 1) := by decide +kernel
theorem dX4_isSo_190 : decode cX4_isSo 190 = .ok (.getfield 111, 3) := by decide +kernel
theorem dX4_isSo_193 : decode cX4_isSo 193 = .ok (.iconst 2, 1) := by decide +kernel
theorem dX4_isSo_194 : decode cX4_isSo 194 = .ok (.iadd, 1) := by decide +kernel
theorem dX4_isSo_195 : decode cX4_isSo 195 = .ok (.invokevirtual 160, 3) := by decide +kernel
theorem dX4_isSo_198 : decode cX4_isSo 198 = .ok (.invokevirtual 201, 3) := by decide +kernel
theorem dX4_isSo_201 : decode cX4_isSo 201 = .ok (.iconst (-1), 1) := by decide +kernel
theorem dX4_isSo_202 : decode cX4_isSo 202 = .ok (.if_icmp .eq 7, 3) := by decide +kernel
theorem dX4_isSo_205 : decode cX4_isSo 205 = .ok (.iconst 1, 1) := by decide +kernel
theorem dX4_isSo_206 : decode cX4_isSo 206 = .ok (.goto 4, 3) := by decide +kernel
theorem dX4_isSo_209 : decode cX4_isSo 209 = .ok (.iconst 0, 1) := by decide +kernel
theorem dX4_isSo_210 : decode cX4_isSo 210 = .ok (.ireturn, 1) := by decide +kernel
theorem dX4_isSo_211 : decode cX4_isSo 211 = .ok (.iconst 0, 1) := by decide +kernel
theorem dX4_isSo_212 : decode cX4_isSo 212 = .ok (.ireturn, 1) := by decide +kernel
def f_X4_isSo (a0 : Nat) (x1 : Int32) (μ : jM) : Option (Int32) :=
  jcl (f_X8_cellAt 1 ((μ.1 a0 4) + (1 : Int32)) μ) (fun v1 => jbd (fun (t3 : Int32) => (if x1 = (10 : Int32) then jcl (f_X8_twoDigitsAt 1 ((μ.1 a0 4) + (3 : Int32)) μ) (fun v8 => some (((if v8 ≤ t3 then (0 : Int32) else (1 : Int32))) &&& 1)) else (if x1 = (11 : Int32) then jcl (f_X8_twoDigitsAt 1 ((μ.1 a0 4) + (3 : Int32)) μ) (fun v12 => some (((if t3 = v12 then (1 : Int32) else (0 : Int32))) &&& 1)) else (if x1 = (12 : Int32) then jcl (f_X8_twoDigitsAt 1 ((μ.1 a0 4) + (3 : Int32)) μ) (fun v16 => some (((if t3 ≤ v16 then (0 : Int32) else (1 : Int32))) &&& 1)) else (if x1 = (13 : Int32) then jcl (f_X8_variableAt 1 ((μ.1 a0 4) + (1 : Int32)) μ) (fun v20 => jcl (f_X8_digitAt 1 ((μ.1 a0 4) + (2 : Int32)) μ) (fun v22 => jcl (f_X9_hasValue 6 v20 v22 μ) (fun v24 => some (v24 &&& 1)))) else (if x1 = (14 : Int32) then jcl (f_X8_digitAt 1 ((μ.1 a0 4) + (2 : Int32)) μ) (fun v27 => jcl (f_X9_placeOf 6 v27 μ) (fun v29 => some (((if v29 = (-1 : Int32) then (0 : Int32) else (1 : Int32))) &&& 1))) else some (0 : Int32))))))) (fun k4 => (if (f_X11_isCell v1) = (0 : Int32) then k4 (0 : Int32) else jrd (μ.1 7) v1 6 (fun v34 => k4 v34))))
set_option maxHeartbeats 4000000 in
set_option maxRecDepth 100000 in
theorem c_X4_isSo {l : Launch} {G : jG} {L : jL} (hL : jOKL L) {a0 : Nat} {x1 : Int32} (ka0 : jK L a0 4) {μ : jM} {r : Int32} (h : f_X4_isSo a0 x1 μ = some r) : jCt l G L 6 yX4_isSo cX4_isSo 4 (some .boolean) [.ref (L.2.2 a0), .int x1] μ (some (.int r)) μ := by
  refine jCt_of (by decide) (Nat.le_of_ble_eq_true rfl) (fun X hC hX hR => ?_)
  subst hX
  have hC : jC X G cX4_isSo 4 RX4 (some .boolean) := hC
  unfold f_X4_isSo at h
  show jJ X G 4 L 0 0 (jQM X G L (some (.int r)) μ 0 0) 0 [(0, .ref (L.2.2 a0)), (1, .int x1)] [] μ
  refine j_aload_n (pc := 0) hC 0 0 dX4_isSo_0 rfl rfl ?_
  refine jgr_4 (pc := 1) hC 1 (by decide) rfl kf_X4_19 dX4_isSo_1 ka0 (ly_4_1 hL ka0).1 ?_
  refine j_aload_n (pc := 4) hC 0 0 dX4_isSo_4 rfl rfl ?_
  refine jgi_4 (pc := 5) hC 4 (by decide) rfl kf_X4_111 dX4_isSo_5 ka0 ?_
  refine j_iconst (pc := 8) hC (1 : Int32) dX4_isSo_8 (by decide) ?_
  refine j_iadd (pc := 9) hC dX4_isSo_9 ?_
  obtain ⟨v1, e2, h⟩ := jcl_some h
  refine j_vi (pc := 10) hC hR [.int ((μ.1 a0 4) + (1 : Int32))] iy_X8_cellAt (q := (RX8, TX8, 2)) (ci := 8) rfl rfl (by decide) km_X4_145 dX4_isSo_10 rfl (by decide) (ly_4_1 hL ka0).2.1 (c_X8_cellAt hL (ly_4_1 hL ka0).2.1 e2) (by decide) (Nat.le_of_ble_eq_true rfl) rfl ?_
  refine j_istore_n (pc := 13) hC 2 [(2, .int v1), (0, .ref (L.2.2 a0)), (1, .int x1)] dX4_isSo_13 rfl (by decide) rfl rfl ?_
  refine j_iload_n (pc := 14) hC 2 0 dX4_isSo_14 rfl rfl ?_
  refine j_ni (pc := 15) hC hR [.int v1] iy_X11_isCell kn_X4_186 dX4_isSo_15 rfl (by decide) (c_X11_isCell hL  rfl) (by decide) (Nat.le_of_ble_eq_true rfl) rfl ?_
  obtain ⟨k4, e6, h⟩ := jbd_ex h
  have q5 : ∀ (t3 : Int32), k4 t3 = some r → jJ X G 4 L 0 0 (jQM X G L (some (.int r)) μ 0 0) 37 [(0, .ref (L.2.2 a0)), (1, .int x1)] [.int t3] μ := by
    intro t3 h
    rw [e6] at h
    try dsimp only at h
    refine j_istore_n (pc := 37) hC 3 [(3, .int t3), (0, .ref (L.2.2 a0)), (1, .int x1)] dX4_isSo_37 rfl (by decide) rfl rfl ?_
    refine j_iload_n (pc := 38) hC 1 2 dX4_isSo_38 rfl rfl ?_
    by_cases c7 : x1 = (10 : Int32)
    · rw [if_pos c7] at h
      refine j_tableIn (pc := 39) hC 72 dX4_isSo_39 (by rw [c7]; decide) (by rw [c7]; decide) (by rw [c7]; rfl) (by decide) ?_
      refine j_iload_n (pc := 72) hC 3 0 dX4_isSo_72 rfl rfl ?_
      refine j_aload_n (pc := 73) hC 0 1 dX4_isSo_73 rfl rfl ?_
      refine jgr_4 (pc := 74) hC 1 (by decide) rfl kf_X4_19 dX4_isSo_74 ka0 (ly_4_1 hL ka0).1 ?_
      refine j_aload_n (pc := 77) hC 0 1 dX4_isSo_77 rfl rfl ?_
      refine jgi_4 (pc := 78) hC 4 (by decide) rfl kf_X4_111 dX4_isSo_78 ka0 ?_
      refine j_iconst (pc := 81) hC (3 : Int32) dX4_isSo_81 (by decide) ?_
      refine j_iadd (pc := 82) hC dX4_isSo_82 ?_
      obtain ⟨v8, e9, h⟩ := jcl_some h
      refine j_vi (pc := 83) hC hR [.int ((μ.1 a0 4) + (3 : Int32))] iy_X8_twoDigitsAt (q := (RX8, TX8, 2)) (ci := 8) rfl rfl (by decide) km_X4_148 dX4_isSo_83 rfl (by decide) (ly_4_1 hL ka0).2.1 (c_X8_twoDigitsAt hL (ly_4_1 hL ka0).2.1 e9) (by decide) (Nat.le_of_ble_eq_true rfl) rfl ?_
      refine jmg (B := jJ X G 4 L 0 0 (jQM X G L (some (.int r)) μ 0 0) 94 [(3, .int t3), (0, .ref (L.2.2 a0)), (1, .int x1)] [.int ((if v8 ≤ t3 then (0 : Int32) else (1 : Int32)))] μ) (fun hj => ?_) ?_
      · refine j_icmp_ge (pc := 86) hC 93 dX4_isSo_86 (by decide) (fun c10 => ?_) (fun c10 => ?_)
        · rw [if_pos c10] at hj
          refine j_iconst (pc := 93) hC (0 : Int32) dX4_isSo_93 (by decide) ?_
          exact hj
        · rw [if_neg c10] at hj
          refine j_iconst (pc := 89) hC (1 : Int32) dX4_isSo_89 (by decide) ?_
          refine j_goto (pc := 90) hC 94 dX4_isSo_90 (by decide) ?_
          exact hj
      obtain rfl := Option.some.inj h
      exact j_bret (pc := 94) hC dX4_isSo_94 rfl (j_nz _)
    · rw [if_neg c7] at h
      by_cases c11 : x1 = (11 : Int32)
      · rw [if_pos c11] at h
        refine j_tableIn (pc := 39) hC 95 dX4_isSo_39 (by rw [c11]; decide) (by rw [c11]; decide) (by rw [c11]; rfl) (by decide) ?_
        refine j_iload_n (pc := 95) hC 3 0 dX4_isSo_95 rfl rfl ?_
        refine j_aload_n (pc := 96) hC 0 1 dX4_isSo_96 rfl rfl ?_
        refine jgr_4 (pc := 97) hC 1 (by decide) rfl kf_X4_19 dX4_isSo_97 ka0 (ly_4_1 hL ka0).1 ?_
        refine j_aload_n (pc := 100) hC 0 1 dX4_isSo_100 rfl rfl ?_
        refine jgi_4 (pc := 101) hC 4 (by decide) rfl kf_X4_111 dX4_isSo_101 ka0 ?_
        refine j_iconst (pc := 104) hC (3 : Int32) dX4_isSo_104 (by decide) ?_
        refine j_iadd (pc := 105) hC dX4_isSo_105 ?_
        obtain ⟨v12, e13, h⟩ := jcl_some h
        refine j_vi (pc := 106) hC hR [.int ((μ.1 a0 4) + (3 : Int32))] iy_X8_twoDigitsAt (q := (RX8, TX8, 2)) (ci := 8) rfl rfl (by decide) km_X4_148 dX4_isSo_106 rfl (by decide) (ly_4_1 hL ka0).2.1 (c_X8_twoDigitsAt hL (ly_4_1 hL ka0).2.1 e13) (by decide) (Nat.le_of_ble_eq_true rfl) rfl ?_
        refine jmg (B := jJ X G 4 L 0 0 (jQM X G L (some (.int r)) μ 0 0) 117 [(3, .int t3), (0, .ref (L.2.2 a0)), (1, .int x1)] [.int ((if t3 = v12 then (1 : Int32) else (0 : Int32)))] μ) (fun hj => ?_) ?_
        · refine j_icmp_ne (pc := 109) hC 116 dX4_isSo_109 (by decide) (fun c14 => ?_) (fun c14 => ?_)
          · rw [if_neg c14] at hj
            refine j_iconst (pc := 116) hC (0 : Int32) dX4_isSo_116 (by decide) ?_
            exact hj
          · rw [if_pos c14] at hj
            refine j_iconst (pc := 112) hC (1 : Int32) dX4_isSo_112 (by decide) ?_
            refine j_goto (pc := 113) hC 117 dX4_isSo_113 (by decide) ?_
            exact hj
        obtain rfl := Option.some.inj h
        exact j_bret (pc := 117) hC dX4_isSo_117 rfl (j_nz _)
      · rw [if_neg c11] at h
        by_cases c15 : x1 = (12 : Int32)
        · rw [if_pos c15] at h
          refine j_tableIn (pc := 39) hC 118 dX4_isSo_39 (by rw [c15]; decide) (by rw [c15]; decide) (by rw [c15]; rfl) (by decide) ?_
          refine j_iload_n (pc := 118) hC 3 0 dX4_isSo_118 rfl rfl ?_
          refine j_aload_n (pc := 119) hC 0 1 dX4_isSo_119 rfl rfl ?_
          refine jgr_4 (pc := 120) hC 1 (by decide) rfl kf_X4_19 dX4_isSo_120 ka0 (ly_4_1 hL ka0).1 ?_
          refine j_aload_n (pc := 123) hC 0 1 dX4_isSo_123 rfl rfl ?_
          refine jgi_4 (pc := 124) hC 4 (by decide) rfl kf_X4_111 dX4_isSo_124 ka0 ?_
          refine j_iconst (pc := 127) hC (3 : Int32) dX4_isSo_127 (by decide) ?_
          refine j_iadd (pc := 128) hC dX4_isSo_128 ?_
          obtain ⟨v16, e17, h⟩ := jcl_some h
          refine j_vi (pc := 129) hC hR [.int ((μ.1 a0 4) + (3 : Int32))] iy_X8_twoDigitsAt (q := (RX8, TX8, 2)) (ci := 8) rfl rfl (by decide) km_X4_148 dX4_isSo_129 rfl (by decide) (ly_4_1 hL ka0).2.1 (c_X8_twoDigitsAt hL (ly_4_1 hL ka0).2.1 e17) (by decide) (Nat.le_of_ble_eq_true rfl) rfl ?_
          refine jmg (B := jJ X G 4 L 0 0 (jQM X G L (some (.int r)) μ 0 0) 140 [(3, .int t3), (0, .ref (L.2.2 a0)), (1, .int x1)] [.int ((if t3 ≤ v16 then (0 : Int32) else (1 : Int32)))] μ) (fun hj => ?_) ?_
          · refine j_icmp_le (pc := 132) hC 139 dX4_isSo_132 (by decide) (fun c18 => ?_) (fun c18 => ?_)
            · rw [if_pos c18] at hj
              refine j_iconst (pc := 139) hC (0 : Int32) dX4_isSo_139 (by decide) ?_
              exact hj
            · rw [if_neg c18] at hj
              refine j_iconst (pc := 135) hC (1 : Int32) dX4_isSo_135 (by decide) ?_
              refine j_goto (pc := 136) hC 140 dX4_isSo_136 (by decide) ?_
              exact hj
          obtain rfl := Option.some.inj h
          exact j_bret (pc := 140) hC dX4_isSo_140 rfl (j_nz _)
        · rw [if_neg c15] at h
          by_cases c19 : x1 = (13 : Int32)
          · rw [if_pos c19] at h
            refine j_tableIn (pc := 39) hC 141 dX4_isSo_39 (by rw [c19]; decide) (by rw [c19]; decide) (by rw [c19]; rfl) (by decide) ?_
            refine j_aload_n (pc := 141) hC 0 1 dX4_isSo_141 rfl rfl ?_
            refine jgr_4 (pc := 142) hC 0 (by decide) rfl kf_X4_15 dX4_isSo_142 ka0 (ly_4_0 hL ka0).1 ?_
            refine jgr_7 (pc := 145) hC 0 (by decide) rfl kf_X4_189 dX4_isSo_145 (ly_4_0 hL ka0).2.1 (ly_7_0 hL (ly_4_0 hL ka0).2.1).1 ?_
            refine j_aload_n (pc := 148) hC 0 1 dX4_isSo_148 rfl rfl ?_
            refine jgr_4 (pc := 149) hC 1 (by decide) rfl kf_X4_19 dX4_isSo_149 ka0 (ly_4_1 hL ka0).1 ?_
            refine j_aload_n (pc := 152) hC 0 1 dX4_isSo_152 rfl rfl ?_
            refine jgi_4 (pc := 153) hC 4 (by decide) rfl kf_X4_111 dX4_isSo_153 ka0 ?_
            refine j_iconst (pc := 156) hC (1 : Int32) dX4_isSo_156 (by decide) ?_
            refine j_iadd (pc := 157) hC dX4_isSo_157 ?_
            obtain ⟨v20, e21, h⟩ := jcl_some h
            refine j_vi (pc := 158) hC hR [.int ((μ.1 a0 4) + (1 : Int32))] iy_X8_variableAt (q := (RX8, TX8, 2)) (ci := 8) rfl rfl (by decide) km_X4_157 dX4_isSo_158 rfl (by decide) (ly_4_1 hL ka0).2.1 (c_X8_variableAt hL (ly_4_1 hL ka0).2.1 e21) (by decide) (Nat.le_of_ble_eq_true rfl) rfl ?_
            refine j_aload_n (pc := 161) hC 0 1 dX4_isSo_161 rfl rfl ?_
            refine jgr_4 (pc := 162) hC 1 (by decide) rfl kf_X4_19 dX4_isSo_162 ka0 (ly_4_1 hL ka0).1 ?_
            refine j_aload_n (pc := 165) hC 0 1 dX4_isSo_165 rfl rfl ?_
            refine jgi_4 (pc := 166) hC 4 (by decide) rfl kf_X4_111 dX4_isSo_166 ka0 ?_
            refine j_iconst (pc := 169) hC (2 : Int32) dX4_isSo_169 (by decide) ?_
            refine j_iadd (pc := 170) hC dX4_isSo_170 ?_
            obtain ⟨v22, e23, h⟩ := jcl_some h
            refine j_vi (pc := 171) hC hR [.int ((μ.1 a0 4) + (2 : Int32))] iy_X8_digitAt (q := (RX8, TX8, 2)) (ci := 8) rfl rfl (by decide) km_X4_160 dX4_isSo_171 rfl (by decide) (ly_4_1 hL ka0).2.1 (c_X8_digitAt hL (ly_4_1 hL ka0).2.1 e23) (by decide) (Nat.le_of_ble_eq_true rfl) rfl ?_
            obtain ⟨v24, e25, h⟩ := jcl_some h
            refine j_vi (pc := 174) hC hR [.int v20, .int v22] iy_X9_hasValue (q := (RX9, TX9, 7)) (ci := 9) rfl rfl (by decide) km_X4_198 dX4_isSo_174 rfl (by decide) (ly_7_0 hL (ly_4_0 hL ka0).2.1).2.1 (c_X9_hasValue hL (ly_7_0 hL (ly_4_0 hL ka0).2.1).2.1 e25) (by decide) (Nat.le_of_ble_eq_true rfl) rfl ?_
            obtain rfl := Option.some.inj h
            exact j_bret (pc := 177) hC dX4_isSo_177 rfl (j_nz _)
          · rw [if_neg c19] at h
            by_cases c26 : x1 = (14 : Int32)
            · rw [if_pos c26] at h
              refine j_tableIn (pc := 39) hC 178 dX4_isSo_39 (by rw [c26]; decide) (by rw [c26]; decide) (by rw [c26]; rfl) (by decide) ?_
              refine j_aload_n (pc := 178) hC 0 1 dX4_isSo_178 rfl rfl ?_
              refine jgr_4 (pc := 179) hC 0 (by decide) rfl kf_X4_15 dX4_isSo_179 ka0 (ly_4_0 hL ka0).1 ?_
              refine jgr_7 (pc := 182) hC 0 (by decide) rfl kf_X4_189 dX4_isSo_182 (ly_4_0 hL ka0).2.1 (ly_7_0 hL (ly_4_0 hL ka0).2.1).1 ?_
              refine j_aload_n (pc := 185) hC 0 1 dX4_isSo_185 rfl rfl ?_
              refine jgr_4 (pc := 186) hC 1 (by decide) rfl kf_X4_19 dX4_isSo_186 ka0 (ly_4_1 hL ka0).1 ?_
              refine j_aload_n (pc := 189) hC 0 1 dX4_isSo_189 rfl rfl ?_
              refine jgi_4 (pc := 190) hC 4 (by decide) rfl kf_X4_111 dX4_isSo_190 ka0 ?_
              refine j_iconst (pc := 193) hC (2 : Int32) dX4_isSo_193 (by decide) ?_
              refine j_iadd (pc := 194) hC dX4_isSo_194 ?_
              obtain ⟨v27, e28, h⟩ := jcl_some h
              refine j_vi (pc := 195) hC hR [.int ((μ.1 a0 4) + (2 : Int32))] iy_X8_digitAt (q := (RX8, TX8, 2)) (ci := 8) rfl rfl (by decide) km_X4_160 dX4_isSo_195 rfl (by decide) (ly_4_1 hL ka0).2.1 (c_X8_digitAt hL (ly_4_1 hL ka0).2.1 e28) (by decide) (Nat.le_of_ble_eq_true rfl) rfl ?_
              obtain ⟨v29, e30, h⟩ := jcl_some h
              refine j_vi (pc := 198) hC hR [.int v27] iy_X9_placeOf (q := (RX9, TX9, 7)) (ci := 9) rfl rfl (by decide) km_X4_201 dX4_isSo_198 rfl (by decide) (ly_7_0 hL (ly_4_0 hL ka0).2.1).2.1 (c_X9_placeOf hL (ly_7_0 hL (ly_4_0 hL ka0).2.1).2.1 e30) (by decide) (Nat.le_of_ble_eq_true rfl) rfl ?_
              refine j_iconst (pc := 201) hC (-1 : Int32) dX4_isSo_201 (by decide) ?_
              refine jmg (B := jJ X G 4 L 0 0 (jQM X G L (some (.int r)) μ 0 0) 210 [(3, .int t3), (0, .ref (L.2.2 a0)), (1, .int x1)] [.int ((if v29 = (-1 : Int32) then (0 : Int32) else (1 : Int32)))] μ) (fun hj => ?_) ?_
              · refine j_icmp_eq (pc := 202) hC 209 dX4_isSo_202 (by decide) (fun c31 => ?_) (fun c31 => ?_)
                · rw [if_pos c31] at hj
                  refine j_iconst (pc := 209) hC (0 : Int32) dX4_isSo_209 (by decide) ?_
                  exact hj
                · rw [if_neg c31] at hj
                  refine j_iconst (pc := 205) hC (1 : Int32) dX4_isSo_205 (by decide) ?_
                  refine j_goto (pc := 206) hC 210 dX4_isSo_206 (by decide) ?_
                  exact hj
              obtain rfl := Option.some.inj h
              exact j_bret (pc := 210) hC dX4_isSo_210 rfl (j_nz _)
            · rw [if_neg c26] at h
              refine j_tableOut (pc := 39) hC 211 dX4_isSo_39 (by have := lv_neT c7 (show (10 : Int32).toInt = 10 by decide); have := lv_neT c11 (show (11 : Int32).toInt = 11 by decide); have := lv_neT c15 (show (12 : Int32).toInt = 12 by decide); have := lv_neT c19 (show (13 : Int32).toInt = 13 by decide); have := lv_neT c26 (show (14 : Int32).toInt = 14 by decide); omega) (by decide) ?_
              refine j_iconst (pc := 211) hC (0 : Int32) dX4_isSo_211 (by decide) ?_
              obtain rfl := Option.some.inj h
              exact j_bret (pc := 212) hC dX4_isSo_212 rfl rfl
  refine j_if_eq (pc := 18) hC 36 dX4_isSo_18 (by decide) (fun c32 => ?_) (fun c32 => ?_)
  · rw [if_pos c32] at h
    refine j_iconst (pc := 36) hC (0 : Int32) dX4_isSo_36 (by decide) ?_
    exact j_lv [1, 2] rfl (q5 _ h)
  · rw [if_neg c32] at h
    refine j_aload_n (pc := 21) hC 0 1 dX4_isSo_21 rfl rfl ?_
    refine jgr_4 (pc := 22) hC 0 (by decide) rfl kf_X4_15 dX4_isSo_22 ka0 (ly_4_0 hL ka0).1 ?_
    refine jgr_7 (pc := 25) hC 0 (by decide) rfl kf_X4_189 dX4_isSo_25 (ly_4_0 hL ka0).2.1 (ly_7_0 hL (ly_4_0 hL ka0).2.1).1 ?_
    refine jgr_9 (pc := 28) hC 0 (by decide) rfl kf_X4_193 dX4_isSo_28 (ly_7_0 hL (ly_4_0 hL ka0).2.1).2.1 (ly_9_0 hL (ly_7_0 hL (ly_4_0 hL ka0).2.1).2.1).1 ?_
    refine j_iload_n (pc := 31) hC 2 0 dX4_isSo_31 rfl rfl ?_
    obtain ⟨i33, v34, e35, h⟩ := jrd_some h
    refine j_iald (pc := 32) hC dX4_isSo_32 (ly_9_0 hL (ly_7_0 hL (ly_4_0 hL ka0).2.1).2.1).2.1 (ly_9_0 hL (ly_7_0 hL (ly_4_0 hL ka0).2.1).2.1).2.2 i33 e35 ?_
    refine j_goto (pc := 33) hC 37 dX4_isSo_33 (by decide) ?_
    exact j_lv [1, 2] rfl (q5 _ h)
theorem dX11_isNumber_0 : decode cX11_isNumber 0 = .ok (.lload_n 0, 1) := by decide +kernel
theorem dX11_isNumber_1 : decode cX11_isNumber 1 = .ok (.ldc2_w 425, 3) := by decide +kernel
theorem dX11_isNumber_4 : decode cX11_isNumber 4 = .ok (.lcmp, 1) := by decide +kernel
theorem dX11_isNumber_5 : decode cX11_isNumber 5 = .ok (.ifCond .lt 15, 3) := by decide +kernel
theorem dX11_isNumber_8 : decode cX11_isNumber 8 = .ok (.lload_n 0, 1) := by decide +kernel
theorem dX11_isNumber_9 : decode cX11_isNumber 9 = .ok (.ldc2_w 427, 3) := by decide +kernel
theorem dX11_isNumber_12 : decode cX11_isNumber 12 = .ok (.lcmp, 1) := by decide +kernel
theorem dX11_isNumber_13 : decode cX11_isNumber 13 = .ok (.ifCond .gt 7, 3) := by decide +kernel
theorem dX11_isNumber_16 : decode cX11_isNumber 16 = .ok (.iconst 1, 1) := by decide +kernel
theorem dX11_isNumber_17 : decode cX11_isNumber 17 = .ok (.goto 4, 3) := by decide +kernel
theorem dX11_isNumber_20 : decode cX11_isNumber 20 = .ok (.iconst 0, 1) := by decide +kernel
theorem dX11_isNumber_21 : decode cX11_isNumber 21 = .ok (.ireturn, 1) := by decide +kernel
def f_X11_isNumber (y0 : Int64) : Int32 :=
  (if (lg_cmp y0 (-999 : Int64)) < (0 : Int32) then (0 : Int32) else (if (0 : Int32) < (lg_cmp y0 (999 : Int64)) then (0 : Int32) else (1 : Int32)))
set_option maxHeartbeats 4000000 in
set_option maxRecDepth 100000 in
theorem c_X11_isNumber {l : Launch} {G : jG} {L : jL} (hL : jOKL L) {y0 : Int64}  {μ : jM} {r : Int32} (h : f_X11_isNumber y0 = r) : jCt l G L 3 yX11_isNumber cX11_isNumber 2 (some .boolean) [.long y0] μ (some (.int r)) μ := by
  refine jCt_of (by decide) (Nat.le_of_ble_eq_true rfl) (fun X hC hX hR => ?_)
  subst hX
  have hC : jC X G cX11_isNumber 2 RX11 (some .boolean) := hC
  unfold f_X11_isNumber at h
  show jJ X G 2 L 0 0 (jQM X G L (some (.int r)) μ 0 0) 0 [(0, .long y0)] [] μ
  refine j_lload_n (pc := 0) hC 0 0 dX11_isNumber_0 rfl rfl ?_
  refine j_ldc2 (pc := 1) hC dX11_isNumber_1 kl_X11_425 ?_
  refine j_lcmp (pc := 4) hC dX11_isNumber_4 ?_
  refine j_if_lt (pc := 5) hC 20 dX11_isNumber_5 (by decide) (fun c1 => ?_) (fun c1 => ?_)
  · rw [if_pos c1] at h
    refine j_iconst (pc := 20) hC (0 : Int32) dX11_isNumber_20 (by decide) ?_
    subst h
    exact j_bret (pc := 21) hC dX11_isNumber_21 rfl rfl
  · rw [if_neg c1] at h
    refine j_lload_n (pc := 8) hC 0 0 dX11_isNumber_8 rfl rfl ?_
    refine j_ldc2 (pc := 9) hC dX11_isNumber_9 kl_X11_427 ?_
    refine j_lcmp (pc := 12) hC dX11_isNumber_12 ?_
    refine j_if_gt (pc := 13) hC 20 dX11_isNumber_13 (by decide) (fun c2 => ?_) (fun c2 => ?_)
    · rw [if_pos c2] at h
      refine j_iconst (pc := 20) hC (0 : Int32) dX11_isNumber_20 (by decide) ?_
      subst h
      exact j_bret (pc := 21) hC dX11_isNumber_21 rfl rfl
    · rw [if_neg c2] at h
      refine j_iconst (pc := 16) hC (1 : Int32) dX11_isNumber_16 (by decide) ?_
      refine j_goto (pc := 17) hC 21 dX11_isNumber_17 (by decide) ?_
      subst h
      exact j_bret (pc := 21) hC dX11_isNumber_21 rfl rfl
theorem dX7_changed_0 : decode cX7_changed 0 = .ok (.aload_n 0, 1) := by decide +kernel
theorem dX7_changed_1 : decode cX7_changed 1 = .ok (.getfield 29, 3) := by decide +kernel
theorem dX7_changed_4 : decode cX7_changed 4 = .ok (.ifCond .le 18, 3) := by decide +kernel
theorem dX7_changed_7 : decode cX7_changed 7 = .ok (.aload_n 0, 1) := by decide +kernel
theorem dX7_changed_8 : decode cX7_changed 8 = .ok (.getfield 20, 3) := by decide +kernel
theorem dX7_changed_11 : decode cX7_changed 11 = .ok (.aload_n 0, 1) := by decide +kernel
theorem dX7_changed_12 : decode cX7_changed 12 = .ok (.getfield 29, 3) := by decide +kernel
theorem dX7_changed_15 : decode cX7_changed 15 = .ok (.iconst 1, 1) := by decide +kernel
theorem dX7_changed_16 : decode cX7_changed 16 = .ok (.isub, 1) := by decide +kernel
theorem dX7_changed_17 : decode cX7_changed 17 = .ok (.aaload, 1) := by decide +kernel
theorem dX7_changed_18 : decode cX7_changed 18 = .ok (.iload_n 1, 1) := by decide +kernel
theorem dX7_changed_19 : decode cX7_changed 19 = .ok (.invokevirtual 36, 3) := by decide +kernel
theorem dX7_changed_22 : decode cX7_changed 22 = .ok (.return_, 1) := by decide +kernel
def f_X7_changed (a0 : Nat) (x1 : Int32) (μ : jM) : Option (jM) :=
  (if (μ.1 a0 2) ≤ (0 : Int32) then some μ else jin ((μ.1 a0 2) - (1 : Int32)) 9 (jcl (f_X1_put ((a0 + 8) + 8 * ((μ.1 a0 2) - (1 : Int32)).toNatClampNeg) x1 μ) (fun m3 => some m3)))
set_option maxHeartbeats 4000000 in
set_option maxRecDepth 100000 in
theorem c_X7_changed {l : Launch} {G : jG} {L : jL} (hL : jOKL L) {a0 : Nat} {x1 : Int32} (ka0 : jK L a0 7) {μ μ' : jM} (h : f_X7_changed a0 x1 μ = some μ') : jCt l G L 4 yX7_changed cX7_changed 2 none [.ref (L.2.2 a0), .int x1] μ none μ' := by
  refine jCt_of (by decide) (Nat.le_of_ble_eq_true rfl) (fun X hC hX hR => ?_)
  subst hX
  have hC : jC X G cX7_changed 2 RX7 none := hC
  unfold f_X7_changed at h
  show jJ X G 2 L 0 0 (jQM X G L none μ' 0 0) 0 [(0, .ref (L.2.2 a0)), (1, .int x1)] [] μ
  refine j_aload_n (pc := 0) hC 0 0 dX7_changed_0 rfl rfl ?_
  refine jgi_7 (pc := 1) hC 2 (by decide) rfl kf_X7_29 dX7_changed_1 ka0 ?_
  refine j_if_le (pc := 4) hC 22 dX7_changed_4 (by decide) (fun c1 => ?_) (fun c1 => ?_)
  · rw [if_pos c1] at h
    obtain rfl := Option.some.inj h
    exact j_vret (pc := 22) hC dX7_changed_22 rfl
  · rw [if_neg c1] at h
    refine j_aload_n (pc := 7) hC 0 0 dX7_changed_7 rfl rfl ?_
    refine jgr_7 (pc := 8) hC 1 (by decide) rfl kf_X7_20 dX7_changed_8 ka0 (ly_7_1 hL ka0).1 ?_
    refine j_aload_n (pc := 11) hC 0 0 dX7_changed_11 rfl rfl ?_
    refine jgi_7 (pc := 12) hC 2 (by decide) rfl kf_X7_29 dX7_changed_12 ka0 ?_
    refine j_iconst (pc := 15) hC (1 : Int32) dX7_changed_15 (by decide) ?_
    refine j_isub (pc := 16) hC dX7_changed_16 ?_
    obtain ⟨i2, h⟩ := jin_some h
    refine j_aald (pc := 17) hC 3 dX7_changed_17 rfl (by decide) (ly_7_1 hL ka0).2.1 (le_16 hL (ly_7_1 hL ka0).2.1 (jlt i2)).1 i2 (le_16 hL (ly_7_1 hL ka0).2.1 (jlt i2)).2.1 ?_
    refine j_iload_n (pc := 18) hC 1 1 dX7_changed_18 rfl rfl ?_
    obtain ⟨m3, e4, h⟩ := jcl_some h
    refine j_vv (pc := 19) hC hR [.int x1] iy_X1_put (q := (RX1, TX1, 4)) (ci := 1) rfl rfl (by decide) km_X7_36 dX7_changed_19 rfl (by decide) (le_16 hL (ly_7_1 hL ka0).2.1 (jlt i2)).2.2.1 (c_X1_put hL (le_16 hL (ly_7_1 hL ka0).2.1 (jlt i2)).2.2.1 e4) (by decide) (Nat.le_of_ble_eq_true rfl) rfl ?_
    obtain rfl := Option.some.inj h
    exact j_vret (pc := 22) hC dX7_changed_22 rfl
theorem dX7_cellBecomes_0 : decode cX7_cellBecomes 0 = .ok (.aload_n 0, 1) := by decide +kernel
theorem dX7_cellBecomes_1 : decode cX7_cellBecomes 1 = .ok (.getfield 12, 3) := by decide +kernel
theorem dX7_cellBecomes_4 : decode cX7_cellBecomes 4 = .ok (.getfield 40, 3) := by decide +kernel
theorem dX7_cellBecomes_7 : decode cX7_cellBecomes 7 = .ok (.iload_n 1, 1) := by decide +kernel
theorem dX7_cellBecomes_8 : decode cX7_cellBecomes 8 = .ok (.iaload, 1) := by decide +kernel
theorem dX7_cellBecomes_9 : decode cX7_cellBecomes 9 = .ok (.iload_n 2, 1) := by decide +kernel
theorem dX7_cellBecomes_10 : decode cX7_cellBecomes 10 = .ok (.if_icmp .eq 18, 3) := by decide +kernel
theorem dX7_cellBecomes_13 : decode cX7_cellBecomes 13 = .ok (.aload_n 0, 1) := by decide +kernel
theorem dX7_cellBecomes_14 : decode cX7_cellBecomes 14 = .ok (.getfield 12, 3) := by decide +kernel
theorem dX7_cellBecomes_17 : decode cX7_cellBecomes 17 = .ok (.getfield 40, 3) := by decide +kernel
theorem dX7_cellBecomes_20 : decode cX7_cellBecomes 20 = .ok (.iload_n 1, 1) := by decide +kernel
theorem dX7_cellBecomes_21 : decode cX7_cellBecomes 21 = .ok (.iload_n 2, 1) := by decide +kernel
theorem dX7_cellBecomes_22 : decode cX7_cellBecomes 22 = .ok (.iastore, 1) := by decide +kernel
theorem dX7_cellBecomes_23 : decode cX7_cellBecomes 23 = .ok (.aload_n 0, 1) := by decide +kernel
theorem dX7_cellBecomes_24 : decode cX7_cellBecomes 24 = .ok (.iload_n 1, 1) := by decide +kernel
theorem dX7_cellBecomes_25 : decode cX7_cellBecomes 25 = .ok (.invokevirtual 44, 3) := by decide +kernel
theorem dX7_cellBecomes_28 : decode cX7_cellBecomes 28 = .ok (.return_, 1) := by decide +kernel
def f_X7_cellBecomes (a0 : Nat) (x1 : Int32) (x2 : Int32) (μ : jM) : Option (jM) :=
  jrd (μ.1 (a0 + 2)) x1 6 (fun v2 => (if v2 = x2 then some μ else jin x1 6 (jbd (jsi μ (a0 + 2) x1.toNatClampNeg x2) (fun m6 => jcl (f_X7_changed a0 x1 m6) (fun m8 => some m8)))))
set_option maxHeartbeats 4000000 in
set_option maxRecDepth 100000 in
theorem c_X7_cellBecomes {l : Launch} {G : jG} {L : jL} (hL : jOKL L) {a0 : Nat} {x1 : Int32} {x2 : Int32} (ka0 : jK L a0 7) {μ μ' : jM} (h : f_X7_cellBecomes a0 x1 x2 μ = some μ') : jCt l G L 5 yX7_cellBecomes cX7_cellBecomes 3 none [.ref (L.2.2 a0), .int x1, .int x2] μ none μ' := by
  refine jCt_of (by decide) (Nat.le_of_ble_eq_true rfl) (fun X hC hX hR => ?_)
  subst hX
  have hC : jC X G cX7_cellBecomes 3 RX7 none := hC
  unfold f_X7_cellBecomes at h
  show jJ X G 3 L 0 0 (jQM X G L none μ' 0 0) 0 [(0, .ref (L.2.2 a0)), (1, .int x1), (2, .int x2)] [] μ
  refine j_aload_n (pc := 0) hC 0 0 dX7_cellBecomes_0 rfl rfl ?_
  refine jgr_7 (pc := 1) hC 0 (by decide) rfl kf_X7_12 dX7_cellBecomes_1 ka0 (ly_7_0 hL ka0).1 ?_
  refine jgr_9 (pc := 4) hC 0 (by decide) rfl kf_X7_40 dX7_cellBecomes_4 (ly_7_0 hL ka0).2.1 (ly_9_0 hL (ly_7_0 hL ka0).2.1).1 ?_
  refine j_iload_n (pc := 7) hC 1 1 dX7_cellBecomes_7 rfl rfl ?_
  obtain ⟨i1, v2, e3, h⟩ := jrd_some h
  refine j_iald (pc := 8) hC dX7_cellBecomes_8 (ly_9_0 hL (ly_7_0 hL ka0).2.1).2.1 (ly_9_0 hL (ly_7_0 hL ka0).2.1).2.2 i1 e3 ?_
  refine j_iload_n (pc := 9) hC 2 2 dX7_cellBecomes_9 rfl rfl ?_
  refine j_icmp_eq (pc := 10) hC 28 dX7_cellBecomes_10 (by decide) (fun c4 => ?_) (fun c4 => ?_)
  · rw [if_pos c4] at h
    obtain rfl := Option.some.inj h
    exact j_vret (pc := 28) hC dX7_cellBecomes_28 rfl
  · rw [if_neg c4] at h
    refine j_aload_n (pc := 13) hC 0 0 dX7_cellBecomes_13 rfl rfl ?_
    refine jgr_7 (pc := 14) hC 0 (by decide) rfl kf_X7_12 dX7_cellBecomes_14 ka0 (ly_7_0 hL ka0).1 ?_
    refine jgr_9 (pc := 17) hC 0 (by decide) rfl kf_X7_40 dX7_cellBecomes_17 (ly_7_0 hL ka0).2.1 (ly_9_0 hL (ly_7_0 hL ka0).2.1).1 ?_
    refine j_iload_n (pc := 20) hC 1 1 dX7_cellBecomes_20 rfl rfl ?_
    refine j_iload_n (pc := 21) hC 2 2 dX7_cellBecomes_21 rfl rfl ?_
    obtain ⟨i5, h⟩ := jin_some h
    obtain ⟨m6, e7, h⟩ := jbd_ex h
    refine j_iast (pc := 22) hC dX7_cellBecomes_22 (ly_9_0 hL (ly_7_0 hL ka0).2.1).2.1 (ly_9_0 hL (ly_7_0 hL ka0).2.1).2.2 i5 e7 ?_
    refine j_aload_n (pc := 23) hC 0 0 dX7_cellBecomes_23 rfl rfl ?_
    refine j_iload_n (pc := 24) hC 1 1 dX7_cellBecomes_24 rfl rfl ?_
    obtain ⟨m8, e9, h⟩ := jcl_some h
    refine j_vv (pc := 25) hC hR [.int x1] iy_X7_changed (q := (RX7, TX7, 3)) (ci := 7) rfl rfl (by decide) km_X7_44 dX7_cellBecomes_25 rfl (by decide) ka0 (c_X7_changed hL ka0 e9) (by decide) (Nat.le_of_ble_eq_true rfl) rfl ?_
    obtain rfl := Option.some.inj h
    exact j_vret (pc := 28) hC dX7_cellBecomes_28 rfl
theorem dX7_addToCell_0 : decode cX7_addToCell 0 = .ok (.iload_n 1, 1) := by decide +kernel
theorem dX7_addToCell_1 : decode cX7_addToCell 1 = .ok (.invokestatic 47, 3) := by decide +kernel
theorem dX7_addToCell_4 : decode cX7_addToCell 4 = .ok (.ifCond .ne 5, 3) := by decide +kernel
theorem dX7_addToCell_7 : decode cX7_addToCell 7 = .ok (.iconst (-1), 1) := by decide +kernel
theorem dX7_addToCell_8 : decode cX7_addToCell 8 = .ok (.ireturn, 1) := by decide +kernel
theorem dX7_addToCell_9 : decode cX7_addToCell 9 = .ok (.aload_n 0, 1) := by decide +kernel
theorem dX7_addToCell_10 : decode cX7_addToCell 10 = .ok (.getfield 12, 3) := by decide +kernel
theorem dX7_addToCell_13 : decode cX7_addToCell 13 = .ok (.getfield 40, 3) := by decide +kernel
theorem dX7_addToCell_16 : decode cX7_addToCell 16 = .ok (.iload_n 1, 1) := by decide +kernel
theorem dX7_addToCell_17 : decode cX7_addToCell 17 = .ok (.iaload, 1) := by decide +kernel
theorem dX7_addToCell_18 : decode cX7_addToCell 18 = .ok (.i2l, 1) := by decide +kernel
theorem dX7_addToCell_19 : decode cX7_addToCell 19 = .ok (.iload_n 2, 1) := by decide +kernel
theorem dX7_addToCell_20 : decode cX7_addToCell 20 = .ok (.i2l, 1) := by decide +kernel
theorem dX7_addToCell_21 : decode cX7_addToCell 21 = .ok (.ladd, 1) := by decide +kernel
theorem dX7_addToCell_22 : decode cX7_addToCell 22 = .ok (.lstore_n 3, 1) := by decide +kernel
theorem dX7_addToCell_23 : decode cX7_addToCell 23 = .ok (.lload_n 3, 1) := by decide +kernel
theorem dX7_addToCell_24 : decode cX7_addToCell 24 = .ok (.invokestatic 51, 3) := by decide +kernel
theorem dX7_addToCell_27 : decode cX7_addToCell 27 = .ok (.ifCond .ne 6, 3) := by decide +kernel
theorem dX7_addToCell_30 : decode cX7_addToCell 30 = .ok (.bipush (-2), 2) := by decide +kernel
theorem dX7_addToCell_32 : decode cX7_addToCell 32 = .ok (.ireturn, 1) := by decide +kernel
theorem dX7_addToCell_33 : decode cX7_addToCell 33 = .ok (.aload_n 0, 1) := by decide +kernel
theorem dX7_addToCell_34 : decode cX7_addToCell 34 = .ok (.iload_n 1, 1) := by decide +kernel
theorem dX7_addToCell_35 : decode cX7_addToCell 35 = .ok (.lload_n 3, 1) := by decide +kernel
theorem dX7_addToCell_36 : decode cX7_addToCell 36 = .ok (.l2i, 1) := by decide +kernel
theorem dX7_addToCell_37 : decode cX7_addToCell 37 = .ok (.invokevirtual 55, 3) := by decide +kernel
theorem dX7_addToCell_40 : decode cX7_addToCell 40 = .ok (.sipush 1000, 3) := by decide +kernel
theorem dX7_addToCell_43 : decode cX7_addToCell 43 = .ok (.lload_n 3, 1) := by decide +kernel
theorem dX7_addToCell_44 : decode cX7_addToCell 44 = .ok (.l2i, 1) := by decide +kernel
theorem dX7_addToCell_45 : decode cX7_addToCell 45 = .ok (.iadd, 1) := by decide +kernel
theorem dX7_addToCell_46 : decode cX7_addToCell 46 = .ok (.ireturn, 1) := by decide +kernel
def f_X7_addToCell (a0 : Nat) (x1 : Int32) (x2 : Int32) (μ : jM) : Option (Int32 × jM) :=
  (if (f_X11_isCell x1) = (0 : Int32) then some (((-1 : Int32), μ)) else jrd (μ.1 (a0 + 2)) x1 6 (fun v3 => jbd (v3.toInt64 + x2.toInt64 : Int64) (fun v5 => (if (f_X11_isNumber v5) = (0 : Int32) then some (((-2 : Int32), μ)) else jcl (f_X7_cellBecomes a0 x1 v5.toInt32 μ) (fun m8 => some (((1000 : Int32) + v5.toInt32, m8)))))))
set_option maxHeartbeats 4000000 in
set_option maxRecDepth 100000 in
theorem c_X7_addToCell {l : Launch} {G : jG} {L : jL} (hL : jOKL L) {a0 : Nat} {x1 : Int32} {x2 : Int32} (ka0 : jK L a0 7) {μ μ' : jM} {r : Int32} (h : f_X7_addToCell a0 x1 x2 μ = some ((r, μ'))) : jCt l G L 6 yX7_addToCell cX7_addToCell 5 (some .int) [.ref (L.2.2 a0), .int x1, .int x2] μ (some (.int r)) μ' := by
  refine jCt_of (by decide) (Nat.le_of_ble_eq_true rfl) (fun X hC hX hR => ?_)
  subst hX
  have hC : jC X G cX7_addToCell 5 RX7 (some .int) := hC
  unfold f_X7_addToCell at h
  show jJ X G 5 L 0 0 (jQM X G L (some (.int r)) μ' 0 0) 0 [(0, .ref (L.2.2 a0)), (1, .int x1), (2, .int x2)] [] μ
  refine j_iload_n (pc := 0) hC 1 1 dX7_addToCell_0 rfl rfl ?_
  refine j_ni (pc := 1) hC hR [.int x1] iy_X11_isCell kn_X7_47 dX7_addToCell_1 rfl (by decide) (c_X11_isCell hL  rfl) (by decide) (Nat.le_of_ble_eq_true rfl) rfl ?_
  refine j_if_ne (pc := 4) hC 9 dX7_addToCell_4 (by decide) (fun c1 => ?_) (fun c1 => ?_)
  · rw [if_neg c1] at h
    refine j_aload_n (pc := 9) hC 0 0 dX7_addToCell_9 rfl rfl ?_
    refine jgr_7 (pc := 10) hC 0 (by decide) rfl kf_X7_12 dX7_addToCell_10 ka0 (ly_7_0 hL ka0).1 ?_
    refine jgr_9 (pc := 13) hC 0 (by decide) rfl kf_X7_40 dX7_addToCell_13 (ly_7_0 hL ka0).2.1 (ly_9_0 hL (ly_7_0 hL ka0).2.1).1 ?_
    refine j_iload_n (pc := 16) hC 1 1 dX7_addToCell_16 rfl rfl ?_
    obtain ⟨i2, v3, e4, h⟩ := jrd_some h
    refine j_iald (pc := 17) hC dX7_addToCell_17 (ly_9_0 hL (ly_7_0 hL ka0).2.1).2.1 (ly_9_0 hL (ly_7_0 hL ka0).2.1).2.2 i2 e4 ?_
    refine j_i2l (pc := 18) hC dX7_addToCell_18 ?_
    refine j_iload_n (pc := 19) hC 2 2 dX7_addToCell_19 rfl rfl ?_
    refine j_i2l (pc := 20) hC dX7_addToCell_20 ?_
    refine j_ladd (pc := 21) hC dX7_addToCell_21 ?_
    obtain ⟨v5, e6, h⟩ := jbd_ex h
    refine j_lstore_n (pc := 22) hC 3 [(3, .long v5), (0, .ref (L.2.2 a0)), (1, .int x1), (2, .int x2)] dX7_addToCell_22 rfl (by decide) e6 rfl ?_
    refine j_lload_n (pc := 23) hC 3 0 dX7_addToCell_23 rfl rfl ?_
    refine j_ni (pc := 24) hC hR [.long v5] iy_X11_isNumber kn_X7_51 dX7_addToCell_24 rfl (by decide) (c_X11_isNumber hL  rfl) (by decide) (Nat.le_of_ble_eq_true rfl) rfl ?_
    refine j_if_ne (pc := 27) hC 33 dX7_addToCell_27 (by decide) (fun c7 => ?_) (fun c7 => ?_)
    · rw [if_neg c7] at h
      refine j_aload_n (pc := 33) hC 0 1 dX7_addToCell_33 rfl rfl ?_
      refine j_iload_n (pc := 34) hC 1 2 dX7_addToCell_34 rfl rfl ?_
      refine j_lload_n (pc := 35) hC 3 0 dX7_addToCell_35 rfl rfl ?_
      refine j_l2i (pc := 36) hC dX7_addToCell_36 ?_
      obtain ⟨m8, e9, h⟩ := jcl_some h
      refine j_vv (pc := 37) hC hR [.int x1, .int v5.toInt32] iy_X7_cellBecomes (q := (RX7, TX7, 3)) (ci := 7) rfl rfl (by decide) km_X7_55 dX7_addToCell_37 rfl (by decide) ka0 (c_X7_cellBecomes hL ka0 e9) (by decide) (Nat.le_of_ble_eq_true rfl) rfl ?_
      refine j_sipush (pc := 40) hC (1000 : Int32) dX7_addToCell_40 (by decide) ?_
      refine j_lload_n (pc := 43) hC 3 0 dX7_addToCell_43 rfl rfl ?_
      refine j_l2i (pc := 44) hC dX7_addToCell_44 ?_
      refine j_iadd (pc := 45) hC dX7_addToCell_45 ?_
      obtain ⟨rfl, rfl⟩ := Prod.mk.inj (Option.some.inj h)
      exact j_iret (pc := 46) hC dX7_addToCell_46 rfl
    · rw [if_pos c7] at h
      refine j_bipush (pc := 30) hC (-2 : Int32) dX7_addToCell_30 (by decide) ?_
      obtain ⟨rfl, rfl⟩ := Prod.mk.inj (Option.some.inj h)
      exact j_iret (pc := 32) hC dX7_addToCell_32 rfl
  · rw [if_pos c1] at h
    refine j_iconst (pc := 7) hC (-1 : Int32) dX7_addToCell_7 (by decide) ?_
    obtain ⟨rfl, rfl⟩ := Prod.mk.inj (Option.some.inj h)
    exact j_iret (pc := 8) hC dX7_addToCell_8 rfl
theorem dX11_isKey_0 : decode cX11_isKey 0 = .ok (.iload_n 0, 1) := by decide +kernel
theorem dX11_isKey_1 : decode cX11_isKey 1 = .ok (.ifCond .lt 13, 3) := by decide +kernel
theorem dX11_isKey_4 : decode cX11_isKey 4 = .ok (.iload_n 0, 1) := by decide +kernel
theorem dX11_isKey_5 : decode cX11_isKey 5 = .ok (.bipush 10, 2) := by decide +kernel
theorem dX11_isKey_7 : decode cX11_isKey 7 = .ok (.if_icmp .ge 7, 3) := by decide +kernel
theorem dX11_isKey_10 : decode cX11_isKey 10 = .ok (.iconst 1, 1) := by decide +kernel
theorem dX11_isKey_11 : decode cX11_isKey 11 = .ok (.goto 4, 3) := by decide +kernel
theorem dX11_isKey_14 : decode cX11_isKey 14 = .ok (.iconst 0, 1) := by decide +kernel
theorem dX11_isKey_15 : decode cX11_isKey 15 = .ok (.ireturn, 1) := by decide +kernel
def f_X11_isKey (x0 : Int32) : Int32 :=
  (if x0 < (0 : Int32) then (0 : Int32) else (if (10 : Int32) ≤ x0 then (0 : Int32) else (1 : Int32)))
set_option maxHeartbeats 4000000 in
set_option maxRecDepth 100000 in
theorem c_X11_isKey {l : Launch} {G : jG} {L : jL} (hL : jOKL L) {x0 : Int32}  {μ : jM} {r : Int32} (h : f_X11_isKey x0 = r) : jCt l G L 3 yX11_isKey cX11_isKey 1 (some .boolean) [.int x0] μ (some (.int r)) μ := by
  refine jCt_of (by decide) (Nat.le_of_ble_eq_true rfl) (fun X hC hX hR => ?_)
  subst hX
  have hC : jC X G cX11_isKey 1 RX11 (some .boolean) := hC
  unfold f_X11_isKey at h
  show jJ X G 1 L 0 0 (jQM X G L (some (.int r)) μ 0 0) 0 [(0, .int x0)] [] μ
  refine j_iload_n (pc := 0) hC 0 0 dX11_isKey_0 rfl rfl ?_
  refine j_if_lt (pc := 1) hC 14 dX11_isKey_1 (by decide) (fun c1 => ?_) (fun c1 => ?_)
  · rw [if_pos c1] at h
    refine j_iconst (pc := 14) hC (0 : Int32) dX11_isKey_14 (by decide) ?_
    subst h
    exact j_bret (pc := 15) hC dX11_isKey_15 rfl rfl
  · rw [if_neg c1] at h
    refine j_iload_n (pc := 4) hC 0 0 dX11_isKey_4 rfl rfl ?_
    refine j_bipush (pc := 5) hC (10 : Int32) dX11_isKey_5 (by decide) ?_
    refine j_icmp_ge (pc := 7) hC 14 dX11_isKey_7 (by decide) (fun c2 => ?_) (fun c2 => ?_)
    · rw [if_pos c2] at h
      refine j_iconst (pc := 14) hC (0 : Int32) dX11_isKey_14 (by decide) ?_
      subst h
      exact j_bret (pc := 15) hC dX11_isKey_15 rfl rfl
    · rw [if_neg c2] at h
      refine j_iconst (pc := 10) hC (1 : Int32) dX11_isKey_10 (by decide) ?_
      refine j_goto (pc := 11) hC 15 dX11_isKey_11 (by decide) ?_
      subst h
      exact j_bret (pc := 15) hC dX11_isKey_15 rfl rfl
theorem dX7_dropKey_0 : decode cX7_dropKey 0 = .ok (.iload_n 1, 1) := by decide +kernel
theorem dX7_dropKey_1 : decode cX7_dropKey 1 = .ok (.invokestatic 87, 3) := by decide +kernel
theorem dX7_dropKey_4 : decode cX7_dropKey 4 = .ok (.ifCond .ne 5, 3) := by decide +kernel
theorem dX7_dropKey_7 : decode cX7_dropKey 7 = .ok (.iconst (-1), 1) := by decide +kernel
theorem dX7_dropKey_8 : decode cX7_dropKey 8 = .ok (.ireturn, 1) := by decide +kernel
theorem dX7_dropKey_9 : decode cX7_dropKey 9 = .ok (.aload_n 0, 1) := by decide +kernel
theorem dX7_dropKey_10 : decode cX7_dropKey 10 = .ok (.getfield 12, 3) := by decide +kernel
theorem dX7_dropKey_13 : decode cX7_dropKey 13 = .ok (.iload_n 1, 1) := by decide +kernel
theorem dX7_dropKey_14 : decode cX7_dropKey 14 = .ok (.invokevirtual 90, 3) := by decide +kernel
theorem dX7_dropKey_17 : decode cX7_dropKey 17 = .ok (.istore_n 2, 1) := by decide +kernel
theorem dX7_dropKey_18 : decode cX7_dropKey 18 = .ok (.iload_n 2, 1) := by decide +kernel
theorem dX7_dropKey_19 : decode cX7_dropKey 19 = .ok (.iconst (-1), 1) := by decide +kernel
theorem dX7_dropKey_20 : decode cX7_dropKey 20 = .ok (.if_icmp .ne 6, 3) := by decide +kernel
theorem dX7_dropKey_23 : decode cX7_dropKey 23 = .ok (.bipush (-2), 2) := by decide +kernel
theorem dX7_dropKey_25 : decode cX7_dropKey 25 = .ok (.ireturn, 1) := by decide +kernel
theorem dX7_dropKey_26 : decode cX7_dropKey 26 = .ok (.iload_n 2, 1) := by decide +kernel
theorem dX7_dropKey_27 : decode cX7_dropKey 27 = .ok (.iconst 1, 1) := by decide +kernel
theorem dX7_dropKey_28 : decode cX7_dropKey 28 = .ok (.iadd, 1) := by decide +kernel
theorem dX7_dropKey_29 : decode cX7_dropKey 29 = .ok (.istore_n 3, 1) := by decide +kernel
theorem dX7_dropKey_30 : decode cX7_dropKey 30 = .ok (.iload_n 3, 1) := by decide +kernel
theorem dX7_dropKey_31 : decode cX7_dropKey 31 = .ok (.aload_n 0, 1) := by decide +kernel
theorem dX7_dropKey_32 : decode cX7_dropKey 32 = .ok (.getfield 12, 3) := by decide +kernel
theorem dX7_dropKey_35 : decode cX7_dropKey 35 = .ok (.getfield 93, 3) := by decide +kernel
theorem dX7_dropKey_38 : decode cX7_dropKey 38 = .ok (.if_icmp .ge 49, 3) := by decide +kernel
theorem dX7_dropKey_41 : decode cX7_dropKey 41 = .ok (.aload_n 0, 1) := by decide +kernel
theorem dX7_dropKey_42 : decode cX7_dropKey 42 = .ok (.getfield 12, 3) := by decide +kernel
theorem dX7_dropKey_45 : decode cX7_dropKey 45 = .ok (.getfield 96, 3) := by decide +kernel
theorem dX7_dropKey_48 : decode cX7_dropKey 48 = .ok (.iload_n 3, 1) := by decide +kernel
theorem dX7_dropKey_49 : decode cX7_dropKey 49 = .ok (.iconst 1, 1) := by decide +kernel
theorem dX7_dropKey_50 : decode cX7_dropKey 50 = .ok (.isub, 1) := by decide +kernel
theorem dX7_dropKey_51 : decode cX7_dropKey 51 = .ok (.aload_n 0, 1) := by decide +kernel
theorem dX7_dropKey_52 : decode cX7_dropKey 52 = .ok (.getfield 12, 3) := by decide +kernel
theorem dX7_dropKey_55 : decode cX7_dropKey 55 = .ok (.getfield 96, 3) := by decide +kernel
theorem dX7_dropKey_58 : decode cX7_dropKey 58 = .ok (.iload_n 3, 1) := by decide +kernel
theorem dX7_dropKey_59 : decode cX7_dropKey 59 = .ok (.iaload, 1) := by decide +kernel
theorem dX7_dropKey_60 : decode cX7_dropKey 60 = .ok (.iastore, 1) := by decide +kernel
theorem dX7_dropKey_61 : decode cX7_dropKey 61 = .ok (.aload_n 0, 1) := by decide +kernel
theorem dX7_dropKey_62 : decode cX7_dropKey 62 = .ok (.getfield 12, 3) := by decide +kernel
theorem dX7_dropKey_65 : decode cX7_dropKey 65 = .ok (.getfield 99, 3) := by decide +kernel
theorem dX7_dropKey_68 : decode cX7_dropKey 68 = .ok (.iload_n 3, 1) := by decide +kernel
theorem dX7_dropKey_69 : decode cX7_dropKey 69 = .ok (.iconst 1, 1) := by decide +kernel
theorem dX7_dropKey_70 : decode cX7_dropKey 70 = .ok (.isub, 1) := by decide +kernel
theorem dX7_dropKey_71 : decode cX7_dropKey 71 = .ok (.aload_n 0, 1) := by decide +kernel
theorem dX7_dropKey_72 : decode cX7_dropKey 72 = .ok (.getfield 12, 3) := by decide +kernel
theorem dX7_dropKey_75 : decode cX7_dropKey 75 = .ok (.getfield 99, 3) := by decide +kernel
theorem dX7_dropKey_78 : decode cX7_dropKey 78 = .ok (.iload_n 3, 1) := by decide +kernel
theorem dX7_dropKey_79 : decode cX7_dropKey 79 = .ok (.iaload, 1) := by decide +kernel
theorem dX7_dropKey_80 : decode cX7_dropKey 80 = .ok (.iastore, 1) := by decide +kernel
theorem dX7_dropKey_81 : decode cX7_dropKey 81 = .ok (.iinc 3 1, 3) := by decide +kernel
theorem dX7_dropKey_84 : decode cX7_dropKey 84 = .ok (.goto (-54), 3) := by decide +kernel
theorem dX7_dropKey_87 : decode cX7_dropKey 87 = .ok (.aload_n 0, 1) := by decide +kernel
theorem dX7_dropKey_88 : decode cX7_dropKey 88 = .ok (.getfield 12, 3) := by decide +kernel
theorem dX7_dropKey_91 : decode cX7_dropKey 91 = .ok (.dup, 1) := by decide +kernel
theorem dX7_dropKey_92 : decode cX7_dropKey 92 = .ok (.getfield 93, 3) := by decide +kernel
theorem dX7_dropKey_95 : decode cX7_dropKey 95 = .ok (.iconst 1, 1) := by decide +kernel
theorem dX7_dropKey_96 : decode cX7_dropKey 96 = .ok (.isub, 1) := by decide +kernel
theorem dX7_dropKey_97 : decode cX7_dropKey 97 = .ok (.putfield 93, 3) := by decide +kernel
theorem dX7_dropKey_100 : decode cX7_dropKey 100 = .ok (.aload_n 0, 1) := by decide +kernel
theorem dX7_dropKey_101 : decode cX7_dropKey 101 = .ok (.bipush 20, 2) := by decide +kernel
theorem dX7_dropKey_103 : decode cX7_dropKey 103 = .ok (.iload_n 1, 1) := by decide +kernel
theorem dX7_dropKey_104 : decode cX7_dropKey 104 = .ok (.iadd, 1) := by decide +kernel
theorem dX7_dropKey_105 : decode cX7_dropKey 105 = .ok (.invokevirtual 44, 3) := by decide +kernel
theorem dX7_dropKey_108 : decode cX7_dropKey 108 = .ok (.iload_n 2, 1) := by decide +kernel
theorem dX7_dropKey_109 : decode cX7_dropKey 109 = .ok (.ireturn, 1) := by decide +kernel
def f_X7_dropKey_L30 (a0 : Nat) (u5 : Int32) (m6 : jM) : Option ((Int32 × jM) ⊕ (jM)) :=
  (if (m6.1 (a0 + 1) 5) ≤ u5 then some (.inr m6) else jrd (m6.1 (a0 + 4)) u5 8 (fun v9 => jin (u5 - (1 : Int32)) 8 (jbd (jsi m6 (a0 + 4) (u5 - (1 : Int32)).toNatClampNeg v9) (fun m12 => jrd (m12.1 (a0 + 5)) u5 8 (fun v15 => jin (u5 - (1 : Int32)) 8 (jbd (jsi m12 (a0 + 5) (u5 - (1 : Int32)).toNatClampNeg v15) (fun m18 => some (.inl ((u5 + (1 : Int32), m18))))))))))
def f_X7_dropKey (a0 : Nat) (x1 : Int32) (μ : jM) : Option (Int32 × jM) :=
  (if (f_X11_isKey x1) = (0 : Int32) then some (((-1 : Int32), μ)) else jcl (f_X9_placeOf (a0 + 1) x1 μ) (fun v2 => (if v2 = (-1 : Int32) then some (((-2 : Int32), μ)) else jcl (jloop (fun (s : Int32 × jM) => f_X7_dropKey_L30 a0 s.1 s.2) jfu ((v2 + (1 : Int32), μ))) (fun w20 => jbd (jsi w20 (a0 + 1) 5 ((w20.1 (a0 + 1) 5) - (1 : Int32))) (fun m24 => jcl (f_X7_changed a0 ((20 : Int32) + x1) m24) (fun m26 => some ((v2, m26))))))))
set_option maxHeartbeats 4000000 in
set_option maxRecDepth 100000 in
theorem c_X7_dropKey {l : Launch} {G : jG} {L : jL} (hL : jOKL L) {a0 : Nat} {x1 : Int32} (ka0 : jK L a0 7) {μ μ' : jM} {r : Int32} (h : f_X7_dropKey a0 x1 μ = some ((r, μ'))) : jCt l G L 5 yX7_dropKey cX7_dropKey 4 (some .int) [.ref (L.2.2 a0), .int x1] μ (some (.int r)) μ' := by
  refine jCt_of (by decide) (Nat.le_of_ble_eq_true rfl) (fun X hC hX hR => ?_)
  subst hX
  have hC : jC X G cX7_dropKey 4 RX7 (some .int) := hC
  unfold f_X7_dropKey at h
  show jJ X G 4 L 0 0 (jQM X G L (some (.int r)) μ' 0 0) 0 [(0, .ref (L.2.2 a0)), (1, .int x1)] [] μ
  refine j_iload_n (pc := 0) hC 1 1 dX7_dropKey_0 rfl rfl ?_
  refine j_ni (pc := 1) hC hR [.int x1] iy_X11_isKey kn_X7_87 dX7_dropKey_1 rfl (by decide) (c_X11_isKey hL  rfl) (by decide) (Nat.le_of_ble_eq_true rfl) rfl ?_
  refine j_if_ne (pc := 4) hC 9 dX7_dropKey_4 (by decide) (fun c1 => ?_) (fun c1 => ?_)
  · rw [if_neg c1] at h
    refine j_aload_n (pc := 9) hC 0 0 dX7_dropKey_9 rfl rfl ?_
    refine jgr_7 (pc := 10) hC 0 (by decide) rfl kf_X7_12 dX7_dropKey_10 ka0 (ly_7_0 hL ka0).1 ?_
    refine j_iload_n (pc := 13) hC 1 1 dX7_dropKey_13 rfl rfl ?_
    obtain ⟨v2, e3, h⟩ := jcl_some h
    refine j_vi (pc := 14) hC hR [.int x1] iy_X9_placeOf (q := (RX9, TX9, 7)) (ci := 9) rfl rfl (by decide) km_X7_90 dX7_dropKey_14 rfl (by decide) (ly_7_0 hL ka0).2.1 (c_X9_placeOf hL (ly_7_0 hL ka0).2.1 e3) (by decide) (Nat.le_of_ble_eq_true rfl) rfl ?_
    refine j_istore_n (pc := 17) hC 2 [(2, .int v2), (0, .ref (L.2.2 a0)), (1, .int x1)] dX7_dropKey_17 rfl (by decide) rfl rfl ?_
    refine j_iload_n (pc := 18) hC 2 0 dX7_dropKey_18 rfl rfl ?_
    refine j_iconst (pc := 19) hC (-1 : Int32) dX7_dropKey_19 (by decide) ?_
    refine j_icmp_ne (pc := 20) hC 26 dX7_dropKey_20 (by decide) (fun c4 => ?_) (fun c4 => ?_)
    · rw [if_neg c4] at h
      refine j_iload_n (pc := 26) hC 2 0 dX7_dropKey_26 rfl rfl ?_
      refine j_iconst (pc := 27) hC (1 : Int32) dX7_dropKey_27 (by decide) ?_
      refine j_iadd (pc := 28) hC dX7_dropKey_28 ?_
      refine j_istore_n (pc := 29) hC 3 [(3, .int (v2 + (1 : Int32))), (2, .int v2), (0, .ref (L.2.2 a0)), (1, .int x1)] dX7_dropKey_29 rfl (by decide) rfl rfl ?_
      obtain ⟨w20, hw21, h⟩ := jcl_some h
      refine j_lv [2, 3, 1, 0] rfl ?_
      refine j_loop (step := (fun (s : Int32 × jM) => f_X7_dropKey_L30 a0 s.1 s.2)) (P := (fun (s : Int32 × jM) => jJ X G 4 L 0 0 (jQM X G L (some (.int r)) μ' 0 0) 30 [(0, .ref (L.2.2 a0)), (1, .int x1), (2, .int v2), (3, .int s.1)] [] s.2)) (R := (fun (e : jM) => jJ X G 4 L 0 0 (jQM X G L (some (.int r)) μ' 0 0) 87 [(0, .ref (L.2.2 a0)), (1, .int x1), (2, .int v2)] [] e)) ?_ jfu ((v2 + (1 : Int32), μ)) w20 hw21 ?_
      · intro s22 o h hk
        obtain ⟨u5, m6⟩ := s22
        change f_X7_dropKey_L30 a0 u5 m6 = some o at h
        unfold f_X7_dropKey_L30 at h
        show jJ X G 4 L 0 0 (jQM X G L (some (.int r)) μ' 0 0) 30 [(0, .ref (L.2.2 a0)), (1, .int x1), (2, .int v2), (3, .int u5)] [] m6
        refine j_iload_n (pc := 30) hC 3 3 dX7_dropKey_30 rfl rfl ?_
        refine j_aload_n (pc := 31) hC 0 0 dX7_dropKey_31 rfl rfl ?_
        refine jgr_7 (pc := 32) hC 0 (by decide) rfl kf_X7_12 dX7_dropKey_32 ka0 (ly_7_0 hL ka0).1 ?_
        refine jgi_9 (pc := 35) hC 5 (by decide) rfl kf_X7_93 dX7_dropKey_35 (ly_7_0 hL ka0).2.1 ?_
        refine j_icmp_ge (pc := 38) hC 87 dX7_dropKey_38 (by decide) (fun c7 => ?_) (fun c7 => ?_)
        · rw [if_pos c7] at h
          obtain rfl := Option.some.inj h
          have hk : jJ X G 4 L 0 0 (jQM X G L (some (.int r)) μ' 0 0) 87 [(0, .ref (L.2.2 a0)), (1, .int x1), (2, .int v2)] [] m6 := hk
          exact j_lv [0, 1, 2] rfl hk
        · rw [if_neg c7] at h
          refine j_aload_n (pc := 41) hC 0 0 dX7_dropKey_41 rfl rfl ?_
          refine jgr_7 (pc := 42) hC 0 (by decide) rfl kf_X7_12 dX7_dropKey_42 ka0 (ly_7_0 hL ka0).1 ?_
          refine jgr_9 (pc := 45) hC 2 (by decide) rfl kf_X7_96 dX7_dropKey_45 (ly_7_0 hL ka0).2.1 (ly_9_2 hL (ly_7_0 hL ka0).2.1).1 ?_
          refine j_iload_n (pc := 48) hC 3 3 dX7_dropKey_48 rfl rfl ?_
          refine j_iconst (pc := 49) hC (1 : Int32) dX7_dropKey_49 (by decide) ?_
          refine j_isub (pc := 50) hC dX7_dropKey_50 ?_
          refine j_aload_n (pc := 51) hC 0 0 dX7_dropKey_51 rfl rfl ?_
          refine jgr_7 (pc := 52) hC 0 (by decide) rfl kf_X7_12 dX7_dropKey_52 ka0 (ly_7_0 hL ka0).1 ?_
          refine jgr_9 (pc := 55) hC 2 (by decide) rfl kf_X7_96 dX7_dropKey_55 (ly_7_0 hL ka0).2.1 (ly_9_2 hL (ly_7_0 hL ka0).2.1).1 ?_
          refine j_iload_n (pc := 58) hC 3 3 dX7_dropKey_58 rfl rfl ?_
          obtain ⟨i8, v9, e10, h⟩ := jrd_some h
          refine j_iald (pc := 59) hC dX7_dropKey_59 (ly_9_2 hL (ly_7_0 hL ka0).2.1).2.1 (ly_9_2 hL (ly_7_0 hL ka0).2.1).2.2 i8 e10 ?_
          obtain ⟨i11, h⟩ := jin_some h
          obtain ⟨m12, e13, h⟩ := jbd_ex h
          refine j_iast (pc := 60) hC dX7_dropKey_60 (ly_9_2 hL (ly_7_0 hL ka0).2.1).2.1 (ly_9_2 hL (ly_7_0 hL ka0).2.1).2.2 i11 e13 ?_
          refine j_aload_n (pc := 61) hC 0 0 dX7_dropKey_61 rfl rfl ?_
          refine jgr_7 (pc := 62) hC 0 (by decide) rfl kf_X7_12 dX7_dropKey_62 ka0 (ly_7_0 hL ka0).1 ?_
          refine jgr_9 (pc := 65) hC 3 (by decide) rfl kf_X7_99 dX7_dropKey_65 (ly_7_0 hL ka0).2.1 (ly_9_3 hL (ly_7_0 hL ka0).2.1).1 ?_
          refine j_iload_n (pc := 68) hC 3 3 dX7_dropKey_68 rfl rfl ?_
          refine j_iconst (pc := 69) hC (1 : Int32) dX7_dropKey_69 (by decide) ?_
          refine j_isub (pc := 70) hC dX7_dropKey_70 ?_
          refine j_aload_n (pc := 71) hC 0 0 dX7_dropKey_71 rfl rfl ?_
          refine jgr_7 (pc := 72) hC 0 (by decide) rfl kf_X7_12 dX7_dropKey_72 ka0 (ly_7_0 hL ka0).1 ?_
          refine jgr_9 (pc := 75) hC 3 (by decide) rfl kf_X7_99 dX7_dropKey_75 (ly_7_0 hL ka0).2.1 (ly_9_3 hL (ly_7_0 hL ka0).2.1).1 ?_
          refine j_iload_n (pc := 78) hC 3 3 dX7_dropKey_78 rfl rfl ?_
          obtain ⟨i14, v15, e16, h⟩ := jrd_some h
          refine j_iald (pc := 79) hC dX7_dropKey_79 (ly_9_3 hL (ly_7_0 hL ka0).2.1).2.1 (ly_9_3 hL (ly_7_0 hL ka0).2.1).2.2 i14 e16 ?_
          obtain ⟨i17, h⟩ := jin_some h
          obtain ⟨m18, e19, h⟩ := jbd_ex h
          refine j_iast (pc := 80) hC dX7_dropKey_80 (ly_9_3 hL (ly_7_0 hL ka0).2.1).2.1 (ly_9_3 hL (ly_7_0 hL ka0).2.1).2.2 i17 e19 ?_
          refine j_iinc (pc := 81) hC 3 (u5 + (1 : Int32)) [(3, .int (u5 + (1 : Int32))), (0, .ref (L.2.2 a0)), (1, .int x1), (2, .int v2)] dX7_dropKey_81 rfl rfl (by decide) rfl ?_
          refine j_goto (pc := 84) hC 30 dX7_dropKey_84 (by decide) ?_
          obtain rfl := Option.some.inj h
          have hk : jJ X G 4 L 0 0 (jQM X G L (some (.int r)) μ' 0 0) 30 [(0, .ref (L.2.2 a0)), (1, .int x1), (2, .int v2), (3, .int (u5 + (1 : Int32)))] [] m18 := hk
          exact j_lv [1, 2, 3, 0] rfl hk
      · obtain ⟨m23, rfl⟩ : ∃ y, y = w20 := ⟨_, rfl⟩
        try dsimp only at h
        show jJ X G 4 L 0 0 (jQM X G L (some (.int r)) μ' 0 0) 87 [(0, .ref (L.2.2 a0)), (1, .int x1), (2, .int v2)] [] m23
        refine j_aload_n (pc := 87) hC 0 0 dX7_dropKey_87 rfl rfl ?_
        refine jgr_7 (pc := 88) hC 0 (by decide) rfl kf_X7_12 dX7_dropKey_88 ka0 (ly_7_0 hL ka0).1 ?_
        refine j_dup (pc := 91) hC dX7_dropKey_91 rfl ?_
        refine jgi_9 (pc := 92) hC 5 (by decide) rfl kf_X7_93 dX7_dropKey_92 (ly_7_0 hL ka0).2.1 ?_
        refine j_iconst (pc := 95) hC (1 : Int32) dX7_dropKey_95 (by decide) ?_
        refine j_isub (pc := 96) hC dX7_dropKey_96 ?_
        obtain ⟨m24, e25, h⟩ := jbd_ex h
        refine jpi_9 (pc := 97) hC 5 (by decide) rfl kf_X7_93 dX7_dropKey_97 rfl (by decide) (ly_7_0 hL ka0).2.1 e25 ?_
        refine j_aload_n (pc := 100) hC 0 0 dX7_dropKey_100 rfl rfl ?_
        refine j_bipush (pc := 101) hC (20 : Int32) dX7_dropKey_101 (by decide) ?_
        refine j_iload_n (pc := 103) hC 1 1 dX7_dropKey_103 rfl rfl ?_
        refine j_iadd (pc := 104) hC dX7_dropKey_104 ?_
        obtain ⟨m26, e27, h⟩ := jcl_some h
        refine j_vv (pc := 105) hC hR [.int ((20 : Int32) + x1)] iy_X7_changed (q := (RX7, TX7, 3)) (ci := 7) rfl rfl (by decide) km_X7_44 dX7_dropKey_105 rfl (by decide) ka0 (c_X7_changed hL ka0 e27) (by decide) (Nat.le_of_ble_eq_true rfl) rfl ?_
        refine j_iload_n (pc := 108) hC 2 2 dX7_dropKey_108 rfl rfl ?_
        obtain ⟨rfl, rfl⟩ := Prod.mk.inj (Option.some.inj h)
        exact j_iret (pc := 109) hC dX7_dropKey_109 rfl
    · rw [if_pos c4] at h
      refine j_bipush (pc := 23) hC (-2 : Int32) dX7_dropKey_23 (by decide) ?_
      obtain ⟨rfl, rfl⟩ := Prod.mk.inj (Option.some.inj h)
      exact j_iret (pc := 25) hC dX7_dropKey_25 rfl
  · rw [if_pos c1] at h
    refine j_iconst (pc := 7) hC (-1 : Int32) dX7_dropKey_7 (by decide) ?_
    obtain ⟨rfl, rfl⟩ := Prod.mk.inj (Option.some.inj h)
    exact j_iret (pc := 8) hC dX7_dropKey_8 rfl
theorem dX7_variableBecomes_0 : decode cX7_variableBecomes 0 = .ok (.aload_n 0, 1) := by decide +kernel
theorem dX7_variableBecomes_1 : decode cX7_variableBecomes 1 = .ok (.getfield 12, 3) := by decide +kernel
theorem dX7_variableBecomes_4 : decode cX7_variableBecomes 4 = .ok (.getfield 59, 3) := by decide +kernel
theorem dX7_variableBecomes_7 : decode cX7_variableBecomes 7 = .ok (.iload_n 1, 1) := by decide +kernel
theorem dX7_variableBecomes_8 : decode cX7_variableBecomes 8 = .ok (.iaload, 1) := by decide +kernel
theorem dX7_variableBecomes_9 : decode cX7_variableBecomes 9 = .ok (.istore_n 3, 1) := by decide +kernel
theorem dX7_variableBecomes_10 : decode cX7_variableBecomes 10 = .ok (.iload_n 3, 1) := by decide +kernel
theorem dX7_variableBecomes_11 : decode cX7_variableBecomes 11 = .ok (.iload_n 2, 1) := by decide +kernel
theorem dX7_variableBecomes_12 : decode cX7_variableBecomes 12 = .ok (.if_icmp .eq 21, 3) := by decide +kernel
theorem dX7_variableBecomes_15 : decode cX7_variableBecomes 15 = .ok (.aload_n 0, 1) := by decide +kernel
theorem dX7_variableBecomes_16 : decode cX7_variableBecomes 16 = .ok (.getfield 12, 3) := by decide +kernel
theorem dX7_variableBecomes_19 : decode cX7_variableBecomes 19 = .ok (.getfield 59, 3) := by decide +kernel
theorem dX7_variableBecomes_22 : decode cX7_variableBecomes 22 = .ok (.iload_n 1, 1) := by decide +kernel
theorem dX7_variableBecomes_23 : decode cX7_variableBecomes 23 = .ok (.iload_n 2, 1) := by decide +kernel
theorem dX7_variableBecomes_24 : decode cX7_variableBecomes 24 = .ok (.iastore, 1) := by decide +kernel
theorem dX7_variableBecomes_25 : decode cX7_variableBecomes 25 = .ok (.aload_n 0, 1) := by decide +kernel
theorem dX7_variableBecomes_26 : decode cX7_variableBecomes 26 = .ok (.bipush 10, 2) := by decide +kernel
theorem dX7_variableBecomes_28 : decode cX7_variableBecomes 28 = .ok (.iload_n 1, 1) := by decide +kernel
theorem dX7_variableBecomes_29 : decode cX7_variableBecomes 29 = .ok (.iadd, 1) := by decide +kernel
theorem dX7_variableBecomes_30 : decode cX7_variableBecomes 30 = .ok (.invokevirtual 44, 3) := by decide +kernel
theorem dX7_variableBecomes_33 : decode cX7_variableBecomes 33 = .ok (.iload_n 3, 1) := by decide +kernel
theorem dX7_variableBecomes_34 : decode cX7_variableBecomes 34 = .ok (.iload_n 2, 1) := by decide +kernel
theorem dX7_variableBecomes_35 : decode cX7_variableBecomes 35 = .ok (.ixor, 1) := by decide +kernel
theorem dX7_variableBecomes_36 : decode cX7_variableBecomes 36 = .ok (.invokestatic 62, 3) := by decide +kernel
theorem dX7_variableBecomes_39 : decode cX7_variableBecomes 39 = .ok (.ireturn, 1) := by decide +kernel
def f_X7_variableBecomes (a0 : Nat) (x1 : Int32) (x2 : Int32) (μ : jM) : Option (Int32 × jM) :=
  jrd (μ.1 (a0 + 3)) x1 5 (fun v2 => (if v2 = x2 then some ((f_J6_bitCount_0f7a4 (v2 ^^^ x2), μ)) else jin x1 5 (jbd (jsi μ (a0 + 3) x1.toNatClampNeg x2) (fun m6 => jcl (f_X7_changed a0 ((10 : Int32) + x1) m6) (fun m8 => some ((f_J6_bitCount_0f7a4 (v2 ^^^ x2), m8)))))))
set_option maxHeartbeats 4000000 in
set_option maxRecDepth 100000 in
theorem c_X7_variableBecomes {l : Launch} {G : jG} {L : jL} (hL : jOKL L) {a0 : Nat} {x1 : Int32} {x2 : Int32} (ka0 : jK L a0 7) {μ μ' : jM} {r : Int32} (h : f_X7_variableBecomes a0 x1 x2 μ = some ((r, μ'))) : jCt l G L 5 yX7_variableBecomes cX7_variableBecomes 4 (some .int) [.ref (L.2.2 a0), .int x1, .int x2] μ (some (.int r)) μ' := by
  refine jCt_of (by decide) (Nat.le_of_ble_eq_true rfl) (fun X hC hX hR => ?_)
  subst hX
  have hC : jC X G cX7_variableBecomes 4 RX7 (some .int) := hC
  unfold f_X7_variableBecomes at h
  show jJ X G 4 L 0 0 (jQM X G L (some (.int r)) μ' 0 0) 0 [(0, .ref (L.2.2 a0)), (1, .int x1), (2, .int x2)] [] μ
  refine j_aload_n (pc := 0) hC 0 0 dX7_variableBecomes_0 rfl rfl ?_
  refine jgr_7 (pc := 1) hC 0 (by decide) rfl kf_X7_12 dX7_variableBecomes_1 ka0 (ly_7_0 hL ka0).1 ?_
  refine jgr_9 (pc := 4) hC 1 (by decide) rfl kf_X7_59 dX7_variableBecomes_4 (ly_7_0 hL ka0).2.1 (ly_9_1 hL (ly_7_0 hL ka0).2.1).1 ?_
  refine j_iload_n (pc := 7) hC 1 1 dX7_variableBecomes_7 rfl rfl ?_
  obtain ⟨i1, v2, e3, h⟩ := jrd_some h
  refine j_iald (pc := 8) hC dX7_variableBecomes_8 (ly_9_1 hL (ly_7_0 hL ka0).2.1).2.1 (ly_9_1 hL (ly_7_0 hL ka0).2.1).2.2 i1 e3 ?_
  refine j_istore_n (pc := 9) hC 3 [(3, .int v2), (0, .ref (L.2.2 a0)), (1, .int x1), (2, .int x2)] dX7_variableBecomes_9 rfl (by decide) rfl rfl ?_
  refine j_iload_n (pc := 10) hC 3 0 dX7_variableBecomes_10 rfl rfl ?_
  refine j_iload_n (pc := 11) hC 2 3 dX7_variableBecomes_11 rfl rfl ?_
  refine j_icmp_eq (pc := 12) hC 33 dX7_variableBecomes_12 (by decide) (fun c4 => ?_) (fun c4 => ?_)
  · rw [if_pos c4] at h
    refine j_iload_n (pc := 33) hC 3 0 dX7_variableBecomes_33 rfl rfl ?_
    refine j_iload_n (pc := 34) hC 2 3 dX7_variableBecomes_34 rfl rfl ?_
    refine j_ixor (pc := 35) hC dX7_variableBecomes_35 ?_
    refine j_si (pc := 36) hC hR [.int (v2 ^^^ x2)] iy_J6_bitCount_0f7a4 km_X7_62 dX7_variableBecomes_36 rfl (by decide) (c_J6_bitCount_0f7a4 hL  rfl) (by decide) (Nat.le_of_ble_eq_true rfl) rfl ?_
    obtain ⟨rfl, rfl⟩ := Prod.mk.inj (Option.some.inj h)
    exact j_iret (pc := 39) hC dX7_variableBecomes_39 rfl
  · rw [if_neg c4] at h
    refine j_aload_n (pc := 15) hC 0 1 dX7_variableBecomes_15 rfl rfl ?_
    refine jgr_7 (pc := 16) hC 0 (by decide) rfl kf_X7_12 dX7_variableBecomes_16 ka0 (ly_7_0 hL ka0).1 ?_
    refine jgr_9 (pc := 19) hC 1 (by decide) rfl kf_X7_59 dX7_variableBecomes_19 (ly_7_0 hL ka0).2.1 (ly_9_1 hL (ly_7_0 hL ka0).2.1).1 ?_
    refine j_iload_n (pc := 22) hC 1 2 dX7_variableBecomes_22 rfl rfl ?_
    refine j_iload_n (pc := 23) hC 2 3 dX7_variableBecomes_23 rfl rfl ?_
    obtain ⟨i5, h⟩ := jin_some h
    obtain ⟨m6, e7, h⟩ := jbd_ex h
    refine j_iast (pc := 24) hC dX7_variableBecomes_24 (ly_9_1 hL (ly_7_0 hL ka0).2.1).2.1 (ly_9_1 hL (ly_7_0 hL ka0).2.1).2.2 i5 e7 ?_
    refine j_aload_n (pc := 25) hC 0 1 dX7_variableBecomes_25 rfl rfl ?_
    refine j_bipush (pc := 26) hC (10 : Int32) dX7_variableBecomes_26 (by decide) ?_
    refine j_iload_n (pc := 28) hC 1 2 dX7_variableBecomes_28 rfl rfl ?_
    refine j_iadd (pc := 29) hC dX7_variableBecomes_29 ?_
    obtain ⟨m8, e9, h⟩ := jcl_some h
    refine j_vv (pc := 30) hC hR [.int ((10 : Int32) + x1)] iy_X7_changed (q := (RX7, TX7, 3)) (ci := 7) rfl rfl (by decide) km_X7_44 dX7_variableBecomes_30 rfl (by decide) ka0 (c_X7_changed hL ka0 e9) (by decide) (Nat.le_of_ble_eq_true rfl) rfl ?_
    refine j_iload_n (pc := 33) hC 3 0 dX7_variableBecomes_33 rfl rfl ?_
    refine j_iload_n (pc := 34) hC 2 3 dX7_variableBecomes_34 rfl rfl ?_
    refine j_ixor (pc := 35) hC dX7_variableBecomes_35 ?_
    refine j_si (pc := 36) hC hR [.int (v2 ^^^ x2)] iy_J6_bitCount_0f7a4 km_X7_62 dX7_variableBecomes_36 rfl (by decide) (c_J6_bitCount_0f7a4 hL  rfl) (by decide) (Nat.le_of_ble_eq_true rfl) rfl ?_
    obtain ⟨rfl, rfl⟩ := Prod.mk.inj (Option.some.inj h)
    exact j_iret (pc := 39) hC dX7_variableBecomes_39 rfl
theorem dX7_fixVariable_0 : decode cX7_fixVariable 0 = .ok (.iload_n 1, 1) := by decide +kernel
theorem dX7_fixVariable_1 : decode cX7_fixVariable 1 = .ok (.invokestatic 68, 3) := by decide +kernel
theorem dX7_fixVariable_4 : decode cX7_fixVariable 4 = .ok (.ifCond .eq 10, 3) := by decide +kernel
theorem dX7_fixVariable_7 : decode cX7_fixVariable 7 = .ok (.iload_n 2, 1) := by decide +kernel
theorem dX7_fixVariable_8 : decode cX7_fixVariable 8 = .ok (.invokestatic 71, 3) := by decide +kernel
theorem dX7_fixVariable_11 : decode cX7_fixVariable 11 = .ok (.ifCond .ne 5, 3) := by decide +kernel
theorem dX7_fixVariable_14 : decode cX7_fixVariable 14 = .ok (.iconst (-1), 1) := by decide +kernel
theorem dX7_fixVariable_15 : decode cX7_fixVariable 15 = .ok (.ireturn, 1) := by decide +kernel
theorem dX7_fixVariable_16 : decode cX7_fixVariable 16 = .ok (.aload_n 0, 1) := by decide +kernel
theorem dX7_fixVariable_17 : decode cX7_fixVariable 17 = .ok (.getfield 12, 3) := by decide +kernel
theorem dX7_fixVariable_20 : decode cX7_fixVariable 20 = .ok (.iload_n 1, 1) := by decide +kernel
theorem dX7_fixVariable_21 : decode cX7_fixVariable 21 = .ok (.iload_n 2, 1) := by decide +kernel
theorem dX7_fixVariable_22 : decode cX7_fixVariable 22 = .ok (.invokevirtual 74, 3) := by decide +kernel
theorem dX7_fixVariable_25 : decode cX7_fixVariable 25 = .ok (.ifCond .eq 14, 3) := by decide +kernel
theorem dX7_fixVariable_28 : decode cX7_fixVariable 28 = .ok (.aload_n 0, 1) := by decide +kernel
theorem dX7_fixVariable_29 : decode cX7_fixVariable 29 = .ok (.iload_n 1, 1) := by decide +kernel
theorem dX7_fixVariable_30 : decode cX7_fixVariable 30 = .ok (.iconst 1, 1) := by decide +kernel
theorem dX7_fixVariable_31 : decode cX7_fixVariable 31 = .ok (.iload_n 2, 1) := by decide +kernel
theorem dX7_fixVariable_32 : decode cX7_fixVariable 32 = .ok (.ishl, 1) := by decide +kernel
theorem dX7_fixVariable_33 : decode cX7_fixVariable 33 = .ok (.invokevirtual 78, 3) := by decide +kernel
theorem dX7_fixVariable_36 : decode cX7_fixVariable 36 = .ok (.goto 5, 3) := by decide +kernel
theorem dX7_fixVariable_39 : decode cX7_fixVariable 39 = .ok (.bipush (-2), 2) := by decide +kernel
theorem dX7_fixVariable_41 : decode cX7_fixVariable 41 = .ok (.ireturn, 1) := by decide +kernel
def f_X7_fixVariable (a0 : Nat) (x1 : Int32) (x2 : Int32) (μ : jM) : Option (Int32 × jM) :=
  (if (f_X11_isVariable x1) = (0 : Int32) then some (((-1 : Int32), μ)) else (if (f_X11_isValue x2) = (0 : Int32) then some (((-1 : Int32), μ)) else jcl (f_X9_hasValue (a0 + 1) x1 x2 μ) (fun v3 => (if v3 = (0 : Int32) then some (((-2 : Int32), μ)) else jcl2 (f_X7_variableBecomes a0 x1 ((1 : Int32) <<< (x2 &&& 31)) μ) (fun v6 m7 => some ((v6, m7)))))))
set_option maxHeartbeats 4000000 in
set_option maxRecDepth 100000 in
theorem c_X7_fixVariable {l : Launch} {G : jG} {L : jL} (hL : jOKL L) {a0 : Nat} {x1 : Int32} {x2 : Int32} (ka0 : jK L a0 7) {μ μ' : jM} {r : Int32} (h : f_X7_fixVariable a0 x1 x2 μ = some ((r, μ'))) : jCt l G L 6 yX7_fixVariable cX7_fixVariable 3 (some .int) [.ref (L.2.2 a0), .int x1, .int x2] μ (some (.int r)) μ' := by
  refine jCt_of (by decide) (Nat.le_of_ble_eq_true rfl) (fun X hC hX hR => ?_)
  subst hX
  have hC : jC X G cX7_fixVariable 3 RX7 (some .int) := hC
  unfold f_X7_fixVariable at h
  show jJ X G 3 L 0 0 (jQM X G L (some (.int r)) μ' 0 0) 0 [(0, .ref (L.2.2 a0)), (1, .int x1), (2, .int x2)] [] μ
  refine j_iload_n (pc := 0) hC 1 1 dX7_fixVariable_0 rfl rfl ?_
  refine j_ni (pc := 1) hC hR [.int x1] iy_X11_isVariable kn_X7_68 dX7_fixVariable_1 rfl (by decide) (c_X11_isVariable hL  rfl) (by decide) (Nat.le_of_ble_eq_true rfl) rfl ?_
  refine j_if_eq (pc := 4) hC 14 dX7_fixVariable_4 (by decide) (fun c1 => ?_) (fun c1 => ?_)
  · rw [if_pos c1] at h
    refine j_iconst (pc := 14) hC (-1 : Int32) dX7_fixVariable_14 (by decide) ?_
    obtain ⟨rfl, rfl⟩ := Prod.mk.inj (Option.some.inj h)
    exact j_iret (pc := 15) hC dX7_fixVariable_15 rfl
  · rw [if_neg c1] at h
    refine j_iload_n (pc := 7) hC 2 2 dX7_fixVariable_7 rfl rfl ?_
    refine j_ni (pc := 8) hC hR [.int x2] iy_X11_isValue kn_X7_71 dX7_fixVariable_8 rfl (by decide) (c_X11_isValue hL  rfl) (by decide) (Nat.le_of_ble_eq_true rfl) rfl ?_
    refine j_if_ne (pc := 11) hC 16 dX7_fixVariable_11 (by decide) (fun c2 => ?_) (fun c2 => ?_)
    · rw [if_neg c2] at h
      refine j_aload_n (pc := 16) hC 0 0 dX7_fixVariable_16 rfl rfl ?_
      refine jgr_7 (pc := 17) hC 0 (by decide) rfl kf_X7_12 dX7_fixVariable_17 ka0 (ly_7_0 hL ka0).1 ?_
      refine j_iload_n (pc := 20) hC 1 1 dX7_fixVariable_20 rfl rfl ?_
      refine j_iload_n (pc := 21) hC 2 2 dX7_fixVariable_21 rfl rfl ?_
      obtain ⟨v3, e4, h⟩ := jcl_some h
      refine j_vi (pc := 22) hC hR [.int x1, .int x2] iy_X9_hasValue (q := (RX9, TX9, 7)) (ci := 9) rfl rfl (by decide) km_X7_74 dX7_fixVariable_22 rfl (by decide) (ly_7_0 hL ka0).2.1 (c_X9_hasValue hL (ly_7_0 hL ka0).2.1 e4) (by decide) (Nat.le_of_ble_eq_true rfl) rfl ?_
      refine j_if_eq (pc := 25) hC 39 dX7_fixVariable_25 (by decide) (fun c5 => ?_) (fun c5 => ?_)
      · rw [if_pos c5] at h
        refine j_bipush (pc := 39) hC (-2 : Int32) dX7_fixVariable_39 (by decide) ?_
        obtain ⟨rfl, rfl⟩ := Prod.mk.inj (Option.some.inj h)
        exact j_iret (pc := 41) hC dX7_fixVariable_41 rfl
      · rw [if_neg c5] at h
        refine j_aload_n (pc := 28) hC 0 0 dX7_fixVariable_28 rfl rfl ?_
        refine j_iload_n (pc := 29) hC 1 1 dX7_fixVariable_29 rfl rfl ?_
        refine j_iconst (pc := 30) hC (1 : Int32) dX7_fixVariable_30 (by decide) ?_
        refine j_iload_n (pc := 31) hC 2 2 dX7_fixVariable_31 rfl rfl ?_
        refine j_ishl (pc := 32) hC dX7_fixVariable_32 ?_
        obtain ⟨v6, m7, e8, h⟩ := jcl2_some h
        refine j_vi (pc := 33) hC hR [.int x1, .int ((1 : Int32) <<< (x2 &&& 31))] iy_X7_variableBecomes (q := (RX7, TX7, 3)) (ci := 7) rfl rfl (by decide) km_X7_78 dX7_fixVariable_33 rfl (by decide) ka0 (c_X7_variableBecomes hL ka0 e8) (by decide) (Nat.le_of_ble_eq_true rfl) rfl ?_
        refine j_goto (pc := 36) hC 41 dX7_fixVariable_36 (by decide) ?_
        obtain ⟨rfl, rfl⟩ := Prod.mk.inj (Option.some.inj h)
        exact j_iret (pc := 41) hC dX7_fixVariable_41 rfl
    · rw [if_pos c2] at h
      refine j_iconst (pc := 14) hC (-1 : Int32) dX7_fixVariable_14 (by decide) ?_
      obtain ⟨rfl, rfl⟩ := Prod.mk.inj (Option.some.inj h)
      exact j_iret (pc := 15) hC dX7_fixVariable_15 rfl
theorem dX6_below_0 : decode cX6_below 0 = .ok (.iload_n 0, 1) := by decide +kernel
theorem dX6_below_1 : decode cX6_below 1 = .ok (.ifCond .gt 7, 3) := by decide +kernel
theorem dX6_below_4 : decode cX6_below 4 = .ok (.iconst 0, 1) := by decide +kernel
theorem dX6_below_5 : decode cX6_below 5 = .ok (.goto 19, 3) := by decide +kernel
theorem dX6_below_8 : decode cX6_below 8 = .ok (.iload_n 0, 1) := by decide +kernel
theorem dX6_below_9 : decode cX6_below 9 = .ok (.bipush 6, 2) := by decide +kernel
theorem dX6_below_11 : decode cX6_below 11 = .ok (.if_icmp .lt 8, 3) := by decide +kernel
theorem dX6_below_14 : decode cX6_below 14 = .ok (.bipush 63, 2) := by decide +kernel
theorem dX6_below_16 : decode cX6_below 16 = .ok (.goto 8, 3) := by decide +kernel
theorem dX6_below_19 : decode cX6_below 19 = .ok (.iconst 1, 1) := by decide +kernel
theorem dX6_below_20 : decode cX6_below 20 = .ok (.iload_n 0, 1) := by decide +kernel
theorem dX6_below_21 : decode cX6_below 21 = .ok (.ishl, 1) := by decide +kernel
theorem dX6_below_22 : decode cX6_below 22 = .ok (.iconst 1, 1) := by decide +kernel
theorem dX6_below_23 : decode cX6_below 23 = .ok (.isub, 1) := by decide +kernel
theorem dX6_below_24 : decode cX6_below 24 = .ok (.ireturn, 1) := by decide +kernel
def f_X6_below (x0 : Int32) : Int32 :=
  (if (0 : Int32) < x0 then (if x0 < (6 : Int32) then ((1 : Int32) <<< (x0 &&& 31)) - (1 : Int32) else (63 : Int32)) else (0 : Int32))
set_option maxHeartbeats 4000000 in
set_option maxRecDepth 100000 in
theorem c_X6_below {l : Launch} {G : jG} {L : jL} (hL : jOKL L) {x0 : Int32}  {μ : jM} {r : Int32} (h : f_X6_below x0 = r) : jCt l G L 3 yX6_below cX6_below 1 (some .int) [.int x0] μ (some (.int r)) μ := by
  refine jCt_of (by decide) (Nat.le_of_ble_eq_true rfl) (fun X hC hX hR => ?_)
  subst hX
  have hC : jC X G cX6_below 1 RX6 (some .int) := hC
  unfold f_X6_below at h
  show jJ X G 1 L 0 0 (jQM X G L (some (.int r)) μ 0 0) 0 [(0, .int x0)] [] μ
  refine j_iload_n (pc := 0) hC 0 0 dX6_below_0 rfl rfl ?_
  refine j_if_gt (pc := 1) hC 8 dX6_below_1 (by decide) (fun c1 => ?_) (fun c1 => ?_)
  · rw [if_pos c1] at h
    refine j_iload_n (pc := 8) hC 0 0 dX6_below_8 rfl rfl ?_
    refine j_bipush (pc := 9) hC (6 : Int32) dX6_below_9 (by decide) ?_
    refine j_icmp_lt (pc := 11) hC 19 dX6_below_11 (by decide) (fun c2 => ?_) (fun c2 => ?_)
    · rw [if_pos c2] at h
      refine j_iconst (pc := 19) hC (1 : Int32) dX6_below_19 (by decide) ?_
      refine j_iload_n (pc := 20) hC 0 0 dX6_below_20 rfl rfl ?_
      refine j_ishl (pc := 21) hC dX6_below_21 ?_
      refine j_iconst (pc := 22) hC (1 : Int32) dX6_below_22 (by decide) ?_
      refine j_isub (pc := 23) hC dX6_below_23 ?_
      subst h
      exact j_iret (pc := 24) hC dX6_below_24 rfl
    · rw [if_neg c2] at h
      refine j_bipush (pc := 14) hC (63 : Int32) dX6_below_14 (by decide) ?_
      refine j_goto (pc := 16) hC 24 dX6_below_16 (by decide) ?_
      subst h
      exact j_iret (pc := 24) hC dX6_below_24 rfl
  · rw [if_neg c1] at h
    refine j_iconst (pc := 4) hC (0 : Int32) dX6_below_4 (by decide) ?_
    refine j_goto (pc := 5) hC 24 dX6_below_5 (by decide) ?_
    subst h
    exact j_iret (pc := 24) hC dX6_below_24 rfl
theorem dX7_limitVariable_0 : decode cX7_limitVariable 0 = .ok (.iload_n 1, 1) := by decide +kernel
theorem dX7_limitVariable_1 : decode cX7_limitVariable 1 = .ok (.invokestatic 68, 3) := by decide +kernel
theorem dX7_limitVariable_4 : decode cX7_limitVariable 4 = .ok (.ifCond .eq 17, 3) := by decide +kernel
theorem dX7_limitVariable_7 : decode cX7_limitVariable 7 = .ok (.iload_n 2, 1) := by decide +kernel
theorem dX7_limitVariable_8 : decode cX7_limitVariable 8 = .ok (.invokestatic 71, 3) := by decide +kernel
theorem dX7_limitVariable_11 : decode cX7_limitVariable 11 = .ok (.ifCond .eq 10, 3) := by decide +kernel
theorem dX7_limitVariable_14 : decode cX7_limitVariable 14 = .ok (.iload_n 3, 1) := by decide +kernel
theorem dX7_limitVariable_15 : decode cX7_limitVariable 15 = .ok (.invokestatic 71, 3) := by decide +kernel
theorem dX7_limitVariable_18 : decode cX7_limitVariable 18 = .ok (.ifCond .ne 5, 3) := by decide +kernel
theorem dX7_limitVariable_21 : decode cX7_limitVariable 21 = .ok (.iconst (-1), 1) := by decide +kernel
theorem dX7_limitVariable_22 : decode cX7_limitVariable 22 = .ok (.ireturn, 1) := by decide +kernel
theorem dX7_limitVariable_23 : decode cX7_limitVariable 23 = .ok (.aload_n 0, 1) := by decide +kernel
theorem dX7_limitVariable_24 : decode cX7_limitVariable 24 = .ok (.getfield 12, 3) := by decide +kernel
theorem dX7_limitVariable_27 : decode cX7_limitVariable 27 = .ok (.getfield 59, 3) := by decide +kernel
theorem dX7_limitVariable_30 : decode cX7_limitVariable 30 = .ok (.iload_n 1, 1) := by decide +kernel
theorem dX7_limitVariable_31 : decode cX7_limitVariable 31 = .ok (.iaload, 1) := by decide +kernel
theorem dX7_limitVariable_32 : decode cX7_limitVariable 32 = .ok (.iload_n 3, 1) := by decide +kernel
theorem dX7_limitVariable_33 : decode cX7_limitVariable 33 = .ok (.iconst 1, 1) := by decide +kernel
theorem dX7_limitVariable_34 : decode cX7_limitVariable 34 = .ok (.iadd, 1) := by decide +kernel
theorem dX7_limitVariable_35 : decode cX7_limitVariable 35 = .ok (.invokestatic 82, 3) := by decide +kernel
theorem dX7_limitVariable_38 : decode cX7_limitVariable 38 = .ok (.iand, 1) := by decide +kernel
theorem dX7_limitVariable_39 : decode cX7_limitVariable 39 = .ok (.iload_n 2, 1) := by decide +kernel
theorem dX7_limitVariable_40 : decode cX7_limitVariable 40 = .ok (.invokestatic 82, 3) := by decide +kernel
theorem dX7_limitVariable_43 : decode cX7_limitVariable 43 = .ok (.iconst (-1), 1) := by decide +kernel
theorem dX7_limitVariable_44 : decode cX7_limitVariable 44 = .ok (.ixor, 1) := by decide +kernel
theorem dX7_limitVariable_45 : decode cX7_limitVariable 45 = .ok (.iand, 1) := by decide +kernel
theorem dX7_limitVariable_46 : decode cX7_limitVariable 46 = .ok (.istore 4, 2) := by decide +kernel
theorem dX7_limitVariable_48 : decode cX7_limitVariable 48 = .ok (.iload 4, 2) := by decide +kernel
theorem dX7_limitVariable_50 : decode cX7_limitVariable 50 = .ok (.ifCond .ne 8, 3) := by decide +kernel
theorem dX7_limitVariable_53 : decode cX7_limitVariable 53 = .ok (.bipush (-2), 2) := by decide +kernel
theorem dX7_limitVariable_55 : decode cX7_limitVariable 55 = .ok (.goto 10, 3) := by decide +kernel
theorem dX7_limitVariable_58 : decode cX7_limitVariable 58 = .ok (.aload_n 0, 1) := by decide +kernel
theorem dX7_limitVariable_59 : decode cX7_limitVariable 59 = .ok (.iload_n 1, 1) := by decide +kernel
theorem dX7_limitVariable_60 : decode cX7_limitVariable 60 = .ok (.iload 4, 2) := by decide +kernel
theorem dX7_limitVariable_62 : decode cX7_limitVariable 62 = .ok (.invokevirtual 78, 3) := by decide +kernel
theorem dX7_limitVariable_65 : decode cX7_limitVariable 65 = .ok (.ireturn, 1) := by decide +kernel
def f_X7_limitVariable (a0 : Nat) (x1 : Int32) (x2 : Int32) (x3 : Int32) (μ : jM) : Option (Int32 × jM) :=
  (if (f_X11_isVariable x1) = (0 : Int32) then some (((-1 : Int32), μ)) else (if (f_X11_isValue x2) = (0 : Int32) then some (((-1 : Int32), μ)) else (if (f_X11_isValue x3) = (0 : Int32) then some (((-1 : Int32), μ)) else jrd (μ.1 (a0 + 3)) x1 5 (fun v5 => jbd ((v5 &&& (f_X6_below (x3 + (1 : Int32)))) &&& ((f_X6_below x2) ^^^ (-1 : Int32)) : Int32) (fun v7 => (if v7 = (0 : Int32) then some (((-2 : Int32), μ)) else jcl2 (f_X7_variableBecomes a0 x1 v7 μ) (fun v10 m11 => some ((v10, m11)))))))))
set_option maxHeartbeats 4000000 in
set_option maxRecDepth 100000 in
theorem c_X7_limitVariable {l : Launch} {G : jG} {L : jL} (hL : jOKL L) {a0 : Nat} {x1 : Int32} {x2 : Int32} {x3 : Int32} (ka0 : jK L a0 7) {μ μ' : jM} {r : Int32} (h : f_X7_limitVariable a0 x1 x2 x3 μ = some ((r, μ'))) : jCt l G L 6 yX7_limitVariable cX7_limitVariable 5 (some .int) [.ref (L.2.2 a0), .int x1, .int x2, .int x3] μ (some (.int r)) μ' := by
  refine jCt_of (by decide) (Nat.le_of_ble_eq_true rfl) (fun X hC hX hR => ?_)
  subst hX
  have hC : jC X G cX7_limitVariable 5 RX7 (some .int) := hC
  unfold f_X7_limitVariable at h
  show jJ X G 5 L 0 0 (jQM X G L (some (.int r)) μ' 0 0) 0 [(0, .ref (L.2.2 a0)), (1, .int x1), (2, .int x2), (3, .int x3)] [] μ
  refine j_iload_n (pc := 0) hC 1 1 dX7_limitVariable_0 rfl rfl ?_
  refine j_ni (pc := 1) hC hR [.int x1] iy_X11_isVariable kn_X7_68 dX7_limitVariable_1 rfl (by decide) (c_X11_isVariable hL  rfl) (by decide) (Nat.le_of_ble_eq_true rfl) rfl ?_
  refine j_if_eq (pc := 4) hC 21 dX7_limitVariable_4 (by decide) (fun c1 => ?_) (fun c1 => ?_)
  · rw [if_pos c1] at h
    refine j_iconst (pc := 21) hC (-1 : Int32) dX7_limitVariable_21 (by decide) ?_
    obtain ⟨rfl, rfl⟩ := Prod.mk.inj (Option.some.inj h)
    exact j_iret (pc := 22) hC dX7_limitVariable_22 rfl
  · rw [if_neg c1] at h
    refine j_iload_n (pc := 7) hC 2 2 dX7_limitVariable_7 rfl rfl ?_
    refine j_ni (pc := 8) hC hR [.int x2] iy_X11_isValue kn_X7_71 dX7_limitVariable_8 rfl (by decide) (c_X11_isValue hL  rfl) (by decide) (Nat.le_of_ble_eq_true rfl) rfl ?_
    refine j_if_eq (pc := 11) hC 21 dX7_limitVariable_11 (by decide) (fun c2 => ?_) (fun c2 => ?_)
    · rw [if_pos c2] at h
      refine j_iconst (pc := 21) hC (-1 : Int32) dX7_limitVariable_21 (by decide) ?_
      obtain ⟨rfl, rfl⟩ := Prod.mk.inj (Option.some.inj h)
      exact j_iret (pc := 22) hC dX7_limitVariable_22 rfl
    · rw [if_neg c2] at h
      refine j_iload_n (pc := 14) hC 3 3 dX7_limitVariable_14 rfl rfl ?_
      refine j_ni (pc := 15) hC hR [.int x3] iy_X11_isValue kn_X7_71 dX7_limitVariable_15 rfl (by decide) (c_X11_isValue hL  rfl) (by decide) (Nat.le_of_ble_eq_true rfl) rfl ?_
      refine j_if_ne (pc := 18) hC 23 dX7_limitVariable_18 (by decide) (fun c3 => ?_) (fun c3 => ?_)
      · rw [if_neg c3] at h
        refine j_aload_n (pc := 23) hC 0 0 dX7_limitVariable_23 rfl rfl ?_
        refine jgr_7 (pc := 24) hC 0 (by decide) rfl kf_X7_12 dX7_limitVariable_24 ka0 (ly_7_0 hL ka0).1 ?_
        refine jgr_9 (pc := 27) hC 1 (by decide) rfl kf_X7_59 dX7_limitVariable_27 (ly_7_0 hL ka0).2.1 (ly_9_1 hL (ly_7_0 hL ka0).2.1).1 ?_
        refine j_iload_n (pc := 30) hC 1 1 dX7_limitVariable_30 rfl rfl ?_
        obtain ⟨i4, v5, e6, h⟩ := jrd_some h
        refine j_iald (pc := 31) hC dX7_limitVariable_31 (ly_9_1 hL (ly_7_0 hL ka0).2.1).2.1 (ly_9_1 hL (ly_7_0 hL ka0).2.1).2.2 i4 e6 ?_
        refine j_iload_n (pc := 32) hC 3 3 dX7_limitVariable_32 rfl rfl ?_
        refine j_iconst (pc := 33) hC (1 : Int32) dX7_limitVariable_33 (by decide) ?_
        refine j_iadd (pc := 34) hC dX7_limitVariable_34 ?_
        refine j_si (pc := 35) hC hR [.int (x3 + (1 : Int32))] iy_X6_below km_X7_82 dX7_limitVariable_35 rfl (by decide) (c_X6_below hL  rfl) (by decide) (Nat.le_of_ble_eq_true rfl) rfl ?_
        refine j_iand (pc := 38) hC dX7_limitVariable_38 ?_
        refine j_iload_n (pc := 39) hC 2 2 dX7_limitVariable_39 rfl rfl ?_
        refine j_si (pc := 40) hC hR [.int x2] iy_X6_below km_X7_82 dX7_limitVariable_40 rfl (by decide) (c_X6_below hL  rfl) (by decide) (Nat.le_of_ble_eq_true rfl) rfl ?_
        refine j_iconst (pc := 43) hC (-1 : Int32) dX7_limitVariable_43 (by decide) ?_
        refine j_ixor (pc := 44) hC dX7_limitVariable_44 ?_
        refine j_iand (pc := 45) hC dX7_limitVariable_45 ?_
        obtain ⟨v7, e8, h⟩ := jbd_ex h
        refine j_istore (pc := 46) hC [(4, .int v7), (0, .ref (L.2.2 a0)), (1, .int x1), (2, .int x2), (3, .int x3)] dX7_limitVariable_46 (by decide) e8 rfl ?_
        refine j_iload (pc := 48) hC 0 dX7_limitVariable_48 rfl ?_
        refine j_if_ne (pc := 50) hC 58 dX7_limitVariable_50 (by decide) (fun c9 => ?_) (fun c9 => ?_)
        · rw [if_neg c9] at h
          refine j_aload_n (pc := 58) hC 0 1 dX7_limitVariable_58 rfl rfl ?_
          refine j_iload_n (pc := 59) hC 1 2 dX7_limitVariable_59 rfl rfl ?_
          refine j_iload (pc := 60) hC 0 dX7_limitVariable_60 rfl ?_
          obtain ⟨v10, m11, e12, h⟩ := jcl2_some h
          refine j_vi (pc := 62) hC hR [.int x1, .int v7] iy_X7_variableBecomes (q := (RX7, TX7, 3)) (ci := 7) rfl rfl (by decide) km_X7_78 dX7_limitVariable_62 rfl (by decide) ka0 (c_X7_variableBecomes hL ka0 e12) (by decide) (Nat.le_of_ble_eq_true rfl) rfl ?_
          obtain ⟨rfl, rfl⟩ := Prod.mk.inj (Option.some.inj h)
          exact j_iret (pc := 65) hC dX7_limitVariable_65 rfl
        · rw [if_pos c9] at h
          refine j_bipush (pc := 53) hC (-2 : Int32) dX7_limitVariable_53 (by decide) ?_
          refine j_goto (pc := 55) hC 65 dX7_limitVariable_55 (by decide) ?_
          obtain ⟨rfl, rfl⟩ := Prod.mk.inj (Option.some.inj h)
          exact j_iret (pc := 65) hC dX7_limitVariable_65 rfl
      · rw [if_pos c3] at h
        refine j_iconst (pc := 21) hC (-1 : Int32) dX7_limitVariable_21 (by decide) ?_
        obtain ⟨rfl, rfl⟩ := Prod.mk.inj (Option.some.inj h)
        exact j_iret (pc := 22) hC dX7_limitVariable_22 rfl
