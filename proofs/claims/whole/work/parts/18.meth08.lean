theorem dX11_sign_0 : decode cX11_sign 0 = .ok (.aload_n 0, 1) := by decide +kernel
theorem dX11_sign_1 : decode cX11_sign 1 = .ok (.getfield 12, 3) := by decide +kernel
theorem dX11_sign_4 : decode cX11_sign 4 = .ok (.iload_n 1, 1) := by decide +kernel
theorem dX11_sign_5 : decode cX11_sign 5 = .ok (.invokevirtual 105, 3) := by decide +kernel
theorem dX11_sign_8 : decode cX11_sign 8 = .ok (.ireturn, 1) := by decide +kernel
def f_X11_sign (a0 : Nat) (x1 : Int32) (μ : jM) : Option (Int32 × jM) :=
  jcl2 (f_X8_append (a0 + 1) x1 μ) (fun v1 m2 => some ((v1, m2)))
set_option maxHeartbeats 4000000 in
set_option maxRecDepth 100000 in
theorem c_X11_sign {l : Launch} {G : jG} {L : jL} (hL : jOKL L) {a0 : Nat} {x1 : Int32} (ka0 : jK L a0 11) {μ μ' : jM} {r : Int32} (h : f_X11_sign a0 x1 μ = some ((r, μ'))) : jCt l G L 4 yX11_sign cX11_sign 2 (some .int) [.ref (L.2.2 a0), .int x1] μ (some (.int r)) μ' := by
  refine jCt_of (by decide) (Nat.le_of_ble_eq_true rfl) (fun X hC hX hR => ?_)
  subst hX
  have hC : jC X G cX11_sign 2 RX11 (some .int) := hC
  unfold f_X11_sign at h
  show jJ X G 2 L 0 0 (jQM X G L (some (.int r)) μ' 0 0) 0 [(0, .ref (L.2.2 a0)), (1, .int x1)] [] μ
  refine j_aload_n (pc := 0) hC 0 0 dX11_sign_0 rfl rfl ?_
  refine jgr_11 (pc := 1) hC 0 (by decide) rfl kf_X11_12 dX11_sign_1 ka0 (ly_11_0 hL ka0).1 ?_
  refine j_iload_n (pc := 4) hC 1 1 dX11_sign_4 rfl rfl ?_
  obtain ⟨v1, m2, e3, h⟩ := jcl2_some h
  refine j_vi (pc := 5) hC hR [.int x1] iy_X8_append (q := (RX8, TX8, 2)) (ci := 8) rfl rfl (by decide) km_X11_105 dX11_sign_5 rfl (by decide) (ly_11_0 hL ka0).2.1 (c_X8_append hL (ly_11_0 hL ka0).2.1 e3) (by decide) (Nat.le_of_ble_eq_true rfl) rfl ?_
  obtain ⟨rfl, rfl⟩ := Prod.mk.inj (Option.some.inj h)
  exact j_iret (pc := 8) hC dX11_sign_8 rfl
theorem dX11_end_0 : decode cX11_end 0 = .ok (.aload_n 0, 1) := by decide +kernel
theorem dX11_end_1 : decode cX11_end 1 = .ok (.getfield 12, 3) := by decide +kernel
theorem dX11_end_4 : decode cX11_end 4 = .ok (.iload_n 1, 1) := by decide +kernel
theorem dX11_end_5 : decode cX11_end 5 = .ok (.invokevirtual 109, 3) := by decide +kernel
theorem dX11_end_8 : decode cX11_end 8 = .ok (.ireturn, 1) := by decide +kernel
def f_X11_end (a0 : Nat) (x1 : Int32) (μ : jM) : Int32 × jM :=
  jbd (f_X8_cut (a0 + 1) x1 μ) (fun p1 => (p1.1 &&& 1, p1.2))
set_option maxHeartbeats 4000000 in
set_option maxRecDepth 100000 in
theorem c_X11_end {l : Launch} {G : jG} {L : jL} (hL : jOKL L) {a0 : Nat} {x1 : Int32} (ka0 : jK L a0 11) {μ μ' : jM} {r : Int32} (h : f_X11_end a0 x1 μ = (r, μ')) : jCt l G L 4 yX11_end cX11_end 2 (some .boolean) [.ref (L.2.2 a0), .int x1] μ (some (.int r)) μ' := by
  refine jCt_of (by decide) (Nat.le_of_ble_eq_true rfl) (fun X hC hX hR => ?_)
  subst hX
  have hC : jC X G cX11_end 2 RX11 (some .boolean) := hC
  unfold f_X11_end at h
  show jJ X G 2 L 0 0 (jQM X G L (some (.int r)) μ' 0 0) 0 [(0, .ref (L.2.2 a0)), (1, .int x1)] [] μ
  refine j_aload_n (pc := 0) hC 0 0 dX11_end_0 rfl rfl ?_
  refine jgr_11 (pc := 1) hC 0 (by decide) rfl kf_X11_12 dX11_end_1 ka0 (ly_11_0 hL ka0).1 ?_
  refine j_iload_n (pc := 4) hC 1 1 dX11_end_4 rfl rfl ?_
  obtain ⟨p1, e2, h⟩ := jbd_ex h
  refine j_vi (pc := 5) hC hR [.int x1] iy_X8_cut (q := (RX8, TX8, 2)) (ci := 8) rfl rfl (by decide) km_X11_109 dX11_end_5 rfl (by decide) (ly_11_0 hL ka0).2.1 (c_X8_cut hL (ly_11_0 hL ka0).2.1 (jpe e2)) (by decide) (Nat.le_of_ble_eq_true rfl) rfl ?_
  obtain ⟨rfl, rfl⟩ := Prod.mk.inj h
  exact j_bret (pc := 8) hC dX11_end_8 rfl (j_nz _)
theorem dX11_sheetEntry_0 : decode cX11_sheetEntry 0 = .ok (.iload_n 0, 1) := by decide +kernel
theorem dX11_sheetEntry_1 : decode cX11_sheetEntry 1 = .ok (.ifCond .ne 8, 3) := by decide +kernel
theorem dX11_sheetEntry_4 : decode cX11_sheetEntry 4 = .ok (.iload_n 1, 1) := by decide +kernel
theorem dX11_sheetEntry_5 : decode cX11_sheetEntry 5 = .ok (.i2b, 1) := by decide +kernel
theorem dX11_sheetEntry_6 : decode cX11_sheetEntry 6 = .ok (.goto 14, 3) := by decide +kernel
theorem dX11_sheetEntry_9 : decode cX11_sheetEntry 9 = .ok (.iload_n 0, 1) := by decide +kernel
theorem dX11_sheetEntry_10 : decode cX11_sheetEntry 10 = .ok (.iconst 1, 1) := by decide +kernel
theorem dX11_sheetEntry_11 : decode cX11_sheetEntry 11 = .ok (.if_icmp .ne 8, 3) := by decide +kernel
theorem dX11_sheetEntry_14 : decode cX11_sheetEntry 14 = .ok (.iload_n 1, 1) := by decide +kernel
theorem dX11_sheetEntry_15 : decode cX11_sheetEntry 15 = .ok (.i2s, 1) := by decide +kernel
theorem dX11_sheetEntry_16 : decode cX11_sheetEntry 16 = .ok (.goto 4, 3) := by decide +kernel
theorem dX11_sheetEntry_19 : decode cX11_sheetEntry 19 = .ok (.iload_n 1, 1) := by decide +kernel
theorem dX11_sheetEntry_20 : decode cX11_sheetEntry 20 = .ok (.istore_n 2, 1) := by decide +kernel
theorem dX11_sheetEntry_21 : decode cX11_sheetEntry 21 = .ok (.sipush (-999), 3) := by decide +kernel
theorem dX11_sheetEntry_24 : decode cX11_sheetEntry 24 = .ok (.sipush 999, 3) := by decide +kernel
theorem dX11_sheetEntry_27 : decode cX11_sheetEntry 27 = .ok (.iload_n 2, 1) := by decide +kernel
theorem dX11_sheetEntry_28 : decode cX11_sheetEntry 28 = .ok (.invokestatic 156, 3) := by decide +kernel
theorem dX11_sheetEntry_31 : decode cX11_sheetEntry 31 = .ok (.invokestatic 161, 3) := by decide +kernel
theorem dX11_sheetEntry_34 : decode cX11_sheetEntry 34 = .ok (.ireturn, 1) := by decide +kernel
def f_X11_sheetEntry (x0 : Int32) (x1 : Int32) : Int32 :=
  jbd (fun (t1 : Int32) => jmax (-999 : Int32) (jmin (999 : Int32) t1)) (fun k2 => (if x0 = (0 : Int32) then k2 x1.toInt8.toInt32 else (if x0 = (1 : Int32) then k2 x1.toInt16.toInt32 else k2 x1)))
set_option maxHeartbeats 4000000 in
set_option maxRecDepth 100000 in
theorem c_X11_sheetEntry {l : Launch} {G : jG} {L : jL} (hL : jOKL L) {x0 : Int32} {x1 : Int32}  {μ : jM} {r : Int32} (h : f_X11_sheetEntry x0 x1 = r) : jCt l G L 3 yX11_sheetEntry cX11_sheetEntry 3 (some .int) [.int x0, .int x1] μ (some (.int r)) μ := by
  refine jCt_of (by decide) (Nat.le_of_ble_eq_true rfl) (fun X hC hX hR => ?_)
  subst hX
  have hC : jC X G cX11_sheetEntry 3 RX11 (some .int) := hC
  unfold f_X11_sheetEntry at h
  show jJ X G 3 L 0 0 (jQM X G L (some (.int r)) μ 0 0) 0 [(0, .int x0), (1, .int x1)] [] μ
  refine j_iload_n (pc := 0) hC 0 0 dX11_sheetEntry_0 rfl rfl ?_
  obtain ⟨k2, e4, h⟩ := jbd_ex h
  have q3 : ∀ (t1 : Int32), k2 t1 = r → jJ X G 3 L 0 0 (jQM X G L (some (.int r)) μ 0 0) 20 [] [.int t1] μ := by
    intro t1 h
    rw [e4] at h
    try dsimp only at h
    refine j_istore_n (pc := 20) hC 2 [(2, .int t1)] dX11_sheetEntry_20 rfl (by decide) rfl rfl ?_
    refine j_sipush (pc := 21) hC (-999 : Int32) dX11_sheetEntry_21 (by decide) ?_
    refine j_sipush (pc := 24) hC (999 : Int32) dX11_sheetEntry_24 (by decide) ?_
    refine j_iload_n (pc := 27) hC 2 0 dX11_sheetEntry_27 rfl rfl ?_
    refine j_mmin (pc := 28) hC hR kx_X11_156 dX11_sheetEntry_28 (by decide) (Nat.le_of_ble_eq_true rfl) ?_
    refine j_mmax (pc := 31) hC hR kx_X11_161 dX11_sheetEntry_31 (by decide) (Nat.le_of_ble_eq_true rfl) ?_
    subst h
    exact j_iret (pc := 34) hC dX11_sheetEntry_34 rfl
  refine j_if_ne (pc := 1) hC 9 dX11_sheetEntry_1 (by decide) (fun c5 => ?_) (fun c5 => ?_)
  · rw [if_neg c5] at h
    refine j_iload_n (pc := 9) hC 0 0 dX11_sheetEntry_9 rfl rfl ?_
    refine j_iconst (pc := 10) hC (1 : Int32) dX11_sheetEntry_10 (by decide) ?_
    refine j_icmp_ne (pc := 11) hC 19 dX11_sheetEntry_11 (by decide) (fun c6 => ?_) (fun c6 => ?_)
    · rw [if_neg c6] at h
      refine j_iload_n (pc := 19) hC 1 1 dX11_sheetEntry_19 rfl rfl ?_
      exact j_lv [] rfl (q3 _ h)
    · rw [if_pos c6] at h
      refine j_iload_n (pc := 14) hC 1 1 dX11_sheetEntry_14 rfl rfl ?_
      refine j_i2s (pc := 15) hC dX11_sheetEntry_15 ?_
      refine j_goto (pc := 16) hC 20 dX11_sheetEntry_16 (by decide) ?_
      exact j_lv [] rfl (q3 _ h)
  · rw [if_pos c5] at h
    refine j_iload_n (pc := 4) hC 1 1 dX11_sheetEntry_4 rfl rfl ?_
    refine j_i2b (pc := 5) hC dX11_sheetEntry_5 ?_
    refine j_goto (pc := 6) hC 20 dX11_sheetEntry_6 (by decide) ?_
    exact j_lv [] rfl (q3 _ h)
theorem dX11_sheet_0 : decode cX11_sheet 0 = .ok (.iload_n 1, 1) := by decide +kernel
theorem dX11_sheet_1 : decode cX11_sheet 1 = .ok (.ifCond .lt 14, 3) := by decide +kernel
theorem dX11_sheet_4 : decode cX11_sheet 4 = .ok (.iload_n 1, 1) := by decide +kernel
theorem dX11_sheet_5 : decode cX11_sheet 5 = .ok (.iconst 3, 1) := by decide +kernel
theorem dX11_sheet_6 : decode cX11_sheet 6 = .ok (.if_icmp .gt 9, 3) := by decide +kernel
theorem dX11_sheet_9 : decode cX11_sheet 9 = .ok (.iload_n 2, 1) := by decide +kernel
theorem dX11_sheet_10 : decode cX11_sheet 10 = .ok (.bipush 6, 2) := by decide +kernel
theorem dX11_sheet_12 : decode cX11_sheet 12 = .ok (.if_icmp .le 5, 3) := by decide +kernel
theorem dX11_sheet_15 : decode cX11_sheet 15 = .ok (.iconst (-1), 1) := by decide +kernel
theorem dX11_sheet_16 : decode cX11_sheet 16 = .ok (.ireturn, 1) := by decide +kernel
theorem dX11_sheet_17 : decode cX11_sheet 17 = .ok (.iload_n 1, 1) := by decide +kernel
theorem dX11_sheet_18 : decode cX11_sheet 18 = .ok (.iconst 3, 1) := by decide +kernel
theorem dX11_sheet_19 : decode cX11_sheet 19 = .ok (.if_icmp .ne 7, 3) := by decide +kernel
theorem dX11_sheet_22 : decode cX11_sheet 22 = .ok (.iconst 1, 1) := by decide +kernel
theorem dX11_sheet_23 : decode cX11_sheet 23 = .ok (.goto 4, 3) := by decide +kernel
theorem dX11_sheet_26 : decode cX11_sheet 26 = .ok (.iconst 0, 1) := by decide +kernel
theorem dX11_sheet_27 : decode cX11_sheet 27 = .ok (.istore 5, 2) := by decide +kernel
theorem dX11_sheet_29 : decode cX11_sheet 29 = .ok (.iload 5, 2) := by decide +kernel
theorem dX11_sheet_31 : decode cX11_sheet 31 = .ok (.ifCond .ne 10, 3) := by decide +kernel
theorem dX11_sheet_34 : decode cX11_sheet 34 = .ok (.iload_n 2, 1) := by decide +kernel
theorem dX11_sheet_35 : decode cX11_sheet 35 = .ok (.ifCond .ge 6, 3) := by decide +kernel
theorem dX11_sheet_38 : decode cX11_sheet 38 = .ok (.bipush (-2), 2) := by decide +kernel
theorem dX11_sheet_40 : decode cX11_sheet 40 = .ok (.ireturn, 1) := by decide +kernel
theorem dX11_sheet_41 : decode cX11_sheet 41 = .ok (.iload 5, 2) := by decide +kernel
theorem dX11_sheet_43 : decode cX11_sheet 43 = .ok (.ifCond .eq 7, 3) := by decide +kernel
theorem dX11_sheet_46 : decode cX11_sheet 46 = .ok (.iconst 0, 1) := by decide +kernel
theorem dX11_sheet_47 : decode cX11_sheet 47 = .ok (.goto 4, 3) := by decide +kernel
theorem dX11_sheet_50 : decode cX11_sheet 50 = .ok (.iload_n 2, 1) := by decide +kernel
theorem dX11_sheet_51 : decode cX11_sheet 51 = .ok (.istore 6, 2) := by decide +kernel
theorem dX11_sheet_53 : decode cX11_sheet 53 = .ok (.iconst 0, 1) := by decide +kernel
theorem dX11_sheet_54 : decode cX11_sheet 54 = .ok (.istore 7, 2) := by decide +kernel
theorem dX11_sheet_56 : decode cX11_sheet 56 = .ok (.iload 7, 2) := by decide +kernel
theorem dX11_sheet_58 : decode cX11_sheet 58 = .ok (.bipush 6, 2) := by decide +kernel
theorem dX11_sheet_60 : decode cX11_sheet 60 = .ok (.if_icmp .ge 40, 3) := by decide +kernel
theorem dX11_sheet_63 : decode cX11_sheet 63 = .ok (.aload_n 0, 1) := by decide +kernel
theorem dX11_sheet_64 : decode cX11_sheet 64 = .ok (.getfield 26, 3) := by decide +kernel
theorem dX11_sheet_67 : decode cX11_sheet 67 = .ok (.iload 7, 2) := by decide +kernel
theorem dX11_sheet_69 : decode cX11_sheet 69 = .ok (.iload 7, 2) := by decide +kernel
theorem dX11_sheet_71 : decode cX11_sheet 71 = .ok (.iload 6, 2) := by decide +kernel
theorem dX11_sheet_73 : decode cX11_sheet 73 = .ok (.if_icmp .ge 17, 3) := by decide +kernel
theorem dX11_sheet_76 : decode cX11_sheet 76 = .ok (.iload_n 1, 1) := by decide +kernel
theorem dX11_sheet_77 : decode cX11_sheet 77 = .ok (.iload_n 3, 1) := by decide +kernel
theorem dX11_sheet_78 : decode cX11_sheet 78 = .ok (.iload 7, 2) := by decide +kernel
theorem dX11_sheet_80 : decode cX11_sheet 80 = .ok (.iload 4, 2) := by decide +kernel
theorem dX11_sheet_82 : decode cX11_sheet 82 = .ok (.imul, 1) := by decide +kernel
theorem dX11_sheet_83 : decode cX11_sheet 83 = .ok (.iadd, 1) := by decide +kernel
theorem dX11_sheet_84 : decode cX11_sheet 84 = .ok (.invokestatic 144, 3) := by decide +kernel
theorem dX11_sheet_87 : decode cX11_sheet 87 = .ok (.goto 4, 3) := by decide +kernel
theorem dX11_sheet_90 : decode cX11_sheet 90 = .ok (.iconst 0, 1) := by decide +kernel
theorem dX11_sheet_91 : decode cX11_sheet 91 = .ok (.invokevirtual 148, 3) := by decide +kernel
theorem dX11_sheet_94 : decode cX11_sheet 94 = .ok (.iinc 7 1, 3) := by decide +kernel
theorem dX11_sheet_97 : decode cX11_sheet 97 = .ok (.goto (-41), 3) := by decide +kernel
theorem dX11_sheet_100 : decode cX11_sheet 100 = .ok (.iload 5, 2) := by decide +kernel
theorem dX11_sheet_102 : decode cX11_sheet 102 = .ok (.ifCond .eq 8, 3) := by decide +kernel
theorem dX11_sheet_105 : decode cX11_sheet 105 = .ok (.bipush (-3), 2) := by decide +kernel
theorem dX11_sheet_107 : decode cX11_sheet 107 = .ok (.goto 17, 3) := by decide +kernel
theorem dX11_sheet_110 : decode cX11_sheet 110 = .ok (.sipush 10000, 3) := by decide +kernel
theorem dX11_sheet_113 : decode cX11_sheet 113 = .ok (.aload_n 0, 1) := by decide +kernel
theorem dX11_sheet_114 : decode cX11_sheet 114 = .ok (.getfield 26, 3) := by decide +kernel
theorem dX11_sheet_117 : decode cX11_sheet 117 = .ok (.getfield 42, 3) := by decide +kernel
theorem dX11_sheet_120 : decode cX11_sheet 120 = .ok (.invokevirtual 152, 3) := by decide +kernel
theorem dX11_sheet_123 : decode cX11_sheet 123 = .ok (.iadd, 1) := by decide +kernel
theorem dX11_sheet_124 : decode cX11_sheet 124 = .ok (.ireturn, 1) := by decide +kernel
def f_X11_sheet_L56 (a0 : Nat) (x1 : Int32) (x3 : Int32) (x4 : Int32) (v11 : Int32) (u13 : Int32) (m14 : jM) : Option ((Int32 × jM) ⊕ (jM)) :=
  (if (6 : Int32) ≤ u13 then some (.inr m14) else (if v11 ≤ u13 then jcl (f_X7_cellBecomes (a0 + 5) u13 (0 : Int32) m14) (fun m17 => some (.inl ((u13 + (1 : Int32), m17)))) else jcl (f_X7_cellBecomes (a0 + 5) u13 (f_X11_sheetEntry x1 (x3 + (u13 * x4))) m14) (fun m19 => some (.inl ((u13 + (1 : Int32), m19))))))
def f_X11_sheet (a0 : Nat) (x1 : Int32) (x2 : Int32) (x3 : Int32) (x4 : Int32) (μ : jM) : Option (Int32 × jM) :=
  (if x1 < (0 : Int32) then some (((-1 : Int32), μ)) else (if (3 : Int32) < x1 then some (((-1 : Int32), μ)) else (if x2 ≤ (6 : Int32) then jbd ((if x1 = (3 : Int32) then (1 : Int32) else (0 : Int32)) : Int32) (fun v5 => jbd (jbd ((if v5 = (0 : Int32) then x2 else (0 : Int32)) : Int32) (fun v11 => jcl (jloop (fun (s : Int32 × jM) => f_X11_sheet_L56 a0 x1 x3 x4 v11 s.1 s.2) jfu (((0 : Int32), μ))) (fun w21 => (if v5 = (0 : Int32) then jcl (f_X9_sumOfCells (a0 + 6) w21) (fun v26 => some (((10000 : Int32) + v26, w21))) else some (((-3 : Int32), w21)))))) (fun k7 => (if v5 = (0 : Int32) then (if (0 : Int32) ≤ x2 then k7 else some (((-2 : Int32), μ))) else k7))) else some (((-1 : Int32), μ)))))
set_option maxHeartbeats 4000000 in
set_option maxRecDepth 100000 in
theorem c_X11_sheet {l : Launch} {G : jG} {L : jL} (hL : jOKL L) {a0 : Nat} {x1 : Int32} {x2 : Int32} {x3 : Int32} {x4 : Int32} (ka0 : jK L a0 11) {μ μ' : jM} {r : Int32} (h : f_X11_sheet a0 x1 x2 x3 x4 μ = some ((r, μ'))) : jCt l G L 6 yX11_sheet cX11_sheet 8 (some .int) [.ref (L.2.2 a0), .int x1, .int x2, .int x3, .int x4] μ (some (.int r)) μ' := by
  refine jCt_of (by decide) (Nat.le_of_ble_eq_true rfl) (fun X hC hX hR => ?_)
  subst hX
  have hC : jC X G cX11_sheet 8 RX11 (some .int) := hC
  unfold f_X11_sheet at h
  show jJ X G 8 L 0 0 (jQM X G L (some (.int r)) μ' 0 0) 0 [(0, .ref (L.2.2 a0)), (1, .int x1), (2, .int x2), (3, .int x3), (4, .int x4)] [] μ
  refine j_iload_n (pc := 0) hC 1 1 dX11_sheet_0 rfl rfl ?_
  refine j_if_lt (pc := 1) hC 15 dX11_sheet_1 (by decide) (fun c1 => ?_) (fun c1 => ?_)
  · rw [if_pos c1] at h
    refine j_iconst (pc := 15) hC (-1 : Int32) dX11_sheet_15 (by decide) ?_
    obtain ⟨rfl, rfl⟩ := Prod.mk.inj (Option.some.inj h)
    exact j_iret (pc := 16) hC dX11_sheet_16 rfl
  · rw [if_neg c1] at h
    refine j_iload_n (pc := 4) hC 1 1 dX11_sheet_4 rfl rfl ?_
    refine j_iconst (pc := 5) hC (3 : Int32) dX11_sheet_5 (by decide) ?_
    refine j_icmp_gt (pc := 6) hC 15 dX11_sheet_6 (by decide) (fun c2 => ?_) (fun c2 => ?_)
    · rw [if_pos c2] at h
      refine j_iconst (pc := 15) hC (-1 : Int32) dX11_sheet_15 (by decide) ?_
      obtain ⟨rfl, rfl⟩ := Prod.mk.inj (Option.some.inj h)
      exact j_iret (pc := 16) hC dX11_sheet_16 rfl
    · rw [if_neg c2] at h
      refine j_iload_n (pc := 9) hC 2 2 dX11_sheet_9 rfl rfl ?_
      refine j_bipush (pc := 10) hC (6 : Int32) dX11_sheet_10 (by decide) ?_
      refine j_icmp_le (pc := 12) hC 17 dX11_sheet_12 (by decide) (fun c3 => ?_) (fun c3 => ?_)
      · rw [if_pos c3] at h
        refine j_iload_n (pc := 17) hC 1 1 dX11_sheet_17 rfl rfl ?_
        refine j_iconst (pc := 18) hC (3 : Int32) dX11_sheet_18 (by decide) ?_
        refine jmg (B := jJ X G 8 L 0 0 (jQM X G L (some (.int r)) μ' 0 0) 27 [(0, .ref (L.2.2 a0)), (1, .int x1), (2, .int x2), (3, .int x3), (4, .int x4)] [.int ((if x1 = (3 : Int32) then (1 : Int32) else (0 : Int32)))] μ) (fun hj => ?_) ?_
        · refine j_icmp_ne (pc := 19) hC 26 dX11_sheet_19 (by decide) (fun c4 => ?_) (fun c4 => ?_)
          · rw [if_neg c4] at hj
            refine j_iconst (pc := 26) hC (0 : Int32) dX11_sheet_26 (by decide) ?_
            exact hj
          · rw [if_pos c4] at hj
            refine j_iconst (pc := 22) hC (1 : Int32) dX11_sheet_22 (by decide) ?_
            refine j_goto (pc := 23) hC 27 dX11_sheet_23 (by decide) ?_
            exact hj
        obtain ⟨v5, e6, h⟩ := jbd_ex h
        refine j_istore (pc := 27) hC [(5, .int v5), (0, .ref (L.2.2 a0)), (1, .int x1), (2, .int x2), (3, .int x3), (4, .int x4)] dX11_sheet_27 (by decide) e6 rfl ?_
        refine j_iload (pc := 29) hC 0 dX11_sheet_29 rfl ?_
        obtain ⟨k7, e9, h⟩ := jbd_ex h
        have q8 : k7 = some ((r, μ')) → jJ X G 8 L 0 0 (jQM X G L (some (.int r)) μ' 0 0) 41 [(0, .ref (L.2.2 a0)), (1, .int x1), (2, .int x2), (3, .int x3), (4, .int x4), (5, .int v5)] [] μ := by
          intro h
          rw [e9] at h
          refine j_iload (pc := 41) hC 5 dX11_sheet_41 rfl ?_
          refine jmg (B := jJ X G 8 L 0 0 (jQM X G L (some (.int r)) μ' 0 0) 51 [(0, .ref (L.2.2 a0)), (1, .int x1), (2, .int x2), (3, .int x3), (4, .int x4), (5, .int v5)] [.int ((if v5 = (0 : Int32) then x2 else (0 : Int32)))] μ) (fun hj => ?_) ?_
          · refine j_if_eq (pc := 43) hC 50 dX11_sheet_43 (by decide) (fun c10 => ?_) (fun c10 => ?_)
            · rw [if_pos c10] at hj
              refine j_iload_n (pc := 50) hC 2 2 dX11_sheet_50 rfl rfl ?_
              exact hj
            · rw [if_neg c10] at hj
              refine j_iconst (pc := 46) hC (0 : Int32) dX11_sheet_46 (by decide) ?_
              refine j_goto (pc := 47) hC 51 dX11_sheet_47 (by decide) ?_
              exact hj
          obtain ⟨v11, e12, h⟩ := jbd_ex h
          refine j_istore (pc := 51) hC [(6, .int v11), (0, .ref (L.2.2 a0)), (1, .int x1), (2, .int x2), (3, .int x3), (4, .int x4), (5, .int v5)] dX11_sheet_51 (by decide) e12 rfl ?_
          refine j_iconst (pc := 53) hC (0 : Int32) dX11_sheet_53 (by decide) ?_
          refine j_istore (pc := 54) hC [(7, .int (0 : Int32)), (6, .int v11), (0, .ref (L.2.2 a0)), (1, .int x1), (2, .int x2), (3, .int x3), (4, .int x4), (5, .int v5)] dX11_sheet_54 (by decide) rfl rfl ?_
          obtain ⟨w21, hw22, h⟩ := jcl_some h
          refine j_lv [2, 3, 5, 6, 7, 1, 0] rfl ?_
          refine j_loop (step := (fun (s : Int32 × jM) => f_X11_sheet_L56 a0 x1 x3 x4 v11 s.1 s.2)) (P := (fun (s : Int32 × jM) => jJ X G 8 L 0 0 (jQM X G L (some (.int r)) μ' 0 0) 56 [(0, .ref (L.2.2 a0)), (1, .int x1), (3, .int x3), (4, .int x4), (5, .int v5), (6, .int v11), (7, .int s.1)] [] s.2)) (R := (fun (e : jM) => jJ X G 8 L 0 0 (jQM X G L (some (.int r)) μ' 0 0) 100 [(0, .ref (L.2.2 a0)), (5, .int v5)] [] e)) ?_ jfu (((0 : Int32), μ)) w21 hw22 ?_
          · intro s23 o h hk
            obtain ⟨u13, m14⟩ := s23
            change f_X11_sheet_L56 a0 x1 x3 x4 v11 u13 m14 = some o at h
            unfold f_X11_sheet_L56 at h
            show jJ X G 8 L 0 0 (jQM X G L (some (.int r)) μ' 0 0) 56 [(0, .ref (L.2.2 a0)), (1, .int x1), (3, .int x3), (4, .int x4), (5, .int v5), (6, .int v11), (7, .int u13)] [] m14
            refine j_iload (pc := 56) hC 6 dX11_sheet_56 rfl ?_
            refine j_bipush (pc := 58) hC (6 : Int32) dX11_sheet_58 (by decide) ?_
            refine j_icmp_ge (pc := 60) hC 100 dX11_sheet_60 (by decide) (fun c15 => ?_) (fun c15 => ?_)
            · rw [if_pos c15] at h
              obtain rfl := Option.some.inj h
              have hk : jJ X G 8 L 0 0 (jQM X G L (some (.int r)) μ' 0 0) 100 [(0, .ref (L.2.2 a0)), (5, .int v5)] [] m14 := hk
              exact j_lv [0, 4] rfl hk
            · rw [if_neg c15] at h
              refine j_aload_n (pc := 63) hC 0 0 dX11_sheet_63 rfl rfl ?_
              refine jgr_11 (pc := 64) hC 2 (by decide) rfl kf_X11_26 dX11_sheet_64 ka0 (ly_11_2 hL ka0).1 ?_
              refine j_iload (pc := 67) hC 6 dX11_sheet_67 rfl ?_
              refine j_iload (pc := 69) hC 6 dX11_sheet_69 rfl ?_
              refine j_iload (pc := 71) hC 5 dX11_sheet_71 rfl ?_
              refine j_icmp_ge (pc := 73) hC 90 dX11_sheet_73 (by decide) (fun c16 => ?_) (fun c16 => ?_)
              · rw [if_pos c16] at h
                refine j_iconst (pc := 90) hC (0 : Int32) dX11_sheet_90 (by decide) ?_
                obtain ⟨m17, e18, h⟩ := jcl_some h
                refine j_vv (pc := 91) hC hR [.int u13, .int (0 : Int32)] iy_X7_cellBecomes (q := (RX7, TX7, 3)) (ci := 7) rfl rfl (by decide) km_X11_148 dX11_sheet_91 rfl (by decide) (ly_11_2 hL ka0).2.1 (c_X7_cellBecomes hL (ly_11_2 hL ka0).2.1 e18) (by decide) (Nat.le_of_ble_eq_true rfl) rfl ?_
                refine j_iinc (pc := 94) hC 6 (u13 + (1 : Int32)) [(7, .int (u13 + (1 : Int32))), (0, .ref (L.2.2 a0)), (1, .int x1), (3, .int x3), (4, .int x4), (5, .int v5), (6, .int v11)] dX11_sheet_94 rfl rfl (by decide) rfl ?_
                refine j_goto (pc := 97) hC 56 dX11_sheet_97 (by decide) ?_
                obtain rfl := Option.some.inj h
                have hk : jJ X G 8 L 0 0 (jQM X G L (some (.int r)) μ' 0 0) 56 [(0, .ref (L.2.2 a0)), (1, .int x1), (3, .int x3), (4, .int x4), (5, .int v5), (6, .int v11), (7, .int (u13 + (1 : Int32)))] [] m17 := hk
                exact j_lv [1, 2, 3, 4, 5, 6, 0] rfl hk
              · rw [if_neg c16] at h
                refine j_iload_n (pc := 76) hC 1 1 dX11_sheet_76 rfl rfl ?_
                refine j_iload_n (pc := 77) hC 3 2 dX11_sheet_77 rfl rfl ?_
                refine j_iload (pc := 78) hC 6 dX11_sheet_78 rfl ?_
                refine j_iload (pc := 80) hC 3 dX11_sheet_80 rfl ?_
                refine j_imul (pc := 82) hC dX11_sheet_82 ?_
                refine j_iadd (pc := 83) hC dX11_sheet_83 ?_
                refine j_si (pc := 84) hC hR [.int x1, .int (x3 + (u13 * x4))] iy_X11_sheetEntry km_X11_144 dX11_sheet_84 rfl (by decide) (c_X11_sheetEntry hL  rfl) (by decide) (Nat.le_of_ble_eq_true rfl) rfl ?_
                refine j_goto (pc := 87) hC 91 dX11_sheet_87 (by decide) ?_
                obtain ⟨m19, e20, h⟩ := jcl_some h
                refine j_vv (pc := 91) hC hR [.int u13, .int (f_X11_sheetEntry x1 (x3 + (u13 * x4)))] iy_X7_cellBecomes (q := (RX7, TX7, 3)) (ci := 7) rfl rfl (by decide) km_X11_148 dX11_sheet_91 rfl (by decide) (ly_11_2 hL ka0).2.1 (c_X7_cellBecomes hL (ly_11_2 hL ka0).2.1 e20) (by decide) (Nat.le_of_ble_eq_true rfl) rfl ?_
                refine j_iinc (pc := 94) hC 6 (u13 + (1 : Int32)) [(7, .int (u13 + (1 : Int32))), (0, .ref (L.2.2 a0)), (1, .int x1), (3, .int x3), (4, .int x4), (5, .int v5), (6, .int v11)] dX11_sheet_94 rfl rfl (by decide) rfl ?_
                refine j_goto (pc := 97) hC 56 dX11_sheet_97 (by decide) ?_
                obtain rfl := Option.some.inj h
                have hk : jJ X G 8 L 0 0 (jQM X G L (some (.int r)) μ' 0 0) 56 [(0, .ref (L.2.2 a0)), (1, .int x1), (3, .int x3), (4, .int x4), (5, .int v5), (6, .int v11), (7, .int (u13 + (1 : Int32)))] [] m19 := hk
                exact j_lv [1, 2, 3, 4, 5, 6, 0] rfl hk
          · obtain ⟨m24, rfl⟩ : ∃ y, y = w21 := ⟨_, rfl⟩
            try dsimp only at h
            show jJ X G 8 L 0 0 (jQM X G L (some (.int r)) μ' 0 0) 100 [(0, .ref (L.2.2 a0)), (5, .int v5)] [] m24
            refine j_iload (pc := 100) hC 1 dX11_sheet_100 rfl ?_
            refine j_if_eq (pc := 102) hC 110 dX11_sheet_102 (by decide) (fun c25 => ?_) (fun c25 => ?_)
            · rw [if_pos c25] at h
              refine j_sipush (pc := 110) hC (10000 : Int32) dX11_sheet_110 (by decide) ?_
              refine j_aload_n (pc := 113) hC 0 0 dX11_sheet_113 rfl rfl ?_
              refine jgr_11 (pc := 114) hC 2 (by decide) rfl kf_X11_26 dX11_sheet_114 ka0 (ly_11_2 hL ka0).1 ?_
              refine jgr_7 (pc := 117) hC 0 (by decide) rfl kf_X11_42 dX11_sheet_117 (ly_11_2 hL ka0).2.1 (ly_7_0 hL (ly_11_2 hL ka0).2.1).1 ?_
              obtain ⟨v26, e27, h⟩ := jcl_some h
              refine j_vi (pc := 120) hC hR [] iy_X9_sumOfCells (q := (RX9, TX9, 7)) (ci := 9) rfl rfl (by decide) km_X11_152 dX11_sheet_120 rfl (by decide) (ly_7_0 hL (ly_11_2 hL ka0).2.1).2.1 (c_X9_sumOfCells hL (ly_7_0 hL (ly_11_2 hL ka0).2.1).2.1 e27) (by decide) (Nat.le_of_ble_eq_true rfl) rfl ?_
              refine j_iadd (pc := 123) hC dX11_sheet_123 ?_
              obtain ⟨rfl, rfl⟩ := Prod.mk.inj (Option.some.inj h)
              exact j_iret (pc := 124) hC dX11_sheet_124 rfl
            · rw [if_neg c25] at h
              refine j_bipush (pc := 105) hC (-3 : Int32) dX11_sheet_105 (by decide) ?_
              refine j_goto (pc := 107) hC 124 dX11_sheet_107 (by decide) ?_
              obtain ⟨rfl, rfl⟩ := Prod.mk.inj (Option.some.inj h)
              exact j_iret (pc := 124) hC dX11_sheet_124 rfl
        refine j_if_ne (pc := 31) hC 41 dX11_sheet_31 (by decide) (fun c28 => ?_) (fun c28 => ?_)
        · rw [if_neg c28] at h
          exact j_lv [1, 2, 3, 4, 5, 0] rfl (q8 h)
        · rw [if_pos c28] at h
          refine j_iload_n (pc := 34) hC 2 3 dX11_sheet_34 rfl rfl ?_
          refine j_if_ge (pc := 35) hC 41 dX11_sheet_35 (by decide) (fun c29 => ?_) (fun c29 => ?_)
          · rw [if_pos c29] at h
            exact j_lv [1, 2, 3, 4, 5, 0] rfl (q8 h)
          · rw [if_neg c29] at h
            refine j_bipush (pc := 38) hC (-2 : Int32) dX11_sheet_38 (by decide) ?_
            obtain ⟨rfl, rfl⟩ := Prod.mk.inj (Option.some.inj h)
            exact j_iret (pc := 40) hC dX11_sheet_40 rfl
      · rw [if_neg c3] at h
        refine j_iconst (pc := 15) hC (-1 : Int32) dX11_sheet_15 (by decide) ?_
        obtain ⟨rfl, rfl⟩ := Prod.mk.inj (Option.some.inj h)
        exact j_iret (pc := 16) hC dX11_sheet_16 rfl
theorem dX11_sets_0 : decode cX11_sets 0 = .ok (.aload_n 0, 1) := by decide +kernel
theorem dX11_sets_1 : decode cX11_sets 1 = .ok (.getfield 26, 3) := by decide +kernel
theorem dX11_sets_4 : decode cX11_sets 4 = .ok (.iload_n 1, 1) := by decide +kernel
theorem dX11_sets_5 : decode cX11_sets 5 = .ok (.iload_n 2, 1) := by decide +kernel
theorem dX11_sets_6 : decode cX11_sets 6 = .ok (.invokevirtual 164, 3) := by decide +kernel
theorem dX11_sets_9 : decode cX11_sets 9 = .ok (.ireturn, 1) := by decide +kernel
def f_X11_sets (a0 : Nat) (x1 : Int32) (x2 : Int32) (μ : jM) : Option (Int32 × jM) :=
  jcl2 (f_X7_setCell (a0 + 5) x1 x2 μ) (fun v1 m2 => some ((v1, m2)))
set_option maxHeartbeats 4000000 in
set_option maxRecDepth 100000 in
theorem c_X11_sets {l : Launch} {G : jG} {L : jL} (hL : jOKL L) {a0 : Nat} {x1 : Int32} {x2 : Int32} (ka0 : jK L a0 11) {μ μ' : jM} {r : Int32} (h : f_X11_sets a0 x1 x2 μ = some ((r, μ'))) : jCt l G L 7 yX11_sets cX11_sets 3 (some .int) [.ref (L.2.2 a0), .int x1, .int x2] μ (some (.int r)) μ' := by
  refine jCt_of (by decide) (Nat.le_of_ble_eq_true rfl) (fun X hC hX hR => ?_)
  subst hX
  have hC : jC X G cX11_sets 3 RX11 (some .int) := hC
  unfold f_X11_sets at h
  show jJ X G 3 L 0 0 (jQM X G L (some (.int r)) μ' 0 0) 0 [(0, .ref (L.2.2 a0)), (1, .int x1), (2, .int x2)] [] μ
  refine j_aload_n (pc := 0) hC 0 0 dX11_sets_0 rfl rfl ?_
  refine jgr_11 (pc := 1) hC 2 (by decide) rfl kf_X11_26 dX11_sets_1 ka0 (ly_11_2 hL ka0).1 ?_
  refine j_iload_n (pc := 4) hC 1 1 dX11_sets_4 rfl rfl ?_
  refine j_iload_n (pc := 5) hC 2 2 dX11_sets_5 rfl rfl ?_
  obtain ⟨v1, m2, e3, h⟩ := jcl2_some h
  refine j_vi (pc := 6) hC hR [.int x1, .int x2] iy_X7_setCell (q := (RX7, TX7, 3)) (ci := 7) rfl rfl (by decide) km_X11_164 dX11_sets_6 rfl (by decide) (ly_11_2 hL ka0).2.1 (c_X7_setCell hL (ly_11_2 hL ka0).2.1 e3) (by decide) (Nat.le_of_ble_eq_true rfl) rfl ?_
  obtain ⟨rfl, rfl⟩ := Prod.mk.inj (Option.some.inj h)
  exact j_iret (pc := 9) hC dX11_sets_9 rfl
theorem dX11_adds_0 : decode cX11_adds 0 = .ok (.aload_n 0, 1) := by decide +kernel
theorem dX11_adds_1 : decode cX11_adds 1 = .ok (.getfield 26, 3) := by decide +kernel
theorem dX11_adds_4 : decode cX11_adds 4 = .ok (.iload_n 1, 1) := by decide +kernel
theorem dX11_adds_5 : decode cX11_adds 5 = .ok (.iload_n 2, 1) := by decide +kernel
theorem dX11_adds_6 : decode cX11_adds 6 = .ok (.invokevirtual 167, 3) := by decide +kernel
theorem dX11_adds_9 : decode cX11_adds 9 = .ok (.ireturn, 1) := by decide +kernel
def f_X11_adds (a0 : Nat) (x1 : Int32) (x2 : Int32) (μ : jM) : Option (Int32 × jM) :=
  jcl2 (f_X7_addToCell (a0 + 5) x1 x2 μ) (fun v1 m2 => some ((v1, m2)))
set_option maxHeartbeats 4000000 in
set_option maxRecDepth 100000 in
theorem c_X11_adds {l : Launch} {G : jG} {L : jL} (hL : jOKL L) {a0 : Nat} {x1 : Int32} {x2 : Int32} (ka0 : jK L a0 11) {μ μ' : jM} {r : Int32} (h : f_X11_adds a0 x1 x2 μ = some ((r, μ'))) : jCt l G L 7 yX11_adds cX11_adds 3 (some .int) [.ref (L.2.2 a0), .int x1, .int x2] μ (some (.int r)) μ' := by
  refine jCt_of (by decide) (Nat.le_of_ble_eq_true rfl) (fun X hC hX hR => ?_)
  subst hX
  have hC : jC X G cX11_adds 3 RX11 (some .int) := hC
  unfold f_X11_adds at h
  show jJ X G 3 L 0 0 (jQM X G L (some (.int r)) μ' 0 0) 0 [(0, .ref (L.2.2 a0)), (1, .int x1), (2, .int x2)] [] μ
  refine j_aload_n (pc := 0) hC 0 0 dX11_adds_0 rfl rfl ?_
  refine jgr_11 (pc := 1) hC 2 (by decide) rfl kf_X11_26 dX11_adds_1 ka0 (ly_11_2 hL ka0).1 ?_
  refine j_iload_n (pc := 4) hC 1 1 dX11_adds_4 rfl rfl ?_
  refine j_iload_n (pc := 5) hC 2 2 dX11_adds_5 rfl rfl ?_
  obtain ⟨v1, m2, e3, h⟩ := jcl2_some h
  refine j_vi (pc := 6) hC hR [.int x1, .int x2] iy_X7_addToCell (q := (RX7, TX7, 3)) (ci := 7) rfl rfl (by decide) km_X11_167 dX11_adds_6 rfl (by decide) (ly_11_2 hL ka0).2.1 (c_X7_addToCell hL (ly_11_2 hL ka0).2.1 e3) (by decide) (Nat.le_of_ble_eq_true rfl) rfl ?_
  obtain ⟨rfl, rfl⟩ := Prod.mk.inj (Option.some.inj h)
  exact j_iret (pc := 9) hC dX11_adds_9 rfl
theorem dX11_removes_0 : decode cX11_removes 0 = .ok (.aload_n 0, 1) := by decide +kernel
theorem dX11_removes_1 : decode cX11_removes 1 = .ok (.getfield 26, 3) := by decide +kernel
theorem dX11_removes_4 : decode cX11_removes 4 = .ok (.iload_n 1, 1) := by decide +kernel
theorem dX11_removes_5 : decode cX11_removes 5 = .ok (.iload_n 2, 1) := by decide +kernel
theorem dX11_removes_6 : decode cX11_removes 6 = .ok (.invokevirtual 170, 3) := by decide +kernel
theorem dX11_removes_9 : decode cX11_removes 9 = .ok (.ireturn, 1) := by decide +kernel
def f_X11_removes (a0 : Nat) (x1 : Int32) (x2 : Int32) (μ : jM) : Option (Int32 × jM) :=
  jcl2 (f_X7_takeValue (a0 + 5) x1 x2 μ) (fun v1 m2 => some ((v1, m2)))
set_option maxHeartbeats 4000000 in
set_option maxRecDepth 100000 in
theorem c_X11_removes {l : Launch} {G : jG} {L : jL} (hL : jOKL L) {a0 : Nat} {x1 : Int32} {x2 : Int32} (ka0 : jK L a0 11) {μ μ' : jM} {r : Int32} (h : f_X11_removes a0 x1 x2 μ = some ((r, μ'))) : jCt l G L 7 yX11_removes cX11_removes 3 (some .int) [.ref (L.2.2 a0), .int x1, .int x2] μ (some (.int r)) μ' := by
  refine jCt_of (by decide) (Nat.le_of_ble_eq_true rfl) (fun X hC hX hR => ?_)
  subst hX
  have hC : jC X G cX11_removes 3 RX11 (some .int) := hC
  unfold f_X11_removes at h
  show jJ X G 3 L 0 0 (jQM X G L (some (.int r)) μ' 0 0) 0 [(0, .ref (L.2.2 a0)), (1, .int x1), (2, .int x2)] [] μ
  refine j_aload_n (pc := 0) hC 0 0 dX11_removes_0 rfl rfl ?_
  refine jgr_11 (pc := 1) hC 2 (by decide) rfl kf_X11_26 dX11_removes_1 ka0 (ly_11_2 hL ka0).1 ?_
  refine j_iload_n (pc := 4) hC 1 1 dX11_removes_4 rfl rfl ?_
  refine j_iload_n (pc := 5) hC 2 2 dX11_removes_5 rfl rfl ?_
  obtain ⟨v1, m2, e3, h⟩ := jcl2_some h
  refine j_vi (pc := 6) hC hR [.int x1, .int x2] iy_X7_takeValue (q := (RX7, TX7, 3)) (ci := 7) rfl rfl (by decide) km_X11_170 dX11_removes_6 rfl (by decide) (ly_11_2 hL ka0).2.1 (c_X7_takeValue hL (ly_11_2 hL ka0).2.1 e3) (by decide) (Nat.le_of_ble_eq_true rfl) rfl ?_
  obtain ⟨rfl, rfl⟩ := Prod.mk.inj (Option.some.inj h)
  exact j_iret (pc := 9) hC dX11_removes_9 rfl
theorem dX11_fixes_0 : decode cX11_fixes 0 = .ok (.aload_n 0, 1) := by decide +kernel
theorem dX11_fixes_1 : decode cX11_fixes 1 = .ok (.getfield 26, 3) := by decide +kernel
theorem dX11_fixes_4 : decode cX11_fixes 4 = .ok (.iload_n 1, 1) := by decide +kernel
theorem dX11_fixes_5 : decode cX11_fixes 5 = .ok (.iload_n 2, 1) := by decide +kernel
theorem dX11_fixes_6 : decode cX11_fixes 6 = .ok (.invokevirtual 173, 3) := by decide +kernel
theorem dX11_fixes_9 : decode cX11_fixes 9 = .ok (.ireturn, 1) := by decide +kernel
def f_X11_fixes (a0 : Nat) (x1 : Int32) (x2 : Int32) (μ : jM) : Option (Int32 × jM) :=
  jcl2 (f_X7_fixVariable (a0 + 5) x1 x2 μ) (fun v1 m2 => some ((v1, m2)))
set_option maxHeartbeats 4000000 in
set_option maxRecDepth 100000 in
theorem c_X11_fixes {l : Launch} {G : jG} {L : jL} (hL : jOKL L) {a0 : Nat} {x1 : Int32} {x2 : Int32} (ka0 : jK L a0 11) {μ μ' : jM} {r : Int32} (h : f_X11_fixes a0 x1 x2 μ = some ((r, μ'))) : jCt l G L 7 yX11_fixes cX11_fixes 3 (some .int) [.ref (L.2.2 a0), .int x1, .int x2] μ (some (.int r)) μ' := by
  refine jCt_of (by decide) (Nat.le_of_ble_eq_true rfl) (fun X hC hX hR => ?_)
  subst hX
  have hC : jC X G cX11_fixes 3 RX11 (some .int) := hC
  unfold f_X11_fixes at h
  show jJ X G 3 L 0 0 (jQM X G L (some (.int r)) μ' 0 0) 0 [(0, .ref (L.2.2 a0)), (1, .int x1), (2, .int x2)] [] μ
  refine j_aload_n (pc := 0) hC 0 0 dX11_fixes_0 rfl rfl ?_
  refine jgr_11 (pc := 1) hC 2 (by decide) rfl kf_X11_26 dX11_fixes_1 ka0 (ly_11_2 hL ka0).1 ?_
  refine j_iload_n (pc := 4) hC 1 1 dX11_fixes_4 rfl rfl ?_
  refine j_iload_n (pc := 5) hC 2 2 dX11_fixes_5 rfl rfl ?_
  obtain ⟨v1, m2, e3, h⟩ := jcl2_some h
  refine j_vi (pc := 6) hC hR [.int x1, .int x2] iy_X7_fixVariable (q := (RX7, TX7, 3)) (ci := 7) rfl rfl (by decide) km_X11_173 dX11_fixes_6 rfl (by decide) (ly_11_2 hL ka0).2.1 (c_X7_fixVariable hL (ly_11_2 hL ka0).2.1 e3) (by decide) (Nat.le_of_ble_eq_true rfl) rfl ?_
  obtain ⟨rfl, rfl⟩ := Prod.mk.inj (Option.some.inj h)
  exact j_iret (pc := 9) hC dX11_fixes_9 rfl
theorem dX11_limits_0 : decode cX11_limits 0 = .ok (.aload_n 0, 1) := by decide +kernel
theorem dX11_limits_1 : decode cX11_limits 1 = .ok (.getfield 26, 3) := by decide +kernel
theorem dX11_limits_4 : decode cX11_limits 4 = .ok (.iload_n 1, 1) := by decide +kernel
theorem dX11_limits_5 : decode cX11_limits 5 = .ok (.iload_n 2, 1) := by decide +kernel
theorem dX11_limits_6 : decode cX11_limits 6 = .ok (.iload_n 3, 1) := by decide +kernel
theorem dX11_limits_7 : decode cX11_limits 7 = .ok (.invokevirtual 176, 3) := by decide +kernel
theorem dX11_limits_10 : decode cX11_limits 10 = .ok (.ireturn, 1) := by decide +kernel
def f_X11_limits (a0 : Nat) (x1 : Int32) (x2 : Int32) (x3 : Int32) (μ : jM) : Option (Int32 × jM) :=
  jcl2 (f_X7_limitVariable (a0 + 5) x1 x2 x3 μ) (fun v1 m2 => some ((v1, m2)))
set_option maxHeartbeats 4000000 in
set_option maxRecDepth 100000 in
theorem c_X11_limits {l : Launch} {G : jG} {L : jL} (hL : jOKL L) {a0 : Nat} {x1 : Int32} {x2 : Int32} {x3 : Int32} (ka0 : jK L a0 11) {μ μ' : jM} {r : Int32} (h : f_X11_limits a0 x1 x2 x3 μ = some ((r, μ'))) : jCt l G L 7 yX11_limits cX11_limits 4 (some .int) [.ref (L.2.2 a0), .int x1, .int x2, .int x3] μ (some (.int r)) μ' := by
  refine jCt_of (by decide) (Nat.le_of_ble_eq_true rfl) (fun X hC hX hR => ?_)
  subst hX
  have hC : jC X G cX11_limits 4 RX11 (some .int) := hC
  unfold f_X11_limits at h
  show jJ X G 4 L 0 0 (jQM X G L (some (.int r)) μ' 0 0) 0 [(0, .ref (L.2.2 a0)), (1, .int x1), (2, .int x2), (3, .int x3)] [] μ
  refine j_aload_n (pc := 0) hC 0 0 dX11_limits_0 rfl rfl ?_
  refine jgr_11 (pc := 1) hC 2 (by decide) rfl kf_X11_26 dX11_limits_1 ka0 (ly_11_2 hL ka0).1 ?_
  refine j_iload_n (pc := 4) hC 1 1 dX11_limits_4 rfl rfl ?_
  refine j_iload_n (pc := 5) hC 2 2 dX11_limits_5 rfl rfl ?_
  refine j_iload_n (pc := 6) hC 3 3 dX11_limits_6 rfl rfl ?_
  obtain ⟨v1, m2, e3, h⟩ := jcl2_some h
  refine j_vi (pc := 7) hC hR [.int x1, .int x2, .int x3] iy_X7_limitVariable (q := (RX7, TX7, 3)) (ci := 7) rfl rfl (by decide) km_X11_176 dX11_limits_7 rfl (by decide) (ly_11_2 hL ka0).2.1 (c_X7_limitVariable hL (ly_11_2 hL ka0).2.1 e3) (by decide) (Nat.le_of_ble_eq_true rfl) rfl ?_
  obtain ⟨rfl, rfl⟩ := Prod.mk.inj (Option.some.inj h)
  exact j_iret (pc := 10) hC dX11_limits_10 rfl
theorem dX11_renews_0 : decode cX11_renews 0 = .ok (.aload_n 0, 1) := by decide +kernel
theorem dX11_renews_1 : decode cX11_renews 1 = .ok (.getfield 26, 3) := by decide +kernel
theorem dX11_renews_4 : decode cX11_renews 4 = .ok (.iload_n 1, 1) := by decide +kernel
theorem dX11_renews_5 : decode cX11_renews 5 = .ok (.invokevirtual 180, 3) := by decide +kernel
theorem dX11_renews_8 : decode cX11_renews 8 = .ok (.ireturn, 1) := by decide +kernel
def f_X11_renews (a0 : Nat) (x1 : Int32) (μ : jM) : Option (Int32 × jM) :=
  jcl2 (f_X7_renewVariable (a0 + 5) x1 μ) (fun v1 m2 => some ((v1, m2)))
set_option maxHeartbeats 4000000 in
set_option maxRecDepth 100000 in
theorem c_X11_renews {l : Launch} {G : jG} {L : jL} (hL : jOKL L) {a0 : Nat} {x1 : Int32} (ka0 : jK L a0 11) {μ μ' : jM} {r : Int32} (h : f_X11_renews a0 x1 μ = some ((r, μ'))) : jCt l G L 7 yX11_renews cX11_renews 2 (some .int) [.ref (L.2.2 a0), .int x1] μ (some (.int r)) μ' := by
  refine jCt_of (by decide) (Nat.le_of_ble_eq_true rfl) (fun X hC hX hR => ?_)
  subst hX
  have hC : jC X G cX11_renews 2 RX11 (some .int) := hC
  unfold f_X11_renews at h
  show jJ X G 2 L 0 0 (jQM X G L (some (.int r)) μ' 0 0) 0 [(0, .ref (L.2.2 a0)), (1, .int x1)] [] μ
  refine j_aload_n (pc := 0) hC 0 0 dX11_renews_0 rfl rfl ?_
  refine jgr_11 (pc := 1) hC 2 (by decide) rfl kf_X11_26 dX11_renews_1 ka0 (ly_11_2 hL ka0).1 ?_
  refine j_iload_n (pc := 4) hC 1 1 dX11_renews_4 rfl rfl ?_
  obtain ⟨v1, m2, e3, h⟩ := jcl2_some h
  refine j_vi (pc := 5) hC hR [.int x1] iy_X7_renewVariable (q := (RX7, TX7, 3)) (ci := 7) rfl rfl (by decide) km_X11_180 dX11_renews_5 rfl (by decide) (ly_11_2 hL ka0).2.1 (c_X7_renewVariable hL (ly_11_2 hL ka0).2.1 e3) (by decide) (Nat.le_of_ble_eq_true rfl) rfl ?_
  obtain ⟨rfl, rfl⟩ := Prod.mk.inj (Option.some.inj h)
  exact j_iret (pc := 8) hC dX11_renews_8 rfl
theorem dX11_puts_0 : decode cX11_puts 0 = .ok (.aload_n 0, 1) := by decide +kernel
theorem dX11_puts_1 : decode cX11_puts 1 = .ok (.getfield 26, 3) := by decide +kernel
theorem dX11_puts_4 : decode cX11_puts 4 = .ok (.iload_n 1, 1) := by decide +kernel
theorem dX11_puts_5 : decode cX11_puts 5 = .ok (.iload_n 2, 1) := by decide +kernel
theorem dX11_puts_6 : decode cX11_puts 6 = .ok (.invokevirtual 183, 3) := by decide +kernel
theorem dX11_puts_9 : decode cX11_puts 9 = .ok (.ireturn, 1) := by decide +kernel
def f_X11_puts (a0 : Nat) (x1 : Int32) (x2 : Int32) (μ : jM) : Option (Int32 × jM) :=
  jcl2 (f_X7_putKey (a0 + 5) x1 x2 μ) (fun v1 m2 => some ((v1, m2)))
set_option maxHeartbeats 4000000 in
set_option maxRecDepth 100000 in
theorem c_X11_puts {l : Launch} {G : jG} {L : jL} (hL : jOKL L) {a0 : Nat} {x1 : Int32} {x2 : Int32} (ka0 : jK L a0 11) {μ μ' : jM} {r : Int32} (h : f_X11_puts a0 x1 x2 μ = some ((r, μ'))) : jCt l G L 6 yX11_puts cX11_puts 3 (some .int) [.ref (L.2.2 a0), .int x1, .int x2] μ (some (.int r)) μ' := by
  refine jCt_of (by decide) (Nat.le_of_ble_eq_true rfl) (fun X hC hX hR => ?_)
  subst hX
  have hC : jC X G cX11_puts 3 RX11 (some .int) := hC
  unfold f_X11_puts at h
  show jJ X G 3 L 0 0 (jQM X G L (some (.int r)) μ' 0 0) 0 [(0, .ref (L.2.2 a0)), (1, .int x1), (2, .int x2)] [] μ
  refine j_aload_n (pc := 0) hC 0 0 dX11_puts_0 rfl rfl ?_
  refine jgr_11 (pc := 1) hC 2 (by decide) rfl kf_X11_26 dX11_puts_1 ka0 (ly_11_2 hL ka0).1 ?_
  refine j_iload_n (pc := 4) hC 1 1 dX11_puts_4 rfl rfl ?_
  refine j_iload_n (pc := 5) hC 2 2 dX11_puts_5 rfl rfl ?_
  obtain ⟨v1, m2, e3, h⟩ := jcl2_some h
  refine j_vi (pc := 6) hC hR [.int x1, .int x2] iy_X7_putKey (q := (RX7, TX7, 3)) (ci := 7) rfl rfl (by decide) km_X11_183 dX11_puts_6 rfl (by decide) (ly_11_2 hL ka0).2.1 (c_X7_putKey hL (ly_11_2 hL ka0).2.1 e3) (by decide) (Nat.le_of_ble_eq_true rfl) rfl ?_
  obtain ⟨rfl, rfl⟩ := Prod.mk.inj (Option.some.inj h)
  exact j_iret (pc := 9) hC dX11_puts_9 rfl
theorem dX11_drops_0 : decode cX11_drops 0 = .ok (.aload_n 0, 1) := by decide +kernel
theorem dX11_drops_1 : decode cX11_drops 1 = .ok (.getfield 26, 3) := by decide +kernel
theorem dX11_drops_4 : decode cX11_drops 4 = .ok (.iload_n 1, 1) := by decide +kernel
theorem dX11_drops_5 : decode cX11_drops 5 = .ok (.invokevirtual 186, 3) := by decide +kernel
theorem dX11_drops_8 : decode cX11_drops 8 = .ok (.ireturn, 1) := by decide +kernel
def f_X11_drops (a0 : Nat) (x1 : Int32) (μ : jM) : Option (Int32 × jM) :=
  jcl2 (f_X7_dropKey (a0 + 5) x1 μ) (fun v1 m2 => some ((v1, m2)))
set_option maxHeartbeats 4000000 in
set_option maxRecDepth 100000 in
theorem c_X11_drops {l : Launch} {G : jG} {L : jL} (hL : jOKL L) {a0 : Nat} {x1 : Int32} (ka0 : jK L a0 11) {μ μ' : jM} {r : Int32} (h : f_X11_drops a0 x1 μ = some ((r, μ'))) : jCt l G L 6 yX11_drops cX11_drops 2 (some .int) [.ref (L.2.2 a0), .int x1] μ (some (.int r)) μ' := by
  refine jCt_of (by decide) (Nat.le_of_ble_eq_true rfl) (fun X hC hX hR => ?_)
  subst hX
  have hC : jC X G cX11_drops 2 RX11 (some .int) := hC
  unfold f_X11_drops at h
  show jJ X G 2 L 0 0 (jQM X G L (some (.int r)) μ' 0 0) 0 [(0, .ref (L.2.2 a0)), (1, .int x1)] [] μ
  refine j_aload_n (pc := 0) hC 0 0 dX11_drops_0 rfl rfl ?_
  refine jgr_11 (pc := 1) hC 2 (by decide) rfl kf_X11_26 dX11_drops_1 ka0 (ly_11_2 hL ka0).1 ?_
  refine j_iload_n (pc := 4) hC 1 1 dX11_drops_4 rfl rfl ?_
  obtain ⟨v1, m2, e3, h⟩ := jcl2_some h
  refine j_vi (pc := 5) hC hR [.int x1] iy_X7_dropKey (q := (RX7, TX7, 3)) (ci := 7) rfl rfl (by decide) km_X11_186 dX11_drops_5 rfl (by decide) (ly_11_2 hL ka0).2.1 (c_X7_dropKey hL (ly_11_2 hL ka0).2.1 e3) (by decide) (Nat.le_of_ble_eq_true rfl) rfl ?_
  obtain ⟨rfl, rfl⟩ := Prod.mk.inj (Option.some.inj h)
  exact j_iret (pc := 8) hC dX11_drops_8 rfl
theorem dX11_posts_0 : decode cX11_posts 0 = .ok (.aload_n 0, 1) := by decide +kernel
theorem dX11_posts_1 : decode cX11_posts 1 = .ok (.getfield 67, 3) := by decide +kernel
theorem dX11_posts_4 : decode cX11_posts 4 = .ok (.invokevirtual 189, 3) := by decide +kernel
theorem dX11_posts_7 : decode cX11_posts 7 = .ok (.istore_n 1, 1) := by decide +kernel
theorem dX11_posts_8 : decode cX11_posts 8 = .ok (.aload_n 0, 1) := by decide +kernel
theorem dX11_posts_9 : decode cX11_posts 9 = .ok (.getfield 12, 3) := by decide +kernel
theorem dX11_posts_12 : decode cX11_posts 12 = .ok (.invokevirtual 192, 3) := by decide +kernel
theorem dX11_posts_15 : decode cX11_posts 15 = .ok (.iload_n 1, 1) := by decide +kernel
theorem dX11_posts_16 : decode cX11_posts 16 = .ok (.iconst (-1), 1) := by decide +kernel
theorem dX11_posts_17 : decode cX11_posts 17 = .ok (.if_icmp .eq 7, 3) := by decide +kernel
theorem dX11_posts_20 : decode cX11_posts 20 = .ok (.iconst (-1), 1) := by decide +kernel
theorem dX11_posts_21 : decode cX11_posts 21 = .ok (.iload_n 1, 1) := by decide +kernel
theorem dX11_posts_22 : decode cX11_posts 22 = .ok (.isub, 1) := by decide +kernel
theorem dX11_posts_23 : decode cX11_posts 23 = .ok (.ireturn, 1) := by decide +kernel
theorem dX11_posts_24 : decode cX11_posts 24 = .ok (.aload_n 0, 1) := by decide +kernel
theorem dX11_posts_25 : decode cX11_posts 25 = .ok (.getfield 26, 3) := by decide +kernel
theorem dX11_posts_28 : decode cX11_posts 28 = .ok (.getfield 42, 3) := by decide +kernel
theorem dX11_posts_31 : decode cX11_posts 31 = .ok (.getfield 138, 3) := by decide +kernel
theorem dX11_posts_34 : decode cX11_posts 34 = .ok (.aload_n 0, 1) := by decide +kernel
theorem dX11_posts_35 : decode cX11_posts 35 = .ok (.getfield 67, 3) := by decide +kernel
theorem dX11_posts_38 : decode cX11_posts 38 = .ok (.getfield 195, 3) := by decide +kernel
theorem dX11_posts_41 : decode cX11_posts 41 = .ok (.iadd, 1) := by decide +kernel
theorem dX11_posts_42 : decode cX11_posts 42 = .ok (.bipush 8, 2) := by decide +kernel
theorem dX11_posts_44 : decode cX11_posts 44 = .ok (.if_icmp .le 6, 3) := by decide +kernel
theorem dX11_posts_47 : decode cX11_posts 47 = .ok (.bipush (-100), 2) := by decide +kernel
theorem dX11_posts_49 : decode cX11_posts 49 = .ok (.ireturn, 1) := by decide +kernel
theorem dX11_posts_50 : decode cX11_posts 50 = .ok (.aload_n 0, 1) := by decide +kernel
theorem dX11_posts_51 : decode cX11_posts 51 = .ok (.getfield 26, 3) := by decide +kernel
theorem dX11_posts_54 : decode cX11_posts 54 = .ok (.aload_n 0, 1) := by decide +kernel
theorem dX11_posts_55 : decode cX11_posts 55 = .ok (.getfield 67, 3) := by decide +kernel
theorem dX11_posts_58 : decode cX11_posts 58 = .ok (.getfield 198, 3) := by decide +kernel
theorem dX11_posts_61 : decode cX11_posts 61 = .ok (.aload_n 0, 1) := by decide +kernel
theorem dX11_posts_62 : decode cX11_posts 62 = .ok (.getfield 67, 3) := by decide +kernel
theorem dX11_posts_65 : decode cX11_posts 65 = .ok (.getfield 195, 3) := by decide +kernel
theorem dX11_posts_68 : decode cX11_posts 68 = .ok (.invokevirtual 201, 3) := by decide +kernel
theorem dX11_posts_71 : decode cX11_posts 71 = .ok (.aload_n 0, 1) := by decide +kernel
theorem dX11_posts_72 : decode cX11_posts 72 = .ok (.getfield 67, 3) := by decide +kernel
theorem dX11_posts_75 : decode cX11_posts 75 = .ok (.getfield 195, 3) := by decide +kernel
theorem dX11_posts_78 : decode cX11_posts 78 = .ok (.ireturn, 1) := by decide +kernel
def f_X11_posts (a0 : Nat) (μ : jM) : Option (Int32 × jM) :=
  jcl2 (f_X2_fault (a0 + 177) μ) (fun v1 m2 => jbd (f_X8_empty (a0 + 1) m2) (fun m4 => (if v1 = (-1 : Int32) then (if ((m4.1 (a0 + 6) 6) + (m4.1 (a0 + 177) 1)) ≤ (8 : Int32) then jcl (f_X7_addConstraints (a0 + 5) (a0 + 178) (m4.1 (a0 + 177) 1) m4) (fun m8 => some ((m8.1 (a0 + 177) 1, m8))) else some (((-100 : Int32), m4))) else some (((-1 : Int32) - v1, m4)))))
set_option maxHeartbeats 4000000 in
set_option maxRecDepth 100000 in
theorem c_X11_posts {l : Launch} {G : jG} {L : jL} (hL : jOKL L) {a0 : Nat} (ka0 : jK L a0 11) {μ μ' : jM} {r : Int32} (h : f_X11_posts a0 μ = some ((r, μ'))) : jCt l G L 7 yX11_posts cX11_posts 2 (some .int) [.ref (L.2.2 a0)] μ (some (.int r)) μ' := by
  refine jCt_of (by decide) (Nat.le_of_ble_eq_true rfl) (fun X hC hX hR => ?_)
  subst hX
  have hC : jC X G cX11_posts 2 RX11 (some .int) := hC
  unfold f_X11_posts at h
  show jJ X G 2 L 0 0 (jQM X G L (some (.int r)) μ' 0 0) 0 [(0, .ref (L.2.2 a0))] [] μ
  refine j_aload_n (pc := 0) hC 0 0 dX11_posts_0 rfl rfl ?_
  refine jgr_11 (pc := 1) hC 7 (by decide) rfl kf_X11_67 dX11_posts_1 ka0 (ly_11_7 hL ka0).1 ?_
  obtain ⟨v1, m2, e3, h⟩ := jcl2_some h
  refine j_vi (pc := 4) hC hR [] iy_X2_fault (q := (RX2, TX2, 3)) (ci := 2) rfl rfl (by decide) km_X11_189 dX11_posts_4 rfl (by decide) (ly_11_7 hL ka0).2.1 (c_X2_fault hL (ly_11_7 hL ka0).2.1 e3) (by decide) (Nat.le_of_ble_eq_true rfl) rfl ?_
  refine j_istore_n (pc := 7) hC 1 [(1, .int v1), (0, .ref (L.2.2 a0))] dX11_posts_7 rfl (by decide) rfl rfl ?_
  refine j_aload_n (pc := 8) hC 0 1 dX11_posts_8 rfl rfl ?_
  refine jgr_11 (pc := 9) hC 0 (by decide) rfl kf_X11_12 dX11_posts_9 ka0 (ly_11_0 hL ka0).1 ?_
  obtain ⟨m4, e5, h⟩ := jbd_ex h
  refine j_vv (pc := 12) hC hR [] iy_X8_empty (q := (RX8, TX8, 2)) (ci := 8) rfl rfl (by decide) km_X11_192 dX11_posts_12 rfl (by decide) (ly_11_0 hL ka0).2.1 (c_X8_empty hL (ly_11_0 hL ka0).2.1 e5.symm) (by decide) (Nat.le_of_ble_eq_true rfl) rfl ?_
  refine j_iload_n (pc := 15) hC 1 0 dX11_posts_15 rfl rfl ?_
  refine j_iconst (pc := 16) hC (-1 : Int32) dX11_posts_16 (by decide) ?_
  refine j_icmp_eq (pc := 17) hC 24 dX11_posts_17 (by decide) (fun c6 => ?_) (fun c6 => ?_)
  · rw [if_pos c6] at h
    refine j_aload_n (pc := 24) hC 0 1 dX11_posts_24 rfl rfl ?_
    refine jgr_11 (pc := 25) hC 2 (by decide) rfl kf_X11_26 dX11_posts_25 ka0 (ly_11_2 hL ka0).1 ?_
    refine jgr_7 (pc := 28) hC 0 (by decide) rfl kf_X11_42 dX11_posts_28 (ly_11_2 hL ka0).2.1 (ly_7_0 hL (ly_11_2 hL ka0).2.1).1 ?_
    refine jgi_9 (pc := 31) hC 6 (by decide) rfl kf_X11_138 dX11_posts_31 (ly_7_0 hL (ly_11_2 hL ka0).2.1).2.1 ?_
    refine j_aload_n (pc := 34) hC 0 1 dX11_posts_34 rfl rfl ?_
    refine jgr_11 (pc := 35) hC 7 (by decide) rfl kf_X11_67 dX11_posts_35 ka0 (ly_11_7 hL ka0).1 ?_
    refine jgi_2 (pc := 38) hC 1 (by decide) rfl kf_X11_195 dX11_posts_38 (ly_11_7 hL ka0).2.1 ?_
    refine j_iadd (pc := 41) hC dX11_posts_41 ?_
    refine j_bipush (pc := 42) hC (8 : Int32) dX11_posts_42 (by decide) ?_
    refine j_icmp_le (pc := 44) hC 50 dX11_posts_44 (by decide) (fun c7 => ?_) (fun c7 => ?_)
    · rw [if_pos c7] at h
      refine j_aload_n (pc := 50) hC 0 1 dX11_posts_50 rfl rfl ?_
      refine jgr_11 (pc := 51) hC 2 (by decide) rfl kf_X11_26 dX11_posts_51 ka0 (ly_11_2 hL ka0).1 ?_
      refine j_aload_n (pc := 54) hC 0 1 dX11_posts_54 rfl rfl ?_
      refine jgr_11 (pc := 55) hC 7 (by decide) rfl kf_X11_67 dX11_posts_55 ka0 (ly_11_7 hL ka0).1 ?_
      refine jgr_2 (pc := 58) hC 0 (by decide) rfl kf_X11_198 dX11_posts_58 (ly_11_7 hL ka0).2.1 (ly_2_0 hL (ly_11_7 hL ka0).2.1).1 ?_
      refine j_aload_n (pc := 61) hC 0 1 dX11_posts_61 rfl rfl ?_
      refine jgr_11 (pc := 62) hC 7 (by decide) rfl kf_X11_67 dX11_posts_62 ka0 (ly_11_7 hL ka0).1 ?_
      refine jgi_2 (pc := 65) hC 1 (by decide) rfl kf_X11_195 dX11_posts_65 (ly_11_7 hL ka0).2.1 ?_
      obtain ⟨m8, e9, h⟩ := jcl_some h
      refine j_vv (pc := 68) hC hR [.ref (L.2.2 (a0 + 178)), .int (m4.1 (a0 + 177) 1)] iy_X7_addConstraints (q := (RX7, TX7, 3)) (ci := 7) rfl rfl (by decide) km_X11_201 dX11_posts_68 rfl (by decide) (ly_11_2 hL ka0).2.1 (c_X7_addConstraints hL (ly_11_2 hL ka0).2.1 (ly_2_0 hL (ly_11_7 hL ka0).2.1).2.1 e9) (by decide) (Nat.le_of_ble_eq_true rfl) rfl ?_
      refine j_aload_n (pc := 71) hC 0 1 dX11_posts_71 rfl rfl ?_
      refine jgr_11 (pc := 72) hC 7 (by decide) rfl kf_X11_67 dX11_posts_72 ka0 (ly_11_7 hL ka0).1 ?_
      refine jgi_2 (pc := 75) hC 1 (by decide) rfl kf_X11_195 dX11_posts_75 (ly_11_7 hL ka0).2.1 ?_
      obtain ⟨rfl, rfl⟩ := Prod.mk.inj (Option.some.inj h)
      exact j_iret (pc := 78) hC dX11_posts_78 rfl
    · rw [if_neg c7] at h
      refine j_bipush (pc := 47) hC (-100 : Int32) dX11_posts_47 (by decide) ?_
      obtain ⟨rfl, rfl⟩ := Prod.mk.inj (Option.some.inj h)
      exact j_iret (pc := 49) hC dX11_posts_49 rfl
  · rw [if_neg c6] at h
    refine j_iconst (pc := 20) hC (-1 : Int32) dX11_posts_20 (by decide) ?_
    refine j_iload_n (pc := 21) hC 1 0 dX11_posts_21 rfl rfl ?_
    refine j_isub (pc := 22) hC dX11_posts_22 ?_
    obtain ⟨rfl, rfl⟩ := Prod.mk.inj (Option.some.inj h)
    exact j_iret (pc := 23) hC dX11_posts_23 rfl
theorem dX11_lifts_0 : decode cX11_lifts 0 = .ok (.aload_n 0, 1) := by decide +kernel
theorem dX11_lifts_1 : decode cX11_lifts 1 = .ok (.getfield 26, 3) := by decide +kernel
theorem dX11_lifts_4 : decode cX11_lifts 4 = .ok (.iload_n 1, 1) := by decide +kernel
theorem dX11_lifts_5 : decode cX11_lifts 5 = .ok (.invokevirtual 205, 3) := by decide +kernel
theorem dX11_lifts_8 : decode cX11_lifts 8 = .ok (.ireturn, 1) := by decide +kernel
def f_X11_lifts (a0 : Nat) (x1 : Int32) (μ : jM) : Option (Int32 × jM) :=
  jcl2 (f_X7_liftConstraint (a0 + 5) x1 μ) (fun v1 m2 => some ((v1, m2)))
set_option maxHeartbeats 4000000 in
set_option maxRecDepth 100000 in
theorem c_X11_lifts {l : Launch} {G : jG} {L : jL} (hL : jOKL L) {a0 : Nat} {x1 : Int32} (ka0 : jK L a0 11) {μ μ' : jM} {r : Int32} (h : f_X11_lifts a0 x1 μ = some ((r, μ'))) : jCt l G L 6 yX11_lifts cX11_lifts 2 (some .int) [.ref (L.2.2 a0), .int x1] μ (some (.int r)) μ' := by
  refine jCt_of (by decide) (Nat.le_of_ble_eq_true rfl) (fun X hC hX hR => ?_)
  subst hX
  have hC : jC X G cX11_lifts 2 RX11 (some .int) := hC
  unfold f_X11_lifts at h
  show jJ X G 2 L 0 0 (jQM X G L (some (.int r)) μ' 0 0) 0 [(0, .ref (L.2.2 a0)), (1, .int x1)] [] μ
  refine j_aload_n (pc := 0) hC 0 0 dX11_lifts_0 rfl rfl ?_
  refine jgr_11 (pc := 1) hC 2 (by decide) rfl kf_X11_26 dX11_lifts_1 ka0 (ly_11_2 hL ka0).1 ?_
  refine j_iload_n (pc := 4) hC 1 1 dX11_lifts_4 rfl rfl ?_
  obtain ⟨v1, m2, e3, h⟩ := jcl2_some h
  refine j_vi (pc := 5) hC hR [.int x1] iy_X7_liftConstraint (q := (RX7, TX7, 3)) (ci := 7) rfl rfl (by decide) km_X11_205 dX11_lifts_5 rfl (by decide) (ly_11_2 hL ka0).2.1 (c_X7_liftConstraint hL (ly_11_2 hL ka0).2.1 e3) (by decide) (Nat.le_of_ble_eq_true rfl) rfl ?_
  obtain ⟨rfl, rfl⟩ := Prod.mk.inj (Option.some.inj h)
  exact j_iret (pc := 8) hC dX11_lifts_8 rfl
theorem dX11_spreads_0 : decode cX11_spreads 0 = .ok (.aload_n 0, 1) := by decide +kernel
theorem dX11_spreads_1 : decode cX11_spreads 1 = .ok (.getfield 26, 3) := by decide +kernel
theorem dX11_spreads_4 : decode cX11_spreads 4 = .ok (.aload_n 0, 1) := by decide +kernel
theorem dX11_spreads_5 : decode cX11_spreads 5 = .ok (.getfield 36, 3) := by decide +kernel
theorem dX11_spreads_8 : decode cX11_spreads 8 = .ok (.invokevirtual 208, 3) := by decide +kernel
theorem dX11_spreads_11 : decode cX11_spreads 11 = .ok (.ireturn, 1) := by decide +kernel
def f_X11_spreads (a0 : Nat) (μ : jM) : Option (Int32 × jM) :=
  jcl2 (f_X7_spreadAll (a0 + 5) (a0 + 165) μ) (fun v1 m2 => some ((v1, m2)))
set_option maxHeartbeats 4000000 in
set_option maxRecDepth 100000 in
theorem c_X11_spreads {l : Launch} {G : jG} {L : jL} (hL : jOKL L) {a0 : Nat} (ka0 : jK L a0 11) {μ μ' : jM} {r : Int32} (h : f_X11_spreads a0 μ = some ((r, μ'))) : jCt l G L 7 yX11_spreads cX11_spreads 1 (some .int) [.ref (L.2.2 a0)] μ (some (.int r)) μ' := by
  refine jCt_of (by decide) (Nat.le_of_ble_eq_true rfl) (fun X hC hX hR => ?_)
  subst hX
  have hC : jC X G cX11_spreads 1 RX11 (some .int) := hC
  unfold f_X11_spreads at h
  show jJ X G 1 L 0 0 (jQM X G L (some (.int r)) μ' 0 0) 0 [(0, .ref (L.2.2 a0))] [] μ
  refine j_aload_n (pc := 0) hC 0 0 dX11_spreads_0 rfl rfl ?_
  refine jgr_11 (pc := 1) hC 2 (by decide) rfl kf_X11_26 dX11_spreads_1 ka0 (ly_11_2 hL ka0).1 ?_
  refine j_aload_n (pc := 4) hC 0 0 dX11_spreads_4 rfl rfl ?_
  refine jgr_11 (pc := 5) hC 4 (by decide) rfl kf_X11_36 dX11_spreads_5 ka0 (ly_11_4 hL ka0).1 ?_
  obtain ⟨v1, m2, e3, h⟩ := jcl2_some h
  refine j_vi (pc := 8) hC hR [.ref (L.2.2 (a0 + 165))] iy_X7_spreadAll (q := (RX7, TX7, 3)) (ci := 7) rfl rfl (by decide) km_X11_208 dX11_spreads_8 rfl (by decide) (ly_11_2 hL ka0).2.1 (c_X7_spreadAll hL (ly_11_2 hL ka0).2.1 (ly_11_4 hL ka0).2.1 e3) (by decide) (Nat.le_of_ble_eq_true rfl) rfl ?_
  obtain ⟨rfl, rfl⟩ := Prod.mk.inj (Option.some.inj h)
  exact j_iret (pc := 11) hC dX11_spreads_11 rfl
theorem dX11_opens_0 : decode cX11_opens 0 = .ok (.aload_n 0, 1) := by decide +kernel
theorem dX11_opens_1 : decode cX11_opens 1 = .ok (.getfield 26, 3) := by decide +kernel
theorem dX11_opens_4 : decode cX11_opens 4 = .ok (.invokevirtual 212, 3) := by decide +kernel
theorem dX11_opens_7 : decode cX11_opens 7 = .ok (.ireturn, 1) := by decide +kernel
def f_X11_opens (a0 : Nat) (μ : jM) : Option (Int32 × jM) :=
  jcl2 (f_X7_openLevel (a0 + 5) μ) (fun v1 m2 => some ((v1, m2)))
set_option maxHeartbeats 4000000 in
set_option maxRecDepth 100000 in
theorem c_X11_opens {l : Launch} {G : jG} {L : jL} (hL : jOKL L) {a0 : Nat} (ka0 : jK L a0 11) {μ μ' : jM} {r : Int32} (h : f_X11_opens a0 μ = some ((r, μ'))) : jCt l G L 6 yX11_opens cX11_opens 1 (some .int) [.ref (L.2.2 a0)] μ (some (.int r)) μ' := by
  refine jCt_of (by decide) (Nat.le_of_ble_eq_true rfl) (fun X hC hX hR => ?_)
  subst hX
  have hC : jC X G cX11_opens 1 RX11 (some .int) := hC
  unfold f_X11_opens at h
  show jJ X G 1 L 0 0 (jQM X G L (some (.int r)) μ' 0 0) 0 [(0, .ref (L.2.2 a0))] [] μ
  refine j_aload_n (pc := 0) hC 0 0 dX11_opens_0 rfl rfl ?_
  refine jgr_11 (pc := 1) hC 2 (by decide) rfl kf_X11_26 dX11_opens_1 ka0 (ly_11_2 hL ka0).1 ?_
  obtain ⟨v1, m2, e3, h⟩ := jcl2_some h
  refine j_vi (pc := 4) hC hR [] iy_X7_openLevel (q := (RX7, TX7, 3)) (ci := 7) rfl rfl (by decide) km_X11_212 dX11_opens_4 rfl (by decide) (ly_11_2 hL ka0).2.1 (c_X7_openLevel hL (ly_11_2 hL ka0).2.1 e3) (by decide) (Nat.le_of_ble_eq_true rfl) rfl ?_
  obtain ⟨rfl, rfl⟩ := Prod.mk.inj (Option.some.inj h)
  exact j_iret (pc := 7) hC dX11_opens_7 rfl
theorem dX11_closeAndTell_0 : decode cX11_closeAndTell 0 = .ok (.aload_n 0, 1) := by decide +kernel
theorem dX11_closeAndTell_1 : decode cX11_closeAndTell 1 = .ok (.getfield 19, 3) := by decide +kernel
theorem dX11_closeAndTell_4 : decode cX11_closeAndTell 4 = .ok (.iload_n 1, 1) := by decide +kernel
theorem dX11_closeAndTell_5 : decode cX11_closeAndTell 5 = .ok (.aload_n 0, 1) := by decide +kernel
theorem dX11_closeAndTell_6 : decode cX11_closeAndTell 6 = .ok (.getfield 26, 3) := by decide +kernel
theorem dX11_closeAndTell_9 : decode cX11_closeAndTell 9 = .ok (.getfield 215, 3) := by decide +kernel
theorem dX11_closeAndTell_12 : decode cX11_closeAndTell 12 = .ok (.if_icmp .ge 29, 3) := by decide +kernel
theorem dX11_closeAndTell_15 : decode cX11_closeAndTell 15 = .ok (.aload_n 0, 1) := by decide +kernel
theorem dX11_closeAndTell_16 : decode cX11_closeAndTell 16 = .ok (.getfield 26, 3) := by decide +kernel
theorem dX11_closeAndTell_19 : decode cX11_closeAndTell 19 = .ok (.getfield 42, 3) := by decide +kernel
theorem dX11_closeAndTell_22 : decode cX11_closeAndTell 22 = .ok (.aload_n 0, 1) := by decide +kernel
theorem dX11_closeAndTell_23 : decode cX11_closeAndTell 23 = .ok (.getfield 26, 3) := by decide +kernel
theorem dX11_closeAndTell_26 : decode cX11_closeAndTell 26 = .ok (.getfield 222, 3) := by decide +kernel
theorem dX11_closeAndTell_29 : decode cX11_closeAndTell 29 = .ok (.iload_n 1, 1) := by decide +kernel
theorem dX11_closeAndTell_30 : decode cX11_closeAndTell 30 = .ok (.aaload, 1) := by decide +kernel
theorem dX11_closeAndTell_31 : decode cX11_closeAndTell 31 = .ok (.getfield 226, 3) := by decide +kernel
theorem dX11_closeAndTell_34 : decode cX11_closeAndTell 34 = .ok (.invokevirtual 231, 3) := by decide +kernel
theorem dX11_closeAndTell_37 : decode cX11_closeAndTell 37 = .ok (.i2l, 1) := by decide +kernel
theorem dX11_closeAndTell_38 : decode cX11_closeAndTell 38 = .ok (.goto 4, 3) := by decide +kernel
theorem dX11_closeAndTell_41 : decode cX11_closeAndTell 41 = .ok (.lconst 0, 1) := by decide +kernel
theorem dX11_closeAndTell_42 : decode cX11_closeAndTell 42 = .ok (.invokevirtual 235, 3) := by decide +kernel
theorem dX11_closeAndTell_45 : decode cX11_closeAndTell 45 = .ok (.aload_n 0, 1) := by decide +kernel
theorem dX11_closeAndTell_46 : decode cX11_closeAndTell 46 = .ok (.getfield 26, 3) := by decide +kernel
theorem dX11_closeAndTell_49 : decode cX11_closeAndTell 49 = .ok (.iload_n 1, 1) := by decide +kernel
theorem dX11_closeAndTell_50 : decode cX11_closeAndTell 50 = .ok (.invokevirtual 239, 3) := by decide +kernel
theorem dX11_closeAndTell_53 : decode cX11_closeAndTell 53 = .ok (.return_, 1) := by decide +kernel
def f_X11_closeAndTell (a0 : Nat) (x1 : Int32) (μ : jM) : Option (jM) :=
  jbd (fun (t1 : Int64) => jcl (f_X3_only (a0 + 3) t1 μ) (fun m5 => jcl (f_X7_closeTo (a0 + 5) x1 m5) (fun m7 => some m7))) (fun k2 => (if (μ.1 (a0 + 5) 2) ≤ x1 then k2 (0 : Int64) else jin x1 9 (jcl (f_X9_otherThings (a0 + 6) (((a0 + 13) + 8 * x1.toNatClampNeg) + 1) μ) (fun v11 => k2 v11.toInt64))))
set_option maxHeartbeats 4000000 in
set_option maxRecDepth 100000 in
theorem c_X11_closeAndTell {l : Launch} {G : jG} {L : jL} (hL : jOKL L) {a0 : Nat} {x1 : Int32} (ka0 : jK L a0 11) {μ μ' : jM} (h : f_X11_closeAndTell a0 x1 μ = some μ') : jCt l G L 7 yX11_closeAndTell cX11_closeAndTell 2 none [.ref (L.2.2 a0), .int x1] μ none μ' := by
  refine jCt_of (by decide) (Nat.le_of_ble_eq_true rfl) (fun X hC hX hR => ?_)
  subst hX
  have hC : jC X G cX11_closeAndTell 2 RX11 none := hC
  unfold f_X11_closeAndTell at h
  show jJ X G 2 L 0 0 (jQM X G L none μ' 0 0) 0 [(0, .ref (L.2.2 a0)), (1, .int x1)] [] μ
  refine j_aload_n (pc := 0) hC 0 0 dX11_closeAndTell_0 rfl rfl ?_
  refine jgr_11 (pc := 1) hC 1 (by decide) rfl kf_X11_19 dX11_closeAndTell_1 ka0 (ly_11_1 hL ka0).1 ?_
  refine j_iload_n (pc := 4) hC 1 1 dX11_closeAndTell_4 rfl rfl ?_
  refine j_aload_n (pc := 5) hC 0 0 dX11_closeAndTell_5 rfl rfl ?_
  refine jgr_11 (pc := 6) hC 2 (by decide) rfl kf_X11_26 dX11_closeAndTell_6 ka0 (ly_11_2 hL ka0).1 ?_
  refine jgi_7 (pc := 9) hC 2 (by decide) rfl kf_X11_215 dX11_closeAndTell_9 (ly_11_2 hL ka0).2.1 ?_
  obtain ⟨k2, e4, h⟩ := jbd_ex h
  have q3 : ∀ (t1 : Int64), k2 t1 = some μ' → jJ X G 2 L 0 0 (jQM X G L none μ' 0 0) 42 [(0, .ref (L.2.2 a0)), (1, .int x1)] [.long t1, .ref (L.2.2 (a0 + 3))] μ := by
    intro t1 h
    rw [e4] at h
    try dsimp only at h
    obtain ⟨m5, e6, h⟩ := jcl_some h
    refine j_vv (pc := 42) hC hR [.long t1] iy_X3_only (q := (RX3, TX3, 2)) (ci := 3) rfl rfl (by decide) km_X11_235 dX11_closeAndTell_42 rfl (by decide) (ly_11_1 hL ka0).2.1 (c_X3_only hL (ly_11_1 hL ka0).2.1 e6) (by decide) (Nat.le_of_ble_eq_true rfl) rfl ?_
    refine j_aload_n (pc := 45) hC 0 0 dX11_closeAndTell_45 rfl rfl ?_
    refine jgr_11 (pc := 46) hC 2 (by decide) rfl kf_X11_26 dX11_closeAndTell_46 ka0 (ly_11_2 hL ka0).1 ?_
    refine j_iload_n (pc := 49) hC 1 1 dX11_closeAndTell_49 rfl rfl ?_
    obtain ⟨m7, e8, h⟩ := jcl_some h
    refine j_vv (pc := 50) hC hR [.int x1] iy_X7_closeTo (q := (RX7, TX7, 3)) (ci := 7) rfl rfl (by decide) km_X11_239 dX11_closeAndTell_50 rfl (by decide) (ly_11_2 hL ka0).2.1 (c_X7_closeTo hL (ly_11_2 hL ka0).2.1 e8) (by decide) (Nat.le_of_ble_eq_true rfl) rfl ?_
    obtain rfl := Option.some.inj h
    exact j_vret (pc := 53) hC dX11_closeAndTell_53 rfl
  refine j_icmp_ge (pc := 12) hC 41 dX11_closeAndTell_12 (by decide) (fun c9 => ?_) (fun c9 => ?_)
  · rw [if_pos c9] at h
    refine j_lconst (pc := 41) hC (0 : Int64) dX11_closeAndTell_41 (by decide) ?_
    exact j_lv [0, 1] rfl (q3 _ h)
  · rw [if_neg c9] at h
    refine j_aload_n (pc := 15) hC 0 0 dX11_closeAndTell_15 rfl rfl ?_
    refine jgr_11 (pc := 16) hC 2 (by decide) rfl kf_X11_26 dX11_closeAndTell_16 ka0 (ly_11_2 hL ka0).1 ?_
    refine jgr_7 (pc := 19) hC 0 (by decide) rfl kf_X11_42 dX11_closeAndTell_19 (ly_11_2 hL ka0).2.1 (ly_7_0 hL (ly_11_2 hL ka0).2.1).1 ?_
    refine j_aload_n (pc := 22) hC 0 0 dX11_closeAndTell_22 rfl rfl ?_
    refine jgr_11 (pc := 23) hC 2 (by decide) rfl kf_X11_26 dX11_closeAndTell_23 ka0 (ly_11_2 hL ka0).1 ?_
    refine jgr_7 (pc := 26) hC 1 (by decide) rfl kf_X11_222 dX11_closeAndTell_26 (ly_11_2 hL ka0).2.1 (ly_7_1 hL (ly_11_2 hL ka0).2.1).1 ?_
    refine j_iload_n (pc := 29) hC 1 1 dX11_closeAndTell_29 rfl rfl ?_
    obtain ⟨i10, h⟩ := jin_some h
    refine j_aald (pc := 30) hC 3 dX11_closeAndTell_30 rfl (by decide) (ly_7_1 hL (ly_11_2 hL ka0).2.1).2.1 (le_16 hL (ly_7_1 hL (ly_11_2 hL ka0).2.1).2.1 (jlt i10)).1 i10 (le_16 hL (ly_7_1 hL (ly_11_2 hL ka0).2.1).2.1 (jlt i10)).2.1 ?_
    refine jgr_1 (pc := 31) hC 0 (by decide) rfl kf_X11_226 dX11_closeAndTell_31 (le_16 hL (ly_7_1 hL (ly_11_2 hL ka0).2.1).2.1 (jlt i10)).2.2.1 (ly_1_0 hL (le_16 hL (ly_7_1 hL (ly_11_2 hL ka0).2.1).2.1 (jlt i10)).2.2.1).1 ?_
    obtain ⟨v11, e12, h⟩ := jcl_some h
    refine j_vi (pc := 34) hC hR [.ref (L.2.2 (((a0 + 13) + 8 * x1.toNatClampNeg) + 1))] iy_X9_otherThings (q := (RX9, TX9, 7)) (ci := 9) rfl rfl (by decide) km_X11_231 dX11_closeAndTell_34 rfl (by decide) (ly_7_0 hL (ly_11_2 hL ka0).2.1).2.1 (c_X9_otherThings hL (ly_7_0 hL (ly_11_2 hL ka0).2.1).2.1 (ly_1_0 hL (le_16 hL (ly_7_1 hL (ly_11_2 hL ka0).2.1).2.1 (jlt i10)).2.2.1).2.1 e12) (by decide) (Nat.le_of_ble_eq_true rfl) rfl ?_
    refine j_i2l (pc := 37) hC dX11_closeAndTell_37 ?_
    refine j_goto (pc := 38) hC 42 dX11_closeAndTell_38 (by decide) ?_
    exact j_lv [0, 1] rfl (q3 _ h)
theorem dX11_closes_0 : decode cX11_closes 0 = .ok (.aload_n 0, 1) := by decide +kernel
theorem dX11_closes_1 : decode cX11_closes 1 = .ok (.getfield 26, 3) := by decide +kernel
theorem dX11_closes_4 : decode cX11_closes 4 = .ok (.getfield 215, 3) := by decide +kernel
theorem dX11_closes_7 : decode cX11_closes 7 = .ok (.ifCond .ne 6, 3) := by decide +kernel
theorem dX11_closes_10 : decode cX11_closes 10 = .ok (.bipush (-2), 2) := by decide +kernel
theorem dX11_closes_12 : decode cX11_closes 12 = .ok (.ireturn, 1) := by decide +kernel
theorem dX11_closes_13 : decode cX11_closes 13 = .ok (.aload_n 0, 1) := by decide +kernel
theorem dX11_closes_14 : decode cX11_closes 14 = .ok (.aload_n 0, 1) := by decide +kernel
theorem dX11_closes_15 : decode cX11_closes 15 = .ok (.getfield 26, 3) := by decide +kernel
theorem dX11_closes_18 : decode cX11_closes 18 = .ok (.getfield 215, 3) := by decide +kernel
theorem dX11_closes_21 : decode cX11_closes 21 = .ok (.iconst 1, 1) := by decide +kernel
theorem dX11_closes_22 : decode cX11_closes 22 = .ok (.isub, 1) := by decide +kernel
theorem dX11_closes_23 : decode cX11_closes 23 = .ok (.invokevirtual 218, 3) := by decide +kernel
theorem dX11_closes_26 : decode cX11_closes 26 = .ok (.aload_n 0, 1) := by decide +kernel
theorem dX11_closes_27 : decode cX11_closes 27 = .ok (.getfield 26, 3) := by decide +kernel
theorem dX11_closes_30 : decode cX11_closes 30 = .ok (.getfield 215, 3) := by decide +kernel
theorem dX11_closes_33 : decode cX11_closes 33 = .ok (.ireturn, 1) := by decide +kernel
def f_X11_closes (a0 : Nat) (μ : jM) : Option (Int32 × jM) :=
  (if (μ.1 (a0 + 5) 2) = (0 : Int32) then some (((-2 : Int32), μ)) else jcl (f_X11_closeAndTell a0 ((μ.1 (a0 + 5) 2) - (1 : Int32)) μ) (fun m2 => some ((m2.1 (a0 + 5) 2, m2))))
set_option maxHeartbeats 4000000 in
set_option maxRecDepth 100000 in
theorem c_X11_closes {l : Launch} {G : jG} {L : jL} (hL : jOKL L) {a0 : Nat} (ka0 : jK L a0 11) {μ μ' : jM} {r : Int32} (h : f_X11_closes a0 μ = some ((r, μ'))) : jCt l G L 8 yX11_closes cX11_closes 1 (some .int) [.ref (L.2.2 a0)] μ (some (.int r)) μ' := by
  refine jCt_of (by decide) (Nat.le_of_ble_eq_true rfl) (fun X hC hX hR => ?_)
  subst hX
  have hC : jC X G cX11_closes 1 RX11 (some .int) := hC
  unfold f_X11_closes at h
  show jJ X G 1 L 0 0 (jQM X G L (some (.int r)) μ' 0 0) 0 [(0, .ref (L.2.2 a0))] [] μ
  refine j_aload_n (pc := 0) hC 0 0 dX11_closes_0 rfl rfl ?_
  refine jgr_11 (pc := 1) hC 2 (by decide) rfl kf_X11_26 dX11_closes_1 ka0 (ly_11_2 hL ka0).1 ?_
  refine jgi_7 (pc := 4) hC 2 (by decide) rfl kf_X11_215 dX11_closes_4 (ly_11_2 hL ka0).2.1 ?_
  refine j_if_ne (pc := 7) hC 13 dX11_closes_7 (by decide) (fun c1 => ?_) (fun c1 => ?_)
  · rw [if_neg c1] at h
    refine j_aload_n (pc := 13) hC 0 0 dX11_closes_13 rfl rfl ?_
    refine j_aload_n (pc := 14) hC 0 0 dX11_closes_14 rfl rfl ?_
    refine jgr_11 (pc := 15) hC 2 (by decide) rfl kf_X11_26 dX11_closes_15 ka0 (ly_11_2 hL ka0).1 ?_
    refine jgi_7 (pc := 18) hC 2 (by decide) rfl kf_X11_215 dX11_closes_18 (ly_11_2 hL ka0).2.1 ?_
    refine j_iconst (pc := 21) hC (1 : Int32) dX11_closes_21 (by decide) ?_
    refine j_isub (pc := 22) hC dX11_closes_22 ?_
    obtain ⟨m2, e3, h⟩ := jcl_some h
    refine j_vv (pc := 23) hC hR [.int ((μ.1 (a0 + 5) 2) - (1 : Int32))] iy_X11_closeAndTell (q := (RX11, TX11, 15)) (ci := 11) rfl rfl (by decide) km_X11_218 dX11_closes_23 rfl (by decide) ka0 (c_X11_closeAndTell hL ka0 e3) (by decide) (Nat.le_of_ble_eq_true rfl) rfl ?_
    refine j_aload_n (pc := 26) hC 0 0 dX11_closes_26 rfl rfl ?_
    refine jgr_11 (pc := 27) hC 2 (by decide) rfl kf_X11_26 dX11_closes_27 ka0 (ly_11_2 hL ka0).1 ?_
    refine jgi_7 (pc := 30) hC 2 (by decide) rfl kf_X11_215 dX11_closes_30 (ly_11_2 hL ka0).2.1 ?_
    obtain ⟨rfl, rfl⟩ := Prod.mk.inj (Option.some.inj h)
    exact j_iret (pc := 33) hC dX11_closes_33 rfl
  · rw [if_pos c1] at h
    refine j_bipush (pc := 10) hC (-2 : Int32) dX11_closes_10 (by decide) ?_
    obtain ⟨rfl, rfl⟩ := Prod.mk.inj (Option.some.inj h)
    exact j_iret (pc := 12) hC dX11_closes_12 rfl
theorem dX11_back_0 : decode cX11_back 0 = .ok (.iload_n 1, 1) := by decide +kernel
theorem dX11_back_1 : decode cX11_back 1 = .ok (.ifCond .lt 14, 3) := by decide +kernel
theorem dX11_back_4 : decode cX11_back 4 = .ok (.iload_n 1, 1) := by decide +kernel
theorem dX11_back_5 : decode cX11_back 5 = .ok (.aload_n 0, 1) := by decide +kernel
theorem dX11_back_6 : decode cX11_back 6 = .ok (.getfield 26, 3) := by decide +kernel
theorem dX11_back_9 : decode cX11_back 9 = .ok (.getfield 215, 3) := by decide +kernel
theorem dX11_back_12 : decode cX11_back 12 = .ok (.if_icmp .le 5, 3) := by decide +kernel
theorem dX11_back_15 : decode cX11_back 15 = .ok (.iconst (-1), 1) := by decide +kernel
theorem dX11_back_16 : decode cX11_back 16 = .ok (.ireturn, 1) := by decide +kernel
theorem dX11_back_17 : decode cX11_back 17 = .ok (.aload_n 0, 1) := by decide +kernel
theorem dX11_back_18 : decode cX11_back 18 = .ok (.getfield 26, 3) := by decide +kernel
theorem dX11_back_21 : decode cX11_back 21 = .ok (.getfield 215, 3) := by decide +kernel
theorem dX11_back_24 : decode cX11_back 24 = .ok (.iload_n 1, 1) := by decide +kernel
theorem dX11_back_25 : decode cX11_back 25 = .ok (.isub, 1) := by decide +kernel
theorem dX11_back_26 : decode cX11_back 26 = .ok (.istore_n 2, 1) := by decide +kernel
theorem dX11_back_27 : decode cX11_back 27 = .ok (.aload_n 0, 1) := by decide +kernel
theorem dX11_back_28 : decode cX11_back 28 = .ok (.iload_n 1, 1) := by decide +kernel
theorem dX11_back_29 : decode cX11_back 29 = .ok (.invokevirtual 218, 3) := by decide +kernel
theorem dX11_back_32 : decode cX11_back 32 = .ok (.iload_n 2, 1) := by decide +kernel
theorem dX11_back_33 : decode cX11_back 33 = .ok (.ireturn, 1) := by decide +kernel
def f_X11_back (a0 : Nat) (x1 : Int32) (μ : jM) : Option (Int32 × jM) :=
  (if x1 < (0 : Int32) then some (((-1 : Int32), μ)) else (if x1 ≤ (μ.1 (a0 + 5) 2) then jbd ((μ.1 (a0 + 5) 2) - x1 : Int32) (fun v3 => jcl (f_X11_closeAndTell a0 x1 μ) (fun m5 => some ((v3, m5)))) else some (((-1 : Int32), μ))))
set_option maxHeartbeats 4000000 in
set_option maxRecDepth 100000 in
theorem c_X11_back {l : Launch} {G : jG} {L : jL} (hL : jOKL L) {a0 : Nat} {x1 : Int32} (ka0 : jK L a0 11) {μ μ' : jM} {r : Int32} (h : f_X11_back a0 x1 μ = some ((r, μ'))) : jCt l G L 8 yX11_back cX11_back 3 (some .int) [.ref (L.2.2 a0), .int x1] μ (some (.int r)) μ' := by
  refine jCt_of (by decide) (Nat.le_of_ble_eq_true rfl) (fun X hC hX hR => ?_)
  subst hX
  have hC : jC X G cX11_back 3 RX11 (some .int) := hC
  unfold f_X11_back at h
  show jJ X G 3 L 0 0 (jQM X G L (some (.int r)) μ' 0 0) 0 [(0, .ref (L.2.2 a0)), (1, .int x1)] [] μ
  refine j_iload_n (pc := 0) hC 1 1 dX11_back_0 rfl rfl ?_
  refine j_if_lt (pc := 1) hC 15 dX11_back_1 (by decide) (fun c1 => ?_) (fun c1 => ?_)
  · rw [if_pos c1] at h
    refine j_iconst (pc := 15) hC (-1 : Int32) dX11_back_15 (by decide) ?_
    obtain ⟨rfl, rfl⟩ := Prod.mk.inj (Option.some.inj h)
    exact j_iret (pc := 16) hC dX11_back_16 rfl
  · rw [if_neg c1] at h
    refine j_iload_n (pc := 4) hC 1 1 dX11_back_4 rfl rfl ?_
    refine j_aload_n (pc := 5) hC 0 0 dX11_back_5 rfl rfl ?_
    refine jgr_11 (pc := 6) hC 2 (by decide) rfl kf_X11_26 dX11_back_6 ka0 (ly_11_2 hL ka0).1 ?_
    refine jgi_7 (pc := 9) hC 2 (by decide) rfl kf_X11_215 dX11_back_9 (ly_11_2 hL ka0).2.1 ?_
    refine j_icmp_le (pc := 12) hC 17 dX11_back_12 (by decide) (fun c2 => ?_) (fun c2 => ?_)
    · rw [if_pos c2] at h
      refine j_aload_n (pc := 17) hC 0 0 dX11_back_17 rfl rfl ?_
      refine jgr_11 (pc := 18) hC 2 (by decide) rfl kf_X11_26 dX11_back_18 ka0 (ly_11_2 hL ka0).1 ?_
      refine jgi_7 (pc := 21) hC 2 (by decide) rfl kf_X11_215 dX11_back_21 (ly_11_2 hL ka0).2.1 ?_
      refine j_iload_n (pc := 24) hC 1 1 dX11_back_24 rfl rfl ?_
      refine j_isub (pc := 25) hC dX11_back_25 ?_
      obtain ⟨v3, e4, h⟩ := jbd_ex h
      refine j_istore_n (pc := 26) hC 2 [(2, .int v3), (0, .ref (L.2.2 a0)), (1, .int x1)] dX11_back_26 rfl (by decide) e4 rfl ?_
      refine j_aload_n (pc := 27) hC 0 1 dX11_back_27 rfl rfl ?_
      refine j_iload_n (pc := 28) hC 1 2 dX11_back_28 rfl rfl ?_
      obtain ⟨m5, e6, h⟩ := jcl_some h
      refine j_vv (pc := 29) hC hR [.int x1] iy_X11_closeAndTell (q := (RX11, TX11, 15)) (ci := 11) rfl rfl (by decide) km_X11_218 dX11_back_29 rfl (by decide) ka0 (c_X11_closeAndTell hL ka0 e6) (by decide) (Nat.le_of_ble_eq_true rfl) rfl ?_
      refine j_iload_n (pc := 32) hC 2 0 dX11_back_32 rfl rfl ?_
      obtain ⟨rfl, rfl⟩ := Prod.mk.inj (Option.some.inj h)
      exact j_iret (pc := 33) hC dX11_back_33 rfl
    · rw [if_neg c2] at h
      refine j_iconst (pc := 15) hC (-1 : Int32) dX11_back_15 (by decide) ?_
      obtain ⟨rfl, rfl⟩ := Prod.mk.inj (Option.some.inj h)
      exact j_iret (pc := 16) hC dX11_back_16 rfl
theorem dX11_commits_0 : decode cX11_commits 0 = .ok (.aload_n 0, 1) := by decide +kernel
theorem dX11_commits_1 : decode cX11_commits 1 = .ok (.getfield 26, 3) := by decide +kernel
theorem dX11_commits_4 : decode cX11_commits 4 = .ok (.getfield 215, 3) := by decide +kernel
theorem dX11_commits_7 : decode cX11_commits 7 = .ok (.ifCond .ne 6, 3) := by decide +kernel
theorem dX11_commits_10 : decode cX11_commits 10 = .ok (.bipush (-2), 2) := by decide +kernel
theorem dX11_commits_12 : decode cX11_commits 12 = .ok (.ireturn, 1) := by decide +kernel
theorem dX11_commits_13 : decode cX11_commits 13 = .ok (.aload_n 0, 1) := by decide +kernel
theorem dX11_commits_14 : decode cX11_commits 14 = .ok (.getfield 26, 3) := by decide +kernel
theorem dX11_commits_17 : decode cX11_commits 17 = .ok (.invokevirtual 242, 3) := by decide +kernel
theorem dX11_commits_20 : decode cX11_commits 20 = .ok (.istore_n 1, 1) := by decide +kernel
theorem dX11_commits_21 : decode cX11_commits 21 = .ok (.aload_n 0, 1) := by decide +kernel
theorem dX11_commits_22 : decode cX11_commits 22 = .ok (.getfield 19, 3) := by decide +kernel
theorem dX11_commits_25 : decode cX11_commits 25 = .ok (.aload_n 0, 1) := by decide +kernel
theorem dX11_commits_26 : decode cX11_commits 26 = .ok (.getfield 26, 3) := by decide +kernel
theorem dX11_commits_29 : decode cX11_commits 29 = .ok (.getfield 215, 3) := by decide +kernel
theorem dX11_commits_32 : decode cX11_commits 32 = .ok (.ifCond .ne 7, 3) := by decide +kernel
theorem dX11_commits_35 : decode cX11_commits 35 = .ok (.lconst 0, 1) := by decide +kernel
theorem dX11_commits_36 : decode cX11_commits 36 = .ok (.goto 24, 3) := by decide +kernel
theorem dX11_commits_39 : decode cX11_commits 39 = .ok (.aload_n 0, 1) := by decide +kernel
theorem dX11_commits_40 : decode cX11_commits 40 = .ok (.getfield 26, 3) := by decide +kernel
theorem dX11_commits_43 : decode cX11_commits 43 = .ok (.getfield 222, 3) := by decide +kernel
theorem dX11_commits_46 : decode cX11_commits 46 = .ok (.aload_n 0, 1) := by decide +kernel
theorem dX11_commits_47 : decode cX11_commits 47 = .ok (.getfield 26, 3) := by decide +kernel
theorem dX11_commits_50 : decode cX11_commits 50 = .ok (.getfield 215, 3) := by decide +kernel
theorem dX11_commits_53 : decode cX11_commits 53 = .ok (.iconst 1, 1) := by decide +kernel
theorem dX11_commits_54 : decode cX11_commits 54 = .ok (.isub, 1) := by decide +kernel
theorem dX11_commits_55 : decode cX11_commits 55 = .ok (.aaload, 1) := by decide +kernel
theorem dX11_commits_56 : decode cX11_commits 56 = .ok (.getfield 245, 3) := by decide +kernel
theorem dX11_commits_59 : decode cX11_commits 59 = .ok (.i2l, 1) := by decide +kernel
theorem dX11_commits_60 : decode cX11_commits 60 = .ok (.invokevirtual 235, 3) := by decide +kernel
theorem dX11_commits_63 : decode cX11_commits 63 = .ok (.aload_n 0, 1) := by decide +kernel
theorem dX11_commits_64 : decode cX11_commits 64 = .ok (.getfield 19, 3) := by decide +kernel
theorem dX11_commits_67 : decode cX11_commits 67 = .ok (.iload_n 1, 1) := by decide +kernel
theorem dX11_commits_68 : decode cX11_commits 68 = .ok (.i2l, 1) := by decide +kernel
theorem dX11_commits_69 : decode cX11_commits 69 = .ok (.invokevirtual 248, 3) := by decide +kernel
theorem dX11_commits_72 : decode cX11_commits 72 = .ok (.aload_n 0, 1) := by decide +kernel
theorem dX11_commits_73 : decode cX11_commits 73 = .ok (.getfield 26, 3) := by decide +kernel
theorem dX11_commits_76 : decode cX11_commits 76 = .ok (.getfield 215, 3) := by decide +kernel
theorem dX11_commits_79 : decode cX11_commits 79 = .ok (.ireturn, 1) := by decide +kernel
def f_X11_commits (a0 : Nat) (μ : jM) : Option (Int32 × jM) :=
  (if (μ.1 (a0 + 5) 2) = (0 : Int32) then some (((-2 : Int32), μ)) else jcl2 (f_X7_commitLevel (a0 + 5) μ) (fun v2 m3 => jbd (fun (t5 : Int64) => jcl (f_X3_only (a0 + 3) t5 m3) (fun m9 => jcl (f_X3_tell (a0 + 3) v2.toInt64 m9) (fun m11 => some ((m11.1 (a0 + 5) 2, m11))))) (fun k6 => (if (m3.1 (a0 + 5) 2) = (0 : Int32) then k6 (0 : Int64) else jin ((m3.1 (a0 + 5) 2) - (1 : Int32)) 9 (k6 ((m3.1 ((a0 + 13) + 8 * ((m3.1 (a0 + 5) 2) - (1 : Int32)).toNatClampNeg) 2).toInt64))))))
set_option maxHeartbeats 4000000 in
set_option maxRecDepth 100000 in
theorem c_X11_commits {l : Launch} {G : jG} {L : jL} (hL : jOKL L) {a0 : Nat} (ka0 : jK L a0 11) {μ μ' : jM} {r : Int32} (h : f_X11_commits a0 μ = some ((r, μ'))) : jCt l G L 5 yX11_commits cX11_commits 2 (some .int) [.ref (L.2.2 a0)] μ (some (.int r)) μ' := by
  refine jCt_of (by decide) (Nat.le_of_ble_eq_true rfl) (fun X hC hX hR => ?_)
  subst hX
  have hC : jC X G cX11_commits 2 RX11 (some .int) := hC
  unfold f_X11_commits at h
  show jJ X G 2 L 0 0 (jQM X G L (some (.int r)) μ' 0 0) 0 [(0, .ref (L.2.2 a0))] [] μ
  refine j_aload_n (pc := 0) hC 0 0 dX11_commits_0 rfl rfl ?_
  refine jgr_11 (pc := 1) hC 2 (by decide) rfl kf_X11_26 dX11_commits_1 ka0 (ly_11_2 hL ka0).1 ?_
  refine jgi_7 (pc := 4) hC 2 (by decide) rfl kf_X11_215 dX11_commits_4 (ly_11_2 hL ka0).2.1 ?_
  refine j_if_ne (pc := 7) hC 13 dX11_commits_7 (by decide) (fun c1 => ?_) (fun c1 => ?_)
  · rw [if_neg c1] at h
    refine j_aload_n (pc := 13) hC 0 0 dX11_commits_13 rfl rfl ?_
    refine jgr_11 (pc := 14) hC 2 (by decide) rfl kf_X11_26 dX11_commits_14 ka0 (ly_11_2 hL ka0).1 ?_
    obtain ⟨v2, m3, e4, h⟩ := jcl2_some h
    refine j_vi (pc := 17) hC hR [] iy_X7_commitLevel (q := (RX7, TX7, 3)) (ci := 7) rfl rfl (by decide) km_X11_242 dX11_commits_17 rfl (by decide) (ly_11_2 hL ka0).2.1 (c_X7_commitLevel hL (ly_11_2 hL ka0).2.1 e4) (by decide) (Nat.le_of_ble_eq_true rfl) rfl ?_
    refine j_istore_n (pc := 20) hC 1 [(1, .int v2), (0, .ref (L.2.2 a0))] dX11_commits_20 rfl (by decide) rfl rfl ?_
    refine j_aload_n (pc := 21) hC 0 1 dX11_commits_21 rfl rfl ?_
    refine jgr_11 (pc := 22) hC 1 (by decide) rfl kf_X11_19 dX11_commits_22 ka0 (ly_11_1 hL ka0).1 ?_
    refine j_aload_n (pc := 25) hC 0 1 dX11_commits_25 rfl rfl ?_
    refine jgr_11 (pc := 26) hC 2 (by decide) rfl kf_X11_26 dX11_commits_26 ka0 (ly_11_2 hL ka0).1 ?_
    refine jgi_7 (pc := 29) hC 2 (by decide) rfl kf_X11_215 dX11_commits_29 (ly_11_2 hL ka0).2.1 ?_
    obtain ⟨k6, e8, h⟩ := jbd_ex h
    have q7 : ∀ (t5 : Int64), k6 t5 = some ((r, μ')) → jJ X G 2 L 0 0 (jQM X G L (some (.int r)) μ' 0 0) 60 [(0, .ref (L.2.2 a0)), (1, .int v2)] [.long t5, .ref (L.2.2 (a0 + 3))] m3 := by
      intro t5 h
      rw [e8] at h
      try dsimp only at h
      obtain ⟨m9, e10, h⟩ := jcl_some h
      refine j_vv (pc := 60) hC hR [.long t5] iy_X3_only (q := (RX3, TX3, 2)) (ci := 3) rfl rfl (by decide) km_X11_235 dX11_commits_60 rfl (by decide) (ly_11_1 hL ka0).2.1 (c_X3_only hL (ly_11_1 hL ka0).2.1 e10) (by decide) (Nat.le_of_ble_eq_true rfl) rfl ?_
      refine j_aload_n (pc := 63) hC 0 0 dX11_commits_63 rfl rfl ?_
      refine jgr_11 (pc := 64) hC 1 (by decide) rfl kf_X11_19 dX11_commits_64 ka0 (ly_11_1 hL ka0).1 ?_
      refine j_iload_n (pc := 67) hC 1 1 dX11_commits_67 rfl rfl ?_
      refine j_i2l (pc := 68) hC dX11_commits_68 ?_
      obtain ⟨m11, e12, h⟩ := jcl_some h
      refine j_vv (pc := 69) hC hR [.long v2.toInt64] iy_X3_tell (q := (RX3, TX3, 2)) (ci := 3) rfl rfl (by decide) km_X11_248 dX11_commits_69 rfl (by decide) (ly_11_1 hL ka0).2.1 (c_X3_tell hL (ly_11_1 hL ka0).2.1 e12) (by decide) (Nat.le_of_ble_eq_true rfl) rfl ?_
      refine j_aload_n (pc := 72) hC 0 0 dX11_commits_72 rfl rfl ?_
      refine jgr_11 (pc := 73) hC 2 (by decide) rfl kf_X11_26 dX11_commits_73 ka0 (ly_11_2 hL ka0).1 ?_
      refine jgi_7 (pc := 76) hC 2 (by decide) rfl kf_X11_215 dX11_commits_76 (ly_11_2 hL ka0).2.1 ?_
      obtain ⟨rfl, rfl⟩ := Prod.mk.inj (Option.some.inj h)
      exact j_iret (pc := 79) hC dX11_commits_79 rfl
    refine j_if_ne (pc := 32) hC 39 dX11_commits_32 (by decide) (fun c13 => ?_) (fun c13 => ?_)
    · rw [if_neg c13] at h
      refine j_aload_n (pc := 39) hC 0 1 dX11_commits_39 rfl rfl ?_
      refine jgr_11 (pc := 40) hC 2 (by decide) rfl kf_X11_26 dX11_commits_40 ka0 (ly_11_2 hL ka0).1 ?_
      refine jgr_7 (pc := 43) hC 1 (by decide) rfl kf_X11_222 dX11_commits_43 (ly_11_2 hL ka0).2.1 (ly_7_1 hL (ly_11_2 hL ka0).2.1).1 ?_
      refine j_aload_n (pc := 46) hC 0 1 dX11_commits_46 rfl rfl ?_
      refine jgr_11 (pc := 47) hC 2 (by decide) rfl kf_X11_26 dX11_commits_47 ka0 (ly_11_2 hL ka0).1 ?_
      refine jgi_7 (pc := 50) hC 2 (by decide) rfl kf_X11_215 dX11_commits_50 (ly_11_2 hL ka0).2.1 ?_
      refine j_iconst (pc := 53) hC (1 : Int32) dX11_commits_53 (by decide) ?_
      refine j_isub (pc := 54) hC dX11_commits_54 ?_
      obtain ⟨i14, h⟩ := jin_some h
      refine j_aald (pc := 55) hC 3 dX11_commits_55 rfl (by decide) (ly_7_1 hL (ly_11_2 hL ka0).2.1).2.1 (le_16 hL (ly_7_1 hL (ly_11_2 hL ka0).2.1).2.1 (jlt i14)).1 i14 (le_16 hL (ly_7_1 hL (ly_11_2 hL ka0).2.1).2.1 (jlt i14)).2.1 ?_
      refine jgi_1 (pc := 56) hC 2 (by decide) rfl kf_X11_245 dX11_commits_56 (le_16 hL (ly_7_1 hL (ly_11_2 hL ka0).2.1).2.1 (jlt i14)).2.2.1 ?_
      refine j_i2l (pc := 59) hC dX11_commits_59 ?_
      exact j_lv [1, 0] rfl (q7 _ h)
    · rw [if_pos c13] at h
      refine j_lconst (pc := 35) hC (0 : Int64) dX11_commits_35 (by decide) ?_
      refine j_goto (pc := 36) hC 60 dX11_commits_36 (by decide) ?_
      exact j_lv [1, 0] rfl (q7 _ h)
  · rw [if_pos c1] at h
    refine j_bipush (pc := 10) hC (-2 : Int32) dX11_commits_10 (by decide) ?_
    obtain ⟨rfl, rfl⟩ := Prod.mk.inj (Option.some.inj h)
    exact j_iret (pc := 12) hC dX11_commits_12 rfl
theorem dX11_run_0 : decode cX11_run 0 = .ok (.aload_n 0, 1) := by decide +kernel
theorem dX11_run_1 : decode cX11_run 1 = .ok (.getfield 76, 3) := by decide +kernel
theorem dX11_run_4 : decode cX11_run 4 = .ok (.invokevirtual 251, 3) := by decide +kernel
theorem dX11_run_7 : decode cX11_run 7 = .ok (.istore_n 2, 1) := by decide +kernel
theorem dX11_run_8 : decode cX11_run 8 = .ok (.iload_n 2, 1) := by decide +kernel
theorem dX11_run_9 : decode cX11_run 9 = .ok (.iconst (-1), 1) := by decide +kernel
theorem dX11_run_10 : decode cX11_run 10 = .ok (.if_icmp .eq 10, 3) := by decide +kernel
theorem dX11_run_13 : decode cX11_run 13 = .ok (.iconst (-1), 1) := by decide +kernel
theorem dX11_run_14 : decode cX11_run 14 = .ok (.iload_n 2, 1) := by decide +kernel
theorem dX11_run_15 : decode cX11_run 15 = .ok (.isub, 1) := by decide +kernel
theorem dX11_run_16 : decode cX11_run 16 = .ok (.istore_n 1, 1) := by decide +kernel
theorem dX11_run_17 : decode cX11_run 17 = .ok (.goto 90, 3) := by decide +kernel
theorem dX11_run_20 : decode cX11_run 20 = .ok (.aload_n 0, 1) := by decide +kernel
theorem dX11_run_21 : decode cX11_run 21 = .ok (.getfield 30, 3) := by decide +kernel
theorem dX11_run_24 : decode cX11_run 24 = .ok (.aload_n 0, 1) := by decide +kernel
theorem dX11_run_25 : decode cX11_run 25 = .ok (.getfield 26, 3) := by decide +kernel
theorem dX11_run_28 : decode cX11_run 28 = .ok (.invokevirtual 252, 3) := by decide +kernel
theorem dX11_run_31 : decode cX11_run 31 = .ok (.aload_n 0, 1) := by decide +kernel
theorem dX11_run_32 : decode cX11_run 32 = .ok (.getfield 76, 3) := by decide +kernel
theorem dX11_run_35 : decode cX11_run 35 = .ok (.invokevirtual 256, 3) := by decide +kernel
theorem dX11_run_38 : decode cX11_run 38 = .ok (.aload_n 0, 1) := by decide +kernel
theorem dX11_run_39 : decode cX11_run 39 = .ok (.getfield 76, 3) := by decide +kernel
theorem dX11_run_42 : decode cX11_run 42 = .ok (.iconst 0, 1) := by decide +kernel
theorem dX11_run_43 : decode cX11_run 43 = .ok (.invokevirtual 259, 3) := by decide +kernel
theorem dX11_run_46 : decode cX11_run 46 = .ok (.ifCond .eq 39, 3) := by decide +kernel
theorem dX11_run_49 : decode cX11_run 49 = .ok (.aload_n 0, 1) := by decide +kernel
theorem dX11_run_50 : decode cX11_run 50 = .ok (.getfield 76, 3) := by decide +kernel
theorem dX11_run_53 : decode cX11_run 53 = .ok (.getfield 262, 3) := by decide +kernel
theorem dX11_run_56 : decode cX11_run 56 = .ok (.istore_n 1, 1) := by decide +kernel
theorem dX11_run_57 : decode cX11_run 57 = .ok (.aload_n 0, 1) := by decide +kernel
theorem dX11_run_58 : decode cX11_run 58 = .ok (.getfield 19, 3) := by decide +kernel
theorem dX11_run_61 : decode cX11_run 61 = .ok (.aload_n 0, 1) := by decide +kernel
theorem dX11_run_62 : decode cX11_run 62 = .ok (.getfield 26, 3) := by decide +kernel
theorem dX11_run_65 : decode cX11_run 65 = .ok (.getfield 42, 3) := by decide +kernel
theorem dX11_run_68 : decode cX11_run 68 = .ok (.aload_n 0, 1) := by decide +kernel
theorem dX11_run_69 : decode cX11_run 69 = .ok (.getfield 30, 3) := by decide +kernel
theorem dX11_run_72 : decode cX11_run 72 = .ok (.getfield 42, 3) := by decide +kernel
theorem dX11_run_75 : decode cX11_run 75 = .ok (.invokevirtual 231, 3) := by decide +kernel
theorem dX11_run_78 : decode cX11_run 78 = .ok (.i2l, 1) := by decide +kernel
theorem dX11_run_79 : decode cX11_run 79 = .ok (.invokevirtual 235, 3) := by decide +kernel
theorem dX11_run_82 : decode cX11_run 82 = .ok (.goto 25, 3) := by decide +kernel
theorem dX11_run_85 : decode cX11_run 85 = .ok (.bipush (-100), 2) := by decide +kernel
theorem dX11_run_87 : decode cX11_run 87 = .ok (.aload_n 0, 1) := by decide +kernel
theorem dX11_run_88 : decode cX11_run 88 = .ok (.getfield 76, 3) := by decide +kernel
theorem dX11_run_91 : decode cX11_run 91 = .ok (.getfield 265, 3) := by decide +kernel
theorem dX11_run_94 : decode cX11_run 94 = .ok (.isub, 1) := by decide +kernel
theorem dX11_run_95 : decode cX11_run 95 = .ok (.istore_n 1, 1) := by decide +kernel
theorem dX11_run_96 : decode cX11_run 96 = .ok (.aload_n 0, 1) := by decide +kernel
theorem dX11_run_97 : decode cX11_run 97 = .ok (.getfield 26, 3) := by decide +kernel
theorem dX11_run_100 : decode cX11_run 100 = .ok (.aload_n 0, 1) := by decide +kernel
theorem dX11_run_101 : decode cX11_run 101 = .ok (.getfield 30, 3) := by decide +kernel
theorem dX11_run_104 : decode cX11_run 104 = .ok (.invokevirtual 252, 3) := by decide +kernel
theorem dX11_run_107 : decode cX11_run 107 = .ok (.aload_n 0, 1) := by decide +kernel
theorem dX11_run_108 : decode cX11_run 108 = .ok (.getfield 12, 3) := by decide +kernel
theorem dX11_run_111 : decode cX11_run 111 = .ok (.invokevirtual 192, 3) := by decide +kernel
theorem dX11_run_114 : decode cX11_run 114 = .ok (.iload_n 1, 1) := by decide +kernel
theorem dX11_run_115 : decode cX11_run 115 = .ok (.ireturn, 1) := by decide +kernel
def f_X11_run (a0 : Nat) (μ : jM) : Option (Int32 × jM) :=
  jcl2 (f_X4_fault (a0 + 179) μ) (fun v1 m2 => (if v1 = (-1 : Int32) then jcl (f_X7_become (a0 + 85) (a0 + 5) m2) (fun m5 => jbd (f_X4_begin (a0 + 179) m5) (fun m7 => jcl2 (f_X4_doRun 8 (a0 + 179) (0 : Int32) m7) (fun v9 m10 => (if v9 = (0 : Int32) then jbd ((-100 : Int32) - (m10.1 (a0 + 179) 4) : Int32) (fun v13 => jcl (f_X7_become (a0 + 5) (a0 + 85) m10) (fun m15 => jbd (f_X8_empty (a0 + 1) m15) (fun m17 => some ((v13, m17))))) else jcl (f_X9_otherThings (a0 + 6) (a0 + 86) m10) (fun v19 => jcl (f_X3_only (a0 + 3) v19.toInt64 m10) (fun m21 => jbd (f_X8_empty (a0 + 1) m21) (fun m23 => some ((m10.1 (a0 + 179) 5, m23))))))))) else jbd (f_X8_empty (a0 + 1) m2) (fun m25 => some (((-1 : Int32) - v1, m25)))))
set_option maxHeartbeats 4000000 in
set_option maxRecDepth 100000 in
theorem c_X11_run {l : Launch} {G : jG} {L : jL} (hL : jOKL L) {a0 : Nat} (ka0 : jK L a0 11) {μ μ' : jM} {r : Int32} (h : f_X11_run a0 μ = some ((r, μ'))) : jCt l G L 25 yX11_run cX11_run 3 (some .int) [.ref (L.2.2 a0)] μ (some (.int r)) μ' := by
  refine jCt_of (by decide) (Nat.le_of_ble_eq_true rfl) (fun X hC hX hR => ?_)
  subst hX
  have hC : jC X G cX11_run 3 RX11 (some .int) := hC
  unfold f_X11_run at h
  show jJ X G 3 L 0 0 (jQM X G L (some (.int r)) μ' 0 0) 0 [(0, .ref (L.2.2 a0))] [] μ
  refine j_aload_n (pc := 0) hC 0 0 dX11_run_0 rfl rfl ?_
  refine jgr_11 (pc := 1) hC 8 (by decide) rfl kf_X11_76 dX11_run_1 ka0 (ly_11_8 hL ka0).1 ?_
  obtain ⟨v1, m2, e3, h⟩ := jcl2_some h
  refine j_vi (pc := 4) hC hR [] iy_X4_fault (q := (RX4, TX4, 6)) (ci := 4) rfl rfl (by decide) km_X11_251 dX11_run_4 rfl (by decide) (ly_11_8 hL ka0).2.1 (c_X4_fault hL (ly_11_8 hL ka0).2.1 e3) (by decide) (Nat.le_of_ble_eq_true rfl) rfl ?_
  refine j_istore_n (pc := 7) hC 2 [(2, .int v1), (0, .ref (L.2.2 a0))] dX11_run_7 rfl (by decide) rfl rfl ?_
  refine j_iload_n (pc := 8) hC 2 0 dX11_run_8 rfl rfl ?_
  refine j_iconst (pc := 9) hC (-1 : Int32) dX11_run_9 (by decide) ?_
  refine j_icmp_eq (pc := 10) hC 20 dX11_run_10 (by decide) (fun c4 => ?_) (fun c4 => ?_)
  · rw [if_pos c4] at h
    refine j_aload_n (pc := 20) hC 0 1 dX11_run_20 rfl rfl ?_
    refine jgr_11 (pc := 21) hC 3 (by decide) rfl kf_X11_30 dX11_run_21 ka0 (ly_11_3 hL ka0).1 ?_
    refine j_aload_n (pc := 24) hC 0 1 dX11_run_24 rfl rfl ?_
    refine jgr_11 (pc := 25) hC 2 (by decide) rfl kf_X11_26 dX11_run_25 ka0 (ly_11_2 hL ka0).1 ?_
    obtain ⟨m5, e6, h⟩ := jcl_some h
    refine j_vv (pc := 28) hC hR [.ref (L.2.2 (a0 + 5))] iy_X7_become (q := (RX7, TX7, 3)) (ci := 7) rfl rfl (by decide) km_X11_252 dX11_run_28 rfl (by decide) (ly_11_3 hL ka0).2.1 (c_X7_become hL (ly_11_3 hL ka0).2.1 (ly_11_2 hL ka0).2.1 e6) (by decide) (Nat.le_of_ble_eq_true rfl) rfl ?_
    refine j_aload_n (pc := 31) hC 0 1 dX11_run_31 rfl rfl ?_
    refine jgr_11 (pc := 32) hC 8 (by decide) rfl kf_X11_76 dX11_run_32 ka0 (ly_11_8 hL ka0).1 ?_
    obtain ⟨m7, e8, h⟩ := jbd_ex h
    refine j_vv (pc := 35) hC hR [] iy_X4_begin (q := (RX4, TX4, 6)) (ci := 4) rfl rfl (by decide) km_X11_256 dX11_run_35 rfl (by decide) (ly_11_8 hL ka0).2.1 (c_X4_begin hL (ly_11_8 hL ka0).2.1 e8.symm) (by decide) (Nat.le_of_ble_eq_true rfl) rfl ?_
    refine j_aload_n (pc := 38) hC 0 1 dX11_run_38 rfl rfl ?_
    refine jgr_11 (pc := 39) hC 8 (by decide) rfl kf_X11_76 dX11_run_39 ka0 (ly_11_8 hL ka0).1 ?_
    refine j_iconst (pc := 42) hC (0 : Int32) dX11_run_42 (by decide) ?_
    obtain ⟨v9, m10, e11, h⟩ := jcl2_some h
    refine j_wi (pc := 43) hC hR [.int (0 : Int32)] iy_X4_doRun (q := (RX4, TX4, 6)) (ci := 4) rfl rfl (by decide) kn_X11_259 dX11_run_43 rfl (by decide) (ly_11_8 hL ka0).2.1 (c_X4_doRun hL 8 (ly_11_8 hL ka0).2.1 e11) (by decide) (Nat.le_of_ble_eq_true rfl) rfl ?_
    refine j_if_eq (pc := 46) hC 85 dX11_run_46 (by decide) (fun c12 => ?_) (fun c12 => ?_)
    · rw [if_pos c12] at h
      refine j_bipush (pc := 85) hC (-100 : Int32) dX11_run_85 (by decide) ?_
      refine j_aload_n (pc := 87) hC 0 1 dX11_run_87 rfl rfl ?_
      refine jgr_11 (pc := 88) hC 8 (by decide) rfl kf_X11_76 dX11_run_88 ka0 (ly_11_8 hL ka0).1 ?_
      refine jgi_4 (pc := 91) hC 4 (by decide) rfl kf_X11_265 dX11_run_91 (ly_11_8 hL ka0).2.1 ?_
      refine j_isub (pc := 94) hC dX11_run_94 ?_
      obtain ⟨v13, e14, h⟩ := jbd_ex h
      refine j_istore_n (pc := 95) hC 1 [(1, .int v13), (2, .int v1), (0, .ref (L.2.2 a0))] dX11_run_95 rfl (by decide) e14 rfl ?_
      refine j_aload_n (pc := 96) hC 0 2 dX11_run_96 rfl rfl ?_
      refine jgr_11 (pc := 97) hC 2 (by decide) rfl kf_X11_26 dX11_run_97 ka0 (ly_11_2 hL ka0).1 ?_
      refine j_aload_n (pc := 100) hC 0 2 dX11_run_100 rfl rfl ?_
      refine jgr_11 (pc := 101) hC 3 (by decide) rfl kf_X11_30 dX11_run_101 ka0 (ly_11_3 hL ka0).1 ?_
      obtain ⟨m15, e16, h⟩ := jcl_some h
      refine j_vv (pc := 104) hC hR [.ref (L.2.2 (a0 + 85))] iy_X7_become (q := (RX7, TX7, 3)) (ci := 7) rfl rfl (by decide) km_X11_252 dX11_run_104 rfl (by decide) (ly_11_2 hL ka0).2.1 (c_X7_become hL (ly_11_2 hL ka0).2.1 (ly_11_3 hL ka0).2.1 e16) (by decide) (Nat.le_of_ble_eq_true rfl) rfl ?_
      refine j_aload_n (pc := 107) hC 0 2 dX11_run_107 rfl rfl ?_
      refine jgr_11 (pc := 108) hC 0 (by decide) rfl kf_X11_12 dX11_run_108 ka0 (ly_11_0 hL ka0).1 ?_
      obtain ⟨m17, e18, h⟩ := jbd_ex h
      refine j_vv (pc := 111) hC hR [] iy_X8_empty (q := (RX8, TX8, 2)) (ci := 8) rfl rfl (by decide) km_X11_192 dX11_run_111 rfl (by decide) (ly_11_0 hL ka0).2.1 (c_X8_empty hL (ly_11_0 hL ka0).2.1 e18.symm) (by decide) (Nat.le_of_ble_eq_true rfl) rfl ?_
      refine j_iload_n (pc := 114) hC 1 0 dX11_run_114 rfl rfl ?_
      obtain ⟨rfl, rfl⟩ := Prod.mk.inj (Option.some.inj h)
      exact j_iret (pc := 115) hC dX11_run_115 rfl
    · rw [if_neg c12] at h
      refine j_aload_n (pc := 49) hC 0 1 dX11_run_49 rfl rfl ?_
      refine jgr_11 (pc := 50) hC 8 (by decide) rfl kf_X11_76 dX11_run_50 ka0 (ly_11_8 hL ka0).1 ?_
      refine jgi_4 (pc := 53) hC 5 (by decide) rfl kf_X11_262 dX11_run_53 (ly_11_8 hL ka0).2.1 ?_
      refine j_istore_n (pc := 56) hC 1 [(1, .int (m10.1 (a0 + 179) 5)), (2, .int v1), (0, .ref (L.2.2 a0))] dX11_run_56 rfl (by decide) rfl rfl ?_
      refine j_aload_n (pc := 57) hC 0 2 dX11_run_57 rfl rfl ?_
      refine jgr_11 (pc := 58) hC 1 (by decide) rfl kf_X11_19 dX11_run_58 ka0 (ly_11_1 hL ka0).1 ?_
      refine j_aload_n (pc := 61) hC 0 2 dX11_run_61 rfl rfl ?_
      refine jgr_11 (pc := 62) hC 2 (by decide) rfl kf_X11_26 dX11_run_62 ka0 (ly_11_2 hL ka0).1 ?_
      refine jgr_7 (pc := 65) hC 0 (by decide) rfl kf_X11_42 dX11_run_65 (ly_11_2 hL ka0).2.1 (ly_7_0 hL (ly_11_2 hL ka0).2.1).1 ?_
      refine j_aload_n (pc := 68) hC 0 2 dX11_run_68 rfl rfl ?_
      refine jgr_11 (pc := 69) hC 3 (by decide) rfl kf_X11_30 dX11_run_69 ka0 (ly_11_3 hL ka0).1 ?_
      refine jgr_7 (pc := 72) hC 0 (by decide) rfl kf_X11_42 dX11_run_72 (ly_11_3 hL ka0).2.1 (ly_7_0 hL (ly_11_3 hL ka0).2.1).1 ?_
      obtain ⟨v19, e20, h⟩ := jcl_some h
      refine j_vi (pc := 75) hC hR [.ref (L.2.2 (a0 + 86))] iy_X9_otherThings (q := (RX9, TX9, 7)) (ci := 9) rfl rfl (by decide) km_X11_231 dX11_run_75 rfl (by decide) (ly_7_0 hL (ly_11_2 hL ka0).2.1).2.1 (c_X9_otherThings hL (ly_7_0 hL (ly_11_2 hL ka0).2.1).2.1 (ly_7_0 hL (ly_11_3 hL ka0).2.1).2.1 e20) (by decide) (Nat.le_of_ble_eq_true rfl) rfl ?_
      refine j_i2l (pc := 78) hC dX11_run_78 ?_
      obtain ⟨m21, e22, h⟩ := jcl_some h
      refine j_vv (pc := 79) hC hR [.long v19.toInt64] iy_X3_only (q := (RX3, TX3, 2)) (ci := 3) rfl rfl (by decide) km_X11_235 dX11_run_79 rfl (by decide) (ly_11_1 hL ka0).2.1 (c_X3_only hL (ly_11_1 hL ka0).2.1 e22) (by decide) (Nat.le_of_ble_eq_true rfl) rfl ?_
      refine j_goto (pc := 82) hC 107 dX11_run_82 (by decide) ?_
      refine j_aload_n (pc := 107) hC 0 2 dX11_run_107 rfl rfl ?_
      refine jgr_11 (pc := 108) hC 0 (by decide) rfl kf_X11_12 dX11_run_108 ka0 (ly_11_0 hL ka0).1 ?_
      obtain ⟨m23, e24, h⟩ := jbd_ex h
      refine j_vv (pc := 111) hC hR [] iy_X8_empty (q := (RX8, TX8, 2)) (ci := 8) rfl rfl (by decide) km_X11_192 dX11_run_111 rfl (by decide) (ly_11_0 hL ka0).2.1 (c_X8_empty hL (ly_11_0 hL ka0).2.1 e24.symm) (by decide) (Nat.le_of_ble_eq_true rfl) rfl ?_
      refine j_iload_n (pc := 114) hC 1 0 dX11_run_114 rfl rfl ?_
      obtain ⟨rfl, rfl⟩ := Prod.mk.inj (Option.some.inj h)
      exact j_iret (pc := 115) hC dX11_run_115 rfl
  · rw [if_neg c4] at h
    refine j_iconst (pc := 13) hC (-1 : Int32) dX11_run_13 (by decide) ?_
    refine j_iload_n (pc := 14) hC 2 0 dX11_run_14 rfl rfl ?_
    refine j_isub (pc := 15) hC dX11_run_15 ?_
    refine j_istore_n (pc := 16) hC 1 [(1, .int ((-1 : Int32) - v1)), (2, .int v1), (0, .ref (L.2.2 a0))] dX11_run_16 rfl (by decide) rfl rfl ?_
    refine j_goto (pc := 17) hC 107 dX11_run_17 (by decide) ?_
    refine j_aload_n (pc := 107) hC 0 2 dX11_run_107 rfl rfl ?_
    refine jgr_11 (pc := 108) hC 0 (by decide) rfl kf_X11_12 dX11_run_108 ka0 (ly_11_0 hL ka0).1 ?_
    obtain ⟨m25, e26, h⟩ := jbd_ex h
    refine j_vv (pc := 111) hC hR [] iy_X8_empty (q := (RX8, TX8, 2)) (ci := 8) rfl rfl (by decide) km_X11_192 dX11_run_111 rfl (by decide) (ly_11_0 hL ka0).2.1 (c_X8_empty hL (ly_11_0 hL ka0).2.1 e26.symm) (by decide) (Nat.le_of_ble_eq_true rfl) rfl ?_
    refine j_iload_n (pc := 114) hC 1 0 dX11_run_114 rfl rfl ?_
    obtain ⟨rfl, rfl⟩ := Prod.mk.inj (Option.some.inj h)
    exact j_iret (pc := 115) hC dX11_run_115 rfl
theorem dX11_isOpen_0 : decode cX11_isOpen 0 = .ok (.iload_n 1, 1) := by decide +kernel
theorem dX11_isOpen_1 : decode cX11_isOpen 1 = .ok (.iconst 1, 1) := by decide +kernel
theorem dX11_isOpen_2 : decode cX11_isOpen 2 = .ok (.if_icmp .lt 18, 3) := by decide +kernel
theorem dX11_isOpen_5 : decode cX11_isOpen 5 = .ok (.iload_n 1, 1) := by decide +kernel
theorem dX11_isOpen_6 : decode cX11_isOpen 6 = .ok (.aload_n 0, 1) := by decide +kernel
theorem dX11_isOpen_7 : decode cX11_isOpen 7 = .ok (.getfield 26, 3) := by decide +kernel
theorem dX11_isOpen_10 : decode cX11_isOpen 10 = .ok (.getfield 215, 3) := by decide +kernel
theorem dX11_isOpen_13 : decode cX11_isOpen 13 = .ok (.if_icmp .gt 7, 3) := by decide +kernel
theorem dX11_isOpen_16 : decode cX11_isOpen 16 = .ok (.iconst 1, 1) := by decide +kernel
theorem dX11_isOpen_17 : decode cX11_isOpen 17 = .ok (.goto 4, 3) := by decide +kernel
theorem dX11_isOpen_20 : decode cX11_isOpen 20 = .ok (.iconst 0, 1) := by decide +kernel
theorem dX11_isOpen_21 : decode cX11_isOpen 21 = .ok (.ireturn, 1) := by decide +kernel
def f_X11_isOpen (a0 : Nat) (x1 : Int32) (μ : jM) : Int32 :=
  (if x1 < (1 : Int32) then (0 : Int32) else (if (μ.1 (a0 + 5) 2) < x1 then (0 : Int32) else (1 : Int32)))
set_option maxHeartbeats 4000000 in
set_option maxRecDepth 100000 in
theorem c_X11_isOpen {l : Launch} {G : jG} {L : jL} (hL : jOKL L) {a0 : Nat} {x1 : Int32} (ka0 : jK L a0 11) {μ : jM} {r : Int32} (h : f_X11_isOpen a0 x1 μ = r) : jCt l G L 3 yX11_isOpen cX11_isOpen 2 (some .boolean) [.ref (L.2.2 a0), .int x1] μ (some (.int r)) μ := by
  refine jCt_of (by decide) (Nat.le_of_ble_eq_true rfl) (fun X hC hX hR => ?_)
  subst hX
  have hC : jC X G cX11_isOpen 2 RX11 (some .boolean) := hC
  unfold f_X11_isOpen at h
  show jJ X G 2 L 0 0 (jQM X G L (some (.int r)) μ 0 0) 0 [(0, .ref (L.2.2 a0)), (1, .int x1)] [] μ
  refine j_iload_n (pc := 0) hC 1 1 dX11_isOpen_0 rfl rfl ?_
  refine j_iconst (pc := 1) hC (1 : Int32) dX11_isOpen_1 (by decide) ?_
  refine j_icmp_lt (pc := 2) hC 20 dX11_isOpen_2 (by decide) (fun c1 => ?_) (fun c1 => ?_)
  · rw [if_pos c1] at h
    refine j_iconst (pc := 20) hC (0 : Int32) dX11_isOpen_20 (by decide) ?_
    subst h
    exact j_bret (pc := 21) hC dX11_isOpen_21 rfl rfl
  · rw [if_neg c1] at h
    refine j_iload_n (pc := 5) hC 1 1 dX11_isOpen_5 rfl rfl ?_
    refine j_aload_n (pc := 6) hC 0 0 dX11_isOpen_6 rfl rfl ?_
    refine jgr_11 (pc := 7) hC 2 (by decide) rfl kf_X11_26 dX11_isOpen_7 ka0 (ly_11_2 hL ka0).1 ?_
    refine jgi_7 (pc := 10) hC 2 (by decide) rfl kf_X11_215 dX11_isOpen_10 (ly_11_2 hL ka0).2.1 ?_
    refine j_icmp_gt (pc := 13) hC 20 dX11_isOpen_13 (by decide) (fun c2 => ?_) (fun c2 => ?_)
    · rw [if_pos c2] at h
      refine j_iconst (pc := 20) hC (0 : Int32) dX11_isOpen_20 (by decide) ?_
      subst h
      exact j_bret (pc := 21) hC dX11_isOpen_21 rfl rfl
    · rw [if_neg c2] at h
      refine j_iconst (pc := 16) hC (1 : Int32) dX11_isOpen_16 (by decide) ?_
      refine j_goto (pc := 17) hC 21 dX11_isOpen_17 (by decide) ?_
      subst h
      exact j_bret (pc := 21) hC dX11_isOpen_21 rfl rfl
theorem dX11_was_0 : decode cX11_was 0 = .ok (.aload_n 0, 1) := by decide +kernel
theorem dX11_was_1 : decode cX11_was 1 = .ok (.iload_n 1, 1) := by decide +kernel
theorem dX11_was_2 : decode cX11_was 2 = .ok (.invokevirtual 268, 3) := by decide +kernel
theorem dX11_was_5 : decode cX11_was 5 = .ok (.ifCond .eq 10, 3) := by decide +kernel
theorem dX11_was_8 : decode cX11_was 8 = .ok (.iload_n 2, 1) := by decide +kernel
theorem dX11_was_9 : decode cX11_was 9 = .ok (.invokestatic 271, 3) := by decide +kernel
theorem dX11_was_12 : decode cX11_was 12 = .ok (.ifCond .ne 5, 3) := by decide +kernel
theorem dX11_was_15 : decode cX11_was 15 = .ok (.iconst (-1), 1) := by decide +kernel
theorem dX11_was_16 : decode cX11_was 16 = .ok (.ireturn, 1) := by decide +kernel
theorem dX11_was_17 : decode cX11_was 17 = .ok (.aload_n 0, 1) := by decide +kernel
theorem dX11_was_18 : decode cX11_was 18 = .ok (.getfield 26, 3) := by decide +kernel
theorem dX11_was_21 : decode cX11_was 21 = .ok (.getfield 222, 3) := by decide +kernel
theorem dX11_was_24 : decode cX11_was 24 = .ok (.iload_n 1, 1) := by decide +kernel
theorem dX11_was_25 : decode cX11_was 25 = .ok (.iconst 1, 1) := by decide +kernel
theorem dX11_was_26 : decode cX11_was 26 = .ok (.isub, 1) := by decide +kernel
theorem dX11_was_27 : decode cX11_was 27 = .ok (.aaload, 1) := by decide +kernel
theorem dX11_was_28 : decode cX11_was 28 = .ok (.getfield 226, 3) := by decide +kernel
theorem dX11_was_31 : decode cX11_was 31 = .ok (.iload_n 2, 1) := by decide +kernel
theorem dX11_was_32 : decode cX11_was 32 = .ok (.invokevirtual 274, 3) := by decide +kernel
theorem dX11_was_35 : decode cX11_was 35 = .ok (.ireturn, 1) := by decide +kernel
def f_X11_was (a0 : Nat) (x1 : Int32) (x2 : Int32) (μ : jM) : Option (Int32) :=
  (if (f_X11_isOpen a0 x1 μ) = (0 : Int32) then some (-1 : Int32) else (if (f_X11_isThing x2) = (0 : Int32) then some (-1 : Int32) else jin (x1 - (1 : Int32)) 9 (jcl (f_X9_tellThing (((a0 + 13) + 8 * (x1 - (1 : Int32)).toNatClampNeg) + 1) x2 μ) (fun v4 => some v4))))
set_option maxHeartbeats 4000000 in
set_option maxRecDepth 100000 in
theorem c_X11_was {l : Launch} {G : jG} {L : jL} (hL : jOKL L) {a0 : Nat} {x1 : Int32} {x2 : Int32} (ka0 : jK L a0 11) {μ : jM} {r : Int32} (h : f_X11_was a0 x1 x2 μ = some r) : jCt l G L 5 yX11_was cX11_was 3 (some .int) [.ref (L.2.2 a0), .int x1, .int x2] μ (some (.int r)) μ := by
  refine jCt_of (by decide) (Nat.le_of_ble_eq_true rfl) (fun X hC hX hR => ?_)
  subst hX
  have hC : jC X G cX11_was 3 RX11 (some .int) := hC
  unfold f_X11_was at h
  show jJ X G 3 L 0 0 (jQM X G L (some (.int r)) μ 0 0) 0 [(0, .ref (L.2.2 a0)), (1, .int x1), (2, .int x2)] [] μ
  refine j_aload_n (pc := 0) hC 0 0 dX11_was_0 rfl rfl ?_
  refine j_iload_n (pc := 1) hC 1 1 dX11_was_1 rfl rfl ?_
  refine j_vi (pc := 2) hC hR [.int x1] iy_X11_isOpen (q := (RX11, TX11, 15)) (ci := 11) rfl rfl (by decide) km_X11_268 dX11_was_2 rfl (by decide) ka0 (c_X11_isOpen hL ka0 rfl) (by decide) (Nat.le_of_ble_eq_true rfl) rfl ?_
  refine j_if_eq (pc := 5) hC 15 dX11_was_5 (by decide) (fun c1 => ?_) (fun c1 => ?_)
  · rw [if_pos c1] at h
    refine j_iconst (pc := 15) hC (-1 : Int32) dX11_was_15 (by decide) ?_
    obtain rfl := Option.some.inj h
    exact j_iret (pc := 16) hC dX11_was_16 rfl
  · rw [if_neg c1] at h
    refine j_iload_n (pc := 8) hC 2 2 dX11_was_8 rfl rfl ?_
    refine j_si (pc := 9) hC hR [.int x2] iy_X11_isThing km_X11_271 dX11_was_9 rfl (by decide) (c_X11_isThing hL  rfl) (by decide) (Nat.le_of_ble_eq_true rfl) rfl ?_
    refine j_if_ne (pc := 12) hC 17 dX11_was_12 (by decide) (fun c2 => ?_) (fun c2 => ?_)
    · rw [if_neg c2] at h
      refine j_aload_n (pc := 17) hC 0 0 dX11_was_17 rfl rfl ?_
      refine jgr_11 (pc := 18) hC 2 (by decide) rfl kf_X11_26 dX11_was_18 ka0 (ly_11_2 hL ka0).1 ?_
      refine jgr_7 (pc := 21) hC 1 (by decide) rfl kf_X11_222 dX11_was_21 (ly_11_2 hL ka0).2.1 (ly_7_1 hL (ly_11_2 hL ka0).2.1).1 ?_
      refine j_iload_n (pc := 24) hC 1 1 dX11_was_24 rfl rfl ?_
      refine j_iconst (pc := 25) hC (1 : Int32) dX11_was_25 (by decide) ?_
      refine j_isub (pc := 26) hC dX11_was_26 ?_
      obtain ⟨i3, h⟩ := jin_some h
      refine j_aald (pc := 27) hC 3 dX11_was_27 rfl (by decide) (ly_7_1 hL (ly_11_2 hL ka0).2.1).2.1 (le_16 hL (ly_7_1 hL (ly_11_2 hL ka0).2.1).2.1 (jlt i3)).1 i3 (le_16 hL (ly_7_1 hL (ly_11_2 hL ka0).2.1).2.1 (jlt i3)).2.1 ?_
      refine jgr_1 (pc := 28) hC 0 (by decide) rfl kf_X11_226 dX11_was_28 (le_16 hL (ly_7_1 hL (ly_11_2 hL ka0).2.1).2.1 (jlt i3)).2.2.1 (ly_1_0 hL (le_16 hL (ly_7_1 hL (ly_11_2 hL ka0).2.1).2.1 (jlt i3)).2.2.1).1 ?_
      refine j_iload_n (pc := 31) hC 2 2 dX11_was_31 rfl rfl ?_
      obtain ⟨v4, e5, h⟩ := jcl_some h
      refine j_vi (pc := 32) hC hR [.int x2] iy_X9_tellThing (q := (RX9, TX9, 7)) (ci := 9) rfl rfl (by decide) km_X11_274 dX11_was_32 rfl (by decide) (ly_1_0 hL (le_16 hL (ly_7_1 hL (ly_11_2 hL ka0).2.1).2.1 (jlt i3)).2.2.1).2.1 (c_X9_tellThing hL (ly_1_0 hL (le_16 hL (ly_7_1 hL (ly_11_2 hL ka0).2.1).2.1 (jlt i3)).2.2.1).2.1 e5) (by decide) (Nat.le_of_ble_eq_true rfl) rfl ?_
      obtain rfl := Option.some.inj h
      exact j_iret (pc := 35) hC dX11_was_35 rfl
    · rw [if_pos c2] at h
      refine j_iconst (pc := 15) hC (-1 : Int32) dX11_was_15 (by decide) ?_
      obtain rfl := Option.some.inj h
      exact j_iret (pc := 16) hC dX11_was_16 rfl
theorem dX11_trail_0 : decode cX11_trail 0 = .ok (.aload_n 0, 1) := by decide +kernel
theorem dX11_trail_1 : decode cX11_trail 1 = .ok (.iload_n 1, 1) := by decide +kernel
theorem dX11_trail_2 : decode cX11_trail 2 = .ok (.invokevirtual 268, 3) := by decide +kernel
theorem dX11_trail_5 : decode cX11_trail 5 = .ok (.ifCond .ne 5, 3) := by decide +kernel
theorem dX11_trail_8 : decode cX11_trail 8 = .ok (.iconst (-1), 1) := by decide +kernel
theorem dX11_trail_9 : decode cX11_trail 9 = .ok (.ireturn, 1) := by decide +kernel
theorem dX11_trail_10 : decode cX11_trail 10 = .ok (.aload_n 0, 1) := by decide +kernel
theorem dX11_trail_11 : decode cX11_trail 11 = .ok (.getfield 26, 3) := by decide +kernel
theorem dX11_trail_14 : decode cX11_trail 14 = .ok (.getfield 222, 3) := by decide +kernel
theorem dX11_trail_17 : decode cX11_trail 17 = .ok (.iload_n 1, 1) := by decide +kernel
theorem dX11_trail_18 : decode cX11_trail 18 = .ok (.iconst 1, 1) := by decide +kernel
theorem dX11_trail_19 : decode cX11_trail 19 = .ok (.isub, 1) := by decide +kernel
theorem dX11_trail_20 : decode cX11_trail 20 = .ok (.aaload, 1) := by decide +kernel
theorem dX11_trail_21 : decode cX11_trail 21 = .ok (.astore_n 2, 1) := by decide +kernel
theorem dX11_trail_22 : decode cX11_trail 22 = .ok (.aload_n 0, 1) := by decide +kernel
theorem dX11_trail_23 : decode cX11_trail 23 = .ok (.getfield 19, 3) := by decide +kernel
theorem dX11_trail_26 : decode cX11_trail 26 = .ok (.invokevirtual 277, 3) := by decide +kernel
theorem dX11_trail_29 : decode cX11_trail 29 = .ok (.iconst 0, 1) := by decide +kernel
theorem dX11_trail_30 : decode cX11_trail 30 = .ok (.istore_n 3, 1) := by decide +kernel
theorem dX11_trail_31 : decode cX11_trail 31 = .ok (.iload_n 3, 1) := by decide +kernel
theorem dX11_trail_32 : decode cX11_trail 32 = .ok (.aload_n 2, 1) := by decide +kernel
theorem dX11_trail_33 : decode cX11_trail 33 = .ok (.getfield 245, 3) := by decide +kernel
theorem dX11_trail_36 : decode cX11_trail 36 = .ok (.if_icmp .ge 23, 3) := by decide +kernel
theorem dX11_trail_39 : decode cX11_trail 39 = .ok (.aload_n 0, 1) := by decide +kernel
theorem dX11_trail_40 : decode cX11_trail 40 = .ok (.getfield 19, 3) := by decide +kernel
theorem dX11_trail_43 : decode cX11_trail 43 = .ok (.aload_n 2, 1) := by decide +kernel
theorem dX11_trail_44 : decode cX11_trail 44 = .ok (.getfield 278, 3) := by decide +kernel
theorem dX11_trail_47 : decode cX11_trail 47 = .ok (.iload_n 3, 1) := by decide +kernel
theorem dX11_trail_48 : decode cX11_trail 48 = .ok (.iaload, 1) := by decide +kernel
theorem dX11_trail_49 : decode cX11_trail 49 = .ok (.i2l, 1) := by decide +kernel
theorem dX11_trail_50 : decode cX11_trail 50 = .ok (.invokevirtual 248, 3) := by decide +kernel
theorem dX11_trail_53 : decode cX11_trail 53 = .ok (.iinc 3 1, 3) := by decide +kernel
theorem dX11_trail_56 : decode cX11_trail 56 = .ok (.goto (-25), 3) := by decide +kernel
theorem dX11_trail_59 : decode cX11_trail 59 = .ok (.aload_n 2, 1) := by decide +kernel
theorem dX11_trail_60 : decode cX11_trail 60 = .ok (.getfield 245, 3) := by decide +kernel
theorem dX11_trail_63 : decode cX11_trail 63 = .ok (.ireturn, 1) := by decide +kernel
def f_X11_trail_L31 (a0 : Nat) (x1 : Int32) (u5 : Int32) (m6 : jM) : Option ((Int32 × jM) ⊕ (jM)) :=
  (if (m6.1 ((a0 + 13) + 8 * (x1 - (1 : Int32)).toNatClampNeg) 2) ≤ u5 then some (.inr m6) else jrd (m6.1 (((a0 + 13) + 8 * (x1 - (1 : Int32)).toNatClampNeg) + 7)) u5 22 (fun v9 => jcl (f_X3_tell (a0 + 3) v9.toInt64 m6) (fun m11 => some (.inl ((u5 + (1 : Int32), m11))))))
def f_X11_trail (a0 : Nat) (x1 : Int32) (μ : jM) : Option (Int32 × jM) :=
  (if (f_X11_isOpen a0 x1 μ) = (0 : Int32) then some (((-1 : Int32), μ)) else jin (x1 - (1 : Int32)) 9 (jbd (f_X3_empty (a0 + 3) μ) (fun m3 => jcl (jloop (fun (s : Int32 × jM) => f_X11_trail_L31 a0 x1 s.1 s.2) jfu (((0 : Int32), m3))) (fun w13 => some ((w13.1 ((a0 + 13) + 8 * (x1 - (1 : Int32)).toNatClampNeg) 2, w13))))))
set_option maxHeartbeats 4000000 in
set_option maxRecDepth 100000 in
theorem c_X11_trail {l : Launch} {G : jG} {L : jL} (hL : jOKL L) {a0 : Nat} {x1 : Int32} (ka0 : jK L a0 11) {μ μ' : jM} {r : Int32} (h : f_X11_trail a0 x1 μ = some ((r, μ'))) : jCt l G L 4 yX11_trail cX11_trail 4 (some .int) [.ref (L.2.2 a0), .int x1] μ (some (.int r)) μ' := by
  refine jCt_of (by decide) (Nat.le_of_ble_eq_true rfl) (fun X hC hX hR => ?_)
  subst hX
  have hC : jC X G cX11_trail 4 RX11 (some .int) := hC
  unfold f_X11_trail at h
  show jJ X G 4 L 0 0 (jQM X G L (some (.int r)) μ' 0 0) 0 [(0, .ref (L.2.2 a0)), (1, .int x1)] [] μ
  refine j_aload_n (pc := 0) hC 0 0 dX11_trail_0 rfl rfl ?_
  refine j_iload_n (pc := 1) hC 1 1 dX11_trail_1 rfl rfl ?_
  refine j_vi (pc := 2) hC hR [.int x1] iy_X11_isOpen (q := (RX11, TX11, 15)) (ci := 11) rfl rfl (by decide) km_X11_268 dX11_trail_2 rfl (by decide) ka0 (c_X11_isOpen hL ka0 rfl) (by decide) (Nat.le_of_ble_eq_true rfl) rfl ?_
  refine j_if_ne (pc := 5) hC 10 dX11_trail_5 (by decide) (fun c1 => ?_) (fun c1 => ?_)
  · rw [if_neg c1] at h
    refine j_aload_n (pc := 10) hC 0 0 dX11_trail_10 rfl rfl ?_
    refine jgr_11 (pc := 11) hC 2 (by decide) rfl kf_X11_26 dX11_trail_11 ka0 (ly_11_2 hL ka0).1 ?_
    refine jgr_7 (pc := 14) hC 1 (by decide) rfl kf_X11_222 dX11_trail_14 (ly_11_2 hL ka0).2.1 (ly_7_1 hL (ly_11_2 hL ka0).2.1).1 ?_
    refine j_iload_n (pc := 17) hC 1 1 dX11_trail_17 rfl rfl ?_
    refine j_iconst (pc := 18) hC (1 : Int32) dX11_trail_18 (by decide) ?_
    refine j_isub (pc := 19) hC dX11_trail_19 ?_
    obtain ⟨i2, h⟩ := jin_some h
    refine j_aald (pc := 20) hC 3 dX11_trail_20 rfl (by decide) (ly_7_1 hL (ly_11_2 hL ka0).2.1).2.1 (le_16 hL (ly_7_1 hL (ly_11_2 hL ka0).2.1).2.1 (jlt i2)).1 i2 (le_16 hL (ly_7_1 hL (ly_11_2 hL ka0).2.1).2.1 (jlt i2)).2.1 ?_
    refine j_astore_n (pc := 21) hC 2 [(2, .ref (L.2.2 ((a0 + 13) + 8 * (x1 - (1 : Int32)).toNatClampNeg))), (0, .ref (L.2.2 a0)), (1, .int x1)] dX11_trail_21 rfl (by decide) rfl rfl ?_
    refine j_aload_n (pc := 22) hC 0 1 dX11_trail_22 rfl rfl ?_
    refine jgr_11 (pc := 23) hC 1 (by decide) rfl kf_X11_19 dX11_trail_23 ka0 (ly_11_1 hL ka0).1 ?_
    obtain ⟨m3, e4, h⟩ := jbd_ex h
    refine j_vv (pc := 26) hC hR [] iy_X3_empty (q := (RX3, TX3, 2)) (ci := 3) rfl rfl (by decide) km_X11_277 dX11_trail_26 rfl (by decide) (ly_11_1 hL ka0).2.1 (c_X3_empty hL (ly_11_1 hL ka0).2.1 e4.symm) (by decide) (Nat.le_of_ble_eq_true rfl) rfl ?_
    refine j_iconst (pc := 29) hC (0 : Int32) dX11_trail_29 (by decide) ?_
    refine j_istore_n (pc := 30) hC 3 [(3, .int (0 : Int32)), (2, .ref (L.2.2 ((a0 + 13) + 8 * (x1 - (1 : Int32)).toNatClampNeg))), (0, .ref (L.2.2 a0)), (1, .int x1)] dX11_trail_30 rfl (by decide) rfl rfl ?_
    obtain ⟨w13, hw14, h⟩ := jcl_some h
    refine j_lv [2, 1, 0] rfl ?_
    refine j_loop (step := (fun (s : Int32 × jM) => f_X11_trail_L31 a0 x1 s.1 s.2)) (P := (fun (s : Int32 × jM) => jJ X G 4 L 0 0 (jQM X G L (some (.int r)) μ' 0 0) 31 [(0, .ref (L.2.2 a0)), (2, .ref (L.2.2 ((a0 + 13) + 8 * (x1 - (1 : Int32)).toNatClampNeg))), (3, .int s.1)] [] s.2)) (R := (fun (e : jM) => jJ X G 4 L 0 0 (jQM X G L (some (.int r)) μ' 0 0) 59 [(2, .ref (L.2.2 ((a0 + 13) + 8 * (x1 - (1 : Int32)).toNatClampNeg)))] [] e)) ?_ jfu (((0 : Int32), m3)) w13 hw14 ?_
    · intro s15 o h hk
      obtain ⟨u5, m6⟩ := s15
      change f_X11_trail_L31 a0 x1 u5 m6 = some o at h
      unfold f_X11_trail_L31 at h
      show jJ X G 4 L 0 0 (jQM X G L (some (.int r)) μ' 0 0) 31 [(0, .ref (L.2.2 a0)), (2, .ref (L.2.2 ((a0 + 13) + 8 * (x1 - (1 : Int32)).toNatClampNeg))), (3, .int u5)] [] m6
      refine j_iload_n (pc := 31) hC 3 2 dX11_trail_31 rfl rfl ?_
      refine j_aload_n (pc := 32) hC 2 1 dX11_trail_32 rfl rfl ?_
      refine jgi_1 (pc := 33) hC 2 (by decide) rfl kf_X11_245 dX11_trail_33 (le_16 hL (ly_7_1 hL (ly_11_2 hL ka0).2.1).2.1 (jlt i2)).2.2.1 ?_
      refine j_icmp_ge (pc := 36) hC 59 dX11_trail_36 (by decide) (fun c7 => ?_) (fun c7 => ?_)
      · rw [if_pos c7] at h
        obtain rfl := Option.some.inj h
        have hk : jJ X G 4 L 0 0 (jQM X G L (some (.int r)) μ' 0 0) 59 [(2, .ref (L.2.2 ((a0 + 13) + 8 * (x1 - (1 : Int32)).toNatClampNeg)))] [] m6 := hk
        exact j_lv [1] rfl hk
      · rw [if_neg c7] at h
        refine j_aload_n (pc := 39) hC 0 0 dX11_trail_39 rfl rfl ?_
        refine jgr_11 (pc := 40) hC 1 (by decide) rfl kf_X11_19 dX11_trail_40 ka0 (ly_11_1 hL ka0).1 ?_
        refine j_aload_n (pc := 43) hC 2 1 dX11_trail_43 rfl rfl ?_
        refine jgr_1 (pc := 44) hC 1 (by decide) rfl kf_X11_278 dX11_trail_44 (le_16 hL (ly_7_1 hL (ly_11_2 hL ka0).2.1).2.1 (jlt i2)).2.2.1 (ly_1_1 hL (le_16 hL (ly_7_1 hL (ly_11_2 hL ka0).2.1).2.1 (jlt i2)).2.2.1).1 ?_
        refine j_iload_n (pc := 47) hC 3 2 dX11_trail_47 rfl rfl ?_
        obtain ⟨i8, v9, e10, h⟩ := jrd_some h
        refine j_iald (pc := 48) hC dX11_trail_48 (ly_1_1 hL (le_16 hL (ly_7_1 hL (ly_11_2 hL ka0).2.1).2.1 (jlt i2)).2.2.1).2.1 (ly_1_1 hL (le_16 hL (ly_7_1 hL (ly_11_2 hL ka0).2.1).2.1 (jlt i2)).2.2.1).2.2 i8 e10 ?_
        refine j_i2l (pc := 49) hC dX11_trail_49 ?_
        obtain ⟨m11, e12, h⟩ := jcl_some h
        refine j_vv (pc := 50) hC hR [.long v9.toInt64] iy_X3_tell (q := (RX3, TX3, 2)) (ci := 3) rfl rfl (by decide) km_X11_248 dX11_trail_50 rfl (by decide) (ly_11_1 hL ka0).2.1 (c_X3_tell hL (ly_11_1 hL ka0).2.1 e12) (by decide) (Nat.le_of_ble_eq_true rfl) rfl ?_
        refine j_iinc (pc := 53) hC 2 (u5 + (1 : Int32)) [(3, .int (u5 + (1 : Int32))), (0, .ref (L.2.2 a0)), (2, .ref (L.2.2 ((a0 + 13) + 8 * (x1 - (1 : Int32)).toNatClampNeg)))] dX11_trail_53 rfl rfl (by decide) rfl ?_
        refine j_goto (pc := 56) hC 31 dX11_trail_56 (by decide) ?_
        obtain rfl := Option.some.inj h
        have hk : jJ X G 4 L 0 0 (jQM X G L (some (.int r)) μ' 0 0) 31 [(0, .ref (L.2.2 a0)), (2, .ref (L.2.2 ((a0 + 13) + 8 * (x1 - (1 : Int32)).toNatClampNeg))), (3, .int (u5 + (1 : Int32)))] [] m11 := hk
        exact j_lv [1, 2, 0] rfl hk
    · obtain ⟨m16, rfl⟩ : ∃ y, y = w13 := ⟨_, rfl⟩
      try dsimp only at h
      show jJ X G 4 L 0 0 (jQM X G L (some (.int r)) μ' 0 0) 59 [(2, .ref (L.2.2 ((a0 + 13) + 8 * (x1 - (1 : Int32)).toNatClampNeg)))] [] m16
      refine j_aload_n (pc := 59) hC 2 0 dX11_trail_59 rfl rfl ?_
      refine jgi_1 (pc := 60) hC 2 (by decide) rfl kf_X11_245 dX11_trail_60 (le_16 hL (ly_7_1 hL (ly_11_2 hL ka0).2.1).2.1 (jlt i2)).2.2.1 ?_
      obtain ⟨rfl, rfl⟩ := Prod.mk.inj (Option.some.inj h)
      exact j_iret (pc := 63) hC dX11_trail_63 rfl
  · rw [if_pos c1] at h
    refine j_iconst (pc := 8) hC (-1 : Int32) dX11_trail_8 (by decide) ?_
    obtain ⟨rfl, rfl⟩ := Prod.mk.inj (Option.some.inj h)
    exact j_iret (pc := 9) hC dX11_trail_9 rfl
