theorem dX11_best_0 : decode cX11_best 0 = .ok (.iconst 0, 1) := by decide +kernel
theorem dX11_best_1 : decode cX11_best 1 = .ok (.istore_n 1, 1) := by decide +kernel
theorem dX11_best_2 : decode cX11_best 2 = .ok (.iconst 0, 1) := by decide +kernel
theorem dX11_best_3 : decode cX11_best 3 = .ok (.istore_n 2, 1) := by decide +kernel
theorem dX11_best_4 : decode cX11_best 4 = .ok (.aload_n 0, 1) := by decide +kernel
theorem dX11_best_5 : decode cX11_best 5 = .ok (.getfield 49, 3) := by decide +kernel
theorem dX11_best_8 : decode cX11_best 8 = .ok (.iconst 1, 1) := by decide +kernel
theorem dX11_best_9 : decode cX11_best 9 = .ok (.invokevirtual 298, 3) := by decide +kernel
theorem dX11_best_12 : decode cX11_best 12 = .ok (.iconst 0, 1) := by decide +kernel
theorem dX11_best_13 : decode cX11_best 13 = .ok (.istore_n 3, 1) := by decide +kernel
theorem dX11_best_14 : decode cX11_best 14 = .ok (.iload_n 3, 1) := by decide +kernel
theorem dX11_best_15 : decode cX11_best 15 = .ok (.sipush 7776, 3) := by decide +kernel
theorem dX11_best_18 : decode cX11_best 18 = .ok (.if_icmp .ge 53, 3) := by decide +kernel
theorem dX11_best_21 : decode cX11_best 21 = .ok (.aload_n 0, 1) := by decide +kernel
theorem dX11_best_22 : decode cX11_best 22 = .ok (.getfield 49, 3) := by decide +kernel
theorem dX11_best_25 : decode cX11_best 25 = .ok (.invokevirtual 301, 3) := by decide +kernel
theorem dX11_best_28 : decode cX11_best 28 = .ok (.ifCond .eq 43, 3) := by decide +kernel
theorem dX11_best_31 : decode cX11_best 31 = .ok (.aload_n 0, 1) := by decide +kernel
theorem dX11_best_32 : decode cX11_best 32 = .ok (.invokevirtual 341, 3) := by decide +kernel
theorem dX11_best_35 : decode cX11_best 35 = .ok (.istore 4, 2) := by decide +kernel
theorem dX11_best_37 : decode cX11_best 37 = .ok (.iload_n 1, 1) := by decide +kernel
theorem dX11_best_38 : decode cX11_best 38 = .ok (.ifCond .eq 9, 3) := by decide +kernel
theorem dX11_best_41 : decode cX11_best 41 = .ok (.iload 4, 2) := by decide +kernel
theorem dX11_best_43 : decode cX11_best 43 = .ok (.iload_n 2, 1) := by decide +kernel
theorem dX11_best_44 : decode cX11_best 44 = .ok (.if_icmp .le 12, 3) := by decide +kernel
theorem dX11_best_47 : decode cX11_best 47 = .ok (.iload 4, 2) := by decide +kernel
theorem dX11_best_49 : decode cX11_best 49 = .ok (.istore_n 2, 1) := by decide +kernel
theorem dX11_best_50 : decode cX11_best 50 = .ok (.iconst 0, 1) := by decide +kernel
theorem dX11_best_51 : decode cX11_best 51 = .ok (.istore_n 1, 1) := by decide +kernel
theorem dX11_best_52 : decode cX11_best 52 = .ok (.aload_n 0, 1) := by decide +kernel
theorem dX11_best_53 : decode cX11_best 53 = .ok (.invokevirtual 305, 3) := by decide +kernel
theorem dX11_best_56 : decode cX11_best 56 = .ok (.iload 4, 2) := by decide +kernel
theorem dX11_best_58 : decode cX11_best 58 = .ok (.iload_n 2, 1) := by decide +kernel
theorem dX11_best_59 : decode cX11_best 59 = .ok (.if_icmp .ne 6, 3) := by decide +kernel
theorem dX11_best_62 : decode cX11_best 62 = .ok (.iinc 1 1, 3) := by decide +kernel
theorem dX11_best_65 : decode cX11_best 65 = .ok (.iinc 3 1, 3) := by decide +kernel
theorem dX11_best_68 : decode cX11_best 68 = .ok (.goto (-54), 3) := by decide +kernel
theorem dX11_best_71 : decode cX11_best 71 = .ok (.iload_n 1, 1) := by decide +kernel
theorem dX11_best_72 : decode cX11_best 72 = .ok (.ifCond .ne 6, 3) := by decide +kernel
theorem dX11_best_75 : decode cX11_best 75 = .ok (.bipush (-2), 2) := by decide +kernel
theorem dX11_best_77 : decode cX11_best 77 = .ok (.ireturn, 1) := by decide +kernel
theorem dX11_best_78 : decode cX11_best 78 = .ok (.aload_n 0, 1) := by decide +kernel
theorem dX11_best_79 : decode cX11_best 79 = .ok (.getfield 19, 3) := by decide +kernel
theorem dX11_best_82 : decode cX11_best 82 = .ok (.iload_n 2, 1) := by decide +kernel
theorem dX11_best_83 : decode cX11_best 83 = .ok (.i2l, 1) := by decide +kernel
theorem dX11_best_84 : decode cX11_best 84 = .ok (.invokevirtual 235, 3) := by decide +kernel
theorem dX11_best_87 : decode cX11_best 87 = .ok (.aload_n 0, 1) := by decide +kernel
theorem dX11_best_88 : decode cX11_best 88 = .ok (.getfield 19, 3) := by decide +kernel
theorem dX11_best_91 : decode cX11_best 91 = .ok (.aload_n 0, 1) := by decide +kernel
theorem dX11_best_92 : decode cX11_best 92 = .ok (.getfield 101, 3) := by decide +kernel
theorem dX11_best_95 : decode cX11_best 95 = .ok (.invokevirtual 313, 3) := by decide +kernel
theorem dX11_best_98 : decode cX11_best 98 = .ok (.iload_n 1, 1) := by decide +kernel
theorem dX11_best_99 : decode cX11_best 99 = .ok (.ireturn, 1) := by decide +kernel
def f_X11_best_L14 (a0 : Nat) (u3 : Int32) (u4 : Int32) (u5 : Int32) (m6 : jM) : Option ((Int32 × Int32 × Int32 × jM) ⊕ (Int32 × Int32 × jM)) :=
  (if (7776 : Int32) ≤ u5 then some (.inr ((u3, u4, m6))) else jcl2 (f_X10_advance (a0 + 167) m6) (fun v8 m9 => (if v8 = (0 : Int32) then some (.inr ((u3, u4, m9))) else jcl (f_X11_worthOfSolution a0 m9) (fun v12 => jbd (fun (t14 : Int32) (t15 : Int32) (m16 : jM) => (if v12 = t15 then some (.inl ((t14 + (1 : Int32), t15, u5 + (1 : Int32), m16))) else some (.inl ((t14, t15, u5 + (1 : Int32), m16))))) (fun k17 => jbd (jcl (f_X11_keepFirst a0 m9) (fun m24 => k17 (0 : Int32) v12 m24)) (fun k21 => (if u3 = (0 : Int32) then k21 else (if v12 ≤ u4 then k17 u3 u4 m9 else k21))))))))
def f_X11_best (a0 : Nat) (μ : jM) : Option (Int32 × jM) :=
  jcl (f_X10_begin (a0 + 167) (1 : Int32) μ) (fun m1 => jcl (jloop (fun (s : Int32 × Int32 × Int32 × jM) => f_X11_best_L14 a0 s.1 s.2.1 s.2.2.1 s.2.2.2) jfu (((0 : Int32), (0 : Int32), (0 : Int32), m1))) (fun w28 => (if w28.1 = (0 : Int32) then some (((-2 : Int32), w28.2.2)) else jcl (f_X3_only (a0 + 3) w28.2.1.toInt64 w28.2.2) (fun m35 => jcl (f_X3_tellAll (a0 + 3) (a0 + 188) m35) (fun m37 => some ((w28.1, m37)))))))
set_option maxHeartbeats 4000000 in
set_option maxRecDepth 100000 in
theorem c_X11_best {l : Launch} {G : jG} {L : jL} (hL : jOKL L) {a0 : Nat} (ka0 : jK L a0 11) {μ μ' : jM} {r : Int32} (h : f_X11_best a0 μ = some ((r, μ'))) : jCt l G L 6 yX11_best cX11_best 5 (some .int) [.ref (L.2.2 a0)] μ (some (.int r)) μ' := by
  refine jCt_of (by decide) (Nat.le_of_ble_eq_true rfl) (fun X hC hX hR => ?_)
  subst hX
  have hC : jC X G cX11_best 5 RX11 (some .int) := hC
  unfold f_X11_best at h
  show jJ X G 5 L 0 0 (jQM X G L (some (.int r)) μ' 0 0) 0 [(0, .ref (L.2.2 a0))] [] μ
  refine j_iconst (pc := 0) hC (0 : Int32) dX11_best_0 (by decide) ?_
  refine j_istore_n (pc := 1) hC 1 [(1, .int (0 : Int32)), (0, .ref (L.2.2 a0))] dX11_best_1 rfl (by decide) rfl rfl ?_
  refine j_iconst (pc := 2) hC (0 : Int32) dX11_best_2 (by decide) ?_
  refine j_istore_n (pc := 3) hC 2 [(2, .int (0 : Int32)), (1, .int (0 : Int32)), (0, .ref (L.2.2 a0))] dX11_best_3 rfl (by decide) rfl rfl ?_
  refine j_aload_n (pc := 4) hC 0 2 dX11_best_4 rfl rfl ?_
  refine jgr_11 (pc := 5) hC 5 (by decide) rfl kf_X11_49 dX11_best_5 ka0 (ly_11_5 hL ka0).1 ?_
  refine j_iconst (pc := 8) hC (1 : Int32) dX11_best_8 (by decide) ?_
  obtain ⟨m1, e2, h⟩ := jcl_some h
  refine j_vv (pc := 9) hC hR [.int (1 : Int32)] iy_X10_begin (q := (RX10, TX10, 5)) (ci := 10) rfl rfl (by decide) km_X11_298 dX11_best_9 rfl (by decide) (ly_11_5 hL ka0).2.1 (c_X10_begin hL (ly_11_5 hL ka0).2.1 e2) (by decide) (Nat.le_of_ble_eq_true rfl) rfl ?_
  refine j_iconst (pc := 12) hC (0 : Int32) dX11_best_12 (by decide) ?_
  refine j_istore_n (pc := 13) hC 3 [(3, .int (0 : Int32)), (2, .int (0 : Int32)), (1, .int (0 : Int32)), (0, .ref (L.2.2 a0))] dX11_best_13 rfl (by decide) rfl rfl ?_
  obtain ⟨w28, hw29, h⟩ := jcl_some h
  refine j_lv [3, 2, 1, 0] rfl ?_
  refine j_loop (step := (fun (s : Int32 × Int32 × Int32 × jM) => f_X11_best_L14 a0 s.1 s.2.1 s.2.2.1 s.2.2.2)) (P := (fun (s : Int32 × Int32 × Int32 × jM) => jJ X G 5 L 0 0 (jQM X G L (some (.int r)) μ' 0 0) 14 [(0, .ref (L.2.2 a0)), (1, .int s.1), (2, .int s.2.1), (3, .int s.2.2.1)] [] s.2.2.2)) (R := (fun (e : Int32 × Int32 × jM) => jJ X G 5 L 0 0 (jQM X G L (some (.int r)) μ' 0 0) 71 [(0, .ref (L.2.2 a0)), (1, .int e.1), (2, .int e.2.1)] [] e.2.2)) ?_ jfu (((0 : Int32), (0 : Int32), (0 : Int32), m1)) w28 hw29 ?_
  · intro s30 o h hk
    obtain ⟨u3, u4, u5, m6⟩ := s30
    change f_X11_best_L14 a0 u3 u4 u5 m6 = some o at h
    unfold f_X11_best_L14 at h
    show jJ X G 5 L 0 0 (jQM X G L (some (.int r)) μ' 0 0) 14 [(0, .ref (L.2.2 a0)), (1, .int u3), (2, .int u4), (3, .int u5)] [] m6
    refine j_iload_n (pc := 14) hC 3 3 dX11_best_14 rfl rfl ?_
    refine j_sipush (pc := 15) hC (7776 : Int32) dX11_best_15 (by decide) ?_
    refine j_icmp_ge (pc := 18) hC 71 dX11_best_18 (by decide) (fun c7 => ?_) (fun c7 => ?_)
    · rw [if_pos c7] at h
      obtain rfl := Option.some.inj h
      have hk : jJ X G 5 L 0 0 (jQM X G L (some (.int r)) μ' 0 0) 71 [(0, .ref (L.2.2 a0)), (1, .int u3), (2, .int u4)] [] m6 := hk
      exact j_lv [0, 1, 2] rfl hk
    · rw [if_neg c7] at h
      refine j_aload_n (pc := 21) hC 0 0 dX11_best_21 rfl rfl ?_
      refine jgr_11 (pc := 22) hC 5 (by decide) rfl kf_X11_49 dX11_best_22 ka0 (ly_11_5 hL ka0).1 ?_
      obtain ⟨v8, m9, e10, h⟩ := jcl2_some h
      refine j_vi (pc := 25) hC hR [] iy_X10_advance (q := (RX10, TX10, 5)) (ci := 10) rfl rfl (by decide) km_X11_301 dX11_best_25 rfl (by decide) (ly_11_5 hL ka0).2.1 (c_X10_advance hL (ly_11_5 hL ka0).2.1 e10) (by decide) (Nat.le_of_ble_eq_true rfl) rfl ?_
      refine j_if_eq (pc := 28) hC 71 dX11_best_28 (by decide) (fun c11 => ?_) (fun c11 => ?_)
      · rw [if_pos c11] at h
        obtain rfl := Option.some.inj h
        have hk : jJ X G 5 L 0 0 (jQM X G L (some (.int r)) μ' 0 0) 71 [(0, .ref (L.2.2 a0)), (1, .int u3), (2, .int u4)] [] m9 := hk
        exact j_lv [0, 1, 2] rfl hk
      · rw [if_neg c11] at h
        refine j_aload_n (pc := 31) hC 0 0 dX11_best_31 rfl rfl ?_
        obtain ⟨v12, e13, h⟩ := jcl_some h
        refine j_vi (pc := 32) hC hR [] iy_X11_worthOfSolution (q := (RX11, TX11, 15)) (ci := 11) rfl rfl (by decide) km_X11_341 dX11_best_32 rfl (by decide) ka0 (c_X11_worthOfSolution hL ka0 e13) (by decide) (Nat.le_of_ble_eq_true rfl) rfl ?_
        refine j_istore (pc := 35) hC [(4, .int v12), (0, .ref (L.2.2 a0)), (1, .int u3), (2, .int u4), (3, .int u5)] dX11_best_35 (by decide) rfl rfl ?_
        refine j_iload_n (pc := 37) hC 1 2 dX11_best_37 rfl rfl ?_
        obtain ⟨k17, e19, h⟩ := jbd_ex h
        have q18 : ∀ (t14 : Int32) (t15 : Int32) (m16 : jM), k17 t14 t15 m16 = some o → jJ X G 5 L 0 0 (jQM X G L (some (.int r)) μ' 0 0) 56 [(0, .ref (L.2.2 a0)), (1, .int t14), (2, .int t15), (3, .int u5), (4, .int v12)] [] m16 := by
          intro t14 t15 m16 h
          rw [e19] at h
          try dsimp only at h
          refine j_iload (pc := 56) hC 4 dX11_best_56 rfl ?_
          refine j_iload_n (pc := 58) hC 2 2 dX11_best_58 rfl rfl ?_
          refine j_icmp_ne (pc := 59) hC 65 dX11_best_59 (by decide) (fun c20 => ?_) (fun c20 => ?_)
          · rw [if_neg c20] at h
            refine j_iinc (pc := 65) hC 3 (u5 + (1 : Int32)) [(3, .int (u5 + (1 : Int32))), (0, .ref (L.2.2 a0)), (1, .int t14), (2, .int t15), (4, .int v12)] dX11_best_65 rfl rfl (by decide) rfl ?_
            refine j_goto (pc := 68) hC 14 dX11_best_68 (by decide) ?_
            obtain rfl := Option.some.inj h
            have hk : jJ X G 5 L 0 0 (jQM X G L (some (.int r)) μ' 0 0) 14 [(0, .ref (L.2.2 a0)), (1, .int t14), (2, .int t15), (3, .int (u5 + (1 : Int32)))] [] m16 := hk
            exact j_lv [1, 2, 3, 0] rfl hk
          · rw [if_pos c20] at h
            refine j_iinc (pc := 62) hC 1 (t14 + (1 : Int32)) [(1, .int (t14 + (1 : Int32))), (0, .ref (L.2.2 a0)), (2, .int t15), (3, .int u5), (4, .int v12)] dX11_best_62 rfl rfl (by decide) rfl ?_
            refine j_iinc (pc := 65) hC 3 (u5 + (1 : Int32)) [(3, .int (u5 + (1 : Int32))), (1, .int (t14 + (1 : Int32))), (0, .ref (L.2.2 a0)), (2, .int t15), (4, .int v12)] dX11_best_65 rfl rfl (by decide) rfl ?_
            refine j_goto (pc := 68) hC 14 dX11_best_68 (by decide) ?_
            obtain rfl := Option.some.inj h
            have hk : jJ X G 5 L 0 0 (jQM X G L (some (.int r)) μ' 0 0) 14 [(0, .ref (L.2.2 a0)), (1, .int (t14 + (1 : Int32))), (2, .int t15), (3, .int (u5 + (1 : Int32)))] [] m16 := hk
            exact j_lv [2, 1, 3, 0] rfl hk
        obtain ⟨k21, e23, h⟩ := jbd_ex h
        have q22 : k21 = some o → jJ X G 5 L 0 0 (jQM X G L (some (.int r)) μ' 0 0) 47 [(0, .ref (L.2.2 a0)), (3, .int u5), (4, .int v12)] [] m9 := by
          intro h
          rw [e23] at h
          refine j_iload (pc := 47) hC 2 dX11_best_47 rfl ?_
          refine j_istore_n (pc := 49) hC 2 [(2, .int v12), (0, .ref (L.2.2 a0)), (3, .int u5), (4, .int v12)] dX11_best_49 rfl (by decide) rfl rfl ?_
          refine j_iconst (pc := 50) hC (0 : Int32) dX11_best_50 (by decide) ?_
          refine j_istore_n (pc := 51) hC 1 [(1, .int (0 : Int32)), (2, .int v12), (0, .ref (L.2.2 a0)), (3, .int u5), (4, .int v12)] dX11_best_51 rfl (by decide) rfl rfl ?_
          refine j_aload_n (pc := 52) hC 0 2 dX11_best_52 rfl rfl ?_
          obtain ⟨m24, e25, h⟩ := jcl_some h
          refine j_vv (pc := 53) hC hR [] iy_X11_keepFirst (q := (RX11, TX11, 15)) (ci := 11) rfl rfl (by decide) km_X11_305 dX11_best_53 rfl (by decide) ka0 (c_X11_keepFirst hL ka0 e25) (by decide) (Nat.le_of_ble_eq_true rfl) rfl ?_
          exact j_lv [2, 0, 1, 3, 4] rfl (q18 _ _ _ h)
        refine j_if_eq (pc := 38) hC 47 dX11_best_38 (by decide) (fun c26 => ?_) (fun c26 => ?_)
        · rw [if_pos c26] at h
          exact j_lv [1, 4, 0] rfl (q22 h)
        · rw [if_neg c26] at h
          refine j_iload (pc := 41) hC 0 dX11_best_41 rfl ?_
          refine j_iload_n (pc := 43) hC 2 3 dX11_best_43 rfl rfl ?_
          refine j_icmp_le (pc := 44) hC 56 dX11_best_44 (by decide) (fun c27 => ?_) (fun c27 => ?_)
          · rw [if_pos c27] at h
            exact j_lv [1, 2, 3, 4, 0] rfl (q18 _ _ _ h)
          · rw [if_neg c27] at h
            exact j_lv [1, 4, 0] rfl (q22 h)
  · obtain ⟨z31, z32, m33⟩ := w28
    try dsimp only at h
    show jJ X G 5 L 0 0 (jQM X G L (some (.int r)) μ' 0 0) 71 [(0, .ref (L.2.2 a0)), (1, .int z31), (2, .int z32)] [] m33
    refine j_iload_n (pc := 71) hC 1 1 dX11_best_71 rfl rfl ?_
    refine j_if_ne (pc := 72) hC 78 dX11_best_72 (by decide) (fun c34 => ?_) (fun c34 => ?_)
    · rw [if_neg c34] at h
      refine j_aload_n (pc := 78) hC 0 0 dX11_best_78 rfl rfl ?_
      refine jgr_11 (pc := 79) hC 1 (by decide) rfl kf_X11_19 dX11_best_79 ka0 (ly_11_1 hL ka0).1 ?_
      refine j_iload_n (pc := 82) hC 2 2 dX11_best_82 rfl rfl ?_
      refine j_i2l (pc := 83) hC dX11_best_83 ?_
      obtain ⟨m35, e36, h⟩ := jcl_some h
      refine j_vv (pc := 84) hC hR [.long z32.toInt64] iy_X3_only (q := (RX3, TX3, 2)) (ci := 3) rfl rfl (by decide) km_X11_235 dX11_best_84 rfl (by decide) (ly_11_1 hL ka0).2.1 (c_X3_only hL (ly_11_1 hL ka0).2.1 e36) (by decide) (Nat.le_of_ble_eq_true rfl) rfl ?_
      refine j_aload_n (pc := 87) hC 0 0 dX11_best_87 rfl rfl ?_
      refine jgr_11 (pc := 88) hC 1 (by decide) rfl kf_X11_19 dX11_best_88 ka0 (ly_11_1 hL ka0).1 ?_
      refine j_aload_n (pc := 91) hC 0 0 dX11_best_91 rfl rfl ?_
      refine jgr_11 (pc := 92) hC 13 (by decide) rfl kf_X11_101 dX11_best_92 ka0 (ly_11_13 hL ka0).1 ?_
      obtain ⟨m37, e38, h⟩ := jcl_some h
      refine j_vv (pc := 95) hC hR [.ref (L.2.2 (a0 + 188))] iy_X3_tellAll (q := (RX3, TX3, 2)) (ci := 3) rfl rfl (by decide) km_X11_313 dX11_best_95 rfl (by decide) (ly_11_1 hL ka0).2.1 (c_X3_tellAll hL (ly_11_1 hL ka0).2.1 (ly_11_13 hL ka0).2.1 e38) (by decide) (Nat.le_of_ble_eq_true rfl) rfl ?_
      refine j_iload_n (pc := 98) hC 1 1 dX11_best_98 rfl rfl ?_
      obtain ⟨rfl, rfl⟩ := Prod.mk.inj (Option.some.inj h)
      exact j_iret (pc := 99) hC dX11_best_99 rfl
    · rw [if_pos c34] at h
      refine j_bipush (pc := 75) hC (-2 : Int32) dX11_best_75 (by decide) ?_
      obtain ⟨rfl, rfl⟩ := Prod.mk.inj (Option.some.inj h)
      exact j_iret (pc := 77) hC dX11_best_77 rfl
theorem dX11_shadowOfSolution_0 : decode cX11_shadowOfSolution 0 = .ok (.iconst 0, 1) := by decide +kernel
theorem dX11_shadowOfSolution_1 : decode cX11_shadowOfSolution 1 = .ok (.istore_n 2, 1) := by decide +kernel
theorem dX11_shadowOfSolution_2 : decode cX11_shadowOfSolution 2 = .ok (.iconst 0, 1) := by decide +kernel
theorem dX11_shadowOfSolution_3 : decode cX11_shadowOfSolution 3 = .ok (.istore_n 3, 1) := by decide +kernel
theorem dX11_shadowOfSolution_4 : decode cX11_shadowOfSolution 4 = .ok (.iload_n 3, 1) := by decide +kernel
theorem dX11_shadowOfSolution_5 : decode cX11_shadowOfSolution 5 = .ok (.iconst 5, 1) := by decide +kernel
theorem dX11_shadowOfSolution_6 : decode cX11_shadowOfSolution 6 = .ok (.if_icmp .ge 33, 3) := by decide +kernel
theorem dX11_shadowOfSolution_9 : decode cX11_shadowOfSolution 9 = .ok (.iload_n 1, 1) := by decide +kernel
theorem dX11_shadowOfSolution_10 : decode cX11_shadowOfSolution 10 = .ok (.iload_n 3, 1) := by decide +kernel
theorem dX11_shadowOfSolution_11 : decode cX11_shadowOfSolution 11 = .ok (.iushr, 1) := by decide +kernel
theorem dX11_shadowOfSolution_12 : decode cX11_shadowOfSolution 12 = .ok (.iconst 1, 1) := by decide +kernel
theorem dX11_shadowOfSolution_13 : decode cX11_shadowOfSolution 13 = .ok (.iand, 1) := by decide +kernel
theorem dX11_shadowOfSolution_14 : decode cX11_shadowOfSolution 14 = .ok (.iconst 1, 1) := by decide +kernel
theorem dX11_shadowOfSolution_15 : decode cX11_shadowOfSolution 15 = .ok (.if_icmp .ne 18, 3) := by decide +kernel
theorem dX11_shadowOfSolution_18 : decode cX11_shadowOfSolution 18 = .ok (.bipush 6, 2) := by decide +kernel
theorem dX11_shadowOfSolution_20 : decode cX11_shadowOfSolution 20 = .ok (.iload_n 2, 1) := by decide +kernel
theorem dX11_shadowOfSolution_21 : decode cX11_shadowOfSolution 21 = .ok (.imul, 1) := by decide +kernel
theorem dX11_shadowOfSolution_22 : decode cX11_shadowOfSolution 22 = .ok (.aload_n 0, 1) := by decide +kernel
theorem dX11_shadowOfSolution_23 : decode cX11_shadowOfSolution 23 = .ok (.getfield 49, 3) := by decide +kernel
theorem dX11_shadowOfSolution_26 : decode cX11_shadowOfSolution 26 = .ok (.getfield 311, 3) := by decide +kernel
theorem dX11_shadowOfSolution_29 : decode cX11_shadowOfSolution 29 = .ok (.iload_n 3, 1) := by decide +kernel
theorem dX11_shadowOfSolution_30 : decode cX11_shadowOfSolution 30 = .ok (.iaload, 1) := by decide +kernel
theorem dX11_shadowOfSolution_31 : decode cX11_shadowOfSolution 31 = .ok (.iadd, 1) := by decide +kernel
theorem dX11_shadowOfSolution_32 : decode cX11_shadowOfSolution 32 = .ok (.istore_n 2, 1) := by decide +kernel
theorem dX11_shadowOfSolution_33 : decode cX11_shadowOfSolution 33 = .ok (.iinc 3 1, 3) := by decide +kernel
theorem dX11_shadowOfSolution_36 : decode cX11_shadowOfSolution 36 = .ok (.goto (-32), 3) := by decide +kernel
theorem dX11_shadowOfSolution_39 : decode cX11_shadowOfSolution 39 = .ok (.iload_n 2, 1) := by decide +kernel
theorem dX11_shadowOfSolution_40 : decode cX11_shadowOfSolution 40 = .ok (.ireturn, 1) := by decide +kernel
def f_X11_shadowOfSolution_L4 (a0 : Nat) (x1 : Int32) (μ : jM) (u1 : Int32) (u2 : Int32) : Option ((Int32 × Int32) ⊕ (Int32)) :=
  (if (5 : Int32) ≤ u2 then some (.inr u1) else (if ((jushr x1 u2) &&& (1 : Int32)) = (1 : Int32) then jrd (μ.1 (a0 + 168)) u2 5 (fun v6 => jbd (((6 : Int32) * u1) + v6 : Int32) (fun v8 => some (.inl ((v8, u2 + (1 : Int32)))))) else some (.inl ((u1, u2 + (1 : Int32))))))
def f_X11_shadowOfSolution (a0 : Nat) (x1 : Int32) (μ : jM) : Option (Int32) :=
  jcl (jloop (fun (s : Int32 × Int32) => f_X11_shadowOfSolution_L4 a0 x1 μ s.1 s.2) jfu (((0 : Int32), (0 : Int32)))) (fun w10 => some w10)
set_option maxHeartbeats 4000000 in
set_option maxRecDepth 100000 in
theorem c_X11_shadowOfSolution {l : Launch} {G : jG} {L : jL} (hL : jOKL L) {a0 : Nat} {x1 : Int32} (ka0 : jK L a0 11) {μ : jM} {r : Int32} (h : f_X11_shadowOfSolution a0 x1 μ = some r) : jCt l G L 3 yX11_shadowOfSolution cX11_shadowOfSolution 4 (some .int) [.ref (L.2.2 a0), .int x1] μ (some (.int r)) μ := by
  refine jCt_of (by decide) (Nat.le_of_ble_eq_true rfl) (fun X hC hX hR => ?_)
  subst hX
  have hC : jC X G cX11_shadowOfSolution 4 RX11 (some .int) := hC
  unfold f_X11_shadowOfSolution at h
  show jJ X G 4 L 0 0 (jQM X G L (some (.int r)) μ 0 0) 0 [(0, .ref (L.2.2 a0)), (1, .int x1)] [] μ
  refine j_iconst (pc := 0) hC (0 : Int32) dX11_shadowOfSolution_0 (by decide) ?_
  refine j_istore_n (pc := 1) hC 2 [(2, .int (0 : Int32)), (0, .ref (L.2.2 a0)), (1, .int x1)] dX11_shadowOfSolution_1 rfl (by decide) rfl rfl ?_
  refine j_iconst (pc := 2) hC (0 : Int32) dX11_shadowOfSolution_2 (by decide) ?_
  refine j_istore_n (pc := 3) hC 3 [(3, .int (0 : Int32)), (2, .int (0 : Int32)), (0, .ref (L.2.2 a0)), (1, .int x1)] dX11_shadowOfSolution_3 rfl (by decide) rfl rfl ?_
  obtain ⟨w10, hw11, h⟩ := jcl_some h
  refine j_lv [2, 3, 1, 0] rfl ?_
  refine j_loop (step := (fun (s : Int32 × Int32) => f_X11_shadowOfSolution_L4 a0 x1 μ s.1 s.2)) (P := (fun (s : Int32 × Int32) => jJ X G 4 L 0 0 (jQM X G L (some (.int r)) μ 0 0) 4 [(0, .ref (L.2.2 a0)), (1, .int x1), (2, .int s.1), (3, .int s.2)] [] μ)) (R := (fun (e : Int32) => jJ X G 4 L 0 0 (jQM X G L (some (.int r)) μ 0 0) 39 [(2, .int e)] [] μ)) ?_ jfu (((0 : Int32), (0 : Int32))) w10 hw11 ?_
  · intro s12 o h hk
    obtain ⟨u1, u2⟩ := s12
    change f_X11_shadowOfSolution_L4 a0 x1 μ u1 u2 = some o at h
    unfold f_X11_shadowOfSolution_L4 at h
    show jJ X G 4 L 0 0 (jQM X G L (some (.int r)) μ 0 0) 4 [(0, .ref (L.2.2 a0)), (1, .int x1), (2, .int u1), (3, .int u2)] [] μ
    refine j_iload_n (pc := 4) hC 3 3 dX11_shadowOfSolution_4 rfl rfl ?_
    refine j_iconst (pc := 5) hC (5 : Int32) dX11_shadowOfSolution_5 (by decide) ?_
    refine j_icmp_ge (pc := 6) hC 39 dX11_shadowOfSolution_6 (by decide) (fun c3 => ?_) (fun c3 => ?_)
    · rw [if_pos c3] at h
      obtain rfl := Option.some.inj h
      have hk : jJ X G 4 L 0 0 (jQM X G L (some (.int r)) μ 0 0) 39 [(2, .int u1)] [] μ := hk
      exact j_lv [2] rfl hk
    · rw [if_neg c3] at h
      refine j_iload_n (pc := 9) hC 1 1 dX11_shadowOfSolution_9 rfl rfl ?_
      refine j_iload_n (pc := 10) hC 3 3 dX11_shadowOfSolution_10 rfl rfl ?_
      refine j_iushr (pc := 11) hC dX11_shadowOfSolution_11 ?_
      refine j_iconst (pc := 12) hC (1 : Int32) dX11_shadowOfSolution_12 (by decide) ?_
      refine j_iand (pc := 13) hC dX11_shadowOfSolution_13 ?_
      refine j_iconst (pc := 14) hC (1 : Int32) dX11_shadowOfSolution_14 (by decide) ?_
      refine j_icmp_ne (pc := 15) hC 33 dX11_shadowOfSolution_15 (by decide) (fun c4 => ?_) (fun c4 => ?_)
      · rw [if_neg c4] at h
        refine j_iinc (pc := 33) hC 3 (u2 + (1 : Int32)) [(3, .int (u2 + (1 : Int32))), (0, .ref (L.2.2 a0)), (1, .int x1), (2, .int u1)] dX11_shadowOfSolution_33 rfl rfl (by decide) rfl ?_
        refine j_goto (pc := 36) hC 4 dX11_shadowOfSolution_36 (by decide) ?_
        obtain rfl := Option.some.inj h
        have hk : jJ X G 4 L 0 0 (jQM X G L (some (.int r)) μ 0 0) 4 [(0, .ref (L.2.2 a0)), (1, .int x1), (2, .int u1), (3, .int (u2 + (1 : Int32)))] [] μ := hk
        exact j_lv [1, 2, 3, 0] rfl hk
      · rw [if_pos c4] at h
        refine j_bipush (pc := 18) hC (6 : Int32) dX11_shadowOfSolution_18 (by decide) ?_
        refine j_iload_n (pc := 20) hC 2 2 dX11_shadowOfSolution_20 rfl rfl ?_
        refine j_imul (pc := 21) hC dX11_shadowOfSolution_21 ?_
        refine j_aload_n (pc := 22) hC 0 0 dX11_shadowOfSolution_22 rfl rfl ?_
        refine jgr_11 (pc := 23) hC 5 (by decide) rfl kf_X11_49 dX11_shadowOfSolution_23 ka0 (ly_11_5 hL ka0).1 ?_
        refine jgr_10 (pc := 26) hC 0 (by decide) rfl kf_X11_311 dX11_shadowOfSolution_26 (ly_11_5 hL ka0).2.1 (ly_10_0 hL (ly_11_5 hL ka0).2.1).1 ?_
        refine j_iload_n (pc := 29) hC 3 3 dX11_shadowOfSolution_29 rfl rfl ?_
        obtain ⟨i5, v6, e7, h⟩ := jrd_some h
        refine j_iald (pc := 30) hC dX11_shadowOfSolution_30 (ly_10_0 hL (ly_11_5 hL ka0).2.1).2.1 (ly_10_0 hL (ly_11_5 hL ka0).2.1).2.2 i5 e7 ?_
        refine j_iadd (pc := 31) hC dX11_shadowOfSolution_31 ?_
        obtain ⟨v8, e9, h⟩ := jbd_ex h
        refine j_istore_n (pc := 32) hC 2 [(2, .int v8), (0, .ref (L.2.2 a0)), (1, .int x1), (3, .int u2)] dX11_shadowOfSolution_32 rfl (by decide) e9 rfl ?_
        refine j_iinc (pc := 33) hC 3 (u2 + (1 : Int32)) [(3, .int (u2 + (1 : Int32))), (2, .int v8), (0, .ref (L.2.2 a0)), (1, .int x1)] dX11_shadowOfSolution_33 rfl rfl (by decide) rfl ?_
        refine j_goto (pc := 36) hC 4 dX11_shadowOfSolution_36 (by decide) ?_
        obtain rfl := Option.some.inj h
        have hk : jJ X G 4 L 0 0 (jQM X G L (some (.int r)) μ 0 0) 4 [(0, .ref (L.2.2 a0)), (1, .int x1), (2, .int v8), (3, .int (u2 + (1 : Int32)))] [] μ := hk
        exact j_lv [2, 3, 1, 0] rfl hk
  · obtain ⟨z13, rfl⟩ : ∃ y, y = w10 := ⟨_, rfl⟩
    try dsimp only at h
    show jJ X G 4 L 0 0 (jQM X G L (some (.int r)) μ 0 0) 39 [(2, .int z13)] [] μ
    refine j_iload_n (pc := 39) hC 2 0 dX11_shadowOfSolution_39 rfl rfl ?_
    obtain rfl := Option.some.inj h
    exact j_iret (pc := 40) hC dX11_shadowOfSolution_40 rfl
theorem dX11_tellShadow_0 : decode cX11_tellShadow 0 = .ok (.iconst 1, 1) := by decide +kernel
theorem dX11_tellShadow_1 : decode cX11_tellShadow 1 = .ok (.istore_n 3, 1) := by decide +kernel
theorem dX11_tellShadow_2 : decode cX11_tellShadow 2 = .ok (.iconst 1, 1) := by decide +kernel
theorem dX11_tellShadow_3 : decode cX11_tellShadow 3 = .ok (.istore 4, 2) := by decide +kernel
theorem dX11_tellShadow_5 : decode cX11_tellShadow 5 = .ok (.iload 4, 2) := by decide +kernel
theorem dX11_tellShadow_7 : decode cX11_tellShadow 7 = .ok (.iload_n 2, 1) := by decide +kernel
theorem dX11_tellShadow_8 : decode cX11_tellShadow 8 = .ok (.if_icmp .ge 14, 3) := by decide +kernel
theorem dX11_tellShadow_11 : decode cX11_tellShadow 11 = .ok (.iload_n 3, 1) := by decide +kernel
theorem dX11_tellShadow_12 : decode cX11_tellShadow 12 = .ok (.bipush 6, 2) := by decide +kernel
theorem dX11_tellShadow_14 : decode cX11_tellShadow 14 = .ok (.imul, 1) := by decide +kernel
theorem dX11_tellShadow_15 : decode cX11_tellShadow 15 = .ok (.istore_n 3, 1) := by decide +kernel
theorem dX11_tellShadow_16 : decode cX11_tellShadow 16 = .ok (.iinc 4 1, 3) := by decide +kernel
theorem dX11_tellShadow_19 : decode cX11_tellShadow 19 = .ok (.goto (-14), 3) := by decide +kernel
theorem dX11_tellShadow_22 : decode cX11_tellShadow 22 = .ok (.iconst 0, 1) := by decide +kernel
theorem dX11_tellShadow_23 : decode cX11_tellShadow 23 = .ok (.istore 4, 2) := by decide +kernel
theorem dX11_tellShadow_25 : decode cX11_tellShadow 25 = .ok (.iload 4, 2) := by decide +kernel
theorem dX11_tellShadow_27 : decode cX11_tellShadow 27 = .ok (.iload_n 2, 1) := by decide +kernel
theorem dX11_tellShadow_28 : decode cX11_tellShadow 28 = .ok (.if_icmp .ge 32, 3) := by decide +kernel
theorem dX11_tellShadow_31 : decode cX11_tellShadow 31 = .ok (.aload_n 0, 1) := by decide +kernel
theorem dX11_tellShadow_32 : decode cX11_tellShadow 32 = .ok (.getfield 19, 3) := by decide +kernel
theorem dX11_tellShadow_35 : decode cX11_tellShadow 35 = .ok (.iload_n 1, 1) := by decide +kernel
theorem dX11_tellShadow_36 : decode cX11_tellShadow 36 = .ok (.iload_n 3, 1) := by decide +kernel
theorem dX11_tellShadow_37 : decode cX11_tellShadow 37 = .ok (.idiv, 1) := by decide +kernel
theorem dX11_tellShadow_38 : decode cX11_tellShadow 38 = .ok (.bipush 6, 2) := by decide +kernel
theorem dX11_tellShadow_40 : decode cX11_tellShadow 40 = .ok (.irem, 1) := by decide +kernel
theorem dX11_tellShadow_41 : decode cX11_tellShadow 41 = .ok (.i2l, 1) := by decide +kernel
theorem dX11_tellShadow_42 : decode cX11_tellShadow 42 = .ok (.invokevirtual 248, 3) := by decide +kernel
theorem dX11_tellShadow_45 : decode cX11_tellShadow 45 = .ok (.iconst 1, 1) := by decide +kernel
theorem dX11_tellShadow_46 : decode cX11_tellShadow 46 = .ok (.iload_n 3, 1) := by decide +kernel
theorem dX11_tellShadow_47 : decode cX11_tellShadow 47 = .ok (.bipush 6, 2) := by decide +kernel
theorem dX11_tellShadow_49 : decode cX11_tellShadow 49 = .ok (.idiv, 1) := by decide +kernel
theorem dX11_tellShadow_50 : decode cX11_tellShadow 50 = .ok (.invokestatic 161, 3) := by decide +kernel
theorem dX11_tellShadow_53 : decode cX11_tellShadow 53 = .ok (.istore_n 3, 1) := by decide +kernel
theorem dX11_tellShadow_54 : decode cX11_tellShadow 54 = .ok (.iinc 4 1, 3) := by decide +kernel
theorem dX11_tellShadow_57 : decode cX11_tellShadow 57 = .ok (.goto (-32), 3) := by decide +kernel
theorem dX11_tellShadow_60 : decode cX11_tellShadow 60 = .ok (.return_, 1) := by decide +kernel
def f_X11_tellShadow_L5 (x2 : Int32) (u1 : Int32) (u2 : Int32) : Option ((Int32 × Int32) ⊕ (Int32)) :=
  (if x2 ≤ u2 then some (.inr u1) else some (.inl ((u1 * (6 : Int32), u2 + (1 : Int32)))))
def f_X11_tellShadow_L25 (a0 : Nat) (x1 : Int32) (x2 : Int32) (u8 : Int32) (u9 : Int32) (m10 : jM) : Option ((Int32 × Int32 × jM) ⊕ (jM)) :=
  (if x2 ≤ u9 then some (.inr m10) else jnz u8 (jcl (f_X3_tell (a0 + 3) (((x1 / u8) - (x1 / u8) / (6 : Int32) * (6 : Int32)).toInt64) m10) (fun m13 => jbd (jmax (1 : Int32) (u8 / (6 : Int32)) : Int32) (fun v15 => some (.inl ((v15, u9 + (1 : Int32), m13)))))))
def f_X11_tellShadow (a0 : Nat) (x1 : Int32) (x2 : Int32) (μ : jM) : Option (jM) :=
  jcl (jloop (fun (s : Int32 × Int32) => f_X11_tellShadow_L5 x2 s.1 s.2) jfu (((1 : Int32), (1 : Int32)))) (fun w4 => jcl (jloop (fun (s : Int32 × Int32 × jM) => f_X11_tellShadow_L25 a0 x1 x2 s.1 s.2.1 s.2.2) jfu ((w4, (0 : Int32), μ))) (fun w17 => some w17))
set_option maxHeartbeats 4000000 in
set_option maxRecDepth 100000 in
theorem c_X11_tellShadow {l : Launch} {G : jG} {L : jL} (hL : jOKL L) {a0 : Nat} {x1 : Int32} {x2 : Int32} (ka0 : jK L a0 11) {μ μ' : jM} (h : f_X11_tellShadow a0 x1 x2 μ = some μ') : jCt l G L 4 yX11_tellShadow cX11_tellShadow 5 none [.ref (L.2.2 a0), .int x1, .int x2] μ none μ' := by
  refine jCt_of (by decide) (Nat.le_of_ble_eq_true rfl) (fun X hC hX hR => ?_)
  subst hX
  have hC : jC X G cX11_tellShadow 5 RX11 none := hC
  unfold f_X11_tellShadow at h
  show jJ X G 5 L 0 0 (jQM X G L none μ' 0 0) 0 [(0, .ref (L.2.2 a0)), (1, .int x1), (2, .int x2)] [] μ
  refine j_iconst (pc := 0) hC (1 : Int32) dX11_tellShadow_0 (by decide) ?_
  refine j_istore_n (pc := 1) hC 3 [(3, .int (1 : Int32)), (0, .ref (L.2.2 a0)), (1, .int x1), (2, .int x2)] dX11_tellShadow_1 rfl (by decide) rfl rfl ?_
  refine j_iconst (pc := 2) hC (1 : Int32) dX11_tellShadow_2 (by decide) ?_
  refine j_istore (pc := 3) hC [(4, .int (1 : Int32)), (3, .int (1 : Int32)), (0, .ref (L.2.2 a0)), (1, .int x1), (2, .int x2)] dX11_tellShadow_3 (by decide) rfl rfl ?_
  obtain ⟨w4, hw5, h⟩ := jcl_some h
  refine j_lv [2, 3, 4, 1, 0] rfl ?_
  refine j_loop (step := (fun (s : Int32 × Int32) => f_X11_tellShadow_L5 x2 s.1 s.2)) (P := (fun (s : Int32 × Int32) => jJ X G 5 L 0 0 (jQM X G L none μ' 0 0) 5 [(0, .ref (L.2.2 a0)), (1, .int x1), (2, .int x2), (3, .int s.1), (4, .int s.2)] [] μ)) (R := (fun (e : Int32) => jJ X G 5 L 0 0 (jQM X G L none μ' 0 0) 22 [(0, .ref (L.2.2 a0)), (1, .int x1), (2, .int x2), (3, .int e)] [] μ)) ?_ jfu (((1 : Int32), (1 : Int32))) w4 hw5 ?_
  · intro s6 o h hk
    obtain ⟨u1, u2⟩ := s6
    change f_X11_tellShadow_L5 x2 u1 u2 = some o at h
    unfold f_X11_tellShadow_L5 at h
    show jJ X G 5 L 0 0 (jQM X G L none μ' 0 0) 5 [(0, .ref (L.2.2 a0)), (1, .int x1), (2, .int x2), (3, .int u1), (4, .int u2)] [] μ
    refine j_iload (pc := 5) hC 4 dX11_tellShadow_5 rfl ?_
    refine j_iload_n (pc := 7) hC 2 2 dX11_tellShadow_7 rfl rfl ?_
    refine j_icmp_ge (pc := 8) hC 22 dX11_tellShadow_8 (by decide) (fun c3 => ?_) (fun c3 => ?_)
    · rw [if_pos c3] at h
      obtain rfl := Option.some.inj h
      have hk : jJ X G 5 L 0 0 (jQM X G L none μ' 0 0) 22 [(0, .ref (L.2.2 a0)), (1, .int x1), (2, .int x2), (3, .int u1)] [] μ := hk
      exact j_lv [0, 1, 2, 3] rfl hk
    · rw [if_neg c3] at h
      refine j_iload_n (pc := 11) hC 3 3 dX11_tellShadow_11 rfl rfl ?_
      refine j_bipush (pc := 12) hC (6 : Int32) dX11_tellShadow_12 (by decide) ?_
      refine j_imul (pc := 14) hC dX11_tellShadow_14 ?_
      refine j_istore_n (pc := 15) hC 3 [(3, .int (u1 * (6 : Int32))), (0, .ref (L.2.2 a0)), (1, .int x1), (2, .int x2), (4, .int u2)] dX11_tellShadow_15 rfl (by decide) rfl rfl ?_
      refine j_iinc (pc := 16) hC 4 (u2 + (1 : Int32)) [(4, .int (u2 + (1 : Int32))), (3, .int (u1 * (6 : Int32))), (0, .ref (L.2.2 a0)), (1, .int x1), (2, .int x2)] dX11_tellShadow_16 rfl rfl (by decide) rfl ?_
      refine j_goto (pc := 19) hC 5 dX11_tellShadow_19 (by decide) ?_
      obtain rfl := Option.some.inj h
      have hk : jJ X G 5 L 0 0 (jQM X G L none μ' 0 0) 5 [(0, .ref (L.2.2 a0)), (1, .int x1), (2, .int x2), (3, .int (u1 * (6 : Int32))), (4, .int (u2 + (1 : Int32)))] [] μ := hk
      exact j_lv [2, 3, 4, 1, 0] rfl hk
  · obtain ⟨z7, rfl⟩ : ∃ y, y = w4 := ⟨_, rfl⟩
    try dsimp only at h
    show jJ X G 5 L 0 0 (jQM X G L none μ' 0 0) 22 [(0, .ref (L.2.2 a0)), (1, .int x1), (2, .int x2), (3, .int z7)] [] μ
    refine j_iconst (pc := 22) hC (0 : Int32) dX11_tellShadow_22 (by decide) ?_
    refine j_istore (pc := 23) hC [(4, .int (0 : Int32)), (0, .ref (L.2.2 a0)), (1, .int x1), (2, .int x2), (3, .int z7)] dX11_tellShadow_23 (by decide) rfl rfl ?_
    obtain ⟨w17, hw18, h⟩ := jcl_some h
    refine j_lv [1, 2, 3, 4, 0] rfl ?_
    refine j_loop (step := (fun (s : Int32 × Int32 × jM) => f_X11_tellShadow_L25 a0 x1 x2 s.1 s.2.1 s.2.2)) (P := (fun (s : Int32 × Int32 × jM) => jJ X G 5 L 0 0 (jQM X G L none μ' 0 0) 25 [(0, .ref (L.2.2 a0)), (1, .int x1), (2, .int x2), (3, .int s.1), (4, .int s.2.1)] [] s.2.2)) (R := (fun (e : jM) => jJ X G 5 L 0 0 (jQM X G L none μ' 0 0) 60 [] [] e)) ?_ jfu ((z7, (0 : Int32), μ)) w17 hw18 ?_
    · intro s19 o h hk
      obtain ⟨u8, u9, m10⟩ := s19
      change f_X11_tellShadow_L25 a0 x1 x2 u8 u9 m10 = some o at h
      unfold f_X11_tellShadow_L25 at h
      show jJ X G 5 L 0 0 (jQM X G L none μ' 0 0) 25 [(0, .ref (L.2.2 a0)), (1, .int x1), (2, .int x2), (3, .int u8), (4, .int u9)] [] m10
      refine j_iload (pc := 25) hC 4 dX11_tellShadow_25 rfl ?_
      refine j_iload_n (pc := 27) hC 2 2 dX11_tellShadow_27 rfl rfl ?_
      refine j_icmp_ge (pc := 28) hC 60 dX11_tellShadow_28 (by decide) (fun c11 => ?_) (fun c11 => ?_)
      · rw [if_pos c11] at h
        obtain rfl := Option.some.inj h
        have hk : jJ X G 5 L 0 0 (jQM X G L none μ' 0 0) 60 [] [] m10 := hk
        exact j_lv [] rfl hk
      · rw [if_neg c11] at h
        refine j_aload_n (pc := 31) hC 0 0 dX11_tellShadow_31 rfl rfl ?_
        refine jgr_11 (pc := 32) hC 1 (by decide) rfl kf_X11_19 dX11_tellShadow_32 ka0 (ly_11_1 hL ka0).1 ?_
        refine j_iload_n (pc := 35) hC 1 1 dX11_tellShadow_35 rfl rfl ?_
        refine j_iload_n (pc := 36) hC 3 3 dX11_tellShadow_36 rfl rfl ?_
        obtain ⟨nz12, h⟩ := jnz_some h
        refine j_idiv (pc := 37) hC dX11_tellShadow_37 nz12 ?_
        refine j_bipush (pc := 38) hC (6 : Int32) dX11_tellShadow_38 (by decide) ?_
        refine j_irem (pc := 40) hC dX11_tellShadow_40 (by decide) ?_
        refine j_i2l (pc := 41) hC dX11_tellShadow_41 ?_
        obtain ⟨m13, e14, h⟩ := jcl_some h
        refine j_vv (pc := 42) hC hR [.long (((x1 / u8) - (x1 / u8) / (6 : Int32) * (6 : Int32)).toInt64)] iy_X3_tell (q := (RX3, TX3, 2)) (ci := 3) rfl rfl (by decide) km_X11_248 dX11_tellShadow_42 rfl (by decide) (ly_11_1 hL ka0).2.1 (c_X3_tell hL (ly_11_1 hL ka0).2.1 e14) (by decide) (Nat.le_of_ble_eq_true rfl) rfl ?_
        refine j_iconst (pc := 45) hC (1 : Int32) dX11_tellShadow_45 (by decide) ?_
        refine j_iload_n (pc := 46) hC 3 3 dX11_tellShadow_46 rfl rfl ?_
        refine j_bipush (pc := 47) hC (6 : Int32) dX11_tellShadow_47 (by decide) ?_
        refine j_idiv (pc := 49) hC dX11_tellShadow_49 (by decide) ?_
        refine j_mmax (pc := 50) hC hR kx_X11_161 dX11_tellShadow_50 (by decide) (Nat.le_of_ble_eq_true rfl) ?_
        obtain ⟨v15, e16, h⟩ := jbd_ex h
        refine j_istore_n (pc := 53) hC 3 [(3, .int v15), (0, .ref (L.2.2 a0)), (1, .int x1), (2, .int x2), (4, .int u9)] dX11_tellShadow_53 rfl (by decide) e16 rfl ?_
        refine j_iinc (pc := 54) hC 4 (u9 + (1 : Int32)) [(4, .int (u9 + (1 : Int32))), (3, .int v15), (0, .ref (L.2.2 a0)), (1, .int x1), (2, .int x2)] dX11_tellShadow_54 rfl rfl (by decide) rfl ?_
        refine j_goto (pc := 57) hC 25 dX11_tellShadow_57 (by decide) ?_
        obtain rfl := Option.some.inj h
        have hk : jJ X G 5 L 0 0 (jQM X G L none μ' 0 0) 25 [(0, .ref (L.2.2 a0)), (1, .int x1), (2, .int x2), (3, .int v15), (4, .int (u9 + (1 : Int32)))] [] m13 := hk
        exact j_lv [2, 3, 4, 1, 0] rfl hk
    · obtain ⟨m20, rfl⟩ : ∃ y, y = w17 := ⟨_, rfl⟩
      try dsimp only at h
      show jJ X G 5 L 0 0 (jQM X G L none μ' 0 0) 60 [] [] m20
      obtain rfl := Option.some.inj h
      exact j_vret (pc := 60) hC dX11_tellShadow_60 rfl
theorem dX11_shadows_0 : decode cX11_shadows 0 = .ok (.iload_n 1, 1) := by decide +kernel
theorem dX11_shadows_1 : decode cX11_shadows 1 = .ok (.iconst 1, 1) := by decide +kernel
theorem dX11_shadows_2 : decode cX11_shadows 2 = .ok (.if_icmp .lt 17, 3) := by decide +kernel
theorem dX11_shadows_5 : decode cX11_shadows 5 = .ok (.iload_n 1, 1) := by decide +kernel
theorem dX11_shadows_6 : decode cX11_shadows 6 = .ok (.bipush 32, 2) := by decide +kernel
theorem dX11_shadows_8 : decode cX11_shadows 8 = .ok (.if_icmp .ge 11, 3) := by decide +kernel
theorem dX11_shadows_11 : decode cX11_shadows 11 = .ok (.iload_n 1, 1) := by decide +kernel
theorem dX11_shadows_12 : decode cX11_shadows 12 = .ok (.invokestatic 284, 3) := by decide +kernel
theorem dX11_shadows_15 : decode cX11_shadows 15 = .ok (.iconst 3, 1) := by decide +kernel
theorem dX11_shadows_16 : decode cX11_shadows 16 = .ok (.if_icmp .le 5, 3) := by decide +kernel
theorem dX11_shadows_19 : decode cX11_shadows 19 = .ok (.iconst (-1), 1) := by decide +kernel
theorem dX11_shadows_20 : decode cX11_shadows 20 = .ok (.ireturn, 1) := by decide +kernel
theorem dX11_shadows_21 : decode cX11_shadows 21 = .ok (.aload_n 0, 1) := by decide +kernel
theorem dX11_shadows_22 : decode cX11_shadows 22 = .ok (.getfield 97, 3) := by decide +kernel
theorem dX11_shadows_25 : decode cX11_shadows 25 = .ok (.iconst 0, 1) := by decide +kernel
theorem dX11_shadows_26 : decode cX11_shadows 26 = .ok (.invokestatic 317, 3) := by decide +kernel
theorem dX11_shadows_29 : decode cX11_shadows 29 = .ok (.aload_n 0, 1) := by decide +kernel
theorem dX11_shadows_30 : decode cX11_shadows 30 = .ok (.getfield 49, 3) := by decide +kernel
theorem dX11_shadows_33 : decode cX11_shadows 33 = .ok (.iconst 1, 1) := by decide +kernel
theorem dX11_shadows_34 : decode cX11_shadows 34 = .ok (.invokevirtual 298, 3) := by decide +kernel
theorem dX11_shadows_37 : decode cX11_shadows 37 = .ok (.iconst 0, 1) := by decide +kernel
theorem dX11_shadows_38 : decode cX11_shadows 38 = .ok (.istore_n 2, 1) := by decide +kernel
theorem dX11_shadows_39 : decode cX11_shadows 39 = .ok (.iload_n 2, 1) := by decide +kernel
theorem dX11_shadows_40 : decode cX11_shadows 40 = .ok (.sipush 7776, 3) := by decide +kernel
theorem dX11_shadows_43 : decode cX11_shadows 43 = .ok (.if_icmp .ge 33, 3) := by decide +kernel
theorem dX11_shadows_46 : decode cX11_shadows 46 = .ok (.aload_n 0, 1) := by decide +kernel
theorem dX11_shadows_47 : decode cX11_shadows 47 = .ok (.getfield 49, 3) := by decide +kernel
theorem dX11_shadows_50 : decode cX11_shadows 50 = .ok (.invokevirtual 301, 3) := by decide +kernel
theorem dX11_shadows_53 : decode cX11_shadows 53 = .ok (.ifCond .eq 23, 3) := by decide +kernel
theorem dX11_shadows_56 : decode cX11_shadows 56 = .ok (.aload_n 0, 1) := by decide +kernel
theorem dX11_shadows_57 : decode cX11_shadows 57 = .ok (.getfield 97, 3) := by decide +kernel
theorem dX11_shadows_60 : decode cX11_shadows 60 = .ok (.aload_n 0, 1) := by decide +kernel
theorem dX11_shadows_61 : decode cX11_shadows 61 = .ok (.iload_n 1, 1) := by decide +kernel
theorem dX11_shadows_62 : decode cX11_shadows 62 = .ok (.invokevirtual 344, 3) := by decide +kernel
theorem dX11_shadows_65 : decode cX11_shadows 65 = .ok (.dup2, 1) := by decide +kernel
theorem dX11_shadows_66 : decode cX11_shadows 66 = .ok (.iaload, 1) := by decide +kernel
theorem dX11_shadows_67 : decode cX11_shadows 67 = .ok (.iconst 1, 1) := by decide +kernel
theorem dX11_shadows_68 : decode cX11_shadows 68 = .ok (.iadd, 1) := by decide +kernel
theorem dX11_shadows_69 : decode cX11_shadows 69 = .ok (.iastore, 1) := by decide +kernel
theorem dX11_shadows_70 : decode cX11_shadows 70 = .ok (.iinc 2 1, 3) := by decide +kernel
theorem dX11_shadows_73 : decode cX11_shadows 73 = .ok (.goto (-34), 3) := by decide +kernel
theorem dX11_shadows_76 : decode cX11_shadows 76 = .ok (.iconst 0, 1) := by decide +kernel
theorem dX11_shadows_77 : decode cX11_shadows 77 = .ok (.istore_n 2, 1) := by decide +kernel
theorem dX11_shadows_78 : decode cX11_shadows 78 = .ok (.iconst 0, 1) := by decide +kernel
theorem dX11_shadows_79 : decode cX11_shadows 79 = .ok (.istore_n 3, 1) := by decide +kernel
theorem dX11_shadows_80 : decode cX11_shadows 80 = .ok (.iconst 0, 1) := by decide +kernel
theorem dX11_shadows_81 : decode cX11_shadows 81 = .ok (.istore 4, 2) := by decide +kernel
theorem dX11_shadows_83 : decode cX11_shadows 83 = .ok (.iload 4, 2) := by decide +kernel
theorem dX11_shadows_85 : decode cX11_shadows 85 = .ok (.aload_n 0, 1) := by decide +kernel
theorem dX11_shadows_86 : decode cX11_shadows 86 = .ok (.getfield 97, 3) := by decide +kernel
theorem dX11_shadows_89 : decode cX11_shadows 89 = .ok (.arraylength, 1) := by decide +kernel
theorem dX11_shadows_90 : decode cX11_shadows 90 = .ok (.if_icmp .ge 41, 3) := by decide +kernel
theorem dX11_shadows_93 : decode cX11_shadows 93 = .ok (.aload_n 0, 1) := by decide +kernel
theorem dX11_shadows_94 : decode cX11_shadows 94 = .ok (.getfield 97, 3) := by decide +kernel
theorem dX11_shadows_97 : decode cX11_shadows 97 = .ok (.iload 4, 2) := by decide +kernel
theorem dX11_shadows_99 : decode cX11_shadows 99 = .ok (.iaload, 1) := by decide +kernel
theorem dX11_shadows_100 : decode cX11_shadows 100 = .ok (.ifCond .le 6, 3) := by decide +kernel
theorem dX11_shadows_103 : decode cX11_shadows 103 = .ok (.iinc 2 1, 3) := by decide +kernel
theorem dX11_shadows_106 : decode cX11_shadows 106 = .ok (.aload_n 0, 1) := by decide +kernel
theorem dX11_shadows_107 : decode cX11_shadows 107 = .ok (.getfield 97, 3) := by decide +kernel
theorem dX11_shadows_110 : decode cX11_shadows 110 = .ok (.iload 4, 2) := by decide +kernel
theorem dX11_shadows_112 : decode cX11_shadows 112 = .ok (.iaload, 1) := by decide +kernel
theorem dX11_shadows_113 : decode cX11_shadows 113 = .ok (.aload_n 0, 1) := by decide +kernel
theorem dX11_shadows_114 : decode cX11_shadows 114 = .ok (.getfield 97, 3) := by decide +kernel
theorem dX11_shadows_117 : decode cX11_shadows 117 = .ok (.iload_n 3, 1) := by decide +kernel
theorem dX11_shadows_118 : decode cX11_shadows 118 = .ok (.iaload, 1) := by decide +kernel
theorem dX11_shadows_119 : decode cX11_shadows 119 = .ok (.if_icmp .le 6, 3) := by decide +kernel
theorem dX11_shadows_122 : decode cX11_shadows 122 = .ok (.iload 4, 2) := by decide +kernel
theorem dX11_shadows_124 : decode cX11_shadows 124 = .ok (.istore_n 3, 1) := by decide +kernel
theorem dX11_shadows_125 : decode cX11_shadows 125 = .ok (.iinc 4 1, 3) := by decide +kernel
theorem dX11_shadows_128 : decode cX11_shadows 128 = .ok (.goto (-45), 3) := by decide +kernel
theorem dX11_shadows_131 : decode cX11_shadows 131 = .ok (.aload_n 0, 1) := by decide +kernel
theorem dX11_shadows_132 : decode cX11_shadows 132 = .ok (.getfield 19, 3) := by decide +kernel
theorem dX11_shadows_135 : decode cX11_shadows 135 = .ok (.invokevirtual 277, 3) := by decide +kernel
theorem dX11_shadows_138 : decode cX11_shadows 138 = .ok (.iload_n 2, 1) := by decide +kernel
theorem dX11_shadows_139 : decode cX11_shadows 139 = .ok (.ifCond .le 26, 3) := by decide +kernel
theorem dX11_shadows_142 : decode cX11_shadows 142 = .ok (.aload_n 0, 1) := by decide +kernel
theorem dX11_shadows_143 : decode cX11_shadows 143 = .ok (.getfield 19, 3) := by decide +kernel
theorem dX11_shadows_146 : decode cX11_shadows 146 = .ok (.aload_n 0, 1) := by decide +kernel
theorem dX11_shadows_147 : decode cX11_shadows 147 = .ok (.getfield 97, 3) := by decide +kernel
theorem dX11_shadows_150 : decode cX11_shadows 150 = .ok (.iload_n 3, 1) := by decide +kernel
theorem dX11_shadows_151 : decode cX11_shadows 151 = .ok (.iaload, 1) := by decide +kernel
theorem dX11_shadows_152 : decode cX11_shadows 152 = .ok (.i2l, 1) := by decide +kernel
theorem dX11_shadows_153 : decode cX11_shadows 153 = .ok (.invokevirtual 248, 3) := by decide +kernel
theorem dX11_shadows_156 : decode cX11_shadows 156 = .ok (.aload_n 0, 1) := by decide +kernel
theorem dX11_shadows_157 : decode cX11_shadows 157 = .ok (.iload_n 3, 1) := by decide +kernel
theorem dX11_shadows_158 : decode cX11_shadows 158 = .ok (.iload_n 1, 1) := by decide +kernel
theorem dX11_shadows_159 : decode cX11_shadows 159 = .ok (.invokestatic 284, 3) := by decide +kernel
theorem dX11_shadows_162 : decode cX11_shadows 162 = .ok (.invokevirtual 347, 3) := by decide +kernel
theorem dX11_shadows_165 : decode cX11_shadows 165 = .ok (.iload_n 2, 1) := by decide +kernel
theorem dX11_shadows_166 : decode cX11_shadows 166 = .ok (.ireturn, 1) := by decide +kernel
def f_X11_shadows_L39 (a0 : Nat) (x1 : Int32) (u8 : Int32) (m9 : jM) : Option ((Int32 × jM) ⊕ (jM)) :=
  (if (7776 : Int32) ≤ u8 then some (.inr m9) else jcl2 (f_X10_advance (a0 + 167) m9) (fun v11 m12 => (if v11 = (0 : Int32) then some (.inr m12) else jcl (f_X11_shadowOfSolution a0 x1 m12) (fun v15 => jrd (m12.1 (a0 + 187)) v15 256 (fun v18 => jin v15 256 (jbd (jsi m12 (a0 + 187) v15.toNatClampNeg (v18 + (1 : Int32))) (fun m21 => some (.inl ((u8 + (1 : Int32), m21))))))))))
def f_X11_shadows_L83 (a0 : Nat) (m26 : jM) (u27 : Int32) (u28 : Int32) (u29 : Int32) : Option ((Int32 × Int32 × Int32) ⊕ (Int32 × Int32)) :=
  (if (nI 256) ≤ u29 then some (.inr ((u27, u28))) else jrd (m26.1 (a0 + 187)) u29 256 (fun v32 => jbd (fun (t34 : Int32) => jrd (m26.1 (a0 + 187)) u29 256 (fun v39 => jrd (m26.1 (a0 + 187)) u28 256 (fun v42 => (if v39 ≤ v42 then some (.inl ((t34, u28, u29 + (1 : Int32)))) else some (.inl ((t34, u29, u29 + (1 : Int32)))))))) (fun k35 => (if v32 ≤ (0 : Int32) then k35 u27 else k35 (u27 + (1 : Int32))))))
def f_X11_shadows (a0 : Nat) (x1 : Int32) (μ : jM) : Option (Int32 × jM) :=
  (if x1 < (1 : Int32) then some (((-1 : Int32), μ)) else (if (32 : Int32) ≤ x1 then some (((-1 : Int32), μ)) else (if (f_J6_bitCount_0f7a4 x1) ≤ (3 : Int32) then jcl (f_J7_fill_53178 (a0 + 187) (0 : Int32) μ) (fun m4 => jcl (f_X10_begin (a0 + 167) (1 : Int32) m4) (fun m6 => jcl (jloop (fun (s : Int32 × jM) => f_X11_shadows_L39 a0 x1 s.1 s.2) jfu (((0 : Int32), m6))) (fun w23 => jcl (jloop (fun (s : Int32 × Int32 × Int32) => f_X11_shadows_L83 a0 w23 s.1 s.2.1 s.2.2) jfu (((0 : Int32), (0 : Int32), (0 : Int32)))) (fun w46 => jbd (f_X3_empty (a0 + 3) w23) (fun m51 => (if w46.1 ≤ (0 : Int32) then some ((w46.1, m51)) else jrd (m51.1 (a0 + 187)) w46.2 256 (fun v55 => jcl (f_X3_tell (a0 + 3) v55.toInt64 m51) (fun m57 => jcl (f_X11_tellShadow a0 w46.2 (f_J6_bitCount_0f7a4 x1) m57) (fun m59 => some ((w46.1, m59))))))))))) else some (((-1 : Int32), μ)))))
set_option maxHeartbeats 4000000 in
set_option maxRecDepth 100000 in
theorem c_X11_shadows {l : Launch} {G : jG} {L : jL} (hL : jOKL L) {a0 : Nat} {x1 : Int32} (ka0 : jK L a0 11) {μ μ' : jM} {r : Int32} (h : f_X11_shadows a0 x1 μ = some ((r, μ'))) : jCt l G L 6 yX11_shadows cX11_shadows 5 (some .int) [.ref (L.2.2 a0), .int x1] μ (some (.int r)) μ' := by
  refine jCt_of (by decide) (Nat.le_of_ble_eq_true rfl) (fun X hC hX hR => ?_)
  subst hX
  have hC : jC X G cX11_shadows 5 RX11 (some .int) := hC
  unfold f_X11_shadows at h
  show jJ X G 5 L 0 0 (jQM X G L (some (.int r)) μ' 0 0) 0 [(0, .ref (L.2.2 a0)), (1, .int x1)] [] μ
  refine j_iload_n (pc := 0) hC 1 1 dX11_shadows_0 rfl rfl ?_
  refine j_iconst (pc := 1) hC (1 : Int32) dX11_shadows_1 (by decide) ?_
  refine j_icmp_lt (pc := 2) hC 19 dX11_shadows_2 (by decide) (fun c1 => ?_) (fun c1 => ?_)
  · rw [if_pos c1] at h
    refine j_iconst (pc := 19) hC (-1 : Int32) dX11_shadows_19 (by decide) ?_
    obtain ⟨rfl, rfl⟩ := Prod.mk.inj (Option.some.inj h)
    exact j_iret (pc := 20) hC dX11_shadows_20 rfl
  · rw [if_neg c1] at h
    refine j_iload_n (pc := 5) hC 1 1 dX11_shadows_5 rfl rfl ?_
    refine j_bipush (pc := 6) hC (32 : Int32) dX11_shadows_6 (by decide) ?_
    refine j_icmp_ge (pc := 8) hC 19 dX11_shadows_8 (by decide) (fun c2 => ?_) (fun c2 => ?_)
    · rw [if_pos c2] at h
      refine j_iconst (pc := 19) hC (-1 : Int32) dX11_shadows_19 (by decide) ?_
      obtain ⟨rfl, rfl⟩ := Prod.mk.inj (Option.some.inj h)
      exact j_iret (pc := 20) hC dX11_shadows_20 rfl
    · rw [if_neg c2] at h
      refine j_iload_n (pc := 11) hC 1 1 dX11_shadows_11 rfl rfl ?_
      refine j_si (pc := 12) hC hR [.int x1] iy_J6_bitCount_0f7a4 km_X11_284 dX11_shadows_12 rfl (by decide) (c_J6_bitCount_0f7a4 hL  rfl) (by decide) (Nat.le_of_ble_eq_true rfl) rfl ?_
      refine j_iconst (pc := 15) hC (3 : Int32) dX11_shadows_15 (by decide) ?_
      refine j_icmp_le (pc := 16) hC 21 dX11_shadows_16 (by decide) (fun c3 => ?_) (fun c3 => ?_)
      · rw [if_pos c3] at h
        refine j_aload_n (pc := 21) hC 0 0 dX11_shadows_21 rfl rfl ?_
        refine jgr_11 (pc := 22) hC 12 (by decide) rfl kf_X11_97 dX11_shadows_22 ka0 (ly_11_12 hL ka0).1 ?_
        refine j_iconst (pc := 25) hC (0 : Int32) dX11_shadows_25 (by decide) ?_
        obtain ⟨m4, e5, h⟩ := jcl_some h
        refine j_sv (pc := 26) hC hR [.ref (L.2.2 (a0 + 187)), .int (0 : Int32)] iy_J7_fill_53178 km_X11_317 dX11_shadows_26 rfl (by decide) (c_J7_fill_53178 hL (ly_11_12 hL ka0).2.1 e5) (by decide) (Nat.le_of_ble_eq_true rfl) rfl ?_
        refine j_aload_n (pc := 29) hC 0 0 dX11_shadows_29 rfl rfl ?_
        refine jgr_11 (pc := 30) hC 5 (by decide) rfl kf_X11_49 dX11_shadows_30 ka0 (ly_11_5 hL ka0).1 ?_
        refine j_iconst (pc := 33) hC (1 : Int32) dX11_shadows_33 (by decide) ?_
        obtain ⟨m6, e7, h⟩ := jcl_some h
        refine j_vv (pc := 34) hC hR [.int (1 : Int32)] iy_X10_begin (q := (RX10, TX10, 5)) (ci := 10) rfl rfl (by decide) km_X11_298 dX11_shadows_34 rfl (by decide) (ly_11_5 hL ka0).2.1 (c_X10_begin hL (ly_11_5 hL ka0).2.1 e7) (by decide) (Nat.le_of_ble_eq_true rfl) rfl ?_
        refine j_iconst (pc := 37) hC (0 : Int32) dX11_shadows_37 (by decide) ?_
        refine j_istore_n (pc := 38) hC 2 [(2, .int (0 : Int32)), (0, .ref (L.2.2 a0)), (1, .int x1)] dX11_shadows_38 rfl (by decide) rfl rfl ?_
        obtain ⟨w23, hw24, h⟩ := jcl_some h
        refine j_lv [1, 2, 0] rfl ?_
        refine j_loop (step := (fun (s : Int32 × jM) => f_X11_shadows_L39 a0 x1 s.1 s.2)) (P := (fun (s : Int32 × jM) => jJ X G 5 L 0 0 (jQM X G L (some (.int r)) μ' 0 0) 39 [(0, .ref (L.2.2 a0)), (1, .int x1), (2, .int s.1)] [] s.2)) (R := (fun (e : jM) => jJ X G 5 L 0 0 (jQM X G L (some (.int r)) μ' 0 0) 76 [(0, .ref (L.2.2 a0)), (1, .int x1)] [] e)) ?_ jfu (((0 : Int32), m6)) w23 hw24 ?_
        · intro s25 o h hk
          obtain ⟨u8, m9⟩ := s25
          change f_X11_shadows_L39 a0 x1 u8 m9 = some o at h
          unfold f_X11_shadows_L39 at h
          show jJ X G 5 L 0 0 (jQM X G L (some (.int r)) μ' 0 0) 39 [(0, .ref (L.2.2 a0)), (1, .int x1), (2, .int u8)] [] m9
          refine j_iload_n (pc := 39) hC 2 2 dX11_shadows_39 rfl rfl ?_
          refine j_sipush (pc := 40) hC (7776 : Int32) dX11_shadows_40 (by decide) ?_
          refine j_icmp_ge (pc := 43) hC 76 dX11_shadows_43 (by decide) (fun c10 => ?_) (fun c10 => ?_)
          · rw [if_pos c10] at h
            obtain rfl := Option.some.inj h
            have hk : jJ X G 5 L 0 0 (jQM X G L (some (.int r)) μ' 0 0) 76 [(0, .ref (L.2.2 a0)), (1, .int x1)] [] m9 := hk
            exact j_lv [0, 1] rfl hk
          · rw [if_neg c10] at h
            refine j_aload_n (pc := 46) hC 0 0 dX11_shadows_46 rfl rfl ?_
            refine jgr_11 (pc := 47) hC 5 (by decide) rfl kf_X11_49 dX11_shadows_47 ka0 (ly_11_5 hL ka0).1 ?_
            obtain ⟨v11, m12, e13, h⟩ := jcl2_some h
            refine j_vi (pc := 50) hC hR [] iy_X10_advance (q := (RX10, TX10, 5)) (ci := 10) rfl rfl (by decide) km_X11_301 dX11_shadows_50 rfl (by decide) (ly_11_5 hL ka0).2.1 (c_X10_advance hL (ly_11_5 hL ka0).2.1 e13) (by decide) (Nat.le_of_ble_eq_true rfl) rfl ?_
            refine j_if_eq (pc := 53) hC 76 dX11_shadows_53 (by decide) (fun c14 => ?_) (fun c14 => ?_)
            · rw [if_pos c14] at h
              obtain rfl := Option.some.inj h
              have hk : jJ X G 5 L 0 0 (jQM X G L (some (.int r)) μ' 0 0) 76 [(0, .ref (L.2.2 a0)), (1, .int x1)] [] m12 := hk
              exact j_lv [0, 1] rfl hk
            · rw [if_neg c14] at h
              refine j_aload_n (pc := 56) hC 0 0 dX11_shadows_56 rfl rfl ?_
              refine jgr_11 (pc := 57) hC 12 (by decide) rfl kf_X11_97 dX11_shadows_57 ka0 (ly_11_12 hL ka0).1 ?_
              refine j_aload_n (pc := 60) hC 0 0 dX11_shadows_60 rfl rfl ?_
              refine j_iload_n (pc := 61) hC 1 1 dX11_shadows_61 rfl rfl ?_
              obtain ⟨v15, e16, h⟩ := jcl_some h
              refine j_vi (pc := 62) hC hR [.int x1] iy_X11_shadowOfSolution (q := (RX11, TX11, 15)) (ci := 11) rfl rfl (by decide) km_X11_344 dX11_shadows_62 rfl (by decide) ka0 (c_X11_shadowOfSolution hL ka0 e16) (by decide) (Nat.le_of_ble_eq_true rfl) rfl ?_
              refine j_dup2 (pc := 65) hC dX11_shadows_65 rfl rfl ?_
              obtain ⟨i17, v18, e19, h⟩ := jrd_some h
              refine j_iald (pc := 66) hC dX11_shadows_66 (ly_11_12 hL ka0).2.1 (ly_11_12 hL ka0).2.2 i17 e19 ?_
              refine j_iconst (pc := 67) hC (1 : Int32) dX11_shadows_67 (by decide) ?_
              refine j_iadd (pc := 68) hC dX11_shadows_68 ?_
              obtain ⟨i20, h⟩ := jin_some h
              obtain ⟨m21, e22, h⟩ := jbd_ex h
              refine j_iast (pc := 69) hC dX11_shadows_69 (ly_11_12 hL ka0).2.1 (ly_11_12 hL ka0).2.2 i20 e22 ?_
              refine j_iinc (pc := 70) hC 2 (u8 + (1 : Int32)) [(2, .int (u8 + (1 : Int32))), (0, .ref (L.2.2 a0)), (1, .int x1)] dX11_shadows_70 rfl rfl (by decide) rfl ?_
              refine j_goto (pc := 73) hC 39 dX11_shadows_73 (by decide) ?_
              obtain rfl := Option.some.inj h
              have hk : jJ X G 5 L 0 0 (jQM X G L (some (.int r)) μ' 0 0) 39 [(0, .ref (L.2.2 a0)), (1, .int x1), (2, .int (u8 + (1 : Int32)))] [] m21 := hk
              exact j_lv [1, 2, 0] rfl hk
        · obtain ⟨m26, rfl⟩ : ∃ y, y = w23 := ⟨_, rfl⟩
          try dsimp only at h
          show jJ X G 5 L 0 0 (jQM X G L (some (.int r)) μ' 0 0) 76 [(0, .ref (L.2.2 a0)), (1, .int x1)] [] m26
          refine j_iconst (pc := 76) hC (0 : Int32) dX11_shadows_76 (by decide) ?_
          refine j_istore_n (pc := 77) hC 2 [(2, .int (0 : Int32)), (0, .ref (L.2.2 a0)), (1, .int x1)] dX11_shadows_77 rfl (by decide) rfl rfl ?_
          refine j_iconst (pc := 78) hC (0 : Int32) dX11_shadows_78 (by decide) ?_
          refine j_istore_n (pc := 79) hC 3 [(3, .int (0 : Int32)), (2, .int (0 : Int32)), (0, .ref (L.2.2 a0)), (1, .int x1)] dX11_shadows_79 rfl (by decide) rfl rfl ?_
          refine j_iconst (pc := 80) hC (0 : Int32) dX11_shadows_80 (by decide) ?_
          refine j_istore (pc := 81) hC [(4, .int (0 : Int32)), (3, .int (0 : Int32)), (2, .int (0 : Int32)), (0, .ref (L.2.2 a0)), (1, .int x1)] dX11_shadows_81 (by decide) rfl rfl ?_
          obtain ⟨w46, hw47, h⟩ := jcl_some h
          refine j_lv [3, 4, 2, 1, 0] rfl ?_
          refine j_loop (step := (fun (s : Int32 × Int32 × Int32) => f_X11_shadows_L83 a0 m26 s.1 s.2.1 s.2.2)) (P := (fun (s : Int32 × Int32 × Int32) => jJ X G 5 L 0 0 (jQM X G L (some (.int r)) μ' 0 0) 83 [(0, .ref (L.2.2 a0)), (1, .int x1), (2, .int s.1), (3, .int s.2.1), (4, .int s.2.2)] [] m26)) (R := (fun (e : Int32 × Int32) => jJ X G 5 L 0 0 (jQM X G L (some (.int r)) μ' 0 0) 131 [(0, .ref (L.2.2 a0)), (1, .int x1), (2, .int e.1), (3, .int e.2)] [] m26)) ?_ jfu (((0 : Int32), (0 : Int32), (0 : Int32))) w46 hw47 ?_
          · intro s48 o h hk
            obtain ⟨u27, u28, u29⟩ := s48
            change f_X11_shadows_L83 a0 m26 u27 u28 u29 = some o at h
            unfold f_X11_shadows_L83 at h
            show jJ X G 5 L 0 0 (jQM X G L (some (.int r)) μ' 0 0) 83 [(0, .ref (L.2.2 a0)), (1, .int x1), (2, .int u27), (3, .int u28), (4, .int u29)] [] m26
            refine j_iload (pc := 83) hC 4 dX11_shadows_83 rfl ?_
            refine j_aload_n (pc := 85) hC 0 0 dX11_shadows_85 rfl rfl ?_
            refine jgr_11 (pc := 86) hC 12 (by decide) rfl kf_X11_97 dX11_shadows_86 ka0 (ly_11_12 hL ka0).1 ?_
            refine j_alen (pc := 89) hC 0 dX11_shadows_89 (ly_11_12 hL ka0).2.1 rfl (by decide) (ly_11_12 hL ka0).2.2 ?_
            refine j_icmp_ge (pc := 90) hC 131 dX11_shadows_90 (by decide) (fun c30 => ?_) (fun c30 => ?_)
            · rw [if_pos c30] at h
              obtain rfl := Option.some.inj h
              have hk : jJ X G 5 L 0 0 (jQM X G L (some (.int r)) μ' 0 0) 131 [(0, .ref (L.2.2 a0)), (1, .int x1), (2, .int u27), (3, .int u28)] [] m26 := hk
              exact j_lv [0, 1, 2, 3] rfl hk
            · rw [if_neg c30] at h
              refine j_aload_n (pc := 93) hC 0 0 dX11_shadows_93 rfl rfl ?_
              refine jgr_11 (pc := 94) hC 12 (by decide) rfl kf_X11_97 dX11_shadows_94 ka0 (ly_11_12 hL ka0).1 ?_
              refine j_iload (pc := 97) hC 4 dX11_shadows_97 rfl ?_
              obtain ⟨i31, v32, e33, h⟩ := jrd_some h
              refine j_iald (pc := 99) hC dX11_shadows_99 (ly_11_12 hL ka0).2.1 (ly_11_12 hL ka0).2.2 i31 e33 ?_
              obtain ⟨k35, e37, h⟩ := jbd_ex h
              have q36 : ∀ (t34 : Int32), k35 t34 = some o → jJ X G 5 L 0 0 (jQM X G L (some (.int r)) μ' 0 0) 106 [(0, .ref (L.2.2 a0)), (1, .int x1), (2, .int t34), (3, .int u28), (4, .int u29)] [] m26 := by
                intro t34 h
                rw [e37] at h
                try dsimp only at h
                refine j_aload_n (pc := 106) hC 0 0 dX11_shadows_106 rfl rfl ?_
                refine jgr_11 (pc := 107) hC 12 (by decide) rfl kf_X11_97 dX11_shadows_107 ka0 (ly_11_12 hL ka0).1 ?_
                refine j_iload (pc := 110) hC 4 dX11_shadows_110 rfl ?_
                obtain ⟨i38, v39, e40, h⟩ := jrd_some h
                refine j_iald (pc := 112) hC dX11_shadows_112 (ly_11_12 hL ka0).2.1 (ly_11_12 hL ka0).2.2 i38 e40 ?_
                refine j_aload_n (pc := 113) hC 0 0 dX11_shadows_113 rfl rfl ?_
                refine jgr_11 (pc := 114) hC 12 (by decide) rfl kf_X11_97 dX11_shadows_114 ka0 (ly_11_12 hL ka0).1 ?_
                refine j_iload_n (pc := 117) hC 3 3 dX11_shadows_117 rfl rfl ?_
                obtain ⟨i41, v42, e43, h⟩ := jrd_some h
                refine j_iald (pc := 118) hC dX11_shadows_118 (ly_11_12 hL ka0).2.1 (ly_11_12 hL ka0).2.2 i41 e43 ?_
                refine j_icmp_le (pc := 119) hC 125 dX11_shadows_119 (by decide) (fun c44 => ?_) (fun c44 => ?_)
                · rw [if_pos c44] at h
                  refine j_iinc (pc := 125) hC 4 (u29 + (1 : Int32)) [(4, .int (u29 + (1 : Int32))), (0, .ref (L.2.2 a0)), (1, .int x1), (2, .int t34), (3, .int u28)] dX11_shadows_125 rfl rfl (by decide) rfl ?_
                  refine j_goto (pc := 128) hC 83 dX11_shadows_128 (by decide) ?_
                  obtain rfl := Option.some.inj h
                  have hk : jJ X G 5 L 0 0 (jQM X G L (some (.int r)) μ' 0 0) 83 [(0, .ref (L.2.2 a0)), (1, .int x1), (2, .int t34), (3, .int u28), (4, .int (u29 + (1 : Int32)))] [] m26 := hk
                  exact j_lv [1, 2, 3, 4, 0] rfl hk
                · rw [if_neg c44] at h
                  refine j_iload (pc := 122) hC 4 dX11_shadows_122 rfl ?_
                  refine j_istore_n (pc := 124) hC 3 [(3, .int u29), (0, .ref (L.2.2 a0)), (1, .int x1), (2, .int t34), (4, .int u29)] dX11_shadows_124 rfl (by decide) rfl rfl ?_
                  refine j_iinc (pc := 125) hC 4 (u29 + (1 : Int32)) [(4, .int (u29 + (1 : Int32))), (3, .int u29), (0, .ref (L.2.2 a0)), (1, .int x1), (2, .int t34)] dX11_shadows_125 rfl rfl (by decide) rfl ?_
                  refine j_goto (pc := 128) hC 83 dX11_shadows_128 (by decide) ?_
                  obtain rfl := Option.some.inj h
                  have hk : jJ X G 5 L 0 0 (jQM X G L (some (.int r)) μ' 0 0) 83 [(0, .ref (L.2.2 a0)), (1, .int x1), (2, .int t34), (3, .int u29), (4, .int (u29 + (1 : Int32)))] [] m26 := hk
                  exact j_lv [2, 3, 4, 1, 0] rfl hk
              refine j_if_le (pc := 100) hC 106 dX11_shadows_100 (by decide) (fun c45 => ?_) (fun c45 => ?_)
              · rw [if_pos c45] at h
                exact j_lv [0, 1, 2, 3, 4] rfl (q36 _ h)
              · rw [if_neg c45] at h
                refine j_iinc (pc := 103) hC 2 (u27 + (1 : Int32)) [(2, .int (u27 + (1 : Int32))), (0, .ref (L.2.2 a0)), (1, .int x1), (3, .int u28), (4, .int u29)] dX11_shadows_103 rfl rfl (by decide) rfl ?_
                exact j_lv [1, 2, 0, 3, 4] rfl (q36 _ h)
          · obtain ⟨z49, z50⟩ := w46
            try dsimp only at h
            show jJ X G 5 L 0 0 (jQM X G L (some (.int r)) μ' 0 0) 131 [(0, .ref (L.2.2 a0)), (1, .int x1), (2, .int z49), (3, .int z50)] [] m26
            refine j_aload_n (pc := 131) hC 0 0 dX11_shadows_131 rfl rfl ?_
            refine jgr_11 (pc := 132) hC 1 (by decide) rfl kf_X11_19 dX11_shadows_132 ka0 (ly_11_1 hL ka0).1 ?_
            obtain ⟨m51, e52, h⟩ := jbd_ex h
            refine j_vv (pc := 135) hC hR [] iy_X3_empty (q := (RX3, TX3, 2)) (ci := 3) rfl rfl (by decide) km_X11_277 dX11_shadows_135 rfl (by decide) (ly_11_1 hL ka0).2.1 (c_X3_empty hL (ly_11_1 hL ka0).2.1 e52.symm) (by decide) (Nat.le_of_ble_eq_true rfl) rfl ?_
            refine j_iload_n (pc := 138) hC 2 2 dX11_shadows_138 rfl rfl ?_
            refine j_if_le (pc := 139) hC 165 dX11_shadows_139 (by decide) (fun c53 => ?_) (fun c53 => ?_)
            · rw [if_pos c53] at h
              refine j_iload_n (pc := 165) hC 2 2 dX11_shadows_165 rfl rfl ?_
              obtain ⟨rfl, rfl⟩ := Prod.mk.inj (Option.some.inj h)
              exact j_iret (pc := 166) hC dX11_shadows_166 rfl
            · rw [if_neg c53] at h
              refine j_aload_n (pc := 142) hC 0 0 dX11_shadows_142 rfl rfl ?_
              refine jgr_11 (pc := 143) hC 1 (by decide) rfl kf_X11_19 dX11_shadows_143 ka0 (ly_11_1 hL ka0).1 ?_
              refine j_aload_n (pc := 146) hC 0 0 dX11_shadows_146 rfl rfl ?_
              refine jgr_11 (pc := 147) hC 12 (by decide) rfl kf_X11_97 dX11_shadows_147 ka0 (ly_11_12 hL ka0).1 ?_
              refine j_iload_n (pc := 150) hC 3 3 dX11_shadows_150 rfl rfl ?_
              obtain ⟨i54, v55, e56, h⟩ := jrd_some h
              refine j_iald (pc := 151) hC dX11_shadows_151 (ly_11_12 hL ka0).2.1 (ly_11_12 hL ka0).2.2 i54 e56 ?_
              refine j_i2l (pc := 152) hC dX11_shadows_152 ?_
              obtain ⟨m57, e58, h⟩ := jcl_some h
              refine j_vv (pc := 153) hC hR [.long v55.toInt64] iy_X3_tell (q := (RX3, TX3, 2)) (ci := 3) rfl rfl (by decide) km_X11_248 dX11_shadows_153 rfl (by decide) (ly_11_1 hL ka0).2.1 (c_X3_tell hL (ly_11_1 hL ka0).2.1 e58) (by decide) (Nat.le_of_ble_eq_true rfl) rfl ?_
              refine j_aload_n (pc := 156) hC 0 0 dX11_shadows_156 rfl rfl ?_
              refine j_iload_n (pc := 157) hC 3 3 dX11_shadows_157 rfl rfl ?_
              refine j_iload_n (pc := 158) hC 1 1 dX11_shadows_158 rfl rfl ?_
              refine j_si (pc := 159) hC hR [.int x1] iy_J6_bitCount_0f7a4 km_X11_284 dX11_shadows_159 rfl (by decide) (c_J6_bitCount_0f7a4 hL  rfl) (by decide) (Nat.le_of_ble_eq_true rfl) rfl ?_
              obtain ⟨m59, e60, h⟩ := jcl_some h
              refine j_vv (pc := 162) hC hR [.int z50, .int (f_J6_bitCount_0f7a4 x1)] iy_X11_tellShadow (q := (RX11, TX11, 15)) (ci := 11) rfl rfl (by decide) km_X11_347 dX11_shadows_162 rfl (by decide) ka0 (c_X11_tellShadow hL ka0 e60) (by decide) (Nat.le_of_ble_eq_true rfl) rfl ?_
              refine j_iload_n (pc := 165) hC 2 2 dX11_shadows_165 rfl rfl ?_
              obtain ⟨rfl, rfl⟩ := Prod.mk.inj (Option.some.inj h)
              exact j_iret (pc := 166) hC dX11_shadows_166 rfl
      · rw [if_neg c3] at h
        refine j_iconst (pc := 19) hC (-1 : Int32) dX11_shadows_19 (by decide) ?_
        obtain ⟨rfl, rfl⟩ := Prod.mk.inj (Option.some.inj h)
        exact j_iret (pc := 20) hC dX11_shadows_20 rfl
theorem dX11_allConstraints_0 : decode cX11_allConstraints 0 = .ok (.iconst 1, 1) := by decide +kernel
theorem dX11_allConstraints_1 : decode cX11_allConstraints 1 = .ok (.aload_n 0, 1) := by decide +kernel
theorem dX11_allConstraints_2 : decode cX11_allConstraints 2 = .ok (.getfield 26, 3) := by decide +kernel
theorem dX11_allConstraints_5 : decode cX11_allConstraints 5 = .ok (.getfield 42, 3) := by decide +kernel
theorem dX11_allConstraints_8 : decode cX11_allConstraints 8 = .ok (.getfield 138, 3) := by decide +kernel
theorem dX11_allConstraints_11 : decode cX11_allConstraints 11 = .ok (.ishl, 1) := by decide +kernel
theorem dX11_allConstraints_12 : decode cX11_allConstraints 12 = .ok (.iconst 1, 1) := by decide +kernel
theorem dX11_allConstraints_13 : decode cX11_allConstraints 13 = .ok (.isub, 1) := by decide +kernel
theorem dX11_allConstraints_14 : decode cX11_allConstraints 14 = .ok (.ireturn, 1) := by decide +kernel
def f_X11_allConstraints (a0 : Nat) (μ : jM) : Int32 :=
  ((1 : Int32) <<< ((μ.1 (a0 + 6) 6) &&& 31)) - (1 : Int32)
set_option maxHeartbeats 4000000 in
set_option maxRecDepth 100000 in
theorem c_X11_allConstraints {l : Launch} {G : jG} {L : jL} (hL : jOKL L) {a0 : Nat} (ka0 : jK L a0 11) {μ : jM} {r : Int32} (h : f_X11_allConstraints a0 μ = r) : jCt l G L 3 yX11_allConstraints cX11_allConstraints 1 (some .int) [.ref (L.2.2 a0)] μ (some (.int r)) μ := by
  refine jCt_of (by decide) (Nat.le_of_ble_eq_true rfl) (fun X hC hX hR => ?_)
  subst hX
  have hC : jC X G cX11_allConstraints 1 RX11 (some .int) := hC
  unfold f_X11_allConstraints at h
  show jJ X G 1 L 0 0 (jQM X G L (some (.int r)) μ 0 0) 0 [(0, .ref (L.2.2 a0))] [] μ
  refine j_iconst (pc := 0) hC (1 : Int32) dX11_allConstraints_0 (by decide) ?_
  refine j_aload_n (pc := 1) hC 0 0 dX11_allConstraints_1 rfl rfl ?_
  refine jgr_11 (pc := 2) hC 2 (by decide) rfl kf_X11_26 dX11_allConstraints_2 ka0 (ly_11_2 hL ka0).1 ?_
  refine jgr_7 (pc := 5) hC 0 (by decide) rfl kf_X11_42 dX11_allConstraints_5 (ly_11_2 hL ka0).2.1 (ly_7_0 hL (ly_11_2 hL ka0).2.1).1 ?_
  refine jgi_9 (pc := 8) hC 6 (by decide) rfl kf_X11_138 dX11_allConstraints_8 (ly_7_0 hL (ly_11_2 hL ka0).2.1).2.1 ?_
  refine j_ishl (pc := 11) hC dX11_allConstraints_11 ?_
  refine j_iconst (pc := 12) hC (1 : Int32) dX11_allConstraints_12 (by decide) ?_
  refine j_isub (pc := 13) hC dX11_allConstraints_13 ?_
  subst h
  exact j_iret (pc := 14) hC dX11_allConstraints_14 rfl
theorem dX11_bears_0 : decode cX11_bears 0 = .ok (.aload_n 0, 1) := by decide +kernel
theorem dX11_bears_1 : decode cX11_bears 1 = .ok (.getfield 36, 3) := by decide +kernel
theorem dX11_bears_4 : decode cX11_bears 4 = .ok (.aload_n 0, 1) := by decide +kernel
theorem dX11_bears_5 : decode cX11_bears 5 = .ok (.getfield 26, 3) := by decide +kernel
theorem dX11_bears_8 : decode cX11_bears 8 = .ok (.getfield 42, 3) := by decide +kernel
theorem dX11_bears_11 : decode cX11_bears 11 = .ok (.invokevirtual 381, 3) := by decide +kernel
theorem dX11_bears_14 : decode cX11_bears 14 = .ok (.aload_n 0, 1) := by decide +kernel
theorem dX11_bears_15 : decode cX11_bears 15 = .ok (.getfield 36, 3) := by decide +kernel
theorem dX11_bears_18 : decode cX11_bears 18 = .ok (.getfield 340, 3) := by decide +kernel
theorem dX11_bears_21 : decode cX11_bears 21 = .ok (.iload_n 1, 1) := by decide +kernel
theorem dX11_bears_22 : decode cX11_bears 22 = .ok (.iconst 1, 1) := by decide +kernel
theorem dX11_bears_23 : decode cX11_bears 23 = .ok (.iload_n 2, 1) := by decide +kernel
theorem dX11_bears_24 : decode cX11_bears 24 = .ok (.ishl, 1) := by decide +kernel
theorem dX11_bears_25 : decode cX11_bears 25 = .ok (.iastore, 1) := by decide +kernel
theorem dX11_bears_26 : decode cX11_bears 26 = .ok (.aload_n 0, 1) := by decide +kernel
theorem dX11_bears_27 : decode cX11_bears 27 = .ok (.getfield 36, 3) := by decide +kernel
theorem dX11_bears_30 : decode cX11_bears 30 = .ok (.aload_n 0, 1) := by decide +kernel
theorem dX11_bears_31 : decode cX11_bears 31 = .ok (.getfield 26, 3) := by decide +kernel
theorem dX11_bears_34 : decode cX11_bears 34 = .ok (.getfield 42, 3) := by decide +kernel
theorem dX11_bears_37 : decode cX11_bears 37 = .ok (.aload_n 0, 1) := by decide +kernel
theorem dX11_bears_38 : decode cX11_bears 38 = .ok (.invokevirtual 372, 3) := by decide +kernel
theorem dX11_bears_41 : decode cX11_bears 41 = .ok (.invokevirtual 383, 3) := by decide +kernel
theorem dX11_bears_44 : decode cX11_bears 44 = .ok (.ireturn, 1) := by decide +kernel
def f_X11_bears (a0 : Nat) (x1 : Int32) (x2 : Int32) (μ : jM) : Option (Int32 × jM) :=
  jcl (f_X6_begin (a0 + 165) (a0 + 6) μ) (fun m1 => jin x1 5 (jbd (jsi m1 (a0 + 166) x1.toNatClampNeg ((1 : Int32) <<< (x2 &&& 31))) (fun m4 => jcl2 (f_X6_spread (a0 + 165) (a0 + 6) (f_X11_allConstraints a0 m4) m4) (fun v6 m7 => some ((v6 &&& 1, m7))))))
set_option maxHeartbeats 4000000 in
set_option maxRecDepth 100000 in
theorem c_X11_bears {l : Launch} {G : jG} {L : jL} (hL : jOKL L) {a0 : Nat} {x1 : Int32} {x2 : Int32} (ka0 : jK L a0 11) {μ μ' : jM} {r : Int32} (h : f_X11_bears a0 x1 x2 μ = some ((r, μ'))) : jCt l G L 6 yX11_bears cX11_bears 3 (some .boolean) [.ref (L.2.2 a0), .int x1, .int x2] μ (some (.int r)) μ' := by
  refine jCt_of (by decide) (Nat.le_of_ble_eq_true rfl) (fun X hC hX hR => ?_)
  subst hX
  have hC : jC X G cX11_bears 3 RX11 (some .boolean) := hC
  unfold f_X11_bears at h
  show jJ X G 3 L 0 0 (jQM X G L (some (.int r)) μ' 0 0) 0 [(0, .ref (L.2.2 a0)), (1, .int x1), (2, .int x2)] [] μ
  refine j_aload_n (pc := 0) hC 0 0 dX11_bears_0 rfl rfl ?_
  refine jgr_11 (pc := 1) hC 4 (by decide) rfl kf_X11_36 dX11_bears_1 ka0 (ly_11_4 hL ka0).1 ?_
  refine j_aload_n (pc := 4) hC 0 0 dX11_bears_4 rfl rfl ?_
  refine jgr_11 (pc := 5) hC 2 (by decide) rfl kf_X11_26 dX11_bears_5 ka0 (ly_11_2 hL ka0).1 ?_
  refine jgr_7 (pc := 8) hC 0 (by decide) rfl kf_X11_42 dX11_bears_8 (ly_11_2 hL ka0).2.1 (ly_7_0 hL (ly_11_2 hL ka0).2.1).1 ?_
  obtain ⟨m1, e2, h⟩ := jcl_some h
  refine j_vv (pc := 11) hC hR [.ref (L.2.2 (a0 + 6))] iy_X6_begin (q := (RX6, TX6, 1)) (ci := 6) rfl rfl (by decide) km_X11_381 dX11_bears_11 rfl (by decide) (ly_11_4 hL ka0).2.1 (c_X6_begin hL (ly_11_4 hL ka0).2.1 (ly_7_0 hL (ly_11_2 hL ka0).2.1).2.1 e2) (by decide) (Nat.le_of_ble_eq_true rfl) rfl ?_
  refine j_aload_n (pc := 14) hC 0 0 dX11_bears_14 rfl rfl ?_
  refine jgr_11 (pc := 15) hC 4 (by decide) rfl kf_X11_36 dX11_bears_15 ka0 (ly_11_4 hL ka0).1 ?_
  refine jgr_6 (pc := 18) hC 0 (by decide) rfl kf_X11_340 dX11_bears_18 (ly_11_4 hL ka0).2.1 (ly_6_0 hL (ly_11_4 hL ka0).2.1).1 ?_
  refine j_iload_n (pc := 21) hC 1 1 dX11_bears_21 rfl rfl ?_
  refine j_iconst (pc := 22) hC (1 : Int32) dX11_bears_22 (by decide) ?_
  refine j_iload_n (pc := 23) hC 2 2 dX11_bears_23 rfl rfl ?_
  refine j_ishl (pc := 24) hC dX11_bears_24 ?_
  obtain ⟨i3, h⟩ := jin_some h
  obtain ⟨m4, e5, h⟩ := jbd_ex h
  refine j_iast (pc := 25) hC dX11_bears_25 (ly_6_0 hL (ly_11_4 hL ka0).2.1).2.1 (ly_6_0 hL (ly_11_4 hL ka0).2.1).2.2 i3 e5 ?_
  refine j_aload_n (pc := 26) hC 0 0 dX11_bears_26 rfl rfl ?_
  refine jgr_11 (pc := 27) hC 4 (by decide) rfl kf_X11_36 dX11_bears_27 ka0 (ly_11_4 hL ka0).1 ?_
  refine j_aload_n (pc := 30) hC 0 0 dX11_bears_30 rfl rfl ?_
  refine jgr_11 (pc := 31) hC 2 (by decide) rfl kf_X11_26 dX11_bears_31 ka0 (ly_11_2 hL ka0).1 ?_
  refine jgr_7 (pc := 34) hC 0 (by decide) rfl kf_X11_42 dX11_bears_34 (ly_11_2 hL ka0).2.1 (ly_7_0 hL (ly_11_2 hL ka0).2.1).1 ?_
  refine j_aload_n (pc := 37) hC 0 0 dX11_bears_37 rfl rfl ?_
  refine j_vi (pc := 38) hC hR [] iy_X11_allConstraints (q := (RX11, TX11, 15)) (ci := 11) rfl rfl (by decide) km_X11_372 dX11_bears_38 rfl (by decide) ka0 (c_X11_allConstraints hL ka0 rfl) (by decide) (Nat.le_of_ble_eq_true rfl) rfl ?_
  obtain ⟨v6, m7, e8, h⟩ := jcl2_some h
  refine j_vi (pc := 41) hC hR [.ref (L.2.2 (a0 + 6)), .int (f_X11_allConstraints a0 m4)] iy_X6_spread (q := (RX6, TX6, 1)) (ci := 6) rfl rfl (by decide) km_X11_383 dX11_bears_41 rfl (by decide) (ly_11_4 hL ka0).2.1 (c_X6_spread hL (ly_11_4 hL ka0).2.1 (ly_7_0 hL (ly_11_2 hL ka0).2.1).2.1 e8) (by decide) (Nat.le_of_ble_eq_true rfl) rfl ?_
  obtain ⟨rfl, rfl⟩ := Prod.mk.inj (Option.some.inj h)
  exact j_bret (pc := 44) hC dX11_bears_44 rfl (j_nz _)
theorem dX11_probes_0 : decode cX11_probes 0 = .ok (.iconst 0, 1) := by decide +kernel
theorem dX11_probes_1 : decode cX11_probes 1 = .ok (.istore_n 1, 1) := by decide +kernel
theorem dX11_probes_2 : decode cX11_probes 2 = .ok (.iconst 0, 1) := by decide +kernel
theorem dX11_probes_3 : decode cX11_probes 3 = .ok (.istore_n 2, 1) := by decide +kernel
theorem dX11_probes_4 : decode cX11_probes 4 = .ok (.iload_n 2, 1) := by decide +kernel
theorem dX11_probes_5 : decode cX11_probes 5 = .ok (.iconst 5, 1) := by decide +kernel
theorem dX11_probes_6 : decode cX11_probes 6 = .ok (.if_icmp .ge 58, 3) := by decide +kernel
theorem dX11_probes_9 : decode cX11_probes 9 = .ok (.iconst 0, 1) := by decide +kernel
theorem dX11_probes_10 : decode cX11_probes 10 = .ok (.istore_n 3, 1) := by decide +kernel
theorem dX11_probes_11 : decode cX11_probes 11 = .ok (.iload_n 3, 1) := by decide +kernel
theorem dX11_probes_12 : decode cX11_probes 12 = .ok (.bipush 6, 2) := by decide +kernel
theorem dX11_probes_14 : decode cX11_probes 14 = .ok (.if_icmp .ge 44, 3) := by decide +kernel
theorem dX11_probes_17 : decode cX11_probes 17 = .ok (.aload_n 0, 1) := by decide +kernel
theorem dX11_probes_18 : decode cX11_probes 18 = .ok (.getfield 26, 3) := by decide +kernel
theorem dX11_probes_21 : decode cX11_probes 21 = .ok (.getfield 42, 3) := by decide +kernel
theorem dX11_probes_24 : decode cX11_probes 24 = .ok (.iload_n 2, 1) := by decide +kernel
theorem dX11_probes_25 : decode cX11_probes 25 = .ok (.iload_n 3, 1) := by decide +kernel
theorem dX11_probes_26 : decode cX11_probes 26 = .ok (.invokevirtual 350, 3) := by decide +kernel
theorem dX11_probes_29 : decode cX11_probes 29 = .ok (.ifCond .eq 23, 3) := by decide +kernel
theorem dX11_probes_32 : decode cX11_probes 32 = .ok (.aload_n 0, 1) := by decide +kernel
theorem dX11_probes_33 : decode cX11_probes 33 = .ok (.iload_n 2, 1) := by decide +kernel
theorem dX11_probes_34 : decode cX11_probes 34 = .ok (.iload_n 3, 1) := by decide +kernel
theorem dX11_probes_35 : decode cX11_probes 35 = .ok (.invokevirtual 354, 3) := by decide +kernel
theorem dX11_probes_38 : decode cX11_probes 38 = .ok (.ifCond .ne 14, 3) := by decide +kernel
theorem dX11_probes_41 : decode cX11_probes 41 = .ok (.iload_n 1, 1) := by decide +kernel
theorem dX11_probes_42 : decode cX11_probes 42 = .ok (.iconst 1, 1) := by decide +kernel
theorem dX11_probes_43 : decode cX11_probes 43 = .ok (.bipush 6, 2) := by decide +kernel
theorem dX11_probes_45 : decode cX11_probes 45 = .ok (.iload_n 2, 1) := by decide +kernel
theorem dX11_probes_46 : decode cX11_probes 46 = .ok (.imul, 1) := by decide +kernel
theorem dX11_probes_47 : decode cX11_probes 47 = .ok (.iload_n 3, 1) := by decide +kernel
theorem dX11_probes_48 : decode cX11_probes 48 = .ok (.iadd, 1) := by decide +kernel
theorem dX11_probes_49 : decode cX11_probes 49 = .ok (.ishl, 1) := by decide +kernel
theorem dX11_probes_50 : decode cX11_probes 50 = .ok (.ior, 1) := by decide +kernel
theorem dX11_probes_51 : decode cX11_probes 51 = .ok (.istore_n 1, 1) := by decide +kernel
theorem dX11_probes_52 : decode cX11_probes 52 = .ok (.iinc 3 1, 3) := by decide +kernel
theorem dX11_probes_55 : decode cX11_probes 55 = .ok (.goto (-44), 3) := by decide +kernel
theorem dX11_probes_58 : decode cX11_probes 58 = .ok (.iinc 2 1, 3) := by decide +kernel
theorem dX11_probes_61 : decode cX11_probes 61 = .ok (.goto (-57), 3) := by decide +kernel
theorem dX11_probes_64 : decode cX11_probes 64 = .ok (.aload_n 0, 1) := by decide +kernel
theorem dX11_probes_65 : decode cX11_probes 65 = .ok (.getfield 19, 3) := by decide +kernel
theorem dX11_probes_68 : decode cX11_probes 68 = .ok (.iload_n 1, 1) := by decide +kernel
theorem dX11_probes_69 : decode cX11_probes 69 = .ok (.invokestatic 284, 3) := by decide +kernel
theorem dX11_probes_72 : decode cX11_probes 72 = .ok (.i2l, 1) := by decide +kernel
theorem dX11_probes_73 : decode cX11_probes 73 = .ok (.invokevirtual 235, 3) := by decide +kernel
theorem dX11_probes_76 : decode cX11_probes 76 = .ok (.iload_n 1, 1) := by decide +kernel
theorem dX11_probes_77 : decode cX11_probes 77 = .ok (.ireturn, 1) := by decide +kernel
def f_X11_probes_L11 (a0 : Nat) (u2 : Int32) (u5 : Int32) (u6 : Int32) (m7 : jM) : Option ((Int32 × Int32 × jM) ⊕ (Int32 × jM)) :=
  (if (6 : Int32) ≤ u6 then some (.inr ((u5, m7))) else jcl (f_X9_hasValue (a0 + 6) u2 u6 m7) (fun v9 => (if v9 = (0 : Int32) then some (.inl ((u5, u6 + (1 : Int32), m7))) else jcl2 (f_X11_bears a0 u2 u6 m7) (fun v12 m13 => (if v12 = (0 : Int32) then jbd (u5 ||| ((1 : Int32) <<< ((((6 : Int32) * u2) + u6) &&& 31)) : Int32) (fun v16 => some (.inl ((v16, u6 + (1 : Int32), m13)))) else some (.inl ((u5, u6 + (1 : Int32), m13))))))))
def f_X11_probes_L4 (a0 : Nat) (u1 : Int32) (u2 : Int32) (m3 : jM) : Option ((Int32 × Int32 × jM) ⊕ (Int32 × jM)) :=
  (if (5 : Int32) ≤ u2 then some (.inr ((u1, m3))) else jcl (jloop (fun (s : Int32 × Int32 × jM) => f_X11_probes_L11 a0 u2 s.1 s.2.1 s.2.2) jfu ((u1, (0 : Int32), m3))) (fun w18 => some (.inl ((w18.1, u2 + (1 : Int32), w18.2)))))
def f_X11_probes (a0 : Nat) (μ : jM) : Option (Int32 × jM) :=
  jcl (jloop (fun (s : Int32 × Int32 × jM) => f_X11_probes_L4 a0 s.1 s.2.1 s.2.2) jfu (((0 : Int32), (0 : Int32), μ))) (fun w23 => jcl (f_X3_only (a0 + 3) ((f_J6_bitCount_0f7a4 w23.1).toInt64) w23.2) (fun m28 => some ((w23.1, m28))))
set_option maxHeartbeats 4000000 in
set_option maxRecDepth 100000 in
theorem c_X11_probes {l : Launch} {G : jG} {L : jL} (hL : jOKL L) {a0 : Nat} (ka0 : jK L a0 11) {μ μ' : jM} {r : Int32} (h : f_X11_probes a0 μ = some ((r, μ'))) : jCt l G L 7 yX11_probes cX11_probes 4 (some .int) [.ref (L.2.2 a0)] μ (some (.int r)) μ' := by
  refine jCt_of (by decide) (Nat.le_of_ble_eq_true rfl) (fun X hC hX hR => ?_)
  subst hX
  have hC : jC X G cX11_probes 4 RX11 (some .int) := hC
  unfold f_X11_probes at h
  show jJ X G 4 L 0 0 (jQM X G L (some (.int r)) μ' 0 0) 0 [(0, .ref (L.2.2 a0))] [] μ
  refine j_iconst (pc := 0) hC (0 : Int32) dX11_probes_0 (by decide) ?_
  refine j_istore_n (pc := 1) hC 1 [(1, .int (0 : Int32)), (0, .ref (L.2.2 a0))] dX11_probes_1 rfl (by decide) rfl rfl ?_
  refine j_iconst (pc := 2) hC (0 : Int32) dX11_probes_2 (by decide) ?_
  refine j_istore_n (pc := 3) hC 2 [(2, .int (0 : Int32)), (1, .int (0 : Int32)), (0, .ref (L.2.2 a0))] dX11_probes_3 rfl (by decide) rfl rfl ?_
  obtain ⟨w23, hw24, h⟩ := jcl_some h
  refine j_lv [2, 1, 0] rfl ?_
  refine j_loop (step := (fun (s : Int32 × Int32 × jM) => f_X11_probes_L4 a0 s.1 s.2.1 s.2.2)) (P := (fun (s : Int32 × Int32 × jM) => jJ X G 4 L 0 0 (jQM X G L (some (.int r)) μ' 0 0) 4 [(0, .ref (L.2.2 a0)), (1, .int s.1), (2, .int s.2.1)] [] s.2.2)) (R := (fun (e : Int32 × jM) => jJ X G 4 L 0 0 (jQM X G L (some (.int r)) μ' 0 0) 64 [(0, .ref (L.2.2 a0)), (1, .int e.1)] [] e.2)) ?_ jfu (((0 : Int32), (0 : Int32), μ)) w23 hw24 ?_
  · intro s25 o h hk
    obtain ⟨u1, u2, m3⟩ := s25
    change f_X11_probes_L4 a0 u1 u2 m3 = some o at h
    unfold f_X11_probes_L4 at h
    show jJ X G 4 L 0 0 (jQM X G L (some (.int r)) μ' 0 0) 4 [(0, .ref (L.2.2 a0)), (1, .int u1), (2, .int u2)] [] m3
    refine j_iload_n (pc := 4) hC 2 2 dX11_probes_4 rfl rfl ?_
    refine j_iconst (pc := 5) hC (5 : Int32) dX11_probes_5 (by decide) ?_
    refine j_icmp_ge (pc := 6) hC 64 dX11_probes_6 (by decide) (fun c4 => ?_) (fun c4 => ?_)
    · rw [if_pos c4] at h
      obtain rfl := Option.some.inj h
      have hk : jJ X G 4 L 0 0 (jQM X G L (some (.int r)) μ' 0 0) 64 [(0, .ref (L.2.2 a0)), (1, .int u1)] [] m3 := hk
      exact j_lv [0, 1] rfl hk
    · rw [if_neg c4] at h
      refine j_iconst (pc := 9) hC (0 : Int32) dX11_probes_9 (by decide) ?_
      refine j_istore_n (pc := 10) hC 3 [(3, .int (0 : Int32)), (0, .ref (L.2.2 a0)), (1, .int u1), (2, .int u2)] dX11_probes_10 rfl (by decide) rfl rfl ?_
      obtain ⟨w18, hw19, h⟩ := jcl_some h
      refine j_lv [1, 2, 3, 0] rfl ?_
      refine j_loop (step := (fun (s : Int32 × Int32 × jM) => f_X11_probes_L11 a0 u2 s.1 s.2.1 s.2.2)) (P := (fun (s : Int32 × Int32 × jM) => jJ X G 4 L 0 0 (jQM X G L (some (.int r)) μ' 0 0) 11 [(0, .ref (L.2.2 a0)), (1, .int s.1), (2, .int u2), (3, .int s.2.1)] [] s.2.2)) (R := (fun (e : Int32 × jM) => jJ X G 4 L 0 0 (jQM X G L (some (.int r)) μ' 0 0) 58 [(0, .ref (L.2.2 a0)), (1, .int e.1), (2, .int u2)] [] e.2)) ?_ jfu ((u1, (0 : Int32), m3)) w18 hw19 ?_
      · intro s20 o h hk
        obtain ⟨u5, u6, m7⟩ := s20
        change f_X11_probes_L11 a0 u2 u5 u6 m7 = some o at h
        unfold f_X11_probes_L11 at h
        show jJ X G 4 L 0 0 (jQM X G L (some (.int r)) μ' 0 0) 11 [(0, .ref (L.2.2 a0)), (1, .int u5), (2, .int u2), (3, .int u6)] [] m7
        refine j_iload_n (pc := 11) hC 3 3 dX11_probes_11 rfl rfl ?_
        refine j_bipush (pc := 12) hC (6 : Int32) dX11_probes_12 (by decide) ?_
        refine j_icmp_ge (pc := 14) hC 58 dX11_probes_14 (by decide) (fun c8 => ?_) (fun c8 => ?_)
        · rw [if_pos c8] at h
          obtain rfl := Option.some.inj h
          have hk : jJ X G 4 L 0 0 (jQM X G L (some (.int r)) μ' 0 0) 58 [(0, .ref (L.2.2 a0)), (1, .int u5), (2, .int u2)] [] m7 := hk
          exact j_lv [0, 1, 2] rfl hk
        · rw [if_neg c8] at h
          refine j_aload_n (pc := 17) hC 0 0 dX11_probes_17 rfl rfl ?_
          refine jgr_11 (pc := 18) hC 2 (by decide) rfl kf_X11_26 dX11_probes_18 ka0 (ly_11_2 hL ka0).1 ?_
          refine jgr_7 (pc := 21) hC 0 (by decide) rfl kf_X11_42 dX11_probes_21 (ly_11_2 hL ka0).2.1 (ly_7_0 hL (ly_11_2 hL ka0).2.1).1 ?_
          refine j_iload_n (pc := 24) hC 2 2 dX11_probes_24 rfl rfl ?_
          refine j_iload_n (pc := 25) hC 3 3 dX11_probes_25 rfl rfl ?_
          obtain ⟨v9, e10, h⟩ := jcl_some h
          refine j_vi (pc := 26) hC hR [.int u2, .int u6] iy_X9_hasValue (q := (RX9, TX9, 7)) (ci := 9) rfl rfl (by decide) km_X11_350 dX11_probes_26 rfl (by decide) (ly_7_0 hL (ly_11_2 hL ka0).2.1).2.1 (c_X9_hasValue hL (ly_7_0 hL (ly_11_2 hL ka0).2.1).2.1 e10) (by decide) (Nat.le_of_ble_eq_true rfl) rfl ?_
          refine j_if_eq (pc := 29) hC 52 dX11_probes_29 (by decide) (fun c11 => ?_) (fun c11 => ?_)
          · rw [if_pos c11] at h
            refine j_iinc (pc := 52) hC 3 (u6 + (1 : Int32)) [(3, .int (u6 + (1 : Int32))), (0, .ref (L.2.2 a0)), (1, .int u5), (2, .int u2)] dX11_probes_52 rfl rfl (by decide) rfl ?_
            refine j_goto (pc := 55) hC 11 dX11_probes_55 (by decide) ?_
            obtain rfl := Option.some.inj h
            have hk : jJ X G 4 L 0 0 (jQM X G L (some (.int r)) μ' 0 0) 11 [(0, .ref (L.2.2 a0)), (1, .int u5), (2, .int u2), (3, .int (u6 + (1 : Int32)))] [] m7 := hk
            exact j_lv [1, 2, 3, 0] rfl hk
          · rw [if_neg c11] at h
            refine j_aload_n (pc := 32) hC 0 0 dX11_probes_32 rfl rfl ?_
            refine j_iload_n (pc := 33) hC 2 2 dX11_probes_33 rfl rfl ?_
            refine j_iload_n (pc := 34) hC 3 3 dX11_probes_34 rfl rfl ?_
            obtain ⟨v12, m13, e14, h⟩ := jcl2_some h
            refine j_vi (pc := 35) hC hR [.int u2, .int u6] iy_X11_bears (q := (RX11, TX11, 15)) (ci := 11) rfl rfl (by decide) km_X11_354 dX11_probes_35 rfl (by decide) ka0 (c_X11_bears hL ka0 e14) (by decide) (Nat.le_of_ble_eq_true rfl) rfl ?_
            refine j_if_ne (pc := 38) hC 52 dX11_probes_38 (by decide) (fun c15 => ?_) (fun c15 => ?_)
            · rw [if_neg c15] at h
              refine j_iinc (pc := 52) hC 3 (u6 + (1 : Int32)) [(3, .int (u6 + (1 : Int32))), (0, .ref (L.2.2 a0)), (1, .int u5), (2, .int u2)] dX11_probes_52 rfl rfl (by decide) rfl ?_
              refine j_goto (pc := 55) hC 11 dX11_probes_55 (by decide) ?_
              obtain rfl := Option.some.inj h
              have hk : jJ X G 4 L 0 0 (jQM X G L (some (.int r)) μ' 0 0) 11 [(0, .ref (L.2.2 a0)), (1, .int u5), (2, .int u2), (3, .int (u6 + (1 : Int32)))] [] m13 := hk
              exact j_lv [1, 2, 3, 0] rfl hk
            · rw [if_pos c15] at h
              refine j_iload_n (pc := 41) hC 1 1 dX11_probes_41 rfl rfl ?_
              refine j_iconst (pc := 42) hC (1 : Int32) dX11_probes_42 (by decide) ?_
              refine j_bipush (pc := 43) hC (6 : Int32) dX11_probes_43 (by decide) ?_
              refine j_iload_n (pc := 45) hC 2 2 dX11_probes_45 rfl rfl ?_
              refine j_imul (pc := 46) hC dX11_probes_46 ?_
              refine j_iload_n (pc := 47) hC 3 3 dX11_probes_47 rfl rfl ?_
              refine j_iadd (pc := 48) hC dX11_probes_48 ?_
              refine j_ishl (pc := 49) hC dX11_probes_49 ?_
              refine j_ior (pc := 50) hC dX11_probes_50 ?_
              obtain ⟨v16, e17, h⟩ := jbd_ex h
              refine j_istore_n (pc := 51) hC 1 [(1, .int v16), (0, .ref (L.2.2 a0)), (2, .int u2), (3, .int u6)] dX11_probes_51 rfl (by decide) e17 rfl ?_
              refine j_iinc (pc := 52) hC 3 (u6 + (1 : Int32)) [(3, .int (u6 + (1 : Int32))), (1, .int v16), (0, .ref (L.2.2 a0)), (2, .int u2)] dX11_probes_52 rfl rfl (by decide) rfl ?_
              refine j_goto (pc := 55) hC 11 dX11_probes_55 (by decide) ?_
              obtain rfl := Option.some.inj h
              have hk : jJ X G 4 L 0 0 (jQM X G L (some (.int r)) μ' 0 0) 11 [(0, .ref (L.2.2 a0)), (1, .int v16), (2, .int u2), (3, .int (u6 + (1 : Int32)))] [] m13 := hk
              exact j_lv [2, 1, 3, 0] rfl hk
      · obtain ⟨z21, m22⟩ := w18
        try dsimp only at h
        show jJ X G 4 L 0 0 (jQM X G L (some (.int r)) μ' 0 0) 58 [(0, .ref (L.2.2 a0)), (1, .int z21), (2, .int u2)] [] m22
        refine j_iinc (pc := 58) hC 2 (u2 + (1 : Int32)) [(2, .int (u2 + (1 : Int32))), (0, .ref (L.2.2 a0)), (1, .int z21)] dX11_probes_58 rfl rfl (by decide) rfl ?_
        refine j_goto (pc := 61) hC 4 dX11_probes_61 (by decide) ?_
        obtain rfl := Option.some.inj h
        have hk : jJ X G 4 L 0 0 (jQM X G L (some (.int r)) μ' 0 0) 4 [(0, .ref (L.2.2 a0)), (1, .int z21), (2, .int (u2 + (1 : Int32)))] [] m22 := hk
        exact j_lv [1, 2, 0] rfl hk
  · obtain ⟨z26, m27⟩ := w23
    try dsimp only at h
    show jJ X G 4 L 0 0 (jQM X G L (some (.int r)) μ' 0 0) 64 [(0, .ref (L.2.2 a0)), (1, .int z26)] [] m27
    refine j_aload_n (pc := 64) hC 0 0 dX11_probes_64 rfl rfl ?_
    refine jgr_11 (pc := 65) hC 1 (by decide) rfl kf_X11_19 dX11_probes_65 ka0 (ly_11_1 hL ka0).1 ?_
    refine j_iload_n (pc := 68) hC 1 1 dX11_probes_68 rfl rfl ?_
    refine j_si (pc := 69) hC hR [.int z26] iy_J6_bitCount_0f7a4 km_X11_284 dX11_probes_69 rfl (by decide) (c_J6_bitCount_0f7a4 hL  rfl) (by decide) (Nat.le_of_ble_eq_true rfl) rfl ?_
    refine j_i2l (pc := 72) hC dX11_probes_72 ?_
    obtain ⟨m28, e29, h⟩ := jcl_some h
    refine j_vv (pc := 73) hC hR [.long ((f_J6_bitCount_0f7a4 z26).toInt64)] iy_X3_only (q := (RX3, TX3, 2)) (ci := 3) rfl rfl (by decide) km_X11_235 dX11_probes_73 rfl (by decide) (ly_11_1 hL ka0).2.1 (c_X3_only hL (ly_11_1 hL ka0).2.1 e29) (by decide) (Nat.le_of_ble_eq_true rfl) rfl ?_
    refine j_iload_n (pc := 76) hC 1 1 dX11_probes_76 rfl rfl ?_
    obtain ⟨rfl, rfl⟩ := Prod.mk.inj (Option.some.inj h)
    exact j_iret (pc := 77) hC dX11_probes_77 rfl
theorem dX11_leaves_0 : decode cX11_leaves 0 = .ok (.iload_n 1, 1) := by decide +kernel
theorem dX11_leaves_1 : decode cX11_leaves 1 = .ok (.invokestatic 122, 3) := by decide +kernel
theorem dX11_leaves_4 : decode cX11_leaves 4 = .ok (.ifCond .eq 10, 3) := by decide +kernel
theorem dX11_leaves_7 : decode cX11_leaves 7 = .ok (.iload_n 2, 1) := by decide +kernel
theorem dX11_leaves_8 : decode cX11_leaves 8 = .ok (.invokestatic 357, 3) := by decide +kernel
theorem dX11_leaves_11 : decode cX11_leaves 11 = .ok (.ifCond .ne 5, 3) := by decide +kernel
theorem dX11_leaves_14 : decode cX11_leaves 14 = .ok (.iconst (-1), 1) := by decide +kernel
theorem dX11_leaves_15 : decode cX11_leaves 15 = .ok (.ireturn, 1) := by decide +kernel
theorem dX11_leaves_16 : decode cX11_leaves 16 = .ok (.aload_n 0, 1) := by decide +kernel
theorem dX11_leaves_17 : decode cX11_leaves 17 = .ok (.getfield 26, 3) := by decide +kernel
theorem dX11_leaves_20 : decode cX11_leaves 20 = .ok (.getfield 42, 3) := by decide +kernel
theorem dX11_leaves_23 : decode cX11_leaves 23 = .ok (.iload_n 1, 1) := by decide +kernel
theorem dX11_leaves_24 : decode cX11_leaves 24 = .ok (.iload_n 2, 1) := by decide +kernel
theorem dX11_leaves_25 : decode cX11_leaves 25 = .ok (.invokevirtual 350, 3) := by decide +kernel
theorem dX11_leaves_28 : decode cX11_leaves 28 = .ok (.ifCond .ne 6, 3) := by decide +kernel
theorem dX11_leaves_31 : decode cX11_leaves 31 = .ok (.bipush (-2), 2) := by decide +kernel
theorem dX11_leaves_33 : decode cX11_leaves 33 = .ok (.ireturn, 1) := by decide +kernel
theorem dX11_leaves_34 : decode cX11_leaves 34 = .ok (.aload_n 0, 1) := by decide +kernel
theorem dX11_leaves_35 : decode cX11_leaves 35 = .ok (.iload_n 1, 1) := by decide +kernel
theorem dX11_leaves_36 : decode cX11_leaves 36 = .ok (.iload_n 2, 1) := by decide +kernel
theorem dX11_leaves_37 : decode cX11_leaves 37 = .ok (.invokevirtual 354, 3) := by decide +kernel
theorem dX11_leaves_40 : decode cX11_leaves 40 = .ok (.ifCond .ne 6, 3) := by decide +kernel
theorem dX11_leaves_43 : decode cX11_leaves 43 = .ok (.bipush (-3), 2) := by decide +kernel
theorem dX11_leaves_45 : decode cX11_leaves 45 = .ok (.ireturn, 1) := by decide +kernel
theorem dX11_leaves_46 : decode cX11_leaves 46 = .ok (.aload_n 0, 1) := by decide +kernel
theorem dX11_leaves_47 : decode cX11_leaves 47 = .ok (.getfield 19, 3) := by decide +kernel
theorem dX11_leaves_50 : decode cX11_leaves 50 = .ok (.invokevirtual 277, 3) := by decide +kernel
theorem dX11_leaves_53 : decode cX11_leaves 53 = .ok (.aload_n 0, 1) := by decide +kernel
theorem dX11_leaves_54 : decode cX11_leaves 54 = .ok (.getfield 19, 3) := by decide +kernel
theorem dX11_leaves_57 : decode cX11_leaves 57 = .ok (.aload_n 0, 1) := by decide +kernel
theorem dX11_leaves_58 : decode cX11_leaves 58 = .ok (.getfield 36, 3) := by decide +kernel
theorem dX11_leaves_61 : decode cX11_leaves 61 = .ok (.getfield 340, 3) := by decide +kernel
theorem dX11_leaves_64 : decode cX11_leaves 64 = .ok (.invokevirtual 313, 3) := by decide +kernel
theorem dX11_leaves_67 : decode cX11_leaves 67 = .ok (.aload_n 0, 1) := by decide +kernel
theorem dX11_leaves_68 : decode cX11_leaves 68 = .ok (.getfield 36, 3) := by decide +kernel
theorem dX11_leaves_71 : decode cX11_leaves 71 = .ok (.invokevirtual 360, 3) := by decide +kernel
theorem dX11_leaves_74 : decode cX11_leaves 74 = .ok (.ireturn, 1) := by decide +kernel
def f_X11_leaves (a0 : Nat) (x1 : Int32) (x2 : Int32) (μ : jM) : Option (Int32 × jM) :=
  (if (f_X11_isVariable x1) = (0 : Int32) then some (((-1 : Int32), μ)) else (if (f_X11_isValue x2) = (0 : Int32) then some (((-1 : Int32), μ)) else jcl (f_X9_hasValue (a0 + 6) x1 x2 μ) (fun v3 => (if v3 = (0 : Int32) then some (((-2 : Int32), μ)) else jcl2 (f_X11_bears a0 x1 x2 μ) (fun v6 m7 => (if v6 = (0 : Int32) then some (((-3 : Int32), m7)) else jbd (f_X3_empty (a0 + 3) m7) (fun m10 => jcl (f_X3_tellAll (a0 + 3) (a0 + 166) m10) (fun m12 => jcl (f_X6_valuesLeft (a0 + 165) m12) (fun v14 => some ((v14, m12)))))))))))
set_option maxHeartbeats 4000000 in
set_option maxRecDepth 100000 in
theorem c_X11_leaves {l : Launch} {G : jG} {L : jL} (hL : jOKL L) {a0 : Nat} {x1 : Int32} {x2 : Int32} (ka0 : jK L a0 11) {μ μ' : jM} {r : Int32} (h : f_X11_leaves a0 x1 x2 μ = some ((r, μ'))) : jCt l G L 7 yX11_leaves cX11_leaves 3 (some .int) [.ref (L.2.2 a0), .int x1, .int x2] μ (some (.int r)) μ' := by
  refine jCt_of (by decide) (Nat.le_of_ble_eq_true rfl) (fun X hC hX hR => ?_)
  subst hX
  have hC : jC X G cX11_leaves 3 RX11 (some .int) := hC
  unfold f_X11_leaves at h
  show jJ X G 3 L 0 0 (jQM X G L (some (.int r)) μ' 0 0) 0 [(0, .ref (L.2.2 a0)), (1, .int x1), (2, .int x2)] [] μ
  refine j_iload_n (pc := 0) hC 1 1 dX11_leaves_0 rfl rfl ?_
  refine j_si (pc := 1) hC hR [.int x1] iy_X11_isVariable km_X11_122 dX11_leaves_1 rfl (by decide) (c_X11_isVariable hL  rfl) (by decide) (Nat.le_of_ble_eq_true rfl) rfl ?_
  refine j_if_eq (pc := 4) hC 14 dX11_leaves_4 (by decide) (fun c1 => ?_) (fun c1 => ?_)
  · rw [if_pos c1] at h
    refine j_iconst (pc := 14) hC (-1 : Int32) dX11_leaves_14 (by decide) ?_
    obtain ⟨rfl, rfl⟩ := Prod.mk.inj (Option.some.inj h)
    exact j_iret (pc := 15) hC dX11_leaves_15 rfl
  · rw [if_neg c1] at h
    refine j_iload_n (pc := 7) hC 2 2 dX11_leaves_7 rfl rfl ?_
    refine j_si (pc := 8) hC hR [.int x2] iy_X11_isValue km_X11_357 dX11_leaves_8 rfl (by decide) (c_X11_isValue hL  rfl) (by decide) (Nat.le_of_ble_eq_true rfl) rfl ?_
    refine j_if_ne (pc := 11) hC 16 dX11_leaves_11 (by decide) (fun c2 => ?_) (fun c2 => ?_)
    · rw [if_neg c2] at h
      refine j_aload_n (pc := 16) hC 0 0 dX11_leaves_16 rfl rfl ?_
      refine jgr_11 (pc := 17) hC 2 (by decide) rfl kf_X11_26 dX11_leaves_17 ka0 (ly_11_2 hL ka0).1 ?_
      refine jgr_7 (pc := 20) hC 0 (by decide) rfl kf_X11_42 dX11_leaves_20 (ly_11_2 hL ka0).2.1 (ly_7_0 hL (ly_11_2 hL ka0).2.1).1 ?_
      refine j_iload_n (pc := 23) hC 1 1 dX11_leaves_23 rfl rfl ?_
      refine j_iload_n (pc := 24) hC 2 2 dX11_leaves_24 rfl rfl ?_
      obtain ⟨v3, e4, h⟩ := jcl_some h
      refine j_vi (pc := 25) hC hR [.int x1, .int x2] iy_X9_hasValue (q := (RX9, TX9, 7)) (ci := 9) rfl rfl (by decide) km_X11_350 dX11_leaves_25 rfl (by decide) (ly_7_0 hL (ly_11_2 hL ka0).2.1).2.1 (c_X9_hasValue hL (ly_7_0 hL (ly_11_2 hL ka0).2.1).2.1 e4) (by decide) (Nat.le_of_ble_eq_true rfl) rfl ?_
      refine j_if_ne (pc := 28) hC 34 dX11_leaves_28 (by decide) (fun c5 => ?_) (fun c5 => ?_)
      · rw [if_neg c5] at h
        refine j_aload_n (pc := 34) hC 0 0 dX11_leaves_34 rfl rfl ?_
        refine j_iload_n (pc := 35) hC 1 1 dX11_leaves_35 rfl rfl ?_
        refine j_iload_n (pc := 36) hC 2 2 dX11_leaves_36 rfl rfl ?_
        obtain ⟨v6, m7, e8, h⟩ := jcl2_some h
        refine j_vi (pc := 37) hC hR [.int x1, .int x2] iy_X11_bears (q := (RX11, TX11, 15)) (ci := 11) rfl rfl (by decide) km_X11_354 dX11_leaves_37 rfl (by decide) ka0 (c_X11_bears hL ka0 e8) (by decide) (Nat.le_of_ble_eq_true rfl) rfl ?_
        refine j_if_ne (pc := 40) hC 46 dX11_leaves_40 (by decide) (fun c9 => ?_) (fun c9 => ?_)
        · rw [if_neg c9] at h
          refine j_aload_n (pc := 46) hC 0 0 dX11_leaves_46 rfl rfl ?_
          refine jgr_11 (pc := 47) hC 1 (by decide) rfl kf_X11_19 dX11_leaves_47 ka0 (ly_11_1 hL ka0).1 ?_
          obtain ⟨m10, e11, h⟩ := jbd_ex h
          refine j_vv (pc := 50) hC hR [] iy_X3_empty (q := (RX3, TX3, 2)) (ci := 3) rfl rfl (by decide) km_X11_277 dX11_leaves_50 rfl (by decide) (ly_11_1 hL ka0).2.1 (c_X3_empty hL (ly_11_1 hL ka0).2.1 e11.symm) (by decide) (Nat.le_of_ble_eq_true rfl) rfl ?_
          refine j_aload_n (pc := 53) hC 0 0 dX11_leaves_53 rfl rfl ?_
          refine jgr_11 (pc := 54) hC 1 (by decide) rfl kf_X11_19 dX11_leaves_54 ka0 (ly_11_1 hL ka0).1 ?_
          refine j_aload_n (pc := 57) hC 0 0 dX11_leaves_57 rfl rfl ?_
          refine jgr_11 (pc := 58) hC 4 (by decide) rfl kf_X11_36 dX11_leaves_58 ka0 (ly_11_4 hL ka0).1 ?_
          refine jgr_6 (pc := 61) hC 0 (by decide) rfl kf_X11_340 dX11_leaves_61 (ly_11_4 hL ka0).2.1 (ly_6_0 hL (ly_11_4 hL ka0).2.1).1 ?_
          obtain ⟨m12, e13, h⟩ := jcl_some h
          refine j_vv (pc := 64) hC hR [.ref (L.2.2 (a0 + 166))] iy_X3_tellAll (q := (RX3, TX3, 2)) (ci := 3) rfl rfl (by decide) km_X11_313 dX11_leaves_64 rfl (by decide) (ly_11_1 hL ka0).2.1 (c_X3_tellAll hL (ly_11_1 hL ka0).2.1 (ly_6_0 hL (ly_11_4 hL ka0).2.1).2.1 e13) (by decide) (Nat.le_of_ble_eq_true rfl) rfl ?_
          refine j_aload_n (pc := 67) hC 0 0 dX11_leaves_67 rfl rfl ?_
          refine jgr_11 (pc := 68) hC 4 (by decide) rfl kf_X11_36 dX11_leaves_68 ka0 (ly_11_4 hL ka0).1 ?_
          obtain ⟨v14, e15, h⟩ := jcl_some h
          refine j_vi (pc := 71) hC hR [] iy_X6_valuesLeft (q := (RX6, TX6, 1)) (ci := 6) rfl rfl (by decide) km_X11_360 dX11_leaves_71 rfl (by decide) (ly_11_4 hL ka0).2.1 (c_X6_valuesLeft hL (ly_11_4 hL ka0).2.1 e15) (by decide) (Nat.le_of_ble_eq_true rfl) rfl ?_
          obtain ⟨rfl, rfl⟩ := Prod.mk.inj (Option.some.inj h)
          exact j_iret (pc := 74) hC dX11_leaves_74 rfl
        · rw [if_pos c9] at h
          refine j_bipush (pc := 43) hC (-3 : Int32) dX11_leaves_43 (by decide) ?_
          obtain ⟨rfl, rfl⟩ := Prod.mk.inj (Option.some.inj h)
          exact j_iret (pc := 45) hC dX11_leaves_45 rfl
      · rw [if_pos c5] at h
        refine j_bipush (pc := 31) hC (-2 : Int32) dX11_leaves_31 (by decide) ?_
        obtain ⟨rfl, rfl⟩ := Prod.mk.inj (Option.some.inj h)
        exact j_iret (pc := 33) hC dX11_leaves_33 rfl
    · rw [if_pos c2] at h
      refine j_iconst (pc := 14) hC (-1 : Int32) dX11_leaves_14 (by decide) ?_
      obtain ⟨rfl, rfl⟩ := Prod.mk.inj (Option.some.inj h)
      exact j_iret (pc := 15) hC dX11_leaves_15 rfl
theorem dX11_isBlamed_0 : decode cX11_isBlamed 0 = .ok (.aload_n 0, 1) := by decide +kernel
theorem dX11_isBlamed_1 : decode cX11_isBlamed 1 = .ok (.getfield 36, 3) := by decide +kernel
theorem dX11_isBlamed_4 : decode cX11_isBlamed 4 = .ok (.aload_n 0, 1) := by decide +kernel
theorem dX11_isBlamed_5 : decode cX11_isBlamed 5 = .ok (.getfield 26, 3) := by decide +kernel
theorem dX11_isBlamed_8 : decode cX11_isBlamed 8 = .ok (.getfield 42, 3) := by decide +kernel
theorem dX11_isBlamed_11 : decode cX11_isBlamed 11 = .ok (.invokevirtual 381, 3) := by decide +kernel
theorem dX11_isBlamed_14 : decode cX11_isBlamed 14 = .ok (.aload_n 0, 1) := by decide +kernel
theorem dX11_isBlamed_15 : decode cX11_isBlamed 15 = .ok (.getfield 36, 3) := by decide +kernel
theorem dX11_isBlamed_18 : decode cX11_isBlamed 18 = .ok (.aload_n 0, 1) := by decide +kernel
theorem dX11_isBlamed_19 : decode cX11_isBlamed 19 = .ok (.getfield 26, 3) := by decide +kernel
theorem dX11_isBlamed_22 : decode cX11_isBlamed 22 = .ok (.getfield 42, 3) := by decide +kernel
theorem dX11_isBlamed_25 : decode cX11_isBlamed 25 = .ok (.iload_n 1, 1) := by decide +kernel
theorem dX11_isBlamed_26 : decode cX11_isBlamed 26 = .ok (.invokevirtual 383, 3) := by decide +kernel
theorem dX11_isBlamed_29 : decode cX11_isBlamed 29 = .ok (.ifCond .ne 5, 3) := by decide +kernel
theorem dX11_isBlamed_32 : decode cX11_isBlamed 32 = .ok (.iconst 1, 1) := by decide +kernel
theorem dX11_isBlamed_33 : decode cX11_isBlamed 33 = .ok (.ireturn, 1) := by decide +kernel
theorem dX11_isBlamed_34 : decode cX11_isBlamed 34 = .ok (.iload_n 2, 1) := by decide +kernel
theorem dX11_isBlamed_35 : decode cX11_isBlamed 35 = .ok (.invokestatic 122, 3) := by decide +kernel
theorem dX11_isBlamed_38 : decode cX11_isBlamed 38 = .ok (.ifCond .eq 30, 3) := by decide +kernel
theorem dX11_isBlamed_41 : decode cX11_isBlamed 41 = .ok (.iload_n 3, 1) := by decide +kernel
theorem dX11_isBlamed_42 : decode cX11_isBlamed 42 = .ok (.invokestatic 357, 3) := by decide +kernel
theorem dX11_isBlamed_45 : decode cX11_isBlamed 45 = .ok (.ifCond .eq 23, 3) := by decide +kernel
theorem dX11_isBlamed_48 : decode cX11_isBlamed 48 = .ok (.aload_n 0, 1) := by decide +kernel
theorem dX11_isBlamed_49 : decode cX11_isBlamed 49 = .ok (.getfield 36, 3) := by decide +kernel
theorem dX11_isBlamed_52 : decode cX11_isBlamed 52 = .ok (.getfield 340, 3) := by decide +kernel
theorem dX11_isBlamed_55 : decode cX11_isBlamed 55 = .ok (.iload_n 2, 1) := by decide +kernel
theorem dX11_isBlamed_56 : decode cX11_isBlamed 56 = .ok (.iaload, 1) := by decide +kernel
theorem dX11_isBlamed_57 : decode cX11_isBlamed 57 = .ok (.iload_n 3, 1) := by decide +kernel
theorem dX11_isBlamed_58 : decode cX11_isBlamed 58 = .ok (.iushr, 1) := by decide +kernel
theorem dX11_isBlamed_59 : decode cX11_isBlamed 59 = .ok (.iconst 1, 1) := by decide +kernel
theorem dX11_isBlamed_60 : decode cX11_isBlamed 60 = .ok (.iand, 1) := by decide +kernel
theorem dX11_isBlamed_61 : decode cX11_isBlamed 61 = .ok (.ifCond .ne 7, 3) := by decide +kernel
theorem dX11_isBlamed_64 : decode cX11_isBlamed 64 = .ok (.iconst 1, 1) := by decide +kernel
theorem dX11_isBlamed_65 : decode cX11_isBlamed 65 = .ok (.goto 4, 3) := by decide +kernel
theorem dX11_isBlamed_68 : decode cX11_isBlamed 68 = .ok (.iconst 0, 1) := by decide +kernel
theorem dX11_isBlamed_69 : decode cX11_isBlamed 69 = .ok (.ireturn, 1) := by decide +kernel
def f_X11_isBlamed (a0 : Nat) (x1 : Int32) (x2 : Int32) (x3 : Int32) (μ : jM) : Option (Int32 × jM) :=
  jcl (f_X6_begin (a0 + 165) (a0 + 6) μ) (fun m1 => jcl2 (f_X6_spread (a0 + 165) (a0 + 6) x1 m1) (fun v3 m4 => (if v3 = (0 : Int32) then some (((1 : Int32), m4)) else (if (f_X11_isVariable x2) = (0 : Int32) then some (((0 : Int32), m4)) else (if (f_X11_isValue x3) = (0 : Int32) then some (((0 : Int32), m4)) else jrd (m4.1 (a0 + 166)) x2 5 (fun v10 => (if ((jushr v10 x3) &&& (1 : Int32)) = (0 : Int32) then some (((1 : Int32), m4)) else some (((0 : Int32), m4)))))))))
set_option maxHeartbeats 4000000 in
set_option maxRecDepth 100000 in
theorem c_X11_isBlamed {l : Launch} {G : jG} {L : jL} (hL : jOKL L) {a0 : Nat} {x1 : Int32} {x2 : Int32} {x3 : Int32} (ka0 : jK L a0 11) {μ μ' : jM} {r : Int32} (h : f_X11_isBlamed a0 x1 x2 x3 μ = some ((r, μ'))) : jCt l G L 6 yX11_isBlamed cX11_isBlamed 4 (some .boolean) [.ref (L.2.2 a0), .int x1, .int x2, .int x3] μ (some (.int r)) μ' := by
  refine jCt_of (by decide) (Nat.le_of_ble_eq_true rfl) (fun X hC hX hR => ?_)
  subst hX
  have hC : jC X G cX11_isBlamed 4 RX11 (some .boolean) := hC
  unfold f_X11_isBlamed at h
  show jJ X G 4 L 0 0 (jQM X G L (some (.int r)) μ' 0 0) 0 [(0, .ref (L.2.2 a0)), (1, .int x1), (2, .int x2), (3, .int x3)] [] μ
  refine j_aload_n (pc := 0) hC 0 0 dX11_isBlamed_0 rfl rfl ?_
  refine jgr_11 (pc := 1) hC 4 (by decide) rfl kf_X11_36 dX11_isBlamed_1 ka0 (ly_11_4 hL ka0).1 ?_
  refine j_aload_n (pc := 4) hC 0 0 dX11_isBlamed_4 rfl rfl ?_
  refine jgr_11 (pc := 5) hC 2 (by decide) rfl kf_X11_26 dX11_isBlamed_5 ka0 (ly_11_2 hL ka0).1 ?_
  refine jgr_7 (pc := 8) hC 0 (by decide) rfl kf_X11_42 dX11_isBlamed_8 (ly_11_2 hL ka0).2.1 (ly_7_0 hL (ly_11_2 hL ka0).2.1).1 ?_
  obtain ⟨m1, e2, h⟩ := jcl_some h
  refine j_vv (pc := 11) hC hR [.ref (L.2.2 (a0 + 6))] iy_X6_begin (q := (RX6, TX6, 1)) (ci := 6) rfl rfl (by decide) km_X11_381 dX11_isBlamed_11 rfl (by decide) (ly_11_4 hL ka0).2.1 (c_X6_begin hL (ly_11_4 hL ka0).2.1 (ly_7_0 hL (ly_11_2 hL ka0).2.1).2.1 e2) (by decide) (Nat.le_of_ble_eq_true rfl) rfl ?_
  refine j_aload_n (pc := 14) hC 0 0 dX11_isBlamed_14 rfl rfl ?_
  refine jgr_11 (pc := 15) hC 4 (by decide) rfl kf_X11_36 dX11_isBlamed_15 ka0 (ly_11_4 hL ka0).1 ?_
  refine j_aload_n (pc := 18) hC 0 0 dX11_isBlamed_18 rfl rfl ?_
  refine jgr_11 (pc := 19) hC 2 (by decide) rfl kf_X11_26 dX11_isBlamed_19 ka0 (ly_11_2 hL ka0).1 ?_
  refine jgr_7 (pc := 22) hC 0 (by decide) rfl kf_X11_42 dX11_isBlamed_22 (ly_11_2 hL ka0).2.1 (ly_7_0 hL (ly_11_2 hL ka0).2.1).1 ?_
  refine j_iload_n (pc := 25) hC 1 1 dX11_isBlamed_25 rfl rfl ?_
  obtain ⟨v3, m4, e5, h⟩ := jcl2_some h
  refine j_vi (pc := 26) hC hR [.ref (L.2.2 (a0 + 6)), .int x1] iy_X6_spread (q := (RX6, TX6, 1)) (ci := 6) rfl rfl (by decide) km_X11_383 dX11_isBlamed_26 rfl (by decide) (ly_11_4 hL ka0).2.1 (c_X6_spread hL (ly_11_4 hL ka0).2.1 (ly_7_0 hL (ly_11_2 hL ka0).2.1).2.1 e5) (by decide) (Nat.le_of_ble_eq_true rfl) rfl ?_
  refine j_if_ne (pc := 29) hC 34 dX11_isBlamed_29 (by decide) (fun c6 => ?_) (fun c6 => ?_)
  · rw [if_neg c6] at h
    refine j_iload_n (pc := 34) hC 2 2 dX11_isBlamed_34 rfl rfl ?_
    refine j_si (pc := 35) hC hR [.int x2] iy_X11_isVariable km_X11_122 dX11_isBlamed_35 rfl (by decide) (c_X11_isVariable hL  rfl) (by decide) (Nat.le_of_ble_eq_true rfl) rfl ?_
    refine j_if_eq (pc := 38) hC 68 dX11_isBlamed_38 (by decide) (fun c7 => ?_) (fun c7 => ?_)
    · rw [if_pos c7] at h
      refine j_iconst (pc := 68) hC (0 : Int32) dX11_isBlamed_68 (by decide) ?_
      obtain ⟨rfl, rfl⟩ := Prod.mk.inj (Option.some.inj h)
      exact j_bret (pc := 69) hC dX11_isBlamed_69 rfl rfl
    · rw [if_neg c7] at h
      refine j_iload_n (pc := 41) hC 3 3 dX11_isBlamed_41 rfl rfl ?_
      refine j_si (pc := 42) hC hR [.int x3] iy_X11_isValue km_X11_357 dX11_isBlamed_42 rfl (by decide) (c_X11_isValue hL  rfl) (by decide) (Nat.le_of_ble_eq_true rfl) rfl ?_
      refine j_if_eq (pc := 45) hC 68 dX11_isBlamed_45 (by decide) (fun c8 => ?_) (fun c8 => ?_)
      · rw [if_pos c8] at h
        refine j_iconst (pc := 68) hC (0 : Int32) dX11_isBlamed_68 (by decide) ?_
        obtain ⟨rfl, rfl⟩ := Prod.mk.inj (Option.some.inj h)
        exact j_bret (pc := 69) hC dX11_isBlamed_69 rfl rfl
      · rw [if_neg c8] at h
        refine j_aload_n (pc := 48) hC 0 0 dX11_isBlamed_48 rfl rfl ?_
        refine jgr_11 (pc := 49) hC 4 (by decide) rfl kf_X11_36 dX11_isBlamed_49 ka0 (ly_11_4 hL ka0).1 ?_
        refine jgr_6 (pc := 52) hC 0 (by decide) rfl kf_X11_340 dX11_isBlamed_52 (ly_11_4 hL ka0).2.1 (ly_6_0 hL (ly_11_4 hL ka0).2.1).1 ?_
        refine j_iload_n (pc := 55) hC 2 2 dX11_isBlamed_55 rfl rfl ?_
        obtain ⟨i9, v10, e11, h⟩ := jrd_some h
        refine j_iald (pc := 56) hC dX11_isBlamed_56 (ly_6_0 hL (ly_11_4 hL ka0).2.1).2.1 (ly_6_0 hL (ly_11_4 hL ka0).2.1).2.2 i9 e11 ?_
        refine j_iload_n (pc := 57) hC 3 3 dX11_isBlamed_57 rfl rfl ?_
        refine j_iushr (pc := 58) hC dX11_isBlamed_58 ?_
        refine j_iconst (pc := 59) hC (1 : Int32) dX11_isBlamed_59 (by decide) ?_
        refine j_iand (pc := 60) hC dX11_isBlamed_60 ?_
        refine j_if_ne (pc := 61) hC 68 dX11_isBlamed_61 (by decide) (fun c12 => ?_) (fun c12 => ?_)
        · rw [if_neg c12] at h
          refine j_iconst (pc := 68) hC (0 : Int32) dX11_isBlamed_68 (by decide) ?_
          obtain ⟨rfl, rfl⟩ := Prod.mk.inj (Option.some.inj h)
          exact j_bret (pc := 69) hC dX11_isBlamed_69 rfl rfl
        · rw [if_pos c12] at h
          refine j_iconst (pc := 64) hC (1 : Int32) dX11_isBlamed_64 (by decide) ?_
          refine j_goto (pc := 65) hC 69 dX11_isBlamed_65 (by decide) ?_
          obtain ⟨rfl, rfl⟩ := Prod.mk.inj (Option.some.inj h)
          exact j_bret (pc := 69) hC dX11_isBlamed_69 rfl rfl
  · rw [if_pos c6] at h
    refine j_iconst (pc := 32) hC (1 : Int32) dX11_isBlamed_32 (by decide) ?_
    obtain ⟨rfl, rfl⟩ := Prod.mk.inj (Option.some.inj h)
    exact j_bret (pc := 33) hC dX11_isBlamed_33 rfl rfl
theorem dX11_fewestBlamed_0 : decode cX11_fewestBlamed 0 = .ok (.aload_n 0, 1) := by decide +kernel
theorem dX11_fewestBlamed_1 : decode cX11_fewestBlamed 1 = .ok (.invokevirtual 372, 3) := by decide +kernel
theorem dX11_fewestBlamed_4 : decode cX11_fewestBlamed 4 = .ok (.istore_n 3, 1) := by decide +kernel
theorem dX11_fewestBlamed_5 : decode cX11_fewestBlamed 5 = .ok (.aload_n 0, 1) := by decide +kernel
theorem dX11_fewestBlamed_6 : decode cX11_fewestBlamed 6 = .ok (.iload_n 3, 1) := by decide +kernel
theorem dX11_fewestBlamed_7 : decode cX11_fewestBlamed 7 = .ok (.iload_n 1, 1) := by decide +kernel
theorem dX11_fewestBlamed_8 : decode cX11_fewestBlamed 8 = .ok (.iload_n 2, 1) := by decide +kernel
theorem dX11_fewestBlamed_9 : decode cX11_fewestBlamed 9 = .ok (.invokevirtual 387, 3) := by decide +kernel
theorem dX11_fewestBlamed_12 : decode cX11_fewestBlamed 12 = .ok (.ifCond .ne 5, 3) := by decide +kernel
theorem dX11_fewestBlamed_15 : decode cX11_fewestBlamed 15 = .ok (.iconst 0, 1) := by decide +kernel
theorem dX11_fewestBlamed_16 : decode cX11_fewestBlamed 16 = .ok (.ireturn, 1) := by decide +kernel
theorem dX11_fewestBlamed_17 : decode cX11_fewestBlamed 17 = .ok (.iload_n 3, 1) := by decide +kernel
theorem dX11_fewestBlamed_18 : decode cX11_fewestBlamed 18 = .ok (.istore 4, 2) := by decide +kernel
theorem dX11_fewestBlamed_20 : decode cX11_fewestBlamed 20 = .ok (.iconst 1, 1) := by decide +kernel
theorem dX11_fewestBlamed_21 : decode cX11_fewestBlamed 21 = .ok (.istore 5, 2) := by decide +kernel
theorem dX11_fewestBlamed_23 : decode cX11_fewestBlamed 23 = .ok (.iload 5, 2) := by decide +kernel
theorem dX11_fewestBlamed_25 : decode cX11_fewestBlamed 25 = .ok (.iload 4, 2) := by decide +kernel
theorem dX11_fewestBlamed_27 : decode cX11_fewestBlamed 27 = .ok (.if_icmp .ge 35, 3) := by decide +kernel
theorem dX11_fewestBlamed_30 : decode cX11_fewestBlamed 30 = .ok (.iload 5, 2) := by decide +kernel
theorem dX11_fewestBlamed_32 : decode cX11_fewestBlamed 32 = .ok (.invokestatic 284, 3) := by decide +kernel
theorem dX11_fewestBlamed_35 : decode cX11_fewestBlamed 35 = .ok (.iload_n 3, 1) := by decide +kernel
theorem dX11_fewestBlamed_36 : decode cX11_fewestBlamed 36 = .ok (.invokestatic 284, 3) := by decide +kernel
theorem dX11_fewestBlamed_39 : decode cX11_fewestBlamed 39 = .ok (.if_icmp .ge 17, 3) := by decide +kernel
theorem dX11_fewestBlamed_42 : decode cX11_fewestBlamed 42 = .ok (.aload_n 0, 1) := by decide +kernel
theorem dX11_fewestBlamed_43 : decode cX11_fewestBlamed 43 = .ok (.iload 5, 2) := by decide +kernel
theorem dX11_fewestBlamed_45 : decode cX11_fewestBlamed 45 = .ok (.iload_n 1, 1) := by decide +kernel
theorem dX11_fewestBlamed_46 : decode cX11_fewestBlamed 46 = .ok (.iload_n 2, 1) := by decide +kernel
theorem dX11_fewestBlamed_47 : decode cX11_fewestBlamed 47 = .ok (.invokevirtual 387, 3) := by decide +kernel
theorem dX11_fewestBlamed_50 : decode cX11_fewestBlamed 50 = .ok (.ifCond .eq 6, 3) := by decide +kernel
theorem dX11_fewestBlamed_53 : decode cX11_fewestBlamed 53 = .ok (.iload 5, 2) := by decide +kernel
theorem dX11_fewestBlamed_55 : decode cX11_fewestBlamed 55 = .ok (.istore_n 3, 1) := by decide +kernel
theorem dX11_fewestBlamed_56 : decode cX11_fewestBlamed 56 = .ok (.iinc 5 1, 3) := by decide +kernel
theorem dX11_fewestBlamed_59 : decode cX11_fewestBlamed 59 = .ok (.goto (-36), 3) := by decide +kernel
theorem dX11_fewestBlamed_62 : decode cX11_fewestBlamed 62 = .ok (.iload_n 3, 1) := by decide +kernel
theorem dX11_fewestBlamed_63 : decode cX11_fewestBlamed 63 = .ok (.ireturn, 1) := by decide +kernel
def f_X11_fewestBlamed_L23 (a0 : Nat) (x1 : Int32) (x2 : Int32) (v1 : Int32) (u7 : Int32) (u8 : Int32) (m9 : jM) : Option ((Int32 × Int32 × jM) ⊕ (Int32 × jM)) :=
  (if v1 ≤ u8 then some (.inr ((u7, m9))) else (if (f_J6_bitCount_0f7a4 u7) ≤ (f_J6_bitCount_0f7a4 u8) then some (.inl ((u7, u8 + (1 : Int32), m9))) else jcl2 (f_X11_isBlamed a0 u8 x1 x2 m9) (fun v12 m13 => (if v12 = (0 : Int32) then some (.inl ((u7, u8 + (1 : Int32), m13))) else some (.inl ((u8, u8 + (1 : Int32), m13)))))))
def f_X11_fewestBlamed (a0 : Nat) (x1 : Int32) (x2 : Int32) (μ : jM) : Option (Int32 × jM) :=
  jbd (f_X11_allConstraints a0 μ : Int32) (fun v1 => jcl2 (f_X11_isBlamed a0 v1 x1 x2 μ) (fun v3 m4 => (if v3 = (0 : Int32) then some (((0 : Int32), m4)) else jcl (jloop (fun (s : Int32 × Int32 × jM) => f_X11_fewestBlamed_L23 a0 x1 x2 v1 s.1 s.2.1 s.2.2) jfu ((v1, (1 : Int32), m4))) (fun w16 => some ((w16.1, w16.2))))))
set_option maxHeartbeats 4000000 in
set_option maxRecDepth 100000 in
theorem c_X11_fewestBlamed {l : Launch} {G : jG} {L : jL} (hL : jOKL L) {a0 : Nat} {x1 : Int32} {x2 : Int32} (ka0 : jK L a0 11) {μ μ' : jM} {r : Int32} (h : f_X11_fewestBlamed a0 x1 x2 μ = some ((r, μ'))) : jCt l G L 7 yX11_fewestBlamed cX11_fewestBlamed 6 (some .int) [.ref (L.2.2 a0), .int x1, .int x2] μ (some (.int r)) μ' := by
  refine jCt_of (by decide) (Nat.le_of_ble_eq_true rfl) (fun X hC hX hR => ?_)
  subst hX
  have hC : jC X G cX11_fewestBlamed 6 RX11 (some .int) := hC
  unfold f_X11_fewestBlamed at h
  show jJ X G 6 L 0 0 (jQM X G L (some (.int r)) μ' 0 0) 0 [(0, .ref (L.2.2 a0)), (1, .int x1), (2, .int x2)] [] μ
  refine j_aload_n (pc := 0) hC 0 0 dX11_fewestBlamed_0 rfl rfl ?_
  refine j_vi (pc := 1) hC hR [] iy_X11_allConstraints (q := (RX11, TX11, 15)) (ci := 11) rfl rfl (by decide) km_X11_372 dX11_fewestBlamed_1 rfl (by decide) ka0 (c_X11_allConstraints hL ka0 rfl) (by decide) (Nat.le_of_ble_eq_true rfl) rfl ?_
  obtain ⟨v1, e2, h⟩ := jbd_ex h
  refine j_istore_n (pc := 4) hC 3 [(3, .int v1), (0, .ref (L.2.2 a0)), (1, .int x1), (2, .int x2)] dX11_fewestBlamed_4 rfl (by decide) e2 rfl ?_
  refine j_aload_n (pc := 5) hC 0 1 dX11_fewestBlamed_5 rfl rfl ?_
  refine j_iload_n (pc := 6) hC 3 0 dX11_fewestBlamed_6 rfl rfl ?_
  refine j_iload_n (pc := 7) hC 1 2 dX11_fewestBlamed_7 rfl rfl ?_
  refine j_iload_n (pc := 8) hC 2 3 dX11_fewestBlamed_8 rfl rfl ?_
  obtain ⟨v3, m4, e5, h⟩ := jcl2_some h
  refine j_vi (pc := 9) hC hR [.int v1, .int x1, .int x2] iy_X11_isBlamed (q := (RX11, TX11, 15)) (ci := 11) rfl rfl (by decide) km_X11_387 dX11_fewestBlamed_9 rfl (by decide) ka0 (c_X11_isBlamed hL ka0 e5) (by decide) (Nat.le_of_ble_eq_true rfl) rfl ?_
  refine j_if_ne (pc := 12) hC 17 dX11_fewestBlamed_12 (by decide) (fun c6 => ?_) (fun c6 => ?_)
  · rw [if_neg c6] at h
    refine j_iload_n (pc := 17) hC 3 0 dX11_fewestBlamed_17 rfl rfl ?_
    refine j_istore (pc := 18) hC [(4, .int v1), (3, .int v1), (0, .ref (L.2.2 a0)), (1, .int x1), (2, .int x2)] dX11_fewestBlamed_18 (by decide) rfl rfl ?_
    refine j_iconst (pc := 20) hC (1 : Int32) dX11_fewestBlamed_20 (by decide) ?_
    refine j_istore (pc := 21) hC [(5, .int (1 : Int32)), (4, .int v1), (3, .int v1), (0, .ref (L.2.2 a0)), (1, .int x1), (2, .int x2)] dX11_fewestBlamed_21 (by decide) rfl rfl ?_
    obtain ⟨w16, hw17, h⟩ := jcl_some h
    refine j_lv [3, 4, 5, 2, 1, 0] rfl ?_
    refine j_loop (step := (fun (s : Int32 × Int32 × jM) => f_X11_fewestBlamed_L23 a0 x1 x2 v1 s.1 s.2.1 s.2.2)) (P := (fun (s : Int32 × Int32 × jM) => jJ X G 6 L 0 0 (jQM X G L (some (.int r)) μ' 0 0) 23 [(0, .ref (L.2.2 a0)), (1, .int x1), (2, .int x2), (3, .int s.1), (4, .int v1), (5, .int s.2.1)] [] s.2.2)) (R := (fun (e : Int32 × jM) => jJ X G 6 L 0 0 (jQM X G L (some (.int r)) μ' 0 0) 62 [(3, .int e.1)] [] e.2)) ?_ jfu ((v1, (1 : Int32), m4)) w16 hw17 ?_
    · intro s18 o h hk
      obtain ⟨u7, u8, m9⟩ := s18
      change f_X11_fewestBlamed_L23 a0 x1 x2 v1 u7 u8 m9 = some o at h
      unfold f_X11_fewestBlamed_L23 at h
      show jJ X G 6 L 0 0 (jQM X G L (some (.int r)) μ' 0 0) 23 [(0, .ref (L.2.2 a0)), (1, .int x1), (2, .int x2), (3, .int u7), (4, .int v1), (5, .int u8)] [] m9
      refine j_iload (pc := 23) hC 5 dX11_fewestBlamed_23 rfl ?_
      refine j_iload (pc := 25) hC 4 dX11_fewestBlamed_25 rfl ?_
      refine j_icmp_ge (pc := 27) hC 62 dX11_fewestBlamed_27 (by decide) (fun c10 => ?_) (fun c10 => ?_)
      · rw [if_pos c10] at h
        obtain rfl := Option.some.inj h
        have hk : jJ X G 6 L 0 0 (jQM X G L (some (.int r)) μ' 0 0) 62 [(3, .int u7)] [] m9 := hk
        exact j_lv [3] rfl hk
      · rw [if_neg c10] at h
        refine j_iload (pc := 30) hC 5 dX11_fewestBlamed_30 rfl ?_
        refine j_si (pc := 32) hC hR [.int u8] iy_J6_bitCount_0f7a4 km_X11_284 dX11_fewestBlamed_32 rfl (by decide) (c_J6_bitCount_0f7a4 hL  rfl) (by decide) (Nat.le_of_ble_eq_true rfl) rfl ?_
        refine j_iload_n (pc := 35) hC 3 3 dX11_fewestBlamed_35 rfl rfl ?_
        refine j_si (pc := 36) hC hR [.int u7] iy_J6_bitCount_0f7a4 km_X11_284 dX11_fewestBlamed_36 rfl (by decide) (c_J6_bitCount_0f7a4 hL  rfl) (by decide) (Nat.le_of_ble_eq_true rfl) rfl ?_
        refine j_icmp_ge (pc := 39) hC 56 dX11_fewestBlamed_39 (by decide) (fun c11 => ?_) (fun c11 => ?_)
        · rw [if_pos c11] at h
          refine j_iinc (pc := 56) hC 5 (u8 + (1 : Int32)) [(5, .int (u8 + (1 : Int32))), (0, .ref (L.2.2 a0)), (1, .int x1), (2, .int x2), (3, .int u7), (4, .int v1)] dX11_fewestBlamed_56 rfl rfl (by decide) rfl ?_
          refine j_goto (pc := 59) hC 23 dX11_fewestBlamed_59 (by decide) ?_
          obtain rfl := Option.some.inj h
          have hk : jJ X G 6 L 0 0 (jQM X G L (some (.int r)) μ' 0 0) 23 [(0, .ref (L.2.2 a0)), (1, .int x1), (2, .int x2), (3, .int u7), (4, .int v1), (5, .int (u8 + (1 : Int32)))] [] m9 := hk
          exact j_lv [1, 2, 3, 4, 5, 0] rfl hk
        · rw [if_neg c11] at h
          refine j_aload_n (pc := 42) hC 0 0 dX11_fewestBlamed_42 rfl rfl ?_
          refine j_iload (pc := 43) hC 5 dX11_fewestBlamed_43 rfl ?_
          refine j_iload_n (pc := 45) hC 1 1 dX11_fewestBlamed_45 rfl rfl ?_
          refine j_iload_n (pc := 46) hC 2 2 dX11_fewestBlamed_46 rfl rfl ?_
          obtain ⟨v12, m13, e14, h⟩ := jcl2_some h
          refine j_vi (pc := 47) hC hR [.int u8, .int x1, .int x2] iy_X11_isBlamed (q := (RX11, TX11, 15)) (ci := 11) rfl rfl (by decide) km_X11_387 dX11_fewestBlamed_47 rfl (by decide) ka0 (c_X11_isBlamed hL ka0 e14) (by decide) (Nat.le_of_ble_eq_true rfl) rfl ?_
          refine j_if_eq (pc := 50) hC 56 dX11_fewestBlamed_50 (by decide) (fun c15 => ?_) (fun c15 => ?_)
          · rw [if_pos c15] at h
            refine j_iinc (pc := 56) hC 5 (u8 + (1 : Int32)) [(5, .int (u8 + (1 : Int32))), (0, .ref (L.2.2 a0)), (1, .int x1), (2, .int x2), (3, .int u7), (4, .int v1)] dX11_fewestBlamed_56 rfl rfl (by decide) rfl ?_
            refine j_goto (pc := 59) hC 23 dX11_fewestBlamed_59 (by decide) ?_
            obtain rfl := Option.some.inj h
            have hk : jJ X G 6 L 0 0 (jQM X G L (some (.int r)) μ' 0 0) 23 [(0, .ref (L.2.2 a0)), (1, .int x1), (2, .int x2), (3, .int u7), (4, .int v1), (5, .int (u8 + (1 : Int32)))] [] m13 := hk
            exact j_lv [1, 2, 3, 4, 5, 0] rfl hk
          · rw [if_neg c15] at h
            refine j_iload (pc := 53) hC 5 dX11_fewestBlamed_53 rfl ?_
            refine j_istore_n (pc := 55) hC 3 [(3, .int u8), (0, .ref (L.2.2 a0)), (1, .int x1), (2, .int x2), (4, .int v1), (5, .int u8)] dX11_fewestBlamed_55 rfl (by decide) rfl rfl ?_
            refine j_iinc (pc := 56) hC 5 (u8 + (1 : Int32)) [(5, .int (u8 + (1 : Int32))), (3, .int u8), (0, .ref (L.2.2 a0)), (1, .int x1), (2, .int x2), (4, .int v1)] dX11_fewestBlamed_56 rfl rfl (by decide) rfl ?_
            refine j_goto (pc := 59) hC 23 dX11_fewestBlamed_59 (by decide) ?_
            obtain rfl := Option.some.inj h
            have hk : jJ X G 6 L 0 0 (jQM X G L (some (.int r)) μ' 0 0) 23 [(0, .ref (L.2.2 a0)), (1, .int x1), (2, .int x2), (3, .int u8), (4, .int v1), (5, .int (u8 + (1 : Int32)))] [] m13 := hk
            exact j_lv [2, 3, 4, 1, 5, 0] rfl hk
    · obtain ⟨z19, m20⟩ := w16
      try dsimp only at h
      show jJ X G 6 L 0 0 (jQM X G L (some (.int r)) μ' 0 0) 62 [(3, .int z19)] [] m20
      refine j_iload_n (pc := 62) hC 3 0 dX11_fewestBlamed_62 rfl rfl ?_
      obtain ⟨rfl, rfl⟩ := Prod.mk.inj (Option.some.inj h)
      exact j_iret (pc := 63) hC dX11_fewestBlamed_63 rfl
  · rw [if_pos c6] at h
    refine j_iconst (pc := 15) hC (0 : Int32) dX11_fewestBlamed_15 (by decide) ?_
    obtain ⟨rfl, rfl⟩ := Prod.mk.inj (Option.some.inj h)
    exact j_iret (pc := 16) hC dX11_fewestBlamed_16 rfl
