theorem dX11_years_0 : decode cX11_years 0 = .ok (.iload_n 2, 1) := by decide +kernel
theorem dX11_years_1 : decode cX11_years 1 = .ok (.iconst 1, 1) := by decide +kernel
theorem dX11_years_2 : decode cX11_years 2 = .ok (.if_icmp .lt 9, 3) := by decide +kernel
theorem dX11_years_5 : decode cX11_years 5 = .ok (.iload_n 2, 1) := by decide +kernel
theorem dX11_years_6 : decode cX11_years 6 = .ok (.bipush 40, 2) := by decide +kernel
theorem dX11_years_8 : decode cX11_years 8 = .ok (.if_icmp .le 5, 3) := by decide +kernel
theorem dX11_years_11 : decode cX11_years 11 = .ok (.iconst (-1), 1) := by decide +kernel
theorem dX11_years_12 : decode cX11_years 12 = .ok (.ireturn, 1) := by decide +kernel
theorem dX11_years_13 : decode cX11_years 13 = .ok (.aload_n 0, 1) := by decide +kernel
theorem dX11_years_14 : decode cX11_years 14 = .ok (.getfield 30, 3) := by decide +kernel
theorem dX11_years_17 : decode cX11_years 17 = .ok (.aload_n 0, 1) := by decide +kernel
theorem dX11_years_18 : decode cX11_years 18 = .ok (.getfield 26, 3) := by decide +kernel
theorem dX11_years_21 : decode cX11_years 21 = .ok (.invokevirtual 252, 3) := by decide +kernel
theorem dX11_years_24 : decode cX11_years 24 = .ok (.aload_n 0, 1) := by decide +kernel
theorem dX11_years_25 : decode cX11_years 25 = .ok (.iload_n 1, 1) := by decide +kernel
theorem dX11_years_26 : decode cX11_years 26 = .ok (.putfield 402, 3) := by decide +kernel
theorem dX11_years_29 : decode cX11_years 29 = .ok (.iconst 0, 1) := by decide +kernel
theorem dX11_years_30 : decode cX11_years 30 = .ok (.istore_n 3, 1) := by decide +kernel
theorem dX11_years_31 : decode cX11_years 31 = .ok (.iload_n 3, 1) := by decide +kernel
theorem dX11_years_32 : decode cX11_years 32 = .ok (.iload_n 2, 1) := by decide +kernel
theorem dX11_years_33 : decode cX11_years 33 = .ok (.if_icmp .ge 13, 3) := by decide +kernel
theorem dX11_years_36 : decode cX11_years 36 = .ok (.aload_n 0, 1) := by decide +kernel
theorem dX11_years_37 : decode cX11_years 37 = .ok (.invokevirtual 405, 3) := by decide +kernel
theorem dX11_years_40 : decode cX11_years 40 = .ok (.iinc 3 1, 3) := by decide +kernel
theorem dX11_years_43 : decode cX11_years 43 = .ok (.goto (-12), 3) := by decide +kernel
theorem dX11_years_46 : decode cX11_years 46 = .ok (.aload_n 0, 1) := by decide +kernel
theorem dX11_years_47 : decode cX11_years 47 = .ok (.getfield 19, 3) := by decide +kernel
theorem dX11_years_50 : decode cX11_years 50 = .ok (.aload_n 0, 1) := by decide +kernel
theorem dX11_years_51 : decode cX11_years 51 = .ok (.getfield 30, 3) := by decide +kernel
theorem dX11_years_54 : decode cX11_years 54 = .ok (.getfield 42, 3) := by decide +kernel
theorem dX11_years_57 : decode cX11_years 57 = .ok (.invokevirtual 152, 3) := by decide +kernel
theorem dX11_years_60 : decode cX11_years 60 = .ok (.i2l, 1) := by decide +kernel
theorem dX11_years_61 : decode cX11_years 61 = .ok (.invokevirtual 235, 3) := by decide +kernel
theorem dX11_years_64 : decode cX11_years 64 = .ok (.aload_n 0, 1) := by decide +kernel
theorem dX11_years_65 : decode cX11_years 65 = .ok (.getfield 19, 3) := by decide +kernel
theorem dX11_years_68 : decode cX11_years 68 = .ok (.aload_n 0, 1) := by decide +kernel
theorem dX11_years_69 : decode cX11_years 69 = .ok (.getfield 30, 3) := by decide +kernel
theorem dX11_years_72 : decode cX11_years 72 = .ok (.getfield 42, 3) := by decide +kernel
theorem dX11_years_75 : decode cX11_years 75 = .ok (.invokevirtual 408, 3) := by decide +kernel
theorem dX11_years_78 : decode cX11_years 78 = .ok (.i2l, 1) := by decide +kernel
theorem dX11_years_79 : decode cX11_years 79 = .ok (.invokevirtual 248, 3) := by decide +kernel
theorem dX11_years_82 : decode cX11_years 82 = .ok (.aload_n 0, 1) := by decide +kernel
theorem dX11_years_83 : decode cX11_years 83 = .ok (.getfield 19, 3) := by decide +kernel
theorem dX11_years_86 : decode cX11_years 86 = .ok (.aload_n 0, 1) := by decide +kernel
theorem dX11_years_87 : decode cX11_years 87 = .ok (.getfield 30, 3) := by decide +kernel
theorem dX11_years_90 : decode cX11_years 90 = .ok (.getfield 42, 3) := by decide +kernel
theorem dX11_years_93 : decode cX11_years 93 = .ok (.getfield 128, 3) := by decide +kernel
theorem dX11_years_96 : decode cX11_years 96 = .ok (.i2l, 1) := by decide +kernel
theorem dX11_years_97 : decode cX11_years 97 = .ok (.invokevirtual 248, 3) := by decide +kernel
theorem dX11_years_100 : decode cX11_years 100 = .ok (.aload_n 0, 1) := by decide +kernel
theorem dX11_years_101 : decode cX11_years 101 = .ok (.getfield 19, 3) := by decide +kernel
theorem dX11_years_104 : decode cX11_years 104 = .ok (.aload_n 0, 1) := by decide +kernel
theorem dX11_years_105 : decode cX11_years 105 = .ok (.getfield 30, 3) := by decide +kernel
theorem dX11_years_108 : decode cX11_years 108 = .ok (.invokevirtual 409, 3) := by decide +kernel
theorem dX11_years_111 : decode cX11_years 111 = .ok (.i2l, 1) := by decide +kernel
theorem dX11_years_112 : decode cX11_years 112 = .ok (.invokevirtual 248, 3) := by decide +kernel
theorem dX11_years_115 : decode cX11_years 115 = .ok (.aload_n 0, 1) := by decide +kernel
theorem dX11_years_116 : decode cX11_years 116 = .ok (.getfield 30, 3) := by decide +kernel
theorem dX11_years_119 : decode cX11_years 119 = .ok (.getfield 215, 3) := by decide +kernel
theorem dX11_years_122 : decode cX11_years 122 = .ok (.ireturn, 1) := by decide +kernel
def f_X11_years_L31 (a0 : Nat) (x2 : Int32) (u7 : Int32) (m8 : jM) : Option ((Int32 × jM) ⊕ (jM)) :=
  (if x2 ≤ u7 then some (.inr m8) else jcl (f_X11_dreamYear a0 m8) (fun m10 => some (.inl ((u7 + (1 : Int32), m10)))))
def f_X11_years (a0 : Nat) (x1 : Int32) (x2 : Int32) (μ : jM) : Option (Int32 × jM) :=
  (if x2 < (1 : Int32) then some (((-1 : Int32), μ)) else (if x2 ≤ (40 : Int32) then jcl (f_X7_become (a0 + 85) (a0 + 5) μ) (fun m3 => jbd (jsi m3 a0 14 x1) (fun m5 => jcl (jloop (fun (s : Int32 × jM) => f_X11_years_L31 a0 x2 s.1 s.2) jfu (((0 : Int32), m5))) (fun w12 => jcl (f_X9_sumOfCells (a0 + 86) w12) (fun v16 => jcl (f_X3_only (a0 + 3) v16.toInt64 w12) (fun m18 => jcl (f_X9_valuesLeft (a0 + 86) m18) (fun v20 => jcl (f_X3_tell (a0 + 3) v20.toInt64 m18) (fun m22 => jcl (f_X3_tell (a0 + 3) ((m22.1 (a0 + 86) 5).toInt64) m22) (fun m24 => jcl (f_X7_thingsOnTrails (a0 + 85) m24) (fun v26 => jcl (f_X3_tell (a0 + 3) v26.toInt64 m24) (fun m28 => some ((m28.1 (a0 + 85) 2, m28)))))))))))) else some (((-1 : Int32), μ))))
set_option maxHeartbeats 4000000 in
set_option maxRecDepth 100000 in
theorem c_X11_years {l : Launch} {G : jG} {L : jL} (hL : jOKL L) {a0 : Nat} {x1 : Int32} {x2 : Int32} (ka0 : jK L a0 11) {μ μ' : jM} {r : Int32} (h : f_X11_years a0 x1 x2 μ = some ((r, μ'))) : jCt l G L 8 yX11_years cX11_years 4 (some .int) [.ref (L.2.2 a0), .int x1, .int x2] μ (some (.int r)) μ' := by
  refine jCt_of (by decide) (Nat.le_of_ble_eq_true rfl) (fun X hC hX hR => ?_)
  subst hX
  have hC : jC X G cX11_years 4 RX11 (some .int) := hC
  unfold f_X11_years at h
  show jJ X G 4 L 0 0 (jQM X G L (some (.int r)) μ' 0 0) 0 [(0, .ref (L.2.2 a0)), (1, .int x1), (2, .int x2)] [] μ
  refine j_iload_n (pc := 0) hC 2 2 dX11_years_0 rfl rfl ?_
  refine j_iconst (pc := 1) hC (1 : Int32) dX11_years_1 (by decide) ?_
  refine j_icmp_lt (pc := 2) hC 11 dX11_years_2 (by decide) (fun c1 => ?_) (fun c1 => ?_)
  · rw [if_pos c1] at h
    refine j_iconst (pc := 11) hC (-1 : Int32) dX11_years_11 (by decide) ?_
    obtain ⟨rfl, rfl⟩ := Prod.mk.inj (Option.some.inj h)
    exact j_iret (pc := 12) hC dX11_years_12 rfl
  · rw [if_neg c1] at h
    refine j_iload_n (pc := 5) hC 2 2 dX11_years_5 rfl rfl ?_
    refine j_bipush (pc := 6) hC (40 : Int32) dX11_years_6 (by decide) ?_
    refine j_icmp_le (pc := 8) hC 13 dX11_years_8 (by decide) (fun c2 => ?_) (fun c2 => ?_)
    · rw [if_pos c2] at h
      refine j_aload_n (pc := 13) hC 0 0 dX11_years_13 rfl rfl ?_
      refine jgr_11 (pc := 14) hC 3 (by decide) rfl kf_X11_30 dX11_years_14 ka0 (ly_11_3 hL ka0).1 ?_
      refine j_aload_n (pc := 17) hC 0 0 dX11_years_17 rfl rfl ?_
      refine jgr_11 (pc := 18) hC 2 (by decide) rfl kf_X11_26 dX11_years_18 ka0 (ly_11_2 hL ka0).1 ?_
      obtain ⟨m3, e4, h⟩ := jcl_some h
      refine j_vv (pc := 21) hC hR [.ref (L.2.2 (a0 + 5))] iy_X7_become (q := (RX7, TX7, 3)) (ci := 7) rfl rfl (by decide) km_X11_252 dX11_years_21 rfl (by decide) (ly_11_3 hL ka0).2.1 (c_X7_become hL (ly_11_3 hL ka0).2.1 (ly_11_2 hL ka0).2.1 e4) (by decide) (Nat.le_of_ble_eq_true rfl) rfl ?_
      refine j_aload_n (pc := 24) hC 0 0 dX11_years_24 rfl rfl ?_
      refine j_iload_n (pc := 25) hC 1 1 dX11_years_25 rfl rfl ?_
      obtain ⟨m5, e6, h⟩ := jbd_ex h
      refine jpi_11 (pc := 26) hC 14 (by decide) rfl kf_X11_402 dX11_years_26 rfl (by decide) ka0 e6 ?_
      refine j_iconst (pc := 29) hC (0 : Int32) dX11_years_29 (by decide) ?_
      refine j_istore_n (pc := 30) hC 3 [(3, .int (0 : Int32)), (0, .ref (L.2.2 a0)), (1, .int x1), (2, .int x2)] dX11_years_30 rfl (by decide) rfl rfl ?_
      obtain ⟨w12, hw13, h⟩ := jcl_some h
      refine j_lv [1, 3, 0] rfl ?_
      refine j_loop (step := (fun (s : Int32 × jM) => f_X11_years_L31 a0 x2 s.1 s.2)) (P := (fun (s : Int32 × jM) => jJ X G 4 L 0 0 (jQM X G L (some (.int r)) μ' 0 0) 31 [(0, .ref (L.2.2 a0)), (2, .int x2), (3, .int s.1)] [] s.2)) (R := (fun (e : jM) => jJ X G 4 L 0 0 (jQM X G L (some (.int r)) μ' 0 0) 46 [(0, .ref (L.2.2 a0))] [] e)) ?_ jfu (((0 : Int32), m5)) w12 hw13 ?_
      · intro s14 o h hk
        obtain ⟨u7, m8⟩ := s14
        change f_X11_years_L31 a0 x2 u7 m8 = some o at h
        unfold f_X11_years_L31 at h
        show jJ X G 4 L 0 0 (jQM X G L (some (.int r)) μ' 0 0) 31 [(0, .ref (L.2.2 a0)), (2, .int x2), (3, .int u7)] [] m8
        refine j_iload_n (pc := 31) hC 3 2 dX11_years_31 rfl rfl ?_
        refine j_iload_n (pc := 32) hC 2 1 dX11_years_32 rfl rfl ?_
        refine j_icmp_ge (pc := 33) hC 46 dX11_years_33 (by decide) (fun c9 => ?_) (fun c9 => ?_)
        · rw [if_pos c9] at h
          obtain rfl := Option.some.inj h
          have hk : jJ X G 4 L 0 0 (jQM X G L (some (.int r)) μ' 0 0) 46 [(0, .ref (L.2.2 a0))] [] m8 := hk
          exact j_lv [0] rfl hk
        · rw [if_neg c9] at h
          refine j_aload_n (pc := 36) hC 0 0 dX11_years_36 rfl rfl ?_
          obtain ⟨m10, e11, h⟩ := jcl_some h
          refine j_vv (pc := 37) hC hR [] iy_X11_dreamYear (q := (RX11, TX11, 15)) (ci := 11) rfl rfl (by decide) km_X11_405 dX11_years_37 rfl (by decide) ka0 (c_X11_dreamYear hL ka0 e11) (by decide) (Nat.le_of_ble_eq_true rfl) rfl ?_
          refine j_iinc (pc := 40) hC 2 (u7 + (1 : Int32)) [(3, .int (u7 + (1 : Int32))), (0, .ref (L.2.2 a0)), (2, .int x2)] dX11_years_40 rfl rfl (by decide) rfl ?_
          refine j_goto (pc := 43) hC 31 dX11_years_43 (by decide) ?_
          obtain rfl := Option.some.inj h
          have hk : jJ X G 4 L 0 0 (jQM X G L (some (.int r)) μ' 0 0) 31 [(0, .ref (L.2.2 a0)), (2, .int x2), (3, .int (u7 + (1 : Int32)))] [] m10 := hk
          exact j_lv [1, 2, 0] rfl hk
      · obtain ⟨m15, rfl⟩ : ∃ y, y = w12 := ⟨_, rfl⟩
        try dsimp only at h
        show jJ X G 4 L 0 0 (jQM X G L (some (.int r)) μ' 0 0) 46 [(0, .ref (L.2.2 a0))] [] m15
        refine j_aload_n (pc := 46) hC 0 0 dX11_years_46 rfl rfl ?_
        refine jgr_11 (pc := 47) hC 1 (by decide) rfl kf_X11_19 dX11_years_47 ka0 (ly_11_1 hL ka0).1 ?_
        refine j_aload_n (pc := 50) hC 0 0 dX11_years_50 rfl rfl ?_
        refine jgr_11 (pc := 51) hC 3 (by decide) rfl kf_X11_30 dX11_years_51 ka0 (ly_11_3 hL ka0).1 ?_
        refine jgr_7 (pc := 54) hC 0 (by decide) rfl kf_X11_42 dX11_years_54 (ly_11_3 hL ka0).2.1 (ly_7_0 hL (ly_11_3 hL ka0).2.1).1 ?_
        obtain ⟨v16, e17, h⟩ := jcl_some h
        refine j_vi (pc := 57) hC hR [] iy_X9_sumOfCells (q := (RX9, TX9, 7)) (ci := 9) rfl rfl (by decide) km_X11_152 dX11_years_57 rfl (by decide) (ly_7_0 hL (ly_11_3 hL ka0).2.1).2.1 (c_X9_sumOfCells hL (ly_7_0 hL (ly_11_3 hL ka0).2.1).2.1 e17) (by decide) (Nat.le_of_ble_eq_true rfl) rfl ?_
        refine j_i2l (pc := 60) hC dX11_years_60 ?_
        obtain ⟨m18, e19, h⟩ := jcl_some h
        refine j_vv (pc := 61) hC hR [.long v16.toInt64] iy_X3_only (q := (RX3, TX3, 2)) (ci := 3) rfl rfl (by decide) km_X11_235 dX11_years_61 rfl (by decide) (ly_11_1 hL ka0).2.1 (c_X3_only hL (ly_11_1 hL ka0).2.1 e19) (by decide) (Nat.le_of_ble_eq_true rfl) rfl ?_
        refine j_aload_n (pc := 64) hC 0 0 dX11_years_64 rfl rfl ?_
        refine jgr_11 (pc := 65) hC 1 (by decide) rfl kf_X11_19 dX11_years_65 ka0 (ly_11_1 hL ka0).1 ?_
        refine j_aload_n (pc := 68) hC 0 0 dX11_years_68 rfl rfl ?_
        refine jgr_11 (pc := 69) hC 3 (by decide) rfl kf_X11_30 dX11_years_69 ka0 (ly_11_3 hL ka0).1 ?_
        refine jgr_7 (pc := 72) hC 0 (by decide) rfl kf_X11_42 dX11_years_72 (ly_11_3 hL ka0).2.1 (ly_7_0 hL (ly_11_3 hL ka0).2.1).1 ?_
        obtain ⟨v20, e21, h⟩ := jcl_some h
        refine j_vi (pc := 75) hC hR [] iy_X9_valuesLeft (q := (RX9, TX9, 7)) (ci := 9) rfl rfl (by decide) km_X11_408 dX11_years_75 rfl (by decide) (ly_7_0 hL (ly_11_3 hL ka0).2.1).2.1 (c_X9_valuesLeft hL (ly_7_0 hL (ly_11_3 hL ka0).2.1).2.1 e21) (by decide) (Nat.le_of_ble_eq_true rfl) rfl ?_
        refine j_i2l (pc := 78) hC dX11_years_78 ?_
        obtain ⟨m22, e23, h⟩ := jcl_some h
        refine j_vv (pc := 79) hC hR [.long v20.toInt64] iy_X3_tell (q := (RX3, TX3, 2)) (ci := 3) rfl rfl (by decide) km_X11_248 dX11_years_79 rfl (by decide) (ly_11_1 hL ka0).2.1 (c_X3_tell hL (ly_11_1 hL ka0).2.1 e23) (by decide) (Nat.le_of_ble_eq_true rfl) rfl ?_
        refine j_aload_n (pc := 82) hC 0 0 dX11_years_82 rfl rfl ?_
        refine jgr_11 (pc := 83) hC 1 (by decide) rfl kf_X11_19 dX11_years_83 ka0 (ly_11_1 hL ka0).1 ?_
        refine j_aload_n (pc := 86) hC 0 0 dX11_years_86 rfl rfl ?_
        refine jgr_11 (pc := 87) hC 3 (by decide) rfl kf_X11_30 dX11_years_87 ka0 (ly_11_3 hL ka0).1 ?_
        refine jgr_7 (pc := 90) hC 0 (by decide) rfl kf_X11_42 dX11_years_90 (ly_11_3 hL ka0).2.1 (ly_7_0 hL (ly_11_3 hL ka0).2.1).1 ?_
        refine jgi_9 (pc := 93) hC 5 (by decide) rfl kf_X11_128 dX11_years_93 (ly_7_0 hL (ly_11_3 hL ka0).2.1).2.1 ?_
        refine j_i2l (pc := 96) hC dX11_years_96 ?_
        obtain ⟨m24, e25, h⟩ := jcl_some h
        refine j_vv (pc := 97) hC hR [.long ((m22.1 (a0 + 86) 5).toInt64)] iy_X3_tell (q := (RX3, TX3, 2)) (ci := 3) rfl rfl (by decide) km_X11_248 dX11_years_97 rfl (by decide) (ly_11_1 hL ka0).2.1 (c_X3_tell hL (ly_11_1 hL ka0).2.1 e25) (by decide) (Nat.le_of_ble_eq_true rfl) rfl ?_
        refine j_aload_n (pc := 100) hC 0 0 dX11_years_100 rfl rfl ?_
        refine jgr_11 (pc := 101) hC 1 (by decide) rfl kf_X11_19 dX11_years_101 ka0 (ly_11_1 hL ka0).1 ?_
        refine j_aload_n (pc := 104) hC 0 0 dX11_years_104 rfl rfl ?_
        refine jgr_11 (pc := 105) hC 3 (by decide) rfl kf_X11_30 dX11_years_105 ka0 (ly_11_3 hL ka0).1 ?_
        obtain ⟨v26, e27, h⟩ := jcl_some h
        refine j_vi (pc := 108) hC hR [] iy_X7_thingsOnTrails (q := (RX7, TX7, 3)) (ci := 7) rfl rfl (by decide) km_X11_409 dX11_years_108 rfl (by decide) (ly_11_3 hL ka0).2.1 (c_X7_thingsOnTrails hL (ly_11_3 hL ka0).2.1 e27) (by decide) (Nat.le_of_ble_eq_true rfl) rfl ?_
        refine j_i2l (pc := 111) hC dX11_years_111 ?_
        obtain ⟨m28, e29, h⟩ := jcl_some h
        refine j_vv (pc := 112) hC hR [.long v26.toInt64] iy_X3_tell (q := (RX3, TX3, 2)) (ci := 3) rfl rfl (by decide) km_X11_248 dX11_years_112 rfl (by decide) (ly_11_1 hL ka0).2.1 (c_X3_tell hL (ly_11_1 hL ka0).2.1 e29) (by decide) (Nat.le_of_ble_eq_true rfl) rfl ?_
        refine j_aload_n (pc := 115) hC 0 0 dX11_years_115 rfl rfl ?_
        refine jgr_11 (pc := 116) hC 3 (by decide) rfl kf_X11_30 dX11_years_116 ka0 (ly_11_3 hL ka0).1 ?_
        refine jgi_7 (pc := 119) hC 2 (by decide) rfl kf_X11_215 dX11_years_119 (ly_11_3 hL ka0).2.1 ?_
        obtain ⟨rfl, rfl⟩ := Prod.mk.inj (Option.some.inj h)
        exact j_iret (pc := 122) hC dX11_years_122 rfl
    · rw [if_neg c2] at h
      refine j_iconst (pc := 11) hC (-1 : Int32) dX11_years_11 (by decide) ?_
      obtain ⟨rfl, rfl⟩ := Prod.mk.inj (Option.some.inj h)
      exact j_iret (pc := 12) hC dX11_years_12 rfl
theorem dX11_keep_0 : decode cX11_keep 0 = .ok (.iload_n 1, 1) := by decide +kernel
theorem dX11_keep_1 : decode cX11_keep 1 = .ok (.ifCond .lt 8, 3) := by decide +kernel
theorem dX11_keep_4 : decode cX11_keep 4 = .ok (.iload_n 1, 1) := by decide +kernel
theorem dX11_keep_5 : decode cX11_keep 5 = .ok (.iconst 2, 1) := by decide +kernel
theorem dX11_keep_6 : decode cX11_keep 6 = .ok (.if_icmp .lt 5, 3) := by decide +kernel
theorem dX11_keep_9 : decode cX11_keep 9 = .ok (.iconst 0, 1) := by decide +kernel
theorem dX11_keep_10 : decode cX11_keep 10 = .ok (.ireturn, 1) := by decide +kernel
theorem dX11_keep_11 : decode cX11_keep 11 = .ok (.aload_n 0, 1) := by decide +kernel
theorem dX11_keep_12 : decode cX11_keep 12 = .ok (.getfield 89, 3) := by decide +kernel
theorem dX11_keep_15 : decode cX11_keep 15 = .ok (.iload_n 1, 1) := by decide +kernel
theorem dX11_keep_16 : decode cX11_keep 16 = .ok (.aaload, 1) := by decide +kernel
theorem dX11_keep_17 : decode cX11_keep 17 = .ok (.aload_n 0, 1) := by decide +kernel
theorem dX11_keep_18 : decode cX11_keep 18 = .ok (.getfield 26, 3) := by decide +kernel
theorem dX11_keep_21 : decode cX11_keep 21 = .ok (.getfield 42, 3) := by decide +kernel
theorem dX11_keep_24 : decode cX11_keep 24 = .ok (.invokevirtual 416, 3) := by decide +kernel
theorem dX11_keep_27 : decode cX11_keep 27 = .ok (.aload_n 0, 1) := by decide +kernel
theorem dX11_keep_28 : decode cX11_keep 28 = .ok (.getfield 93, 3) := by decide +kernel
theorem dX11_keep_31 : decode cX11_keep 31 = .ok (.iload_n 1, 1) := by decide +kernel
theorem dX11_keep_32 : decode cX11_keep 32 = .ok (.iconst 1, 1) := by decide +kernel
theorem dX11_keep_33 : decode cX11_keep 33 = .ok (.bastore, 1) := by decide +kernel
theorem dX11_keep_34 : decode cX11_keep 34 = .ok (.iconst 1, 1) := by decide +kernel
theorem dX11_keep_35 : decode cX11_keep 35 = .ok (.ireturn, 1) := by decide +kernel
def f_X11_keep (a0 : Nat) (x1 : Int32) (μ : jM) : Option (Int32 × jM) :=
  (if x1 < (0 : Int32) then some (((0 : Int32), μ)) else (if x1 < (2 : Int32) then jin x1 2 (jcl (f_X9_become ((a0 + 189) + 6 * x1.toNatClampNeg) (a0 + 6) μ) (fun m4 => jin x1 2 (jbd (jsi m4 (a0 + 186) x1.toNatClampNeg (1 : Int32)) (fun m7 => some (((1 : Int32), m7)))))) else some (((0 : Int32), μ))))
set_option maxHeartbeats 4000000 in
set_option maxRecDepth 100000 in
theorem c_X11_keep {l : Launch} {G : jG} {L : jL} (hL : jOKL L) {a0 : Nat} {x1 : Int32} (ka0 : jK L a0 11) {μ μ' : jM} {r : Int32} (h : f_X11_keep a0 x1 μ = some ((r, μ'))) : jCt l G L 4 yX11_keep cX11_keep 2 (some .boolean) [.ref (L.2.2 a0), .int x1] μ (some (.int r)) μ' := by
  refine jCt_of (by decide) (Nat.le_of_ble_eq_true rfl) (fun X hC hX hR => ?_)
  subst hX
  have hC : jC X G cX11_keep 2 RX11 (some .boolean) := hC
  unfold f_X11_keep at h
  show jJ X G 2 L 0 0 (jQM X G L (some (.int r)) μ' 0 0) 0 [(0, .ref (L.2.2 a0)), (1, .int x1)] [] μ
  refine j_iload_n (pc := 0) hC 1 1 dX11_keep_0 rfl rfl ?_
  refine j_if_lt (pc := 1) hC 9 dX11_keep_1 (by decide) (fun c1 => ?_) (fun c1 => ?_)
  · rw [if_pos c1] at h
    refine j_iconst (pc := 9) hC (0 : Int32) dX11_keep_9 (by decide) ?_
    obtain ⟨rfl, rfl⟩ := Prod.mk.inj (Option.some.inj h)
    exact j_bret (pc := 10) hC dX11_keep_10 rfl rfl
  · rw [if_neg c1] at h
    refine j_iload_n (pc := 4) hC 1 1 dX11_keep_4 rfl rfl ?_
    refine j_iconst (pc := 5) hC (2 : Int32) dX11_keep_5 (by decide) ?_
    refine j_icmp_lt (pc := 6) hC 11 dX11_keep_6 (by decide) (fun c2 => ?_) (fun c2 => ?_)
    · rw [if_pos c2] at h
      refine j_aload_n (pc := 11) hC 0 0 dX11_keep_11 rfl rfl ?_
      refine jgr_11 (pc := 12) hC 10 (by decide) rfl kf_X11_89 dX11_keep_12 ka0 (ly_11_10 hL ka0).1 ?_
      refine j_iload_n (pc := 15) hC 1 1 dX11_keep_15 rfl rfl ?_
      obtain ⟨i3, h⟩ := jin_some h
      refine j_aald (pc := 16) hC 4 dX11_keep_16 rfl (by decide) (ly_11_10 hL ka0).2.1 (le_17 hL (ly_11_10 hL ka0).2.1 (jlt i3)).1 i3 (le_17 hL (ly_11_10 hL ka0).2.1 (jlt i3)).2.1 ?_
      refine j_aload_n (pc := 17) hC 0 0 dX11_keep_17 rfl rfl ?_
      refine jgr_11 (pc := 18) hC 2 (by decide) rfl kf_X11_26 dX11_keep_18 ka0 (ly_11_2 hL ka0).1 ?_
      refine jgr_7 (pc := 21) hC 0 (by decide) rfl kf_X11_42 dX11_keep_21 (ly_11_2 hL ka0).2.1 (ly_7_0 hL (ly_11_2 hL ka0).2.1).1 ?_
      obtain ⟨m4, e5, h⟩ := jcl_some h
      refine j_vv (pc := 24) hC hR [.ref (L.2.2 (a0 + 6))] iy_X9_become (q := (RX9, TX9, 7)) (ci := 9) rfl rfl (by decide) km_X11_416 dX11_keep_24 rfl (by decide) (le_17 hL (ly_11_10 hL ka0).2.1 (jlt i3)).2.2.1 (c_X9_become hL (le_17 hL (ly_11_10 hL ka0).2.1 (jlt i3)).2.2.1 (ly_7_0 hL (ly_11_2 hL ka0).2.1).2.1 e5) (by decide) (Nat.le_of_ble_eq_true rfl) rfl ?_
      refine j_aload_n (pc := 27) hC 0 0 dX11_keep_27 rfl rfl ?_
      refine jgr_11 (pc := 28) hC 11 (by decide) rfl kf_X11_93 dX11_keep_28 ka0 (ly_11_11 hL ka0).1 ?_
      refine j_iload_n (pc := 31) hC 1 1 dX11_keep_31 rfl rfl ?_
      refine j_iconst (pc := 32) hC (1 : Int32) dX11_keep_32 (by decide) ?_
      obtain ⟨i6, h⟩ := jin_some h
      obtain ⟨m7, e8, h⟩ := jbd_ex h
      refine j_zast (pc := 33) hC dX11_keep_33 (ly_11_11 hL ka0).2.1 (ly_11_11 hL ka0).2.2 i6 (by decide) e8 ?_
      refine j_iconst (pc := 34) hC (1 : Int32) dX11_keep_34 (by decide) ?_
      obtain ⟨rfl, rfl⟩ := Prod.mk.inj (Option.some.inj h)
      exact j_bret (pc := 35) hC dX11_keep_35 rfl rfl
    · rw [if_neg c2] at h
      refine j_iconst (pc := 9) hC (0 : Int32) dX11_keep_9 (by decide) ?_
      obtain ⟨rfl, rfl⟩ := Prod.mk.inj (Option.some.inj h)
      exact j_bret (pc := 10) hC dX11_keep_10 rfl rfl
theorem dX11_again_0 : decode cX11_again 0 = .ok (.iload_n 1, 1) := by decide +kernel
theorem dX11_again_1 : decode cX11_again 1 = .ok (.ifCond .lt 17, 3) := by decide +kernel
theorem dX11_again_4 : decode cX11_again 4 = .ok (.iload_n 1, 1) := by decide +kernel
theorem dX11_again_5 : decode cX11_again 5 = .ok (.iconst 2, 1) := by decide +kernel
theorem dX11_again_6 : decode cX11_again 6 = .ok (.if_icmp .ge 12, 3) := by decide +kernel
theorem dX11_again_9 : decode cX11_again 9 = .ok (.aload_n 0, 1) := by decide +kernel
theorem dX11_again_10 : decode cX11_again 10 = .ok (.getfield 93, 3) := by decide +kernel
theorem dX11_again_13 : decode cX11_again 13 = .ok (.iload_n 1, 1) := by decide +kernel
theorem dX11_again_14 : decode cX11_again 14 = .ok (.baload, 1) := by decide +kernel
theorem dX11_again_15 : decode cX11_again 15 = .ok (.ifCond .ne 5, 3) := by decide +kernel
theorem dX11_again_18 : decode cX11_again 18 = .ok (.iconst 0, 1) := by decide +kernel
theorem dX11_again_19 : decode cX11_again 19 = .ok (.ireturn, 1) := by decide +kernel
theorem dX11_again_20 : decode cX11_again 20 = .ok (.aload_n 0, 1) := by decide +kernel
theorem dX11_again_21 : decode cX11_again 21 = .ok (.getfield 26, 3) := by decide +kernel
theorem dX11_again_24 : decode cX11_again 24 = .ok (.getfield 42, 3) := by decide +kernel
theorem dX11_again_27 : decode cX11_again 27 = .ok (.aload_n 0, 1) := by decide +kernel
theorem dX11_again_28 : decode cX11_again 28 = .ok (.getfield 89, 3) := by decide +kernel
theorem dX11_again_31 : decode cX11_again 31 = .ok (.iload_n 1, 1) := by decide +kernel
theorem dX11_again_32 : decode cX11_again 32 = .ok (.aaload, 1) := by decide +kernel
theorem dX11_again_33 : decode cX11_again 33 = .ok (.invokevirtual 416, 3) := by decide +kernel
theorem dX11_again_36 : decode cX11_again 36 = .ok (.aload_n 0, 1) := by decide +kernel
theorem dX11_again_37 : decode cX11_again 37 = .ok (.getfield 26, 3) := by decide +kernel
theorem dX11_again_40 : decode cX11_again 40 = .ok (.iconst 0, 1) := by decide +kernel
theorem dX11_again_41 : decode cX11_again 41 = .ok (.putfield 215, 3) := by decide +kernel
theorem dX11_again_44 : decode cX11_again 44 = .ok (.iconst 1, 1) := by decide +kernel
theorem dX11_again_45 : decode cX11_again 45 = .ok (.ireturn, 1) := by decide +kernel
def f_X11_again (a0 : Nat) (x1 : Int32) (μ : jM) : Option (Int32 × jM) :=
  (if x1 < (0 : Int32) then some (((0 : Int32), μ)) else (if (2 : Int32) ≤ x1 then some (((0 : Int32), μ)) else jrd (μ.1 (a0 + 186)) x1 2 (fun v4 => (if v4 = (0 : Int32) then some (((0 : Int32), μ)) else jin x1 2 (jcl (f_X9_become (a0 + 6) ((a0 + 189) + 6 * x1.toNatClampNeg) μ) (fun m8 => jbd (jsi m8 (a0 + 5) 2 (0 : Int32)) (fun m10 => some (((1 : Int32), m10)))))))))
set_option maxHeartbeats 4000000 in
set_option maxRecDepth 100000 in
theorem c_X11_again {l : Launch} {G : jG} {L : jL} (hL : jOKL L) {a0 : Nat} {x1 : Int32} (ka0 : jK L a0 11) {μ μ' : jM} {r : Int32} (h : f_X11_again a0 x1 μ = some ((r, μ'))) : jCt l G L 4 yX11_again cX11_again 2 (some .boolean) [.ref (L.2.2 a0), .int x1] μ (some (.int r)) μ' := by
  refine jCt_of (by decide) (Nat.le_of_ble_eq_true rfl) (fun X hC hX hR => ?_)
  subst hX
  have hC : jC X G cX11_again 2 RX11 (some .boolean) := hC
  unfold f_X11_again at h
  show jJ X G 2 L 0 0 (jQM X G L (some (.int r)) μ' 0 0) 0 [(0, .ref (L.2.2 a0)), (1, .int x1)] [] μ
  refine j_iload_n (pc := 0) hC 1 1 dX11_again_0 rfl rfl ?_
  refine j_if_lt (pc := 1) hC 18 dX11_again_1 (by decide) (fun c1 => ?_) (fun c1 => ?_)
  · rw [if_pos c1] at h
    refine j_iconst (pc := 18) hC (0 : Int32) dX11_again_18 (by decide) ?_
    obtain ⟨rfl, rfl⟩ := Prod.mk.inj (Option.some.inj h)
    exact j_bret (pc := 19) hC dX11_again_19 rfl rfl
  · rw [if_neg c1] at h
    refine j_iload_n (pc := 4) hC 1 1 dX11_again_4 rfl rfl ?_
    refine j_iconst (pc := 5) hC (2 : Int32) dX11_again_5 (by decide) ?_
    refine j_icmp_ge (pc := 6) hC 18 dX11_again_6 (by decide) (fun c2 => ?_) (fun c2 => ?_)
    · rw [if_pos c2] at h
      refine j_iconst (pc := 18) hC (0 : Int32) dX11_again_18 (by decide) ?_
      obtain ⟨rfl, rfl⟩ := Prod.mk.inj (Option.some.inj h)
      exact j_bret (pc := 19) hC dX11_again_19 rfl rfl
    · rw [if_neg c2] at h
      refine j_aload_n (pc := 9) hC 0 0 dX11_again_9 rfl rfl ?_
      refine jgr_11 (pc := 10) hC 11 (by decide) rfl kf_X11_93 dX11_again_10 ka0 (ly_11_11 hL ka0).1 ?_
      refine j_iload_n (pc := 13) hC 1 1 dX11_again_13 rfl rfl ?_
      obtain ⟨i3, v4, e5, h⟩ := jrd_some h
      refine j_zald (pc := 14) hC dX11_again_14 (ly_11_11 hL ka0).2.1 (ly_11_11 hL ka0).2.2 i3 e5 ?_
      refine j_if_ne (pc := 15) hC 20 dX11_again_15 (by decide) (fun c6 => ?_) (fun c6 => ?_)
      · rw [if_neg c6] at h
        refine j_aload_n (pc := 20) hC 0 0 dX11_again_20 rfl rfl ?_
        refine jgr_11 (pc := 21) hC 2 (by decide) rfl kf_X11_26 dX11_again_21 ka0 (ly_11_2 hL ka0).1 ?_
        refine jgr_7 (pc := 24) hC 0 (by decide) rfl kf_X11_42 dX11_again_24 (ly_11_2 hL ka0).2.1 (ly_7_0 hL (ly_11_2 hL ka0).2.1).1 ?_
        refine j_aload_n (pc := 27) hC 0 0 dX11_again_27 rfl rfl ?_
        refine jgr_11 (pc := 28) hC 10 (by decide) rfl kf_X11_89 dX11_again_28 ka0 (ly_11_10 hL ka0).1 ?_
        refine j_iload_n (pc := 31) hC 1 1 dX11_again_31 rfl rfl ?_
        obtain ⟨i7, h⟩ := jin_some h
        refine j_aald (pc := 32) hC 4 dX11_again_32 rfl (by decide) (ly_11_10 hL ka0).2.1 (le_17 hL (ly_11_10 hL ka0).2.1 (jlt i7)).1 i7 (le_17 hL (ly_11_10 hL ka0).2.1 (jlt i7)).2.1 ?_
        obtain ⟨m8, e9, h⟩ := jcl_some h
        refine j_vv (pc := 33) hC hR [.ref (L.2.2 ((a0 + 189) + 6 * x1.toNatClampNeg))] iy_X9_become (q := (RX9, TX9, 7)) (ci := 9) rfl rfl (by decide) km_X11_416 dX11_again_33 rfl (by decide) (ly_7_0 hL (ly_11_2 hL ka0).2.1).2.1 (c_X9_become hL (ly_7_0 hL (ly_11_2 hL ka0).2.1).2.1 (le_17 hL (ly_11_10 hL ka0).2.1 (jlt i7)).2.2.1 e9) (by decide) (Nat.le_of_ble_eq_true rfl) rfl ?_
        refine j_aload_n (pc := 36) hC 0 0 dX11_again_36 rfl rfl ?_
        refine jgr_11 (pc := 37) hC 2 (by decide) rfl kf_X11_26 dX11_again_37 ka0 (ly_11_2 hL ka0).1 ?_
        refine j_iconst (pc := 40) hC (0 : Int32) dX11_again_40 (by decide) ?_
        obtain ⟨m10, e11, h⟩ := jbd_ex h
        refine jpi_7 (pc := 41) hC 2 (by decide) rfl kf_X11_215 dX11_again_41 rfl (by decide) (ly_11_2 hL ka0).2.1 e11 ?_
        refine j_iconst (pc := 44) hC (1 : Int32) dX11_again_44 (by decide) ?_
        obtain ⟨rfl, rfl⟩ := Prod.mk.inj (Option.some.inj h)
        exact j_bret (pc := 45) hC dX11_again_45 rfl rfl
      · rw [if_pos c6] at h
        refine j_iconst (pc := 18) hC (0 : Int32) dX11_again_18 (by decide) ?_
        obtain ⟨rfl, rfl⟩ := Prod.mk.inj (Option.some.inj h)
        exact j_bret (pc := 19) hC dX11_again_19 rfl rfl
theorem dX11_differs_0 : decode cX11_differs 0 = .ok (.iload_n 1, 1) := by decide +kernel
theorem dX11_differs_1 : decode cX11_differs 1 = .ok (.ifCond .lt 8, 3) := by decide +kernel
theorem dX11_differs_4 : decode cX11_differs 4 = .ok (.iload_n 1, 1) := by decide +kernel
theorem dX11_differs_5 : decode cX11_differs 5 = .ok (.iconst 2, 1) := by decide +kernel
theorem dX11_differs_6 : decode cX11_differs 6 = .ok (.if_icmp .lt 5, 3) := by decide +kernel
theorem dX11_differs_9 : decode cX11_differs 9 = .ok (.iconst (-1), 1) := by decide +kernel
theorem dX11_differs_10 : decode cX11_differs 10 = .ok (.ireturn, 1) := by decide +kernel
theorem dX11_differs_11 : decode cX11_differs 11 = .ok (.aload_n 0, 1) := by decide +kernel
theorem dX11_differs_12 : decode cX11_differs 12 = .ok (.getfield 93, 3) := by decide +kernel
theorem dX11_differs_15 : decode cX11_differs 15 = .ok (.iload_n 1, 1) := by decide +kernel
theorem dX11_differs_16 : decode cX11_differs 16 = .ok (.baload, 1) := by decide +kernel
theorem dX11_differs_17 : decode cX11_differs 17 = .ok (.ifCond .ne 6, 3) := by decide +kernel
theorem dX11_differs_20 : decode cX11_differs 20 = .ok (.bipush (-2), 2) := by decide +kernel
theorem dX11_differs_22 : decode cX11_differs 22 = .ok (.ireturn, 1) := by decide +kernel
theorem dX11_differs_23 : decode cX11_differs 23 = .ok (.aload_n 0, 1) := by decide +kernel
theorem dX11_differs_24 : decode cX11_differs 24 = .ok (.aload_n 0, 1) := by decide +kernel
theorem dX11_differs_25 : decode cX11_differs 25 = .ok (.getfield 26, 3) := by decide +kernel
theorem dX11_differs_28 : decode cX11_differs 28 = .ok (.getfield 42, 3) := by decide +kernel
theorem dX11_differs_31 : decode cX11_differs 31 = .ok (.aload_n 0, 1) := by decide +kernel
theorem dX11_differs_32 : decode cX11_differs 32 = .ok (.getfield 89, 3) := by decide +kernel
theorem dX11_differs_35 : decode cX11_differs 35 = .ok (.iload_n 1, 1) := by decide +kernel
theorem dX11_differs_36 : decode cX11_differs 36 = .ok (.aaload, 1) := by decide +kernel
theorem dX11_differs_37 : decode cX11_differs 37 = .ok (.invokevirtual 289, 3) := by decide +kernel
theorem dX11_differs_40 : decode cX11_differs 40 = .ok (.ireturn, 1) := by decide +kernel
def f_X11_differs (a0 : Nat) (x1 : Int32) (μ : jM) : Option (Int32 × jM) :=
  (if x1 < (0 : Int32) then some (((-1 : Int32), μ)) else (if x1 < (2 : Int32) then jrd (μ.1 (a0 + 186)) x1 2 (fun v4 => (if v4 = (0 : Int32) then some (((-2 : Int32), μ)) else jin x1 2 (jcl2 (f_X11_tellOtherThings a0 (a0 + 6) ((a0 + 189) + 6 * x1.toNatClampNeg) μ) (fun v8 m9 => some ((v8, m9)))))) else some (((-1 : Int32), μ))))
set_option maxHeartbeats 4000000 in
set_option maxRecDepth 100000 in
theorem c_X11_differs {l : Launch} {G : jG} {L : jL} (hL : jOKL L) {a0 : Nat} {x1 : Int32} (ka0 : jK L a0 11) {μ μ' : jM} {r : Int32} (h : f_X11_differs a0 x1 μ = some ((r, μ'))) : jCt l G L 7 yX11_differs cX11_differs 2 (some .int) [.ref (L.2.2 a0), .int x1] μ (some (.int r)) μ' := by
  refine jCt_of (by decide) (Nat.le_of_ble_eq_true rfl) (fun X hC hX hR => ?_)
  subst hX
  have hC : jC X G cX11_differs 2 RX11 (some .int) := hC
  unfold f_X11_differs at h
  show jJ X G 2 L 0 0 (jQM X G L (some (.int r)) μ' 0 0) 0 [(0, .ref (L.2.2 a0)), (1, .int x1)] [] μ
  refine j_iload_n (pc := 0) hC 1 1 dX11_differs_0 rfl rfl ?_
  refine j_if_lt (pc := 1) hC 9 dX11_differs_1 (by decide) (fun c1 => ?_) (fun c1 => ?_)
  · rw [if_pos c1] at h
    refine j_iconst (pc := 9) hC (-1 : Int32) dX11_differs_9 (by decide) ?_
    obtain ⟨rfl, rfl⟩ := Prod.mk.inj (Option.some.inj h)
    exact j_iret (pc := 10) hC dX11_differs_10 rfl
  · rw [if_neg c1] at h
    refine j_iload_n (pc := 4) hC 1 1 dX11_differs_4 rfl rfl ?_
    refine j_iconst (pc := 5) hC (2 : Int32) dX11_differs_5 (by decide) ?_
    refine j_icmp_lt (pc := 6) hC 11 dX11_differs_6 (by decide) (fun c2 => ?_) (fun c2 => ?_)
    · rw [if_pos c2] at h
      refine j_aload_n (pc := 11) hC 0 0 dX11_differs_11 rfl rfl ?_
      refine jgr_11 (pc := 12) hC 11 (by decide) rfl kf_X11_93 dX11_differs_12 ka0 (ly_11_11 hL ka0).1 ?_
      refine j_iload_n (pc := 15) hC 1 1 dX11_differs_15 rfl rfl ?_
      obtain ⟨i3, v4, e5, h⟩ := jrd_some h
      refine j_zald (pc := 16) hC dX11_differs_16 (ly_11_11 hL ka0).2.1 (ly_11_11 hL ka0).2.2 i3 e5 ?_
      refine j_if_ne (pc := 17) hC 23 dX11_differs_17 (by decide) (fun c6 => ?_) (fun c6 => ?_)
      · rw [if_neg c6] at h
        refine j_aload_n (pc := 23) hC 0 0 dX11_differs_23 rfl rfl ?_
        refine j_aload_n (pc := 24) hC 0 0 dX11_differs_24 rfl rfl ?_
        refine jgr_11 (pc := 25) hC 2 (by decide) rfl kf_X11_26 dX11_differs_25 ka0 (ly_11_2 hL ka0).1 ?_
        refine jgr_7 (pc := 28) hC 0 (by decide) rfl kf_X11_42 dX11_differs_28 (ly_11_2 hL ka0).2.1 (ly_7_0 hL (ly_11_2 hL ka0).2.1).1 ?_
        refine j_aload_n (pc := 31) hC 0 0 dX11_differs_31 rfl rfl ?_
        refine jgr_11 (pc := 32) hC 10 (by decide) rfl kf_X11_89 dX11_differs_32 ka0 (ly_11_10 hL ka0).1 ?_
        refine j_iload_n (pc := 35) hC 1 1 dX11_differs_35 rfl rfl ?_
        obtain ⟨i7, h⟩ := jin_some h
        refine j_aald (pc := 36) hC 4 dX11_differs_36 rfl (by decide) (ly_11_10 hL ka0).2.1 (le_17 hL (ly_11_10 hL ka0).2.1 (jlt i7)).1 i7 (le_17 hL (ly_11_10 hL ka0).2.1 (jlt i7)).2.1 ?_
        obtain ⟨v8, m9, e10, h⟩ := jcl2_some h
        refine j_vi (pc := 37) hC hR [.ref (L.2.2 (a0 + 6)), .ref (L.2.2 ((a0 + 189) + 6 * x1.toNatClampNeg))] iy_X11_tellOtherThings (q := (RX11, TX11, 15)) (ci := 11) rfl rfl (by decide) km_X11_289 dX11_differs_37 rfl (by decide) ka0 (c_X11_tellOtherThings hL ka0 (ly_7_0 hL (ly_11_2 hL ka0).2.1).2.1 (le_17 hL (ly_11_10 hL ka0).2.1 (jlt i7)).2.2.1 e10) (by decide) (Nat.le_of_ble_eq_true rfl) rfl ?_
        obtain ⟨rfl, rfl⟩ := Prod.mk.inj (Option.some.inj h)
        exact j_iret (pc := 40) hC dX11_differs_40 rfl
      · rw [if_pos c6] at h
        refine j_bipush (pc := 20) hC (-2 : Int32) dX11_differs_20 (by decide) ?_
        obtain ⟨rfl, rfl⟩ := Prod.mk.inj (Option.some.inj h)
        exact j_iret (pc := 22) hC dX11_differs_22 rfl
    · rw [if_neg c2] at h
      refine j_iconst (pc := 9) hC (-1 : Int32) dX11_differs_9 (by decide) ?_
      obtain ⟨rfl, rfl⟩ := Prod.mk.inj (Option.some.inj h)
      exact j_iret (pc := 10) hC dX11_differs_10 rfl
theorem dX11_count_0 : decode cX11_count 0 = .ok (.iload_n 1, 1) := by decide +kernel
theorem dX11_count_1 : decode cX11_count 1 = .ok (.tableswitch 154 0 9 #[55, 63, 74, 85, 96, 111, 119, 127, 135, 143], 55) := by decide +kernel
theorem dX11_count_56 : decode cX11_count 56 = .ok (.aload_n 0, 1) := by decide +kernel
theorem dX11_count_57 : decode cX11_count 57 = .ok (.getfield 26, 3) := by decide +kernel
theorem dX11_count_60 : decode cX11_count 60 = .ok (.getfield 215, 3) := by decide +kernel
theorem dX11_count_63 : decode cX11_count 63 = .ok (.ireturn, 1) := by decide +kernel
theorem dX11_count_64 : decode cX11_count 64 = .ok (.aload_n 0, 1) := by decide +kernel
theorem dX11_count_65 : decode cX11_count 65 = .ok (.getfield 26, 3) := by decide +kernel
theorem dX11_count_68 : decode cX11_count 68 = .ok (.getfield 42, 3) := by decide +kernel
theorem dX11_count_71 : decode cX11_count 71 = .ok (.invokevirtual 408, 3) := by decide +kernel
theorem dX11_count_74 : decode cX11_count 74 = .ok (.ireturn, 1) := by decide +kernel
theorem dX11_count_75 : decode cX11_count 75 = .ok (.aload_n 0, 1) := by decide +kernel
theorem dX11_count_76 : decode cX11_count 76 = .ok (.getfield 26, 3) := by decide +kernel
theorem dX11_count_79 : decode cX11_count 79 = .ok (.getfield 42, 3) := by decide +kernel
theorem dX11_count_82 : decode cX11_count 82 = .ok (.getfield 128, 3) := by decide +kernel
theorem dX11_count_85 : decode cX11_count 85 = .ok (.ireturn, 1) := by decide +kernel
theorem dX11_count_86 : decode cX11_count 86 = .ok (.aload_n 0, 1) := by decide +kernel
theorem dX11_count_87 : decode cX11_count 87 = .ok (.getfield 26, 3) := by decide +kernel
theorem dX11_count_90 : decode cX11_count 90 = .ok (.getfield 42, 3) := by decide +kernel
theorem dX11_count_93 : decode cX11_count 93 = .ok (.getfield 138, 3) := by decide +kernel
theorem dX11_count_96 : decode cX11_count 96 = .ok (.ireturn, 1) := by decide +kernel
theorem dX11_count_97 : decode cX11_count 97 = .ok (.aload_n 0, 1) := by decide +kernel
theorem dX11_count_98 : decode cX11_count 98 = .ok (.getfield 26, 3) := by decide +kernel
theorem dX11_count_101 : decode cX11_count 101 = .ok (.getfield 42, 3) := by decide +kernel
theorem dX11_count_104 : decode cX11_count 104 = .ok (.invokevirtual 152, 3) := by decide +kernel
theorem dX11_count_107 : decode cX11_count 107 = .ok (.sipush 10000, 3) := by decide +kernel
theorem dX11_count_110 : decode cX11_count 110 = .ok (.iadd, 1) := by decide +kernel
theorem dX11_count_111 : decode cX11_count 111 = .ok (.ireturn, 1) := by decide +kernel
theorem dX11_count_112 : decode cX11_count 112 = .ok (.aload_n 0, 1) := by decide +kernel
theorem dX11_count_113 : decode cX11_count 113 = .ok (.getfield 26, 3) := by decide +kernel
theorem dX11_count_116 : decode cX11_count 116 = .ok (.invokevirtual 409, 3) := by decide +kernel
theorem dX11_count_119 : decode cX11_count 119 = .ok (.ireturn, 1) := by decide +kernel
theorem dX11_count_120 : decode cX11_count 120 = .ok (.aload_n 0, 1) := by decide +kernel
theorem dX11_count_121 : decode cX11_count 121 = .ok (.getfield 83, 3) := by decide +kernel
theorem dX11_count_124 : decode cX11_count 124 = .ok (.getfield 394, 3) := by decide +kernel
theorem dX11_count_127 : decode cX11_count 127 = .ok (.ireturn, 1) := by decide +kernel
theorem dX11_count_128 : decode cX11_count 128 = .ok (.aload_n 0, 1) := by decide +kernel
theorem dX11_count_129 : decode cX11_count 129 = .ok (.getfield 19, 3) := by decide +kernel
theorem dX11_count_132 : decode cX11_count 132 = .ok (.getfield 297, 3) := by decide +kernel
theorem dX11_count_135 : decode cX11_count 135 = .ok (.ireturn, 1) := by decide +kernel
theorem dX11_count_136 : decode cX11_count 136 = .ok (.aload_n 0, 1) := by decide +kernel
theorem dX11_count_137 : decode cX11_count 137 = .ok (.getfield 12, 3) := by decide +kernel
theorem dX11_count_140 : decode cX11_count 140 = .ok (.getfield 418, 3) := by decide +kernel
theorem dX11_count_143 : decode cX11_count 143 = .ok (.ireturn, 1) := by decide +kernel
theorem dX11_count_144 : decode cX11_count 144 = .ok (.aload_n 0, 1) := by decide +kernel
theorem dX11_count_145 : decode cX11_count 145 = .ok (.getfield 26, 3) := by decide +kernel
theorem dX11_count_148 : decode cX11_count 148 = .ok (.getfield 42, 3) := by decide +kernel
theorem dX11_count_151 : decode cX11_count 151 = .ok (.invokevirtual 419, 3) := by decide +kernel
theorem dX11_count_154 : decode cX11_count 154 = .ok (.ireturn, 1) := by decide +kernel
theorem dX11_count_155 : decode cX11_count 155 = .ok (.bipush (-100), 2) := by decide +kernel
theorem dX11_count_157 : decode cX11_count 157 = .ok (.ireturn, 1) := by decide +kernel
def f_X11_count (a0 : Nat) (x1 : Int32) (μ : jM) : Option (Int32) :=
  (if x1 = (0 : Int32) then some (μ.1 (a0 + 5) 2) else (if x1 = (1 : Int32) then jcl (f_X9_valuesLeft (a0 + 6) μ) (fun v3 => some v3) else (if x1 = (2 : Int32) then some (μ.1 (a0 + 6) 5) else (if x1 = (3 : Int32) then some (μ.1 (a0 + 6) 6) else (if x1 = (4 : Int32) then jcl (f_X9_sumOfCells (a0 + 6) μ) (fun v8 => some (v8 + (10000 : Int32))) else (if x1 = (5 : Int32) then jcl (f_X7_thingsOnTrails (a0 + 5) μ) (fun v11 => some v11) else (if x1 = (6 : Int32) then some (μ.1 (a0 + 181) 3) else (if x1 = (7 : Int32) then some (μ.1 (a0 + 3) 1) else (if x1 = (8 : Int32) then some (μ.1 (a0 + 1) 1) else (if x1 = (9 : Int32) then jcl (f_X9_settled (a0 + 6) μ) (fun v17 => some v17) else some (-100 : Int32)))))))))))
set_option maxHeartbeats 4000000 in
set_option maxRecDepth 100000 in
theorem c_X11_count {l : Launch} {G : jG} {L : jL} (hL : jOKL L) {a0 : Nat} {x1 : Int32} (ka0 : jK L a0 11) {μ : jM} {r : Int32} (h : f_X11_count a0 x1 μ = some r) : jCt l G L 5 yX11_count cX11_count 2 (some .int) [.ref (L.2.2 a0), .int x1] μ (some (.int r)) μ := by
  refine jCt_of (by decide) (Nat.le_of_ble_eq_true rfl) (fun X hC hX hR => ?_)
  subst hX
  have hC : jC X G cX11_count 2 RX11 (some .int) := hC
  unfold f_X11_count at h
  show jJ X G 2 L 0 0 (jQM X G L (some (.int r)) μ 0 0) 0 [(0, .ref (L.2.2 a0)), (1, .int x1)] [] μ
  refine j_iload_n (pc := 0) hC 1 1 dX11_count_0 rfl rfl ?_
  by_cases c1 : x1 = (0 : Int32)
  · rw [if_pos c1] at h
    refine j_tableIn (pc := 1) hC 56 dX11_count_1 (by rw [c1]; decide) (by rw [c1]; decide) (by rw [c1]; rfl) (by decide) ?_
    refine j_aload_n (pc := 56) hC 0 0 dX11_count_56 rfl rfl ?_
    refine jgr_11 (pc := 57) hC 2 (by decide) rfl kf_X11_26 dX11_count_57 ka0 (ly_11_2 hL ka0).1 ?_
    refine jgi_7 (pc := 60) hC 2 (by decide) rfl kf_X11_215 dX11_count_60 (ly_11_2 hL ka0).2.1 ?_
    obtain rfl := Option.some.inj h
    exact j_iret (pc := 63) hC dX11_count_63 rfl
  · rw [if_neg c1] at h
    by_cases c2 : x1 = (1 : Int32)
    · rw [if_pos c2] at h
      refine j_tableIn (pc := 1) hC 64 dX11_count_1 (by rw [c2]; decide) (by rw [c2]; decide) (by rw [c2]; rfl) (by decide) ?_
      refine j_aload_n (pc := 64) hC 0 0 dX11_count_64 rfl rfl ?_
      refine jgr_11 (pc := 65) hC 2 (by decide) rfl kf_X11_26 dX11_count_65 ka0 (ly_11_2 hL ka0).1 ?_
      refine jgr_7 (pc := 68) hC 0 (by decide) rfl kf_X11_42 dX11_count_68 (ly_11_2 hL ka0).2.1 (ly_7_0 hL (ly_11_2 hL ka0).2.1).1 ?_
      obtain ⟨v3, e4, h⟩ := jcl_some h
      refine j_vi (pc := 71) hC hR [] iy_X9_valuesLeft (q := (RX9, TX9, 7)) (ci := 9) rfl rfl (by decide) km_X11_408 dX11_count_71 rfl (by decide) (ly_7_0 hL (ly_11_2 hL ka0).2.1).2.1 (c_X9_valuesLeft hL (ly_7_0 hL (ly_11_2 hL ka0).2.1).2.1 e4) (by decide) (Nat.le_of_ble_eq_true rfl) rfl ?_
      obtain rfl := Option.some.inj h
      exact j_iret (pc := 74) hC dX11_count_74 rfl
    · rw [if_neg c2] at h
      by_cases c5 : x1 = (2 : Int32)
      · rw [if_pos c5] at h
        refine j_tableIn (pc := 1) hC 75 dX11_count_1 (by rw [c5]; decide) (by rw [c5]; decide) (by rw [c5]; rfl) (by decide) ?_
        refine j_aload_n (pc := 75) hC 0 0 dX11_count_75 rfl rfl ?_
        refine jgr_11 (pc := 76) hC 2 (by decide) rfl kf_X11_26 dX11_count_76 ka0 (ly_11_2 hL ka0).1 ?_
        refine jgr_7 (pc := 79) hC 0 (by decide) rfl kf_X11_42 dX11_count_79 (ly_11_2 hL ka0).2.1 (ly_7_0 hL (ly_11_2 hL ka0).2.1).1 ?_
        refine jgi_9 (pc := 82) hC 5 (by decide) rfl kf_X11_128 dX11_count_82 (ly_7_0 hL (ly_11_2 hL ka0).2.1).2.1 ?_
        obtain rfl := Option.some.inj h
        exact j_iret (pc := 85) hC dX11_count_85 rfl
      · rw [if_neg c5] at h
        by_cases c6 : x1 = (3 : Int32)
        · rw [if_pos c6] at h
          refine j_tableIn (pc := 1) hC 86 dX11_count_1 (by rw [c6]; decide) (by rw [c6]; decide) (by rw [c6]; rfl) (by decide) ?_
          refine j_aload_n (pc := 86) hC 0 0 dX11_count_86 rfl rfl ?_
          refine jgr_11 (pc := 87) hC 2 (by decide) rfl kf_X11_26 dX11_count_87 ka0 (ly_11_2 hL ka0).1 ?_
          refine jgr_7 (pc := 90) hC 0 (by decide) rfl kf_X11_42 dX11_count_90 (ly_11_2 hL ka0).2.1 (ly_7_0 hL (ly_11_2 hL ka0).2.1).1 ?_
          refine jgi_9 (pc := 93) hC 6 (by decide) rfl kf_X11_138 dX11_count_93 (ly_7_0 hL (ly_11_2 hL ka0).2.1).2.1 ?_
          obtain rfl := Option.some.inj h
          exact j_iret (pc := 96) hC dX11_count_96 rfl
        · rw [if_neg c6] at h
          by_cases c7 : x1 = (4 : Int32)
          · rw [if_pos c7] at h
            refine j_tableIn (pc := 1) hC 97 dX11_count_1 (by rw [c7]; decide) (by rw [c7]; decide) (by rw [c7]; rfl) (by decide) ?_
            refine j_aload_n (pc := 97) hC 0 0 dX11_count_97 rfl rfl ?_
            refine jgr_11 (pc := 98) hC 2 (by decide) rfl kf_X11_26 dX11_count_98 ka0 (ly_11_2 hL ka0).1 ?_
            refine jgr_7 (pc := 101) hC 0 (by decide) rfl kf_X11_42 dX11_count_101 (ly_11_2 hL ka0).2.1 (ly_7_0 hL (ly_11_2 hL ka0).2.1).1 ?_
            obtain ⟨v8, e9, h⟩ := jcl_some h
            refine j_vi (pc := 104) hC hR [] iy_X9_sumOfCells (q := (RX9, TX9, 7)) (ci := 9) rfl rfl (by decide) km_X11_152 dX11_count_104 rfl (by decide) (ly_7_0 hL (ly_11_2 hL ka0).2.1).2.1 (c_X9_sumOfCells hL (ly_7_0 hL (ly_11_2 hL ka0).2.1).2.1 e9) (by decide) (Nat.le_of_ble_eq_true rfl) rfl ?_
            refine j_sipush (pc := 107) hC (10000 : Int32) dX11_count_107 (by decide) ?_
            refine j_iadd (pc := 110) hC dX11_count_110 ?_
            obtain rfl := Option.some.inj h
            exact j_iret (pc := 111) hC dX11_count_111 rfl
          · rw [if_neg c7] at h
            by_cases c10 : x1 = (5 : Int32)
            · rw [if_pos c10] at h
              refine j_tableIn (pc := 1) hC 112 dX11_count_1 (by rw [c10]; decide) (by rw [c10]; decide) (by rw [c10]; rfl) (by decide) ?_
              refine j_aload_n (pc := 112) hC 0 0 dX11_count_112 rfl rfl ?_
              refine jgr_11 (pc := 113) hC 2 (by decide) rfl kf_X11_26 dX11_count_113 ka0 (ly_11_2 hL ka0).1 ?_
              obtain ⟨v11, e12, h⟩ := jcl_some h
              refine j_vi (pc := 116) hC hR [] iy_X7_thingsOnTrails (q := (RX7, TX7, 3)) (ci := 7) rfl rfl (by decide) km_X11_409 dX11_count_116 rfl (by decide) (ly_11_2 hL ka0).2.1 (c_X7_thingsOnTrails hL (ly_11_2 hL ka0).2.1 e12) (by decide) (Nat.le_of_ble_eq_true rfl) rfl ?_
              obtain rfl := Option.some.inj h
              exact j_iret (pc := 119) hC dX11_count_119 rfl
            · rw [if_neg c10] at h
              by_cases c13 : x1 = (6 : Int32)
              · rw [if_pos c13] at h
                refine j_tableIn (pc := 1) hC 120 dX11_count_1 (by rw [c13]; decide) (by rw [c13]; decide) (by rw [c13]; rfl) (by decide) ?_
                refine j_aload_n (pc := 120) hC 0 0 dX11_count_120 rfl rfl ?_
                refine jgr_11 (pc := 121) hC 9 (by decide) rfl kf_X11_83 dX11_count_121 ka0 (ly_11_9 hL ka0).1 ?_
                refine jgi_0 (pc := 124) hC 3 (by decide) rfl kf_X11_394 dX11_count_124 (ly_11_9 hL ka0).2.1 ?_
                obtain rfl := Option.some.inj h
                exact j_iret (pc := 127) hC dX11_count_127 rfl
              · rw [if_neg c13] at h
                by_cases c14 : x1 = (7 : Int32)
                · rw [if_pos c14] at h
                  refine j_tableIn (pc := 1) hC 128 dX11_count_1 (by rw [c14]; decide) (by rw [c14]; decide) (by rw [c14]; rfl) (by decide) ?_
                  refine j_aload_n (pc := 128) hC 0 0 dX11_count_128 rfl rfl ?_
                  refine jgr_11 (pc := 129) hC 1 (by decide) rfl kf_X11_19 dX11_count_129 ka0 (ly_11_1 hL ka0).1 ?_
                  refine jgi_3 (pc := 132) hC 1 (by decide) rfl kf_X11_297 dX11_count_132 (ly_11_1 hL ka0).2.1 ?_
                  obtain rfl := Option.some.inj h
                  exact j_iret (pc := 135) hC dX11_count_135 rfl
                · rw [if_neg c14] at h
                  by_cases c15 : x1 = (8 : Int32)
                  · rw [if_pos c15] at h
                    refine j_tableIn (pc := 1) hC 136 dX11_count_1 (by rw [c15]; decide) (by rw [c15]; decide) (by rw [c15]; rfl) (by decide) ?_
                    refine j_aload_n (pc := 136) hC 0 0 dX11_count_136 rfl rfl ?_
                    refine jgr_11 (pc := 137) hC 0 (by decide) rfl kf_X11_12 dX11_count_137 ka0 (ly_11_0 hL ka0).1 ?_
                    refine jgi_8 (pc := 140) hC 1 (by decide) rfl kf_X11_418 dX11_count_140 (ly_11_0 hL ka0).2.1 ?_
                    obtain rfl := Option.some.inj h
                    exact j_iret (pc := 143) hC dX11_count_143 rfl
                  · rw [if_neg c15] at h
                    by_cases c16 : x1 = (9 : Int32)
                    · rw [if_pos c16] at h
                      refine j_tableIn (pc := 1) hC 144 dX11_count_1 (by rw [c16]; decide) (by rw [c16]; decide) (by rw [c16]; rfl) (by decide) ?_
                      refine j_aload_n (pc := 144) hC 0 0 dX11_count_144 rfl rfl ?_
                      refine jgr_11 (pc := 145) hC 2 (by decide) rfl kf_X11_26 dX11_count_145 ka0 (ly_11_2 hL ka0).1 ?_
                      refine jgr_7 (pc := 148) hC 0 (by decide) rfl kf_X11_42 dX11_count_148 (ly_11_2 hL ka0).2.1 (ly_7_0 hL (ly_11_2 hL ka0).2.1).1 ?_
                      obtain ⟨v17, e18, h⟩ := jcl_some h
                      refine j_vi (pc := 151) hC hR [] iy_X9_settled (q := (RX9, TX9, 7)) (ci := 9) rfl rfl (by decide) km_X11_419 dX11_count_151 rfl (by decide) (ly_7_0 hL (ly_11_2 hL ka0).2.1).2.1 (c_X9_settled hL (ly_7_0 hL (ly_11_2 hL ka0).2.1).2.1 e18) (by decide) (Nat.le_of_ble_eq_true rfl) rfl ?_
                      obtain rfl := Option.some.inj h
                      exact j_iret (pc := 154) hC dX11_count_154 rfl
                    · rw [if_neg c16] at h
                      refine j_tableOut (pc := 1) hC 155 dX11_count_1 (by have := lv_neT c1 (show (0 : Int32).toInt = 0 by decide); have := lv_neT c2 (show (1 : Int32).toInt = 1 by decide); have := lv_neT c5 (show (2 : Int32).toInt = 2 by decide); have := lv_neT c6 (show (3 : Int32).toInt = 3 by decide); have := lv_neT c7 (show (4 : Int32).toInt = 4 by decide); have := lv_neT c10 (show (5 : Int32).toInt = 5 by decide); have := lv_neT c13 (show (6 : Int32).toInt = 6 by decide); have := lv_neT c14 (show (7 : Int32).toInt = 7 by decide); have := lv_neT c15 (show (8 : Int32).toInt = 8 by decide); have := lv_neT c16 (show (9 : Int32).toInt = 9 by decide); omega) (by decide) ?_
                      refine j_bipush (pc := 155) hC (-100 : Int32) dX11_count_155 (by decide) ?_
                      obtain rfl := Option.some.inj h
                      exact j_iret (pc := 157) hC dX11_count_157 rfl
theorem dX12_thrown_0 : decode cX12_thrown 0 = .ok (.aload_n 0, 1) := by decide +kernel
theorem dX12_thrown_1 : decode cX12_thrown 1 = .ok (.getfield 1, 3) := by decide +kernel
theorem dX12_thrown_4 : decode cX12_thrown 4 = .ok (.ireturn, 1) := by decide +kernel
def f_X12_thrown (a0 : Nat) (μ : jM) : Int32 :=
  μ.1 a0 0
set_option maxHeartbeats 4000000 in
set_option maxRecDepth 100000 in
theorem c_X12_thrown {l : Launch} {G : jG} {L : jL} (hL : jOKL L) {a0 : Nat} (ka0 : jK L a0 12) {μ : jM} {r : Int32} (h : f_X12_thrown a0 μ = r) : jCt l G L 3 yX12_thrown cX12_thrown 1 (some .int) [.ref (L.2.2 a0)] μ (some (.int r)) μ := by
  refine jCt_of (by decide) (Nat.le_of_ble_eq_true rfl) (fun X hC hX hR => ?_)
  subst hX
  have hC : jC X G cX12_thrown 1 RX12 (some .int) := hC
  unfold f_X12_thrown at h
  show jJ X G 1 L 0 0 (jQM X G L (some (.int r)) μ 0 0) 0 [(0, .ref (L.2.2 a0))] [] μ
  refine j_aload_n (pc := 0) hC 0 0 dX12_thrown_0 rfl rfl ?_
  refine jgi_12 (pc := 1) hC 0 (by decide) rfl kf_X12_1 dX12_thrown_1 ka0 ?_
  subst h
  exact j_iret (pc := 4) hC dX12_thrown_4 rfl
theorem dX12_in_0 : decode cX12_in 0 = .ok (.lload_n 0, 1) := by decide +kernel
theorem dX12_in_1 : decode cX12_in 1 = .ok (.lload_n 2, 1) := by decide +kernel
theorem dX12_in_2 : decode cX12_in 2 = .ok (.lcmp, 1) := by decide +kernel
theorem dX12_in_3 : decode cX12_in 3 = .ok (.ifCond .lt 14, 3) := by decide +kernel
theorem dX12_in_6 : decode cX12_in 6 = .ok (.lload_n 0, 1) := by decide +kernel
theorem dX12_in_7 : decode cX12_in 7 = .ok (.lload 4, 2) := by decide +kernel
theorem dX12_in_9 : decode cX12_in 9 = .ok (.lcmp, 1) := by decide +kernel
theorem dX12_in_10 : decode cX12_in 10 = .ok (.ifCond .gt 7, 3) := by decide +kernel
theorem dX12_in_13 : decode cX12_in 13 = .ok (.iconst 1, 1) := by decide +kernel
theorem dX12_in_14 : decode cX12_in 14 = .ok (.goto 4, 3) := by decide +kernel
theorem dX12_in_17 : decode cX12_in 17 = .ok (.iconst 0, 1) := by decide +kernel
theorem dX12_in_18 : decode cX12_in 18 = .ok (.ireturn, 1) := by decide +kernel
def f_X12_in (y0 : Int64) (y2 : Int64) (y4 : Int64) : Int32 :=
  (if (lg_cmp y0 y2) < (0 : Int32) then (0 : Int32) else (if (0 : Int32) < (lg_cmp y0 y4) then (0 : Int32) else (1 : Int32)))
set_option maxHeartbeats 4000000 in
set_option maxRecDepth 100000 in
theorem c_X12_in {l : Launch} {G : jG} {L : jL} (hL : jOKL L) {y0 : Int64} {y2 : Int64} {y4 : Int64}  {μ : jM} {r : Int32} (h : f_X12_in y0 y2 y4 = r) : jCt l G L 3 yX12_in cX12_in 6 (some .boolean) [.long y0, .long y2, .long y4] μ (some (.int r)) μ := by
  refine jCt_of (by decide) (Nat.le_of_ble_eq_true rfl) (fun X hC hX hR => ?_)
  subst hX
  have hC : jC X G cX12_in 6 RX12 (some .boolean) := hC
  unfold f_X12_in at h
  show jJ X G 6 L 0 0 (jQM X G L (some (.int r)) μ 0 0) 0 [(0, .long y0), (2, .long y2), (4, .long y4)] [] μ
  refine j_lload_n (pc := 0) hC 0 0 dX12_in_0 rfl rfl ?_
  refine j_lload_n (pc := 1) hC 2 1 dX12_in_1 rfl rfl ?_
  refine j_lcmp (pc := 2) hC dX12_in_2 ?_
  refine j_if_lt (pc := 3) hC 17 dX12_in_3 (by decide) (fun c1 => ?_) (fun c1 => ?_)
  · rw [if_pos c1] at h
    refine j_iconst (pc := 17) hC (0 : Int32) dX12_in_17 (by decide) ?_
    subst h
    exact j_bret (pc := 18) hC dX12_in_18 rfl rfl
  · rw [if_neg c1] at h
    refine j_lload_n (pc := 6) hC 0 0 dX12_in_6 rfl rfl ?_
    refine j_lload (pc := 7) hC 2 dX12_in_7 rfl ?_
    refine j_lcmp (pc := 9) hC dX12_in_9 ?_
    refine j_if_gt (pc := 10) hC 17 dX12_in_10 (by decide) (fun c2 => ?_) (fun c2 => ?_)
    · rw [if_pos c2] at h
      refine j_iconst (pc := 17) hC (0 : Int32) dX12_in_17 (by decide) ?_
      subst h
      exact j_bret (pc := 18) hC dX12_in_18 rfl rfl
    · rw [if_neg c2] at h
      refine j_iconst (pc := 13) hC (1 : Int32) dX12_in_13 (by decide) ?_
      refine j_goto (pc := 14) hC 18 dX12_in_14 (by decide) ?_
      subst h
      exact j_bret (pc := 18) hC dX12_in_18 rfl rfl
theorem dX12_has_0 : decode cX12_has 0 = .ok (.iload_n 0, 1) := by decide +kernel
theorem dX12_has_1 : decode cX12_has 1 = .ok (.iload_n 1, 1) := by decide +kernel
theorem dX12_has_2 : decode cX12_has 2 = .ok (.ishr, 1) := by decide +kernel
theorem dX12_has_3 : decode cX12_has 3 = .ok (.iconst 1, 1) := by decide +kernel
theorem dX12_has_4 : decode cX12_has 4 = .ok (.iand, 1) := by decide +kernel
theorem dX12_has_5 : decode cX12_has 5 = .ok (.iconst 1, 1) := by decide +kernel
theorem dX12_has_6 : decode cX12_has 6 = .ok (.if_icmp .ne 7, 3) := by decide +kernel
theorem dX12_has_9 : decode cX12_has 9 = .ok (.iconst 1, 1) := by decide +kernel
theorem dX12_has_10 : decode cX12_has 10 = .ok (.goto 4, 3) := by decide +kernel
theorem dX12_has_13 : decode cX12_has 13 = .ok (.iconst 0, 1) := by decide +kernel
theorem dX12_has_14 : decode cX12_has 14 = .ok (.ireturn, 1) := by decide +kernel
def f_X12_has (x0 : Int32) (x1 : Int32) : Int32 :=
  ((if ((x0 >>> (x1 &&& 31)) &&& (1 : Int32)) = (1 : Int32) then (1 : Int32) else (0 : Int32))) &&& 1
set_option maxHeartbeats 4000000 in
set_option maxRecDepth 100000 in
theorem c_X12_has {l : Launch} {G : jG} {L : jL} (hL : jOKL L) {x0 : Int32} {x1 : Int32}  {μ : jM} {r : Int32} (h : f_X12_has x0 x1 = r) : jCt l G L 3 yX12_has cX12_has 2 (some .boolean) [.int x0, .int x1] μ (some (.int r)) μ := by
  refine jCt_of (by decide) (Nat.le_of_ble_eq_true rfl) (fun X hC hX hR => ?_)
  subst hX
  have hC : jC X G cX12_has 2 RX12 (some .boolean) := hC
  unfold f_X12_has at h
  show jJ X G 2 L 0 0 (jQM X G L (some (.int r)) μ 0 0) 0 [(0, .int x0), (1, .int x1)] [] μ
  refine j_iload_n (pc := 0) hC 0 0 dX12_has_0 rfl rfl ?_
  refine j_iload_n (pc := 1) hC 1 1 dX12_has_1 rfl rfl ?_
  refine j_ishr (pc := 2) hC dX12_has_2 ?_
  refine j_iconst (pc := 3) hC (1 : Int32) dX12_has_3 (by decide) ?_
  refine j_iand (pc := 4) hC dX12_has_4 ?_
  refine j_iconst (pc := 5) hC (1 : Int32) dX12_has_5 (by decide) ?_
  refine jmg (B := jJ X G 2 L 0 0 (jQM X G L (some (.int r)) μ 0 0) 14 [(0, .int x0), (1, .int x1)] [.int ((if ((x0 >>> (x1 &&& 31)) &&& (1 : Int32)) = (1 : Int32) then (1 : Int32) else (0 : Int32)))] μ) (fun hj => ?_) ?_
  · refine j_icmp_ne (pc := 6) hC 13 dX12_has_6 (by decide) (fun c1 => ?_) (fun c1 => ?_)
    · rw [if_neg c1] at hj
      refine j_iconst (pc := 13) hC (0 : Int32) dX12_has_13 (by decide) ?_
      exact hj
    · rw [if_pos c1] at hj
      refine j_iconst (pc := 9) hC (1 : Int32) dX12_has_9 (by decide) ?_
      refine j_goto (pc := 10) hC 14 dX12_has_10 (by decide) ?_
      exact hj
  subst h
  exact j_bret (pc := 14) hC dX12_has_14 rfl (j_nz _)
theorem dX12_flag_0 : decode cX12_flag 0 = .ok (.iload_n 0, 1) := by decide +kernel
theorem dX12_flag_1 : decode cX12_flag 1 = .ok (.ifCond .eq 7, 3) := by decide +kernel
theorem dX12_flag_4 : decode cX12_flag 4 = .ok (.iconst 1, 1) := by decide +kernel
theorem dX12_flag_5 : decode cX12_flag 5 = .ok (.goto 4, 3) := by decide +kernel
theorem dX12_flag_8 : decode cX12_flag 8 = .ok (.iconst 0, 1) := by decide +kernel
theorem dX12_flag_9 : decode cX12_flag 9 = .ok (.ireturn, 1) := by decide +kernel
def f_X12_flag (x0 : Int32) : Int32 :=
  (if x0 = (0 : Int32) then (0 : Int32) else (1 : Int32))
set_option maxHeartbeats 4000000 in
set_option maxRecDepth 100000 in
theorem c_X12_flag {l : Launch} {G : jG} {L : jL} (hL : jOKL L) {x0 : Int32}  {μ : jM} {r : Int32} (h : f_X12_flag x0 = r) : jCt l G L 3 yX12_flag cX12_flag 1 (some .int) [.int x0] μ (some (.int r)) μ := by
  refine jCt_of (by decide) (Nat.le_of_ble_eq_true rfl) (fun X hC hX hR => ?_)
  subst hX
  have hC : jC X G cX12_flag 1 RX12 (some .int) := hC
  unfold f_X12_flag at h
  show jJ X G 1 L 0 0 (jQM X G L (some (.int r)) μ 0 0) 0 [(0, .int x0)] [] μ
  refine j_iload_n (pc := 0) hC 0 0 dX12_flag_0 rfl rfl ?_
  refine jmg (B := jJ X G 1 L 0 0 (jQM X G L (some (.int r)) μ 0 0) 9 [(0, .int x0)] [.int ((if x0 = (0 : Int32) then (0 : Int32) else (1 : Int32)))] μ) (fun hj => ?_) ?_
  · refine j_if_eq (pc := 1) hC 8 dX12_flag_1 (by decide) (fun c1 => ?_) (fun c1 => ?_)
    · rw [if_pos c1] at hj
      refine j_iconst (pc := 8) hC (0 : Int32) dX12_flag_8 (by decide) ?_
      exact hj
    · rw [if_neg c1] at hj
      refine j_iconst (pc := 4) hC (1 : Int32) dX12_flag_4 (by decide) ?_
      refine j_goto (pc := 5) hC 9 dX12_flag_5 (by decide) ?_
      exact hj
  subst h
  exact j_iret (pc := 9) hC dX12_flag_9 rfl
theorem dX12_bitsOf_0 : decode cX12_bitsOf 0 = .ok (.iconst 0, 1) := by decide +kernel
theorem dX12_bitsOf_1 : decode cX12_bitsOf 1 = .ok (.istore_n 1, 1) := by decide +kernel
theorem dX12_bitsOf_2 : decode cX12_bitsOf 2 = .ok (.iconst 0, 1) := by decide +kernel
theorem dX12_bitsOf_3 : decode cX12_bitsOf 3 = .ok (.istore_n 2, 1) := by decide +kernel
theorem dX12_bitsOf_4 : decode cX12_bitsOf 4 = .ok (.iload_n 2, 1) := by decide +kernel
theorem dX12_bitsOf_5 : decode cX12_bitsOf 5 = .ok (.bipush 31, 2) := by decide +kernel
theorem dX12_bitsOf_7 : decode cX12_bitsOf 7 = .ok (.if_icmp .ge 17, 3) := by decide +kernel
theorem dX12_bitsOf_10 : decode cX12_bitsOf 10 = .ok (.iload_n 1, 1) := by decide +kernel
theorem dX12_bitsOf_11 : decode cX12_bitsOf 11 = .ok (.iload_n 0, 1) := by decide +kernel
theorem dX12_bitsOf_12 : decode cX12_bitsOf 12 = .ok (.iload_n 2, 1) := by decide +kernel
theorem dX12_bitsOf_13 : decode cX12_bitsOf 13 = .ok (.ishr, 1) := by decide +kernel
theorem dX12_bitsOf_14 : decode cX12_bitsOf 14 = .ok (.iconst 1, 1) := by decide +kernel
theorem dX12_bitsOf_15 : decode cX12_bitsOf 15 = .ok (.iand, 1) := by decide +kernel
theorem dX12_bitsOf_16 : decode cX12_bitsOf 16 = .ok (.iadd, 1) := by decide +kernel
theorem dX12_bitsOf_17 : decode cX12_bitsOf 17 = .ok (.istore_n 1, 1) := by decide +kernel
theorem dX12_bitsOf_18 : decode cX12_bitsOf 18 = .ok (.iinc 2 1, 3) := by decide +kernel
theorem dX12_bitsOf_21 : decode cX12_bitsOf 21 = .ok (.goto (-17), 3) := by decide +kernel
theorem dX12_bitsOf_24 : decode cX12_bitsOf 24 = .ok (.iload_n 1, 1) := by decide +kernel
theorem dX12_bitsOf_25 : decode cX12_bitsOf 25 = .ok (.ireturn, 1) := by decide +kernel
def f_X12_bitsOf_L4 (x0 : Int32) (u1 : Int32) (u2 : Int32) : Option ((Int32 × Int32) ⊕ (Int32)) :=
  (if (31 : Int32) ≤ u2 then some (.inr u1) else jbd (u1 + ((x0 >>> (u2 &&& 31)) &&& (1 : Int32)) : Int32) (fun v4 => some (.inl ((v4, u2 + (1 : Int32))))))
def f_X12_bitsOf (x0 : Int32) : Option (Int32) :=
  jcl (jloop (fun (s : Int32 × Int32) => f_X12_bitsOf_L4 x0 s.1 s.2) jfu (((0 : Int32), (0 : Int32)))) (fun w6 => some w6)
set_option maxHeartbeats 4000000 in
set_option maxRecDepth 100000 in
theorem c_X12_bitsOf {l : Launch} {G : jG} {L : jL} (hL : jOKL L) {x0 : Int32}  {μ : jM} {r : Int32} (h : f_X12_bitsOf x0 = some r) : jCt l G L 3 yX12_bitsOf cX12_bitsOf 3 (some .int) [.int x0] μ (some (.int r)) μ := by
  refine jCt_of (by decide) (Nat.le_of_ble_eq_true rfl) (fun X hC hX hR => ?_)
  subst hX
  have hC : jC X G cX12_bitsOf 3 RX12 (some .int) := hC
  unfold f_X12_bitsOf at h
  show jJ X G 3 L 0 0 (jQM X G L (some (.int r)) μ 0 0) 0 [(0, .int x0)] [] μ
  refine j_iconst (pc := 0) hC (0 : Int32) dX12_bitsOf_0 (by decide) ?_
  refine j_istore_n (pc := 1) hC 1 [(1, .int (0 : Int32)), (0, .int x0)] dX12_bitsOf_1 rfl (by decide) rfl rfl ?_
  refine j_iconst (pc := 2) hC (0 : Int32) dX12_bitsOf_2 (by decide) ?_
  refine j_istore_n (pc := 3) hC 2 [(2, .int (0 : Int32)), (1, .int (0 : Int32)), (0, .int x0)] dX12_bitsOf_3 rfl (by decide) rfl rfl ?_
  obtain ⟨w6, hw7, h⟩ := jcl_some h
  refine j_lv [2, 1, 0] rfl ?_
  refine j_loop (step := (fun (s : Int32 × Int32) => f_X12_bitsOf_L4 x0 s.1 s.2)) (P := (fun (s : Int32 × Int32) => jJ X G 3 L 0 0 (jQM X G L (some (.int r)) μ 0 0) 4 [(0, .int x0), (1, .int s.1), (2, .int s.2)] [] μ)) (R := (fun (e : Int32) => jJ X G 3 L 0 0 (jQM X G L (some (.int r)) μ 0 0) 24 [(1, .int e)] [] μ)) ?_ jfu (((0 : Int32), (0 : Int32))) w6 hw7 ?_
  · intro s8 o h hk
    obtain ⟨u1, u2⟩ := s8
    change f_X12_bitsOf_L4 x0 u1 u2 = some o at h
    unfold f_X12_bitsOf_L4 at h
    show jJ X G 3 L 0 0 (jQM X G L (some (.int r)) μ 0 0) 4 [(0, .int x0), (1, .int u1), (2, .int u2)] [] μ
    refine j_iload_n (pc := 4) hC 2 2 dX12_bitsOf_4 rfl rfl ?_
    refine j_bipush (pc := 5) hC (31 : Int32) dX12_bitsOf_5 (by decide) ?_
    refine j_icmp_ge (pc := 7) hC 24 dX12_bitsOf_7 (by decide) (fun c3 => ?_) (fun c3 => ?_)
    · rw [if_pos c3] at h
      obtain rfl := Option.some.inj h
      have hk : jJ X G 3 L 0 0 (jQM X G L (some (.int r)) μ 0 0) 24 [(1, .int u1)] [] μ := hk
      exact j_lv [1] rfl hk
    · rw [if_neg c3] at h
      refine j_iload_n (pc := 10) hC 1 1 dX12_bitsOf_10 rfl rfl ?_
      refine j_iload_n (pc := 11) hC 0 0 dX12_bitsOf_11 rfl rfl ?_
      refine j_iload_n (pc := 12) hC 2 2 dX12_bitsOf_12 rfl rfl ?_
      refine j_ishr (pc := 13) hC dX12_bitsOf_13 ?_
      refine j_iconst (pc := 14) hC (1 : Int32) dX12_bitsOf_14 (by decide) ?_
      refine j_iand (pc := 15) hC dX12_bitsOf_15 ?_
      refine j_iadd (pc := 16) hC dX12_bitsOf_16 ?_
      obtain ⟨v4, e5, h⟩ := jbd_ex h
      refine j_istore_n (pc := 17) hC 1 [(1, .int v4), (0, .int x0), (2, .int u2)] dX12_bitsOf_17 rfl (by decide) e5 rfl ?_
      refine j_iinc (pc := 18) hC 2 (u2 + (1 : Int32)) [(2, .int (u2 + (1 : Int32))), (1, .int v4), (0, .int x0)] dX12_bitsOf_18 rfl rfl (by decide) rfl ?_
      refine j_goto (pc := 21) hC 4 dX12_bitsOf_21 (by decide) ?_
      obtain rfl := Option.some.inj h
      have hk : jJ X G 3 L 0 0 (jQM X G L (some (.int r)) μ 0 0) 4 [(0, .int x0), (1, .int v4), (2, .int (u2 + (1 : Int32)))] [] μ := hk
      exact j_lv [2, 1, 0] rfl hk
  · obtain ⟨z9, rfl⟩ : ∃ y, y = w6 := ⟨_, rfl⟩
    try dsimp only at h
    show jJ X G 3 L 0 0 (jQM X G L (some (.int r)) μ 0 0) 24 [(1, .int z9)] [] μ
    refine j_iload_n (pc := 24) hC 1 0 dX12_bitsOf_24 rfl rfl ?_
    obtain rfl := Option.some.inj h
    exact j_iret (pc := 25) hC dX12_bitsOf_25 rfl
theorem dX12_enters_0 : decode cX12_enters 0 = .ok (.aload_n 0, 1) := by decide +kernel
theorem dX12_enters_1 : decode cX12_enters 1 = .ok (.getfield 7, 3) := by decide +kernel
theorem dX12_enters_4 : decode cX12_enters 4 = .ok (.aload_n 0, 1) := by decide +kernel
theorem dX12_enters_5 : decode cX12_enters 5 = .ok (.getfield 11, 3) := by decide +kernel
theorem dX12_enters_8 : decode cX12_enters 8 = .ok (.lload_n 1, 1) := by decide +kernel
theorem dX12_enters_9 : decode cX12_enters 9 = .ok (.lastore, 1) := by decide +kernel
theorem dX12_enters_10 : decode cX12_enters 10 = .ok (.aload_n 0, 1) := by decide +kernel
theorem dX12_enters_11 : decode cX12_enters 11 = .ok (.dup, 1) := by decide +kernel
theorem dX12_enters_12 : decode cX12_enters 12 = .ok (.getfield 11, 3) := by decide +kernel
theorem dX12_enters_15 : decode cX12_enters 15 = .ok (.iconst 1, 1) := by decide +kernel
theorem dX12_enters_16 : decode cX12_enters 16 = .ok (.iadd, 1) := by decide +kernel
theorem dX12_enters_17 : decode cX12_enters 17 = .ok (.putfield 11, 3) := by decide +kernel
theorem dX12_enters_20 : decode cX12_enters 20 = .ok (.return_, 1) := by decide +kernel
def f_X12_enters (a0 : Nat) (y1 : Int64) (μ : jM) : Option (jM) :=
  jin (μ.1 a0 1) 40 (jbd (jsl μ (a0 + 1) (μ.1 a0 1).toNatClampNeg y1) (fun m2 => jbd (jsi m2 a0 1 ((m2.1 a0 1) + (1 : Int32))) (fun m4 => some m4)))
set_option maxHeartbeats 4000000 in
set_option maxRecDepth 100000 in
theorem c_X12_enters {l : Launch} {G : jG} {L : jL} (hL : jOKL L) {a0 : Nat} {y1 : Int64} (ka0 : jK L a0 12) {μ μ' : jM} (h : f_X12_enters a0 y1 μ = some μ') : jCt l G L 3 yX12_enters cX12_enters 3 none [.ref (L.2.2 a0), .long y1] μ none μ' := by
  refine jCt_of (by decide) (Nat.le_of_ble_eq_true rfl) (fun X hC hX hR => ?_)
  subst hX
  have hC : jC X G cX12_enters 3 RX12 none := hC
  unfold f_X12_enters at h
  show jJ X G 3 L 0 0 (jQM X G L none μ' 0 0) 0 [(0, .ref (L.2.2 a0)), (1, .long y1)] [] μ
  refine j_aload_n (pc := 0) hC 0 0 dX12_enters_0 rfl rfl ?_
  refine jgr_12 (pc := 1) hC 2 (by decide) rfl kf_X12_7 dX12_enters_1 ka0 (ly_12_2 hL ka0).1 ?_
  refine j_aload_n (pc := 4) hC 0 0 dX12_enters_4 rfl rfl ?_
  refine jgi_12 (pc := 5) hC 1 (by decide) rfl kf_X12_11 dX12_enters_5 ka0 ?_
  refine j_lload_n (pc := 8) hC 1 1 dX12_enters_8 rfl rfl ?_
  obtain ⟨i1, h⟩ := jin_some h
  obtain ⟨m2, e3, h⟩ := jbd_ex h
  refine j_last (pc := 9) hC dX12_enters_9 (ly_12_2 hL ka0).2.1 (ly_12_2 hL ka0).2.2 i1 e3 ?_
  refine j_aload_n (pc := 10) hC 0 0 dX12_enters_10 rfl rfl ?_
  refine j_dup (pc := 11) hC dX12_enters_11 rfl ?_
  refine jgi_12 (pc := 12) hC 1 (by decide) rfl kf_X12_11 dX12_enters_12 ka0 ?_
  refine j_iconst (pc := 15) hC (1 : Int32) dX12_enters_15 (by decide) ?_
  refine j_iadd (pc := 16) hC dX12_enters_16 ?_
  obtain ⟨m4, e5, h⟩ := jbd_ex h
  refine jpi_12 (pc := 17) hC 1 (by decide) rfl kf_X12_11 dX12_enters_17 rfl (by decide) ka0 e5 ?_
  obtain rfl := Option.some.inj h
  exact j_vret (pc := 20) hC dX12_enters_20 rfl
theorem dX12_sign_0 : decode cX12_sign 0 = .ok (.aload_n 0, 1) := by decide +kernel
theorem dX12_sign_1 : decode cX12_sign 1 = .ok (.iconst 0, 1) := by decide +kernel
theorem dX12_sign_2 : decode cX12_sign 2 = .ok (.putfield 1, 3) := by decide +kernel
theorem dX12_sign_5 : decode cX12_sign 5 = .ok (.aload_n 0, 1) := by decide +kernel
theorem dX12_sign_6 : decode cX12_sign 6 = .ok (.getfield 14, 3) := by decide +kernel
theorem dX12_sign_9 : decode cX12_sign 9 = .ok (.bipush 76, 2) := by decide +kernel
theorem dX12_sign_11 : decode cX12_sign 11 = .ok (.if_icmp .le 5, 3) := by decide +kernel
theorem dX12_sign_14 : decode cX12_sign 14 = .ok (.iconst (-1), 1) := by decide +kernel
theorem dX12_sign_15 : decode cX12_sign 15 = .ok (.ireturn, 1) := by decide +kernel
theorem dX12_sign_16 : decode cX12_sign 16 = .ok (.iconst 0, 1) := by decide +kernel
theorem dX12_sign_17 : decode cX12_sign 17 = .ok (.istore_n 2, 1) := by decide +kernel
theorem dX12_sign_18 : decode cX12_sign 18 = .ok (.iload_n 2, 1) := by decide +kernel
theorem dX12_sign_19 : decode cX12_sign 19 = .ok (.iconst 4, 1) := by decide +kernel
theorem dX12_sign_20 : decode cX12_sign 20 = .ok (.if_icmp .ge 33, 3) := by decide +kernel
theorem dX12_sign_23 : decode cX12_sign 23 = .ok (.aload_n 0, 1) := by decide +kernel
theorem dX12_sign_24 : decode cX12_sign 24 = .ok (.getfield 17, 3) := by decide +kernel
theorem dX12_sign_27 : decode cX12_sign 27 = .ok (.aload_n 0, 1) := by decide +kernel
theorem dX12_sign_28 : decode cX12_sign 28 = .ok (.getfield 14, 3) := by decide +kernel
theorem dX12_sign_31 : decode cX12_sign 31 = .ok (.iload_n 2, 1) := by decide +kernel
theorem dX12_sign_32 : decode cX12_sign 32 = .ok (.iadd, 1) := by decide +kernel
theorem dX12_sign_33 : decode cX12_sign 33 = .ok (.iload_n 1, 1) := by decide +kernel
theorem dX12_sign_34 : decode cX12_sign 34 = .ok (.bipush 24, 2) := by decide +kernel
theorem dX12_sign_36 : decode cX12_sign 36 = .ok (.bipush 8, 2) := by decide +kernel
theorem dX12_sign_38 : decode cX12_sign 38 = .ok (.iload_n 2, 1) := by decide +kernel
theorem dX12_sign_39 : decode cX12_sign 39 = .ok (.imul, 1) := by decide +kernel
theorem dX12_sign_40 : decode cX12_sign 40 = .ok (.isub, 1) := by decide +kernel
theorem dX12_sign_41 : decode cX12_sign 41 = .ok (.ishr, 1) := by decide +kernel
theorem dX12_sign_42 : decode cX12_sign 42 = .ok (.sipush 255, 3) := by decide +kernel
theorem dX12_sign_45 : decode cX12_sign 45 = .ok (.iand, 1) := by decide +kernel
theorem dX12_sign_46 : decode cX12_sign 46 = .ok (.iastore, 1) := by decide +kernel
theorem dX12_sign_47 : decode cX12_sign 47 = .ok (.iinc 2 1, 3) := by decide +kernel
theorem dX12_sign_50 : decode cX12_sign 50 = .ok (.goto (-32), 3) := by decide +kernel
theorem dX12_sign_53 : decode cX12_sign 53 = .ok (.aload_n 0, 1) := by decide +kernel
theorem dX12_sign_54 : decode cX12_sign 54 = .ok (.dup, 1) := by decide +kernel
theorem dX12_sign_55 : decode cX12_sign 55 = .ok (.getfield 14, 3) := by decide +kernel
theorem dX12_sign_58 : decode cX12_sign 58 = .ok (.iconst 4, 1) := by decide +kernel
theorem dX12_sign_59 : decode cX12_sign 59 = .ok (.iadd, 1) := by decide +kernel
theorem dX12_sign_60 : decode cX12_sign 60 = .ok (.putfield 14, 3) := by decide +kernel
theorem dX12_sign_63 : decode cX12_sign 63 = .ok (.aload_n 0, 1) := by decide +kernel
theorem dX12_sign_64 : decode cX12_sign 64 = .ok (.getfield 14, 3) := by decide +kernel
theorem dX12_sign_67 : decode cX12_sign 67 = .ok (.ireturn, 1) := by decide +kernel
def f_X12_sign_L18 (a0 : Nat) (x1 : Int32) (u4 : Int32) (m5 : jM) : Option ((Int32 × jM) ⊕ (jM)) :=
  (if (4 : Int32) ≤ u4 then some (.inr m5) else jin ((m5.1 a0 4) + u4) 80 (jbd (jsi m5 (a0 + 2) ((m5.1 a0 4) + u4).toNatClampNeg ((x1 >>> (((24 : Int32) - ((8 : Int32) * u4)) &&& 31)) &&& (255 : Int32))) (fun m8 => some (.inl ((u4 + (1 : Int32), m8))))))
def f_X12_sign (a0 : Nat) (x1 : Int32) (μ : jM) : Option (Int32 × jM) :=
  jbd (jsi μ a0 0 (0 : Int32)) (fun m1 => (if (m1.1 a0 4) ≤ (76 : Int32) then jcl (jloop (fun (s : Int32 × jM) => f_X12_sign_L18 a0 x1 s.1 s.2) jfu (((0 : Int32), m1))) (fun w10 => jbd (jsi w10 a0 4 ((w10.1 a0 4) + (4 : Int32))) (fun m14 => some ((m14.1 a0 4, m14)))) else some (((-1 : Int32), m1))))
set_option maxHeartbeats 4000000 in
set_option maxRecDepth 100000 in
theorem c_X12_sign {l : Launch} {G : jG} {L : jL} (hL : jOKL L) {a0 : Nat} {x1 : Int32} (ka0 : jK L a0 12) {μ μ' : jM} {r : Int32} (h : f_X12_sign a0 x1 μ = some ((r, μ'))) : jCt l G L 3 yX12_sign cX12_sign 3 (some .int) [.ref (L.2.2 a0), .int x1] μ (some (.int r)) μ' := by
  refine jCt_of (by decide) (Nat.le_of_ble_eq_true rfl) (fun X hC hX hR => ?_)
  subst hX
  have hC : jC X G cX12_sign 3 RX12 (some .int) := hC
  unfold f_X12_sign at h
  show jJ X G 3 L 0 0 (jQM X G L (some (.int r)) μ' 0 0) 0 [(0, .ref (L.2.2 a0)), (1, .int x1)] [] μ
  refine j_aload_n (pc := 0) hC 0 0 dX12_sign_0 rfl rfl ?_
  refine j_iconst (pc := 1) hC (0 : Int32) dX12_sign_1 (by decide) ?_
  obtain ⟨m1, e2, h⟩ := jbd_ex h
  refine jpi_12 (pc := 2) hC 0 (by decide) rfl kf_X12_1 dX12_sign_2 rfl (by decide) ka0 e2 ?_
  refine j_aload_n (pc := 5) hC 0 0 dX12_sign_5 rfl rfl ?_
  refine jgi_12 (pc := 6) hC 4 (by decide) rfl kf_X12_14 dX12_sign_6 ka0 ?_
  refine j_bipush (pc := 9) hC (76 : Int32) dX12_sign_9 (by decide) ?_
  refine j_icmp_le (pc := 11) hC 16 dX12_sign_11 (by decide) (fun c3 => ?_) (fun c3 => ?_)
  · rw [if_pos c3] at h
    refine j_iconst (pc := 16) hC (0 : Int32) dX12_sign_16 (by decide) ?_
    refine j_istore_n (pc := 17) hC 2 [(2, .int (0 : Int32)), (0, .ref (L.2.2 a0)), (1, .int x1)] dX12_sign_17 rfl (by decide) rfl rfl ?_
    obtain ⟨w10, hw11, h⟩ := jcl_some h
    refine j_lv [1, 2, 0] rfl ?_
    refine j_loop (step := (fun (s : Int32 × jM) => f_X12_sign_L18 a0 x1 s.1 s.2)) (P := (fun (s : Int32 × jM) => jJ X G 3 L 0 0 (jQM X G L (some (.int r)) μ' 0 0) 18 [(0, .ref (L.2.2 a0)), (1, .int x1), (2, .int s.1)] [] s.2)) (R := (fun (e : jM) => jJ X G 3 L 0 0 (jQM X G L (some (.int r)) μ' 0 0) 53 [(0, .ref (L.2.2 a0))] [] e)) ?_ jfu (((0 : Int32), m1)) w10 hw11 ?_
    · intro s12 o h hk
      obtain ⟨u4, m5⟩ := s12
      change f_X12_sign_L18 a0 x1 u4 m5 = some o at h
      unfold f_X12_sign_L18 at h
      show jJ X G 3 L 0 0 (jQM X G L (some (.int r)) μ' 0 0) 18 [(0, .ref (L.2.2 a0)), (1, .int x1), (2, .int u4)] [] m5
      refine j_iload_n (pc := 18) hC 2 2 dX12_sign_18 rfl rfl ?_
      refine j_iconst (pc := 19) hC (4 : Int32) dX12_sign_19 (by decide) ?_
      refine j_icmp_ge (pc := 20) hC 53 dX12_sign_20 (by decide) (fun c6 => ?_) (fun c6 => ?_)
      · rw [if_pos c6] at h
        obtain rfl := Option.some.inj h
        have hk : jJ X G 3 L 0 0 (jQM X G L (some (.int r)) μ' 0 0) 53 [(0, .ref (L.2.2 a0))] [] m5 := hk
        exact j_lv [0] rfl hk
      · rw [if_neg c6] at h
        refine j_aload_n (pc := 23) hC 0 0 dX12_sign_23 rfl rfl ?_
        refine jgr_12 (pc := 24) hC 3 (by decide) rfl kf_X12_17 dX12_sign_24 ka0 (ly_12_3 hL ka0).1 ?_
        refine j_aload_n (pc := 27) hC 0 0 dX12_sign_27 rfl rfl ?_
        refine jgi_12 (pc := 28) hC 4 (by decide) rfl kf_X12_14 dX12_sign_28 ka0 ?_
        refine j_iload_n (pc := 31) hC 2 2 dX12_sign_31 rfl rfl ?_
        refine j_iadd (pc := 32) hC dX12_sign_32 ?_
        refine j_iload_n (pc := 33) hC 1 1 dX12_sign_33 rfl rfl ?_
        refine j_bipush (pc := 34) hC (24 : Int32) dX12_sign_34 (by decide) ?_
        refine j_bipush (pc := 36) hC (8 : Int32) dX12_sign_36 (by decide) ?_
        refine j_iload_n (pc := 38) hC 2 2 dX12_sign_38 rfl rfl ?_
        refine j_imul (pc := 39) hC dX12_sign_39 ?_
        refine j_isub (pc := 40) hC dX12_sign_40 ?_
        refine j_ishr (pc := 41) hC dX12_sign_41 ?_
        refine j_sipush (pc := 42) hC (255 : Int32) dX12_sign_42 (by decide) ?_
        refine j_iand (pc := 45) hC dX12_sign_45 ?_
        obtain ⟨i7, h⟩ := jin_some h
        obtain ⟨m8, e9, h⟩ := jbd_ex h
        refine j_iast (pc := 46) hC dX12_sign_46 (ly_12_3 hL ka0).2.1 (ly_12_3 hL ka0).2.2 i7 e9 ?_
        refine j_iinc (pc := 47) hC 2 (u4 + (1 : Int32)) [(2, .int (u4 + (1 : Int32))), (0, .ref (L.2.2 a0)), (1, .int x1)] dX12_sign_47 rfl rfl (by decide) rfl ?_
        refine j_goto (pc := 50) hC 18 dX12_sign_50 (by decide) ?_
        obtain rfl := Option.some.inj h
        have hk : jJ X G 3 L 0 0 (jQM X G L (some (.int r)) μ' 0 0) 18 [(0, .ref (L.2.2 a0)), (1, .int x1), (2, .int (u4 + (1 : Int32)))] [] m8 := hk
        exact j_lv [1, 2, 0] rfl hk
    · obtain ⟨m13, rfl⟩ : ∃ y, y = w10 := ⟨_, rfl⟩
      try dsimp only at h
      show jJ X G 3 L 0 0 (jQM X G L (some (.int r)) μ' 0 0) 53 [(0, .ref (L.2.2 a0))] [] m13
      refine j_aload_n (pc := 53) hC 0 0 dX12_sign_53 rfl rfl ?_
      refine j_dup (pc := 54) hC dX12_sign_54 rfl ?_
      refine jgi_12 (pc := 55) hC 4 (by decide) rfl kf_X12_14 dX12_sign_55 ka0 ?_
      refine j_iconst (pc := 58) hC (4 : Int32) dX12_sign_58 (by decide) ?_
      refine j_iadd (pc := 59) hC dX12_sign_59 ?_
      obtain ⟨m14, e15, h⟩ := jbd_ex h
      refine jpi_12 (pc := 60) hC 4 (by decide) rfl kf_X12_14 dX12_sign_60 rfl (by decide) ka0 e15 ?_
      refine j_aload_n (pc := 63) hC 0 0 dX12_sign_63 rfl rfl ?_
      refine jgi_12 (pc := 64) hC 4 (by decide) rfl kf_X12_14 dX12_sign_64 ka0 ?_
      obtain ⟨rfl, rfl⟩ := Prod.mk.inj (Option.some.inj h)
      exact j_iret (pc := 67) hC dX12_sign_67 rfl
  · rw [if_neg c3] at h
    refine j_iconst (pc := 14) hC (-1 : Int32) dX12_sign_14 (by decide) ?_
    obtain ⟨rfl, rfl⟩ := Prod.mk.inj (Option.some.inj h)
    exact j_iret (pc := 15) hC dX12_sign_15 rfl
theorem dX12_end_0 : decode cX12_end 0 = .ok (.aload_n 0, 1) := by decide +kernel
theorem dX12_end_1 : decode cX12_end 1 = .ok (.iconst 0, 1) := by decide +kernel
theorem dX12_end_2 : decode cX12_end 2 = .ok (.putfield 1, 3) := by decide +kernel
theorem dX12_end_5 : decode cX12_end 5 = .ok (.iload_n 1, 1) := by decide +kernel
theorem dX12_end_6 : decode cX12_end 6 = .ok (.i2l, 1) := by decide +kernel
theorem dX12_end_7 : decode cX12_end 7 = .ok (.lconst 0, 1) := by decide +kernel
theorem dX12_end_8 : decode cX12_end 8 = .ok (.aload_n 0, 1) := by decide +kernel
theorem dX12_end_9 : decode cX12_end 9 = .ok (.getfield 14, 3) := by decide +kernel
theorem dX12_end_12 : decode cX12_end 12 = .ok (.i2l, 1) := by decide +kernel
theorem dX12_end_13 : decode cX12_end 13 = .ok (.invokestatic 21, 3) := by decide +kernel
theorem dX12_end_16 : decode cX12_end 16 = .ok (.ifCond .ne 5, 3) := by decide +kernel
theorem dX12_end_19 : decode cX12_end 19 = .ok (.iconst 0, 1) := by decide +kernel
theorem dX12_end_20 : decode cX12_end 20 = .ok (.ireturn, 1) := by decide +kernel
theorem dX12_end_21 : decode cX12_end 21 = .ok (.aload_n 0, 1) := by decide +kernel
theorem dX12_end_22 : decode cX12_end 22 = .ok (.iload_n 1, 1) := by decide +kernel
theorem dX12_end_23 : decode cX12_end 23 = .ok (.putfield 14, 3) := by decide +kernel
theorem dX12_end_26 : decode cX12_end 26 = .ok (.iconst 1, 1) := by decide +kernel
theorem dX12_end_27 : decode cX12_end 27 = .ok (.ireturn, 1) := by decide +kernel
def f_X12_end (a0 : Nat) (x1 : Int32) (μ : jM) : Int32 × jM :=
  jbd (jsi μ a0 0 (0 : Int32)) (fun m1 => (if (f_X12_in x1.toInt64 (0 : Int64) ((m1.1 a0 4).toInt64)) = (0 : Int32) then ((0 : Int32), m1) else jbd (jsi m1 a0 4 x1) (fun m4 => ((1 : Int32), m4))))
set_option maxHeartbeats 4000000 in
set_option maxRecDepth 100000 in
theorem c_X12_end {l : Launch} {G : jG} {L : jL} (hL : jOKL L) {a0 : Nat} {x1 : Int32} (ka0 : jK L a0 12) {μ μ' : jM} {r : Int32} (h : f_X12_end a0 x1 μ = (r, μ')) : jCt l G L 4 yX12_end cX12_end 2 (some .boolean) [.ref (L.2.2 a0), .int x1] μ (some (.int r)) μ' := by
  refine jCt_of (by decide) (Nat.le_of_ble_eq_true rfl) (fun X hC hX hR => ?_)
  subst hX
  have hC : jC X G cX12_end 2 RX12 (some .boolean) := hC
  unfold f_X12_end at h
  show jJ X G 2 L 0 0 (jQM X G L (some (.int r)) μ' 0 0) 0 [(0, .ref (L.2.2 a0)), (1, .int x1)] [] μ
  refine j_aload_n (pc := 0) hC 0 0 dX12_end_0 rfl rfl ?_
  refine j_iconst (pc := 1) hC (0 : Int32) dX12_end_1 (by decide) ?_
  obtain ⟨m1, e2, h⟩ := jbd_ex h
  refine jpi_12 (pc := 2) hC 0 (by decide) rfl kf_X12_1 dX12_end_2 rfl (by decide) ka0 e2 ?_
  refine j_iload_n (pc := 5) hC 1 1 dX12_end_5 rfl rfl ?_
  refine j_i2l (pc := 6) hC dX12_end_6 ?_
  refine j_lconst (pc := 7) hC (0 : Int64) dX12_end_7 (by decide) ?_
  refine j_aload_n (pc := 8) hC 0 0 dX12_end_8 rfl rfl ?_
  refine jgi_12 (pc := 9) hC 4 (by decide) rfl kf_X12_14 dX12_end_9 ka0 ?_
  refine j_i2l (pc := 12) hC dX12_end_12 ?_
  refine j_si (pc := 13) hC hR [.long x1.toInt64, .long (0 : Int64), .long ((m1.1 a0 4).toInt64)] iy_X12_in km_X12_21 dX12_end_13 rfl (by decide) (c_X12_in hL  rfl) (by decide) (Nat.le_of_ble_eq_true rfl) rfl ?_
  refine j_if_ne (pc := 16) hC 21 dX12_end_16 (by decide) (fun c3 => ?_) (fun c3 => ?_)
  · rw [if_neg c3] at h
    refine j_aload_n (pc := 21) hC 0 0 dX12_end_21 rfl rfl ?_
    refine j_iload_n (pc := 22) hC 1 1 dX12_end_22 rfl rfl ?_
    obtain ⟨m4, e5, h⟩ := jbd_ex h
    refine jpi_12 (pc := 23) hC 4 (by decide) rfl kf_X12_14 dX12_end_23 rfl (by decide) ka0 e5 ?_
    refine j_iconst (pc := 26) hC (1 : Int32) dX12_end_26 (by decide) ?_
    obtain ⟨rfl, rfl⟩ := Prod.mk.inj h
    exact j_bret (pc := 27) hC dX12_end_27 rfl rfl
  · rw [if_pos c3] at h
    refine j_iconst (pc := 19) hC (0 : Int32) dX12_end_19 (by decide) ?_
    obtain ⟨rfl, rfl⟩ := Prod.mk.inj h
    exact j_bret (pc := 20) hC dX12_end_20 rfl rfl
theorem dX12_reads_0 : decode cX12_reads 0 = .ok (.aload_n 0, 1) := by decide +kernel
theorem dX12_reads_1 : decode cX12_reads 1 = .ok (.aload_n 0, 1) := by decide +kernel
theorem dX12_reads_2 : decode cX12_reads 2 = .ok (.getfield 14, 3) := by decide +kernel
theorem dX12_reads_5 : decode cX12_reads 5 = .ok (.putfield 25, 3) := by decide +kernel
theorem dX12_reads_8 : decode cX12_reads 8 = .ok (.aload_n 0, 1) := by decide +kernel
theorem dX12_reads_9 : decode cX12_reads 9 = .ok (.iconst 0, 1) := by decide +kernel
theorem dX12_reads_10 : decode cX12_reads 10 = .ok (.putfield 14, 3) := by decide +kernel
theorem dX12_reads_13 : decode cX12_reads 13 = .ok (.aload_n 0, 1) := by decide +kernel
theorem dX12_reads_14 : decode cX12_reads 14 = .ok (.iconst 0, 1) := by decide +kernel
theorem dX12_reads_15 : decode cX12_reads 15 = .ok (.putfield 28, 3) := by decide +kernel
theorem dX12_reads_18 : decode cX12_reads 18 = .ok (.aload_n 0, 1) := by decide +kernel
theorem dX12_reads_19 : decode cX12_reads 19 = .ok (.iconst 0, 1) := by decide +kernel
theorem dX12_reads_20 : decode cX12_reads 20 = .ok (.putfield 31, 3) := by decide +kernel
theorem dX12_reads_23 : decode cX12_reads 23 = .ok (.return_, 1) := by decide +kernel
def f_X12_reads (a0 : Nat) (μ : jM) : jM :=
  jbd (jsi μ a0 6 (μ.1 a0 4)) (fun m1 => jbd (jsi m1 a0 4 (0 : Int32)) (fun m3 => jbd (jsi m3 a0 5 (0 : Int32)) (fun m5 => jbd (jsi m5 a0 7 (0 : Int32)) (fun m7 => m7))))
set_option maxHeartbeats 4000000 in
set_option maxRecDepth 100000 in
theorem c_X12_reads {l : Launch} {G : jG} {L : jL} (hL : jOKL L) {a0 : Nat} (ka0 : jK L a0 12) {μ μ' : jM} (h : f_X12_reads a0 μ = μ') : jCt l G L 3 yX12_reads cX12_reads 1 none [.ref (L.2.2 a0)] μ none μ' := by
  refine jCt_of (by decide) (Nat.le_of_ble_eq_true rfl) (fun X hC hX hR => ?_)
  subst hX
  have hC : jC X G cX12_reads 1 RX12 none := hC
  unfold f_X12_reads at h
  show jJ X G 1 L 0 0 (jQM X G L none μ' 0 0) 0 [(0, .ref (L.2.2 a0))] [] μ
  refine j_aload_n (pc := 0) hC 0 0 dX12_reads_0 rfl rfl ?_
  refine j_aload_n (pc := 1) hC 0 0 dX12_reads_1 rfl rfl ?_
  refine jgi_12 (pc := 2) hC 4 (by decide) rfl kf_X12_14 dX12_reads_2 ka0 ?_
  obtain ⟨m1, e2, h⟩ := jbd_ex h
  refine jpi_12 (pc := 5) hC 6 (by decide) rfl kf_X12_25 dX12_reads_5 rfl (by decide) ka0 e2 ?_
  refine j_aload_n (pc := 8) hC 0 0 dX12_reads_8 rfl rfl ?_
  refine j_iconst (pc := 9) hC (0 : Int32) dX12_reads_9 (by decide) ?_
  obtain ⟨m3, e4, h⟩ := jbd_ex h
  refine jpi_12 (pc := 10) hC 4 (by decide) rfl kf_X12_14 dX12_reads_10 rfl (by decide) ka0 e4 ?_
  refine j_aload_n (pc := 13) hC 0 0 dX12_reads_13 rfl rfl ?_
  refine j_iconst (pc := 14) hC (0 : Int32) dX12_reads_14 (by decide) ?_
  obtain ⟨m5, e6, h⟩ := jbd_ex h
  refine jpi_12 (pc := 15) hC 5 (by decide) rfl kf_X12_28 dX12_reads_15 rfl (by decide) ka0 e6 ?_
  refine j_aload_n (pc := 18) hC 0 0 dX12_reads_18 rfl rfl ?_
  refine j_iconst (pc := 19) hC (0 : Int32) dX12_reads_19 (by decide) ?_
  obtain ⟨m7, e8, h⟩ := jbd_ex h
  refine jpi_12 (pc := 20) hC 7 (by decide) rfl kf_X12_31 dX12_reads_20 rfl (by decide) ka0 e8 ?_
  subst h
  exact j_vret (pc := 23) hC dX12_reads_23 rfl
theorem dX12_takes_0 : decode cX12_takes 0 = .ok (.aload_n 0, 1) := by decide +kernel
theorem dX12_takes_1 : decode cX12_takes 1 = .ok (.getfield 28, 3) := by decide +kernel
theorem dX12_takes_4 : decode cX12_takes 4 = .ok (.aload_n 0, 1) := by decide +kernel
theorem dX12_takes_5 : decode cX12_takes 5 = .ok (.getfield 25, 3) := by decide +kernel
theorem dX12_takes_8 : decode cX12_takes 8 = .ok (.if_icmp .ge 20, 3) := by decide +kernel
theorem dX12_takes_11 : decode cX12_takes 11 = .ok (.aload_n 0, 1) := by decide +kernel
theorem dX12_takes_12 : decode cX12_takes 12 = .ok (.getfield 17, 3) := by decide +kernel
theorem dX12_takes_15 : decode cX12_takes 15 = .ok (.aload_n 0, 1) := by decide +kernel
theorem dX12_takes_16 : decode cX12_takes 16 = .ok (.getfield 28, 3) := by decide +kernel
theorem dX12_takes_19 : decode cX12_takes 19 = .ok (.iaload, 1) := by decide +kernel
theorem dX12_takes_20 : decode cX12_takes 20 = .ok (.iload_n 1, 1) := by decide +kernel
theorem dX12_takes_21 : decode cX12_takes 21 = .ok (.if_icmp .ne 7, 3) := by decide +kernel
theorem dX12_takes_24 : decode cX12_takes 24 = .ok (.iconst 1, 1) := by decide +kernel
theorem dX12_takes_25 : decode cX12_takes 25 = .ok (.goto 4, 3) := by decide +kernel
theorem dX12_takes_28 : decode cX12_takes 28 = .ok (.iconst 0, 1) := by decide +kernel
theorem dX12_takes_29 : decode cX12_takes 29 = .ok (.istore_n 2, 1) := by decide +kernel
theorem dX12_takes_30 : decode cX12_takes 30 = .ok (.aload_n 0, 1) := by decide +kernel
theorem dX12_takes_31 : decode cX12_takes 31 = .ok (.dup, 1) := by decide +kernel
theorem dX12_takes_32 : decode cX12_takes 32 = .ok (.getfield 28, 3) := by decide +kernel
theorem dX12_takes_35 : decode cX12_takes 35 = .ok (.iload_n 2, 1) := by decide +kernel
theorem dX12_takes_36 : decode cX12_takes 36 = .ok (.invokestatic 34, 3) := by decide +kernel
theorem dX12_takes_39 : decode cX12_takes 39 = .ok (.iadd, 1) := by decide +kernel
theorem dX12_takes_40 : decode cX12_takes 40 = .ok (.putfield 28, 3) := by decide +kernel
theorem dX12_takes_43 : decode cX12_takes 43 = .ok (.iload_n 2, 1) := by decide +kernel
theorem dX12_takes_44 : decode cX12_takes 44 = .ok (.ireturn, 1) := by decide +kernel
def f_X12_takes (a0 : Nat) (x1 : Int32) (μ : jM) : Option (Int32 × jM) :=
  jbd (fun (t1 : Int32) => jbd (jsi μ a0 5 ((μ.1 a0 5) + (f_X12_flag t1))) (fun m5 => some ((t1 &&& 1, m5)))) (fun k2 => jbd (k2 (0 : Int32)) (fun k7 => (if (μ.1 a0 6) ≤ (μ.1 a0 5) then k7 else jrd (μ.1 (a0 + 2)) (μ.1 a0 5) 80 (fun v12 => (if v12 = x1 then k2 (1 : Int32) else k7)))))
set_option maxHeartbeats 4000000 in
set_option maxRecDepth 100000 in
theorem c_X12_takes {l : Launch} {G : jG} {L : jL} (hL : jOKL L) {a0 : Nat} {x1 : Int32} (ka0 : jK L a0 12) {μ μ' : jM} {r : Int32} (h : f_X12_takes a0 x1 μ = some ((r, μ'))) : jCt l G L 4 yX12_takes cX12_takes 3 (some .boolean) [.ref (L.2.2 a0), .int x1] μ (some (.int r)) μ' := by
  refine jCt_of (by decide) (Nat.le_of_ble_eq_true rfl) (fun X hC hX hR => ?_)
  subst hX
  have hC : jC X G cX12_takes 3 RX12 (some .boolean) := hC
  unfold f_X12_takes at h
  show jJ X G 3 L 0 0 (jQM X G L (some (.int r)) μ' 0 0) 0 [(0, .ref (L.2.2 a0)), (1, .int x1)] [] μ
  refine j_aload_n (pc := 0) hC 0 0 dX12_takes_0 rfl rfl ?_
  refine jgi_12 (pc := 1) hC 5 (by decide) rfl kf_X12_28 dX12_takes_1 ka0 ?_
  refine j_aload_n (pc := 4) hC 0 0 dX12_takes_4 rfl rfl ?_
  refine jgi_12 (pc := 5) hC 6 (by decide) rfl kf_X12_25 dX12_takes_5 ka0 ?_
  obtain ⟨k2, e4, h⟩ := jbd_ex h
  have q3 : ∀ (t1 : Int32), k2 t1 = some ((r, μ')) → jJ X G 3 L 0 0 (jQM X G L (some (.int r)) μ' 0 0) 29 [(0, .ref (L.2.2 a0))] [.int t1] μ := by
    intro t1 h
    rw [e4] at h
    try dsimp only at h
    refine j_istore_n (pc := 29) hC 2 [(2, .int t1), (0, .ref (L.2.2 a0))] dX12_takes_29 rfl (by decide) rfl rfl ?_
    refine j_aload_n (pc := 30) hC 0 1 dX12_takes_30 rfl rfl ?_
    refine j_dup (pc := 31) hC dX12_takes_31 rfl ?_
    refine jgi_12 (pc := 32) hC 5 (by decide) rfl kf_X12_28 dX12_takes_32 ka0 ?_
    refine j_iload_n (pc := 35) hC 2 0 dX12_takes_35 rfl rfl ?_
    refine j_si (pc := 36) hC hR [.int t1] iy_X12_flag km_X12_34 dX12_takes_36 rfl (by decide) (c_X12_flag hL  rfl) (by decide) (Nat.le_of_ble_eq_true rfl) rfl ?_
    refine j_iadd (pc := 39) hC dX12_takes_39 ?_
    obtain ⟨m5, e6, h⟩ := jbd_ex h
    refine jpi_12 (pc := 40) hC 5 (by decide) rfl kf_X12_28 dX12_takes_40 rfl (by decide) ka0 e6 ?_
    refine j_iload_n (pc := 43) hC 2 0 dX12_takes_43 rfl rfl ?_
    obtain ⟨rfl, rfl⟩ := Prod.mk.inj (Option.some.inj h)
    exact j_bret (pc := 44) hC dX12_takes_44 rfl (j_nz _)
  obtain ⟨k7, e9, h⟩ := jbd_ex h
  have q8 : k7 = some ((r, μ')) → jJ X G 3 L 0 0 (jQM X G L (some (.int r)) μ' 0 0) 28 [(0, .ref (L.2.2 a0))] [] μ := by
    intro h
    rw [e9] at h
    refine j_iconst (pc := 28) hC (0 : Int32) dX12_takes_28 (by decide) ?_
    exact j_lv [0] rfl (q3 _ h)
  refine j_icmp_ge (pc := 8) hC 28 dX12_takes_8 (by decide) (fun c10 => ?_) (fun c10 => ?_)
  · rw [if_pos c10] at h
    exact j_lv [0] rfl (q8 h)
  · rw [if_neg c10] at h
    refine j_aload_n (pc := 11) hC 0 0 dX12_takes_11 rfl rfl ?_
    refine jgr_12 (pc := 12) hC 3 (by decide) rfl kf_X12_17 dX12_takes_12 ka0 (ly_12_3 hL ka0).1 ?_
    refine j_aload_n (pc := 15) hC 0 0 dX12_takes_15 rfl rfl ?_
    refine jgi_12 (pc := 16) hC 5 (by decide) rfl kf_X12_28 dX12_takes_16 ka0 ?_
    obtain ⟨i11, v12, e13, h⟩ := jrd_some h
    refine j_iald (pc := 19) hC dX12_takes_19 (ly_12_3 hL ka0).2.1 (ly_12_3 hL ka0).2.2 i11 e13 ?_
    refine j_iload_n (pc := 20) hC 1 1 dX12_takes_20 rfl rfl ?_
    refine j_icmp_ne (pc := 21) hC 28 dX12_takes_21 (by decide) (fun c14 => ?_) (fun c14 => ?_)
    · rw [if_neg c14] at h
      exact j_lv [0] rfl (q8 h)
    · rw [if_pos c14] at h
      refine j_iconst (pc := 24) hC (1 : Int32) dX12_takes_24 (by decide) ?_
      refine j_goto (pc := 25) hC 29 dX12_takes_25 (by decide) ?_
      exact j_lv [0] rfl (q3 _ h)
theorem dX12_takesOf_0 : decode cX12_takesOf 0 = .ok (.iconst 0, 1) := by decide +kernel
theorem dX12_takesOf_1 : decode cX12_takesOf 1 = .ok (.istore_n 2, 1) := by decide +kernel
theorem dX12_takesOf_2 : decode cX12_takesOf 2 = .ok (.iload_n 2, 1) := by decide +kernel
theorem dX12_takesOf_3 : decode cX12_takesOf 3 = .ok (.aload_n 1, 1) := by decide +kernel
theorem dX12_takesOf_4 : decode cX12_takesOf 4 = .ok (.invokevirtual 38, 3) := by decide +kernel
theorem dX12_takesOf_7 : decode cX12_takesOf 7 = .ok (.if_icmp .ge 49, 3) := by decide +kernel
theorem dX12_takesOf_10 : decode cX12_takesOf 10 = .ok (.aload_n 0, 1) := by decide +kernel
theorem dX12_takesOf_11 : decode cX12_takesOf 11 = .ok (.getfield 28, 3) := by decide +kernel
theorem dX12_takesOf_14 : decode cX12_takesOf 14 = .ok (.aload_n 0, 1) := by decide +kernel
theorem dX12_takesOf_15 : decode cX12_takesOf 15 = .ok (.getfield 25, 3) := by decide +kernel
theorem dX12_takesOf_18 : decode cX12_takesOf 18 = .ok (.if_icmp .ge 38, 3) := by decide +kernel
theorem dX12_takesOf_21 : decode cX12_takesOf 21 = .ok (.aload_n 1, 1) := by decide +kernel
theorem dX12_takesOf_22 : decode cX12_takesOf 22 = .ok (.iload_n 2, 1) := by decide +kernel
theorem dX12_takesOf_23 : decode cX12_takesOf 23 = .ok (.invokevirtual 44, 3) := by decide +kernel
theorem dX12_takesOf_26 : decode cX12_takesOf 26 = .ok (.aload_n 0, 1) := by decide +kernel
theorem dX12_takesOf_27 : decode cX12_takesOf 27 = .ok (.getfield 17, 3) := by decide +kernel
theorem dX12_takesOf_30 : decode cX12_takesOf 30 = .ok (.aload_n 0, 1) := by decide +kernel
theorem dX12_takesOf_31 : decode cX12_takesOf 31 = .ok (.getfield 28, 3) := by decide +kernel
theorem dX12_takesOf_34 : decode cX12_takesOf 34 = .ok (.iaload, 1) := by decide +kernel
theorem dX12_takesOf_35 : decode cX12_takesOf 35 = .ok (.if_icmp .ne 15, 3) := by decide +kernel
theorem dX12_takesOf_38 : decode cX12_takesOf 38 = .ok (.aload_n 0, 1) := by decide +kernel
theorem dX12_takesOf_39 : decode cX12_takesOf 39 = .ok (.dup, 1) := by decide +kernel
theorem dX12_takesOf_40 : decode cX12_takesOf 40 = .ok (.getfield 28, 3) := by decide +kernel
theorem dX12_takesOf_43 : decode cX12_takesOf 43 = .ok (.iconst 1, 1) := by decide +kernel
theorem dX12_takesOf_44 : decode cX12_takesOf 44 = .ok (.iadd, 1) := by decide +kernel
theorem dX12_takesOf_45 : decode cX12_takesOf 45 = .ok (.putfield 28, 3) := by decide +kernel
theorem dX12_takesOf_48 : decode cX12_takesOf 48 = .ok (.iload_n 2, 1) := by decide +kernel
theorem dX12_takesOf_49 : decode cX12_takesOf 49 = .ok (.ireturn, 1) := by decide +kernel
theorem dX12_takesOf_50 : decode cX12_takesOf 50 = .ok (.iinc 2 1, 3) := by decide +kernel
theorem dX12_takesOf_53 : decode cX12_takesOf 53 = .ok (.goto (-51), 3) := by decide +kernel
theorem dX12_takesOf_56 : decode cX12_takesOf 56 = .ok (.iconst (-1), 1) := by decide +kernel
theorem dX12_takesOf_57 : decode cX12_takesOf 57 = .ok (.ireturn, 1) := by decide +kernel
def f_X12_takesOf_L2 (a0 : Nat) (st1 : Nat) (μ : jM) (u1 : Int32) : Option ((Int32) ⊕ ((Int32) ⊕ (Unit))) :=
  (if (jsLn st1) ≤ u1 then some (.inr (.inr (()))) else (if (μ.1 a0 6) ≤ (μ.1 a0 5) then some (.inr (.inr (()))) else jrd (jsCh st1) u1 (jsLen.getD st1 0) (fun v5 => jrd (μ.1 (a0 + 2)) (μ.1 a0 5) 80 (fun v8 => (if v5 = v8 then some (.inr (.inl u1)) else some (.inl (u1 + (1 : Int32))))))))
def f_X12_takesOf (a0 : Nat) (st1 : Nat) (μ : jM) : Option (Int32 × jM) :=
  jcl (jloop (fun (s : Int32) => f_X12_takesOf_L2 a0 st1 μ s) jfu (0 : Int32)) (fun w11 => match w11 with | .inl w11 => jbd (jsi μ a0 5 ((μ.1 a0 5) + (1 : Int32))) (fun m15 => some ((w11, m15))) | .inr w11 => some (((-1 : Int32), μ)))
set_option maxHeartbeats 4000000 in
set_option maxRecDepth 100000 in
theorem c_X12_takesOf {l : Launch} {G : jG} {L : jL} (hL : jOKL L) {a0 : Nat} {st1 : Nat} (ka0 : jK L a0 12) (ka1 : st1 < 26) {μ μ' : jM} {r : Int32} (h : f_X12_takesOf a0 st1 μ = some ((r, μ'))) : jCt l G L 7 yX12_takesOf cX12_takesOf 3 (some .int) [.ref (L.2.2 a0), .ref (G.2.2.2.1 st1)] μ (some (.int r)) μ' := by
  refine jCt_of (by decide) (Nat.le_of_ble_eq_true rfl) (fun X hC hX hR => ?_)
  subst hX
  have hC : jC X G cX12_takesOf 3 RX12 (some .int) := hC
  unfold f_X12_takesOf at h
  show jJ X G 3 L 0 0 (jQM X G L (some (.int r)) μ' 0 0) 0 [(0, .ref (L.2.2 a0)), (1, .ref (G.2.2.2.1 st1))] [] μ
  refine j_iconst (pc := 0) hC (0 : Int32) dX12_takesOf_0 (by decide) ?_
  refine j_istore_n (pc := 1) hC 2 [(2, .int (0 : Int32)), (0, .ref (L.2.2 a0)), (1, .ref (G.2.2.2.1 st1))] dX12_takesOf_1 rfl (by decide) rfl rfl ?_
  obtain ⟨w11, hw12, h⟩ := jcl_some h
  refine j_lv [1, 2, 0] rfl ?_
  refine j_loop (step := (fun (s : Int32) => f_X12_takesOf_L2 a0 st1 μ s)) (P := (fun (s : Int32) => jJ X G 3 L 0 0 (jQM X G L (some (.int r)) μ' 0 0) 2 [(0, .ref (L.2.2 a0)), (1, .ref (G.2.2.2.1 st1)), (2, .int s)] [] μ)) (R := (fun (e : (Int32) ⊕ (Unit)) => match e with | .inl e => jJ X G 3 L 0 0 (jQM X G L (some (.int r)) μ' 0 0) 38 [(0, .ref (L.2.2 a0)), (2, .int e)] [] μ | .inr e => jJ X G 3 L 0 0 (jQM X G L (some (.int r)) μ' 0 0) 56 [] [] μ)) ?_ jfu (0 : Int32) w11 hw12 ?_
  · intro u1 o h hk
    change f_X12_takesOf_L2 a0 st1 μ u1 = some o at h
    unfold f_X12_takesOf_L2 at h
    show jJ X G 3 L 0 0 (jQM X G L (some (.int r)) μ' 0 0) 2 [(0, .ref (L.2.2 a0)), (1, .ref (G.2.2.2.1 st1)), (2, .int u1)] [] μ
    refine j_iload_n (pc := 2) hC 2 2 dX12_takesOf_2 rfl rfl ?_
    refine j_aload_n (pc := 3) hC 1 1 dX12_takesOf_3 rfl rfl ?_
    refine j_slen (pc := 4) hC hR kw_X12_38 dX12_takesOf_4 ka1 (by decide) (Nat.le_of_ble_eq_true rfl) ?_
    refine j_icmp_ge (pc := 7) hC 56 dX12_takesOf_7 (by decide) (fun c2 => ?_) (fun c2 => ?_)
    · rw [if_pos c2] at h
      obtain rfl := Option.some.inj h
      have hk : jJ X G 3 L 0 0 (jQM X G L (some (.int r)) μ' 0 0) 56 [] [] μ := hk
      exact j_lv [] rfl hk
    · rw [if_neg c2] at h
      refine j_aload_n (pc := 10) hC 0 0 dX12_takesOf_10 rfl rfl ?_
      refine jgi_12 (pc := 11) hC 5 (by decide) rfl kf_X12_28 dX12_takesOf_11 ka0 ?_
      refine j_aload_n (pc := 14) hC 0 0 dX12_takesOf_14 rfl rfl ?_
      refine jgi_12 (pc := 15) hC 6 (by decide) rfl kf_X12_25 dX12_takesOf_15 ka0 ?_
      refine j_icmp_ge (pc := 18) hC 56 dX12_takesOf_18 (by decide) (fun c3 => ?_) (fun c3 => ?_)
      · rw [if_pos c3] at h
        obtain rfl := Option.some.inj h
        have hk : jJ X G 3 L 0 0 (jQM X G L (some (.int r)) μ' 0 0) 56 [] [] μ := hk
        exact j_lv [] rfl hk
      · rw [if_neg c3] at h
        refine j_aload_n (pc := 21) hC 1 1 dX12_takesOf_21 rfl rfl ?_
        refine j_iload_n (pc := 22) hC 2 2 dX12_takesOf_22 rfl rfl ?_
        obtain ⟨i4, v5, e6, h⟩ := jrd_some h
        refine j_schar (pc := 23) hC hR kw_X12_44 dX12_takesOf_23 ka1 i4 e6 (by decide) (Nat.le_of_ble_eq_true rfl) ?_
        refine j_aload_n (pc := 26) hC 0 0 dX12_takesOf_26 rfl rfl ?_
        refine jgr_12 (pc := 27) hC 3 (by decide) rfl kf_X12_17 dX12_takesOf_27 ka0 (ly_12_3 hL ka0).1 ?_
        refine j_aload_n (pc := 30) hC 0 0 dX12_takesOf_30 rfl rfl ?_
        refine jgi_12 (pc := 31) hC 5 (by decide) rfl kf_X12_28 dX12_takesOf_31 ka0 ?_
        obtain ⟨i7, v8, e9, h⟩ := jrd_some h
        refine j_iald (pc := 34) hC dX12_takesOf_34 (ly_12_3 hL ka0).2.1 (ly_12_3 hL ka0).2.2 i7 e9 ?_
        refine j_icmp_ne (pc := 35) hC 50 dX12_takesOf_35 (by decide) (fun c10 => ?_) (fun c10 => ?_)
        · rw [if_neg c10] at h
          refine j_iinc (pc := 50) hC 2 (u1 + (1 : Int32)) [(2, .int (u1 + (1 : Int32))), (0, .ref (L.2.2 a0)), (1, .ref (G.2.2.2.1 st1))] dX12_takesOf_50 rfl rfl (by decide) rfl ?_
          refine j_goto (pc := 53) hC 2 dX12_takesOf_53 (by decide) ?_
          obtain rfl := Option.some.inj h
          have hk : jJ X G 3 L 0 0 (jQM X G L (some (.int r)) μ' 0 0) 2 [(0, .ref (L.2.2 a0)), (1, .ref (G.2.2.2.1 st1)), (2, .int (u1 + (1 : Int32)))] [] μ := hk
          exact j_lv [1, 2, 0] rfl hk
        · rw [if_pos c10] at h
          obtain rfl := Option.some.inj h
          have hk : jJ X G 3 L 0 0 (jQM X G L (some (.int r)) μ' 0 0) 38 [(0, .ref (L.2.2 a0)), (2, .int u1)] [] μ := hk
          exact j_lv [0, 2] rfl hk
  · cases w11 with
    | inl w11 =>
      try dsimp only at h
      obtain ⟨z14, rfl⟩ : ∃ y, y = w11 := ⟨_, rfl⟩
      try dsimp only at h
      show jJ X G 3 L 0 0 (jQM X G L (some (.int r)) μ' 0 0) 38 [(0, .ref (L.2.2 a0)), (2, .int z14)] [] μ
      refine j_aload_n (pc := 38) hC 0 0 dX12_takesOf_38 rfl rfl ?_
      refine j_dup (pc := 39) hC dX12_takesOf_39 rfl ?_
      refine jgi_12 (pc := 40) hC 5 (by decide) rfl kf_X12_28 dX12_takesOf_40 ka0 ?_
      refine j_iconst (pc := 43) hC (1 : Int32) dX12_takesOf_43 (by decide) ?_
      refine j_iadd (pc := 44) hC dX12_takesOf_44 ?_
      obtain ⟨m15, e16, h⟩ := jbd_ex h
      refine jpi_12 (pc := 45) hC 5 (by decide) rfl kf_X12_28 dX12_takesOf_45 rfl (by decide) ka0 e16 ?_
      refine j_iload_n (pc := 48) hC 2 1 dX12_takesOf_48 rfl rfl ?_
      obtain ⟨rfl, rfl⟩ := Prod.mk.inj (Option.some.inj h)
      exact j_iret (pc := 49) hC dX12_takesOf_49 rfl
    | inr w11 =>
      try dsimp only at h
      try dsimp only at h
      show jJ X G 3 L 0 0 (jQM X G L (some (.int r)) μ' 0 0) 56 [] [] μ
      refine j_iconst (pc := 56) hC (-1 : Int32) dX12_takesOf_56 (by decide) ?_
      obtain ⟨rfl, rfl⟩ := Prod.mk.inj (Option.some.inj h)
      exact j_iret (pc := 57) hC dX12_takesOf_57 rfl
theorem dX12_two_0 : decode cX12_two 0 = .ok (.aload_n 0, 1) := by decide +kernel
theorem dX12_two_1 : decode cX12_two 1 = .ok (.ldc 48, 2) := by decide +kernel
theorem dX12_two_3 : decode cX12_two 3 = .ok (.invokevirtual 50, 3) := by decide +kernel
theorem dX12_two_6 : decode cX12_two 6 = .ok (.istore_n 1, 1) := by decide +kernel
theorem dX12_two_7 : decode cX12_two 7 = .ok (.iload_n 1, 1) := by decide +kernel
theorem dX12_two_8 : decode cX12_two 8 = .ok (.ifCond .ge 7, 3) := by decide +kernel
theorem dX12_two_11 : decode cX12_two 11 = .ok (.iconst (-1), 1) := by decide +kernel
theorem dX12_two_12 : decode cX12_two 12 = .ok (.goto 9, 3) := by decide +kernel
theorem dX12_two_15 : decode cX12_two 15 = .ok (.aload_n 0, 1) := by decide +kernel
theorem dX12_two_16 : decode cX12_two 16 = .ok (.ldc 48, 2) := by decide +kernel
theorem dX12_two_18 : decode cX12_two 18 = .ok (.invokevirtual 50, 3) := by decide +kernel
theorem dX12_two_21 : decode cX12_two 21 = .ok (.istore_n 2, 1) := by decide +kernel
theorem dX12_two_22 : decode cX12_two 22 = .ok (.iload_n 2, 1) := by decide +kernel
theorem dX12_two_23 : decode cX12_two 23 = .ok (.ifCond .ge 7, 3) := by decide +kernel
theorem dX12_two_26 : decode cX12_two 26 = .ok (.iconst (-1), 1) := by decide +kernel
theorem dX12_two_27 : decode cX12_two 27 = .ok (.goto 9, 3) := by decide +kernel
theorem dX12_two_30 : decode cX12_two 30 = .ok (.bipush 10, 2) := by decide +kernel
theorem dX12_two_32 : decode cX12_two 32 = .ok (.iload_n 1, 1) := by decide +kernel
theorem dX12_two_33 : decode cX12_two 33 = .ok (.imul, 1) := by decide +kernel
theorem dX12_two_34 : decode cX12_two 34 = .ok (.iload_n 2, 1) := by decide +kernel
theorem dX12_two_35 : decode cX12_two 35 = .ok (.iadd, 1) := by decide +kernel
theorem dX12_two_36 : decode cX12_two 36 = .ok (.ireturn, 1) := by decide +kernel
def f_X12_two (a0 : Nat) (μ : jM) : Option (Int32 × jM) :=
  jcl2 (f_X12_takesOf a0 15 μ) (fun v1 m2 => jbd (fun (t4 : Int32) (m5 : jM) => some (((if (0 : Int32) ≤ t4 then ((10 : Int32) * v1) + t4 else (-1 : Int32)), m5))) (fun k6 => (if (0 : Int32) ≤ v1 then jcl2 (f_X12_takesOf a0 15 m2) (fun v11 m12 => k6 v11 m12) else k6 (-1 : Int32) m2)))
set_option maxHeartbeats 4000000 in
set_option maxRecDepth 100000 in
theorem c_X12_two {l : Launch} {G : jG} {L : jL} (hL : jOKL L) {a0 : Nat} (ka0 : jK L a0 12) {μ μ' : jM} {r : Int32} (h : f_X12_two a0 μ = some ((r, μ'))) : jCt l G L 8 yX12_two cX12_two 3 (some .int) [.ref (L.2.2 a0)] μ (some (.int r)) μ' := by
  refine jCt_of (by decide) (Nat.le_of_ble_eq_true rfl) (fun X hC hX hR => ?_)
  subst hX
  have hC : jC X G cX12_two 3 RX12 (some .int) := hC
  unfold f_X12_two at h
  show jJ X G 3 L 0 0 (jQM X G L (some (.int r)) μ' 0 0) 0 [(0, .ref (L.2.2 a0))] [] μ
  refine j_aload_n (pc := 0) hC 0 0 dX12_two_0 rfl rfl ?_
  refine j_ldcS (pc := 1) hC 15 ks_X12_48 dX12_two_1 ?_
  obtain ⟨v1, m2, e3, h⟩ := jcl2_some h
  refine j_vi (pc := 3) hC hR [.ref (G.2.2.2.1 15)] iy_X12_takesOf (q := (RX12, TX12, 40)) (ci := 12) rfl rfl (by decide) km_X12_50 dX12_two_3 rfl (by decide) ka0 (c_X12_takesOf hL ka0 (by decide) e3) (by decide) (Nat.le_of_ble_eq_true rfl) rfl ?_
  refine j_istore_n (pc := 6) hC 1 [(1, .int v1), (0, .ref (L.2.2 a0))] dX12_two_6 rfl (by decide) rfl rfl ?_
  refine j_iload_n (pc := 7) hC 1 0 dX12_two_7 rfl rfl ?_
  obtain ⟨k6, e8, h⟩ := jbd_ex h
  have q7 : ∀ (t4 : Int32) (m5 : jM), k6 t4 m5 = some ((r, μ')) → jJ X G 3 L 0 0 (jQM X G L (some (.int r)) μ' 0 0) 21 [(1, .int v1)] [.int t4] m5 := by
    intro t4 m5 h
    rw [e8] at h
    try dsimp only at h
    refine j_istore_n (pc := 21) hC 2 [(2, .int t4), (1, .int v1)] dX12_two_21 rfl (by decide) rfl rfl ?_
    refine j_iload_n (pc := 22) hC 2 0 dX12_two_22 rfl rfl ?_
    refine jmg (B := jJ X G 3 L 0 0 (jQM X G L (some (.int r)) μ' 0 0) 36 [(2, .int t4), (1, .int v1)] [.int ((if (0 : Int32) ≤ t4 then ((10 : Int32) * v1) + t4 else (-1 : Int32)))] m5) (fun hj => ?_) ?_
    · refine j_if_ge (pc := 23) hC 30 dX12_two_23 (by decide) (fun c9 => ?_) (fun c9 => ?_)
      · rw [if_pos c9] at hj
        refine j_bipush (pc := 30) hC (10 : Int32) dX12_two_30 (by decide) ?_
        refine j_iload_n (pc := 32) hC 1 1 dX12_two_32 rfl rfl ?_
        refine j_imul (pc := 33) hC dX12_two_33 ?_
        refine j_iload_n (pc := 34) hC 2 0 dX12_two_34 rfl rfl ?_
        refine j_iadd (pc := 35) hC dX12_two_35 ?_
        exact hj
      · rw [if_neg c9] at hj
        refine j_iconst (pc := 26) hC (-1 : Int32) dX12_two_26 (by decide) ?_
        refine j_goto (pc := 27) hC 36 dX12_two_27 (by decide) ?_
        exact hj
    obtain ⟨rfl, rfl⟩ := Prod.mk.inj (Option.some.inj h)
    exact j_iret (pc := 36) hC dX12_two_36 rfl
  refine j_if_ge (pc := 8) hC 15 dX12_two_8 (by decide) (fun c10 => ?_) (fun c10 => ?_)
  · rw [if_pos c10] at h
    refine j_aload_n (pc := 15) hC 0 1 dX12_two_15 rfl rfl ?_
    refine j_ldcS (pc := 16) hC 15 ks_X12_48 dX12_two_16 ?_
    obtain ⟨v11, m12, e13, h⟩ := jcl2_some h
    refine j_vi (pc := 18) hC hR [.ref (G.2.2.2.1 15)] iy_X12_takesOf (q := (RX12, TX12, 40)) (ci := 12) rfl rfl (by decide) km_X12_50 dX12_two_18 rfl (by decide) ka0 (c_X12_takesOf hL ka0 (by decide) e13) (by decide) (Nat.le_of_ble_eq_true rfl) rfl ?_
    exact j_lv [0] rfl (q7 _ _ h)
  · rw [if_neg c10] at h
    refine j_iconst (pc := 11) hC (-1 : Int32) dX12_two_11 (by decide) ?_
    refine j_goto (pc := 12) hC 21 dX12_two_12 (by decide) ?_
    exact j_lv [0] rfl (q7 _ _ h)
theorem dX12_copies_0 : decode cX12_copies 0 = .ok (.iconst 0, 1) := by decide +kernel
theorem dX12_copies_1 : decode cX12_copies 1 = .ok (.istore_n 3, 1) := by decide +kernel
theorem dX12_copies_2 : decode cX12_copies 2 = .ok (.iload_n 3, 1) := by decide +kernel
theorem dX12_copies_3 : decode cX12_copies 3 = .ok (.bipush 61, 2) := by decide +kernel
theorem dX12_copies_5 : decode cX12_copies 5 = .ok (.if_icmp .ge 31, 3) := by decide +kernel
theorem dX12_copies_8 : decode cX12_copies 8 = .ok (.aload_n 0, 1) := by decide +kernel
theorem dX12_copies_9 : decode cX12_copies 9 = .ok (.getfield 60, 3) := by decide +kernel
theorem dX12_copies_12 : decode cX12_copies 12 = .ok (.iload_n 2, 1) := by decide +kernel
theorem dX12_copies_13 : decode cX12_copies 13 = .ok (.bipush 61, 2) := by decide +kernel
theorem dX12_copies_15 : decode cX12_copies 15 = .ok (.imul, 1) := by decide +kernel
theorem dX12_copies_16 : decode cX12_copies 16 = .ok (.iload_n 3, 1) := by decide +kernel
theorem dX12_copies_17 : decode cX12_copies 17 = .ok (.iadd, 1) := by decide +kernel
theorem dX12_copies_18 : decode cX12_copies 18 = .ok (.aload_n 0, 1) := by decide +kernel
theorem dX12_copies_19 : decode cX12_copies 19 = .ok (.getfield 60, 3) := by decide +kernel
theorem dX12_copies_22 : decode cX12_copies 22 = .ok (.iload_n 1, 1) := by decide +kernel
theorem dX12_copies_23 : decode cX12_copies 23 = .ok (.bipush 61, 2) := by decide +kernel
theorem dX12_copies_25 : decode cX12_copies 25 = .ok (.imul, 1) := by decide +kernel
theorem dX12_copies_26 : decode cX12_copies 26 = .ok (.iload_n 3, 1) := by decide +kernel
theorem dX12_copies_27 : decode cX12_copies 27 = .ok (.iadd, 1) := by decide +kernel
theorem dX12_copies_28 : decode cX12_copies 28 = .ok (.iaload, 1) := by decide +kernel
theorem dX12_copies_29 : decode cX12_copies 29 = .ok (.iastore, 1) := by decide +kernel
theorem dX12_copies_30 : decode cX12_copies 30 = .ok (.iinc 3 1, 3) := by decide +kernel
theorem dX12_copies_33 : decode cX12_copies 33 = .ok (.goto (-31), 3) := by decide +kernel
theorem dX12_copies_36 : decode cX12_copies 36 = .ok (.return_, 1) := by decide +kernel
def f_X12_copies_L2 (a0 : Nat) (x1 : Int32) (x2 : Int32) (u1 : Int32) (m2 : jM) : Option ((Int32 × jM) ⊕ (jM)) :=
  (if (61 : Int32) ≤ u1 then some (.inr m2) else jrd (m2.1 (a0 + 3)) ((x1 * (61 : Int32)) + u1) 2074 (fun v5 => jin ((x2 * (61 : Int32)) + u1) 2074 (jbd (jsi m2 (a0 + 3) ((x2 * (61 : Int32)) + u1).toNatClampNeg v5) (fun m8 => some (.inl ((u1 + (1 : Int32), m8)))))))
def f_X12_copies (a0 : Nat) (x1 : Int32) (x2 : Int32) (μ : jM) : Option (jM) :=
  jcl (jloop (fun (s : Int32 × jM) => f_X12_copies_L2 a0 x1 x2 s.1 s.2) jfu (((0 : Int32), μ))) (fun w10 => some w10)
set_option maxHeartbeats 4000000 in
set_option maxRecDepth 100000 in
theorem c_X12_copies {l : Launch} {G : jG} {L : jL} (hL : jOKL L) {a0 : Nat} {x1 : Int32} {x2 : Int32} (ka0 : jK L a0 12) {μ μ' : jM} (h : f_X12_copies a0 x1 x2 μ = some μ') : jCt l G L 3 yX12_copies cX12_copies 4 none [.ref (L.2.2 a0), .int x1, .int x2] μ none μ' := by
  refine jCt_of (by decide) (Nat.le_of_ble_eq_true rfl) (fun X hC hX hR => ?_)
  subst hX
  have hC : jC X G cX12_copies 4 RX12 none := hC
  unfold f_X12_copies at h
  show jJ X G 4 L 0 0 (jQM X G L none μ' 0 0) 0 [(0, .ref (L.2.2 a0)), (1, .int x1), (2, .int x2)] [] μ
  refine j_iconst (pc := 0) hC (0 : Int32) dX12_copies_0 (by decide) ?_
  refine j_istore_n (pc := 1) hC 3 [(3, .int (0 : Int32)), (0, .ref (L.2.2 a0)), (1, .int x1), (2, .int x2)] dX12_copies_1 rfl (by decide) rfl rfl ?_
  obtain ⟨w10, hw11, h⟩ := jcl_some h
  refine j_lv [1, 2, 3, 0] rfl ?_
  refine j_loop (step := (fun (s : Int32 × jM) => f_X12_copies_L2 a0 x1 x2 s.1 s.2)) (P := (fun (s : Int32 × jM) => jJ X G 4 L 0 0 (jQM X G L none μ' 0 0) 2 [(0, .ref (L.2.2 a0)), (1, .int x1), (2, .int x2), (3, .int s.1)] [] s.2)) (R := (fun (e : jM) => jJ X G 4 L 0 0 (jQM X G L none μ' 0 0) 36 [] [] e)) ?_ jfu (((0 : Int32), μ)) w10 hw11 ?_
  · intro s12 o h hk
    obtain ⟨u1, m2⟩ := s12
    change f_X12_copies_L2 a0 x1 x2 u1 m2 = some o at h
    unfold f_X12_copies_L2 at h
    show jJ X G 4 L 0 0 (jQM X G L none μ' 0 0) 2 [(0, .ref (L.2.2 a0)), (1, .int x1), (2, .int x2), (3, .int u1)] [] m2
    refine j_iload_n (pc := 2) hC 3 3 dX12_copies_2 rfl rfl ?_
    refine j_bipush (pc := 3) hC (61 : Int32) dX12_copies_3 (by decide) ?_
    refine j_icmp_ge (pc := 5) hC 36 dX12_copies_5 (by decide) (fun c3 => ?_) (fun c3 => ?_)
    · rw [if_pos c3] at h
      obtain rfl := Option.some.inj h
      have hk : jJ X G 4 L 0 0 (jQM X G L none μ' 0 0) 36 [] [] m2 := hk
      exact j_lv [] rfl hk
    · rw [if_neg c3] at h
      refine j_aload_n (pc := 8) hC 0 0 dX12_copies_8 rfl rfl ?_
      refine jgr_12 (pc := 9) hC 8 (by decide) rfl kf_X12_60 dX12_copies_9 ka0 (ly_12_8 hL ka0).1 ?_
      refine j_iload_n (pc := 12) hC 2 2 dX12_copies_12 rfl rfl ?_
      refine j_bipush (pc := 13) hC (61 : Int32) dX12_copies_13 (by decide) ?_
      refine j_imul (pc := 15) hC dX12_copies_15 ?_
      refine j_iload_n (pc := 16) hC 3 3 dX12_copies_16 rfl rfl ?_
      refine j_iadd (pc := 17) hC dX12_copies_17 ?_
      refine j_aload_n (pc := 18) hC 0 0 dX12_copies_18 rfl rfl ?_
      refine jgr_12 (pc := 19) hC 8 (by decide) rfl kf_X12_60 dX12_copies_19 ka0 (ly_12_8 hL ka0).1 ?_
      refine j_iload_n (pc := 22) hC 1 1 dX12_copies_22 rfl rfl ?_
      refine j_bipush (pc := 23) hC (61 : Int32) dX12_copies_23 (by decide) ?_
      refine j_imul (pc := 25) hC dX12_copies_25 ?_
      refine j_iload_n (pc := 26) hC 3 3 dX12_copies_26 rfl rfl ?_
      refine j_iadd (pc := 27) hC dX12_copies_27 ?_
      obtain ⟨i4, v5, e6, h⟩ := jrd_some h
      refine j_iald (pc := 28) hC dX12_copies_28 (ly_12_8 hL ka0).2.1 (ly_12_8 hL ka0).2.2 i4 e6 ?_
      obtain ⟨i7, h⟩ := jin_some h
      obtain ⟨m8, e9, h⟩ := jbd_ex h
      refine j_iast (pc := 29) hC dX12_copies_29 (ly_12_8 hL ka0).2.1 (ly_12_8 hL ka0).2.2 i7 e9 ?_
      refine j_iinc (pc := 30) hC 3 (u1 + (1 : Int32)) [(3, .int (u1 + (1 : Int32))), (0, .ref (L.2.2 a0)), (1, .int x1), (2, .int x2)] dX12_copies_30 rfl rfl (by decide) rfl ?_
      refine j_goto (pc := 33) hC 2 dX12_copies_33 (by decide) ?_
      obtain rfl := Option.some.inj h
      have hk : jJ X G 4 L 0 0 (jQM X G L none μ' 0 0) 2 [(0, .ref (L.2.2 a0)), (1, .int x1), (2, .int x2), (3, .int (u1 + (1 : Int32)))] [] m8 := hk
      exact j_lv [1, 2, 3, 0] rfl hk
  · obtain ⟨m13, rfl⟩ : ∃ y, y = w10 := ⟨_, rfl⟩
    try dsimp only at h
    show jJ X G 4 L 0 0 (jQM X G L none μ' 0 0) 36 [] [] m13
    obtain rfl := Option.some.inj h
    exact j_vret (pc := 36) hC dX12_copies_36 rfl
