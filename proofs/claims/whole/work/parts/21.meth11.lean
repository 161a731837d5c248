theorem dX11_tellBlamed_0 : decode cX11_tellBlamed 0 = .ok (.iload_n 1, 1) := by decide +kernel
theorem dX11_tellBlamed_1 : decode cX11_tellBlamed 1 = .ok (.ifCond .ne 6, 3) := by decide +kernel
theorem dX11_tellBlamed_4 : decode cX11_tellBlamed 4 = .ok (.bipush (-2), 2) := by decide +kernel
theorem dX11_tellBlamed_6 : decode cX11_tellBlamed 6 = .ok (.ireturn, 1) := by decide +kernel
theorem dX11_tellBlamed_7 : decode cX11_tellBlamed 7 = .ok (.aload_n 0, 1) := by decide +kernel
theorem dX11_tellBlamed_8 : decode cX11_tellBlamed 8 = .ok (.getfield 19, 3) := by decide +kernel
theorem dX11_tellBlamed_11 : decode cX11_tellBlamed 11 = .ok (.iload_n 1, 1) := by decide +kernel
theorem dX11_tellBlamed_12 : decode cX11_tellBlamed 12 = .ok (.invokestatic 284, 3) := by decide +kernel
theorem dX11_tellBlamed_15 : decode cX11_tellBlamed 15 = .ok (.i2l, 1) := by decide +kernel
theorem dX11_tellBlamed_16 : decode cX11_tellBlamed 16 = .ok (.invokevirtual 235, 3) := by decide +kernel
theorem dX11_tellBlamed_19 : decode cX11_tellBlamed 19 = .ok (.iload_n 1, 1) := by decide +kernel
theorem dX11_tellBlamed_20 : decode cX11_tellBlamed 20 = .ok (.ireturn, 1) := by decide +kernel
def f_X11_tellBlamed (a0 : Nat) (x1 : Int32) (μ : jM) : Option (Int32 × jM) :=
  (if x1 = (0 : Int32) then some (((-2 : Int32), μ)) else jcl (f_X3_only (a0 + 3) ((f_J6_bitCount_0f7a4 x1).toInt64) μ) (fun m2 => some ((x1, m2))))
set_option maxHeartbeats 4000000 in
set_option maxRecDepth 100000 in
theorem c_X11_tellBlamed {l : Launch} {G : jG} {L : jL} (hL : jOKL L) {a0 : Nat} {x1 : Int32} (ka0 : jK L a0 11) {μ μ' : jM} {r : Int32} (h : f_X11_tellBlamed a0 x1 μ = some ((r, μ'))) : jCt l G L 5 yX11_tellBlamed cX11_tellBlamed 2 (some .int) [.ref (L.2.2 a0), .int x1] μ (some (.int r)) μ' := by
  refine jCt_of (by decide) (Nat.le_of_ble_eq_true rfl) (fun X hC hX hR => ?_)
  subst hX
  have hC : jC X G cX11_tellBlamed 2 RX11 (some .int) := hC
  unfold f_X11_tellBlamed at h
  show jJ X G 2 L 0 0 (jQM X G L (some (.int r)) μ' 0 0) 0 [(0, .ref (L.2.2 a0)), (1, .int x1)] [] μ
  refine j_iload_n (pc := 0) hC 1 1 dX11_tellBlamed_0 rfl rfl ?_
  refine j_if_ne (pc := 1) hC 7 dX11_tellBlamed_1 (by decide) (fun c1 => ?_) (fun c1 => ?_)
  · rw [if_neg c1] at h
    refine j_aload_n (pc := 7) hC 0 0 dX11_tellBlamed_7 rfl rfl ?_
    refine jgr_11 (pc := 8) hC 1 (by decide) rfl kf_X11_19 dX11_tellBlamed_8 ka0 (ly_11_1 hL ka0).1 ?_
    refine j_iload_n (pc := 11) hC 1 1 dX11_tellBlamed_11 rfl rfl ?_
    refine j_si (pc := 12) hC hR [.int x1] iy_J6_bitCount_0f7a4 km_X11_284 dX11_tellBlamed_12 rfl (by decide) (c_J6_bitCount_0f7a4 hL  rfl) (by decide) (Nat.le_of_ble_eq_true rfl) rfl ?_
    refine j_i2l (pc := 15) hC dX11_tellBlamed_15 ?_
    obtain ⟨m2, e3, h⟩ := jcl_some h
    refine j_vv (pc := 16) hC hR [.long ((f_J6_bitCount_0f7a4 x1).toInt64)] iy_X3_only (q := (RX3, TX3, 2)) (ci := 3) rfl rfl (by decide) km_X11_235 dX11_tellBlamed_16 rfl (by decide) (ly_11_1 hL ka0).2.1 (c_X3_only hL (ly_11_1 hL ka0).2.1 e3) (by decide) (Nat.le_of_ble_eq_true rfl) rfl ?_
    refine j_iload_n (pc := 19) hC 1 1 dX11_tellBlamed_19 rfl rfl ?_
    obtain ⟨rfl, rfl⟩ := Prod.mk.inj (Option.some.inj h)
    exact j_iret (pc := 20) hC dX11_tellBlamed_20 rfl
  · rw [if_pos c1] at h
    refine j_bipush (pc := 4) hC (-2 : Int32) dX11_tellBlamed_4 (by decide) ?_
    obtain ⟨rfl, rfl⟩ := Prod.mk.inj (Option.some.inj h)
    exact j_iret (pc := 6) hC dX11_tellBlamed_6 rfl
theorem dX11_culprits_0 : decode cX11_culprits 0 = .ok (.aload_n 0, 1) := by decide +kernel
theorem dX11_culprits_1 : decode cX11_culprits 1 = .ok (.aload_n 0, 1) := by decide +kernel
theorem dX11_culprits_2 : decode cX11_culprits 2 = .ok (.iconst (-1), 1) := by decide +kernel
theorem dX11_culprits_3 : decode cX11_culprits 3 = .ok (.iconst (-1), 1) := by decide +kernel
theorem dX11_culprits_4 : decode cX11_culprits 4 = .ok (.invokevirtual 363, 3) := by decide +kernel
theorem dX11_culprits_7 : decode cX11_culprits 7 = .ok (.invokevirtual 366, 3) := by decide +kernel
theorem dX11_culprits_10 : decode cX11_culprits 10 = .ok (.ireturn, 1) := by decide +kernel
def f_X11_culprits (a0 : Nat) (μ : jM) : Option (Int32 × jM) :=
  jcl2 (f_X11_fewestBlamed a0 (-1 : Int32) (-1 : Int32) μ) (fun v1 m2 => jcl2 (f_X11_tellBlamed a0 v1 m2) (fun v4 m5 => some ((v4, m5))))
set_option maxHeartbeats 4000000 in
set_option maxRecDepth 100000 in
theorem c_X11_culprits {l : Launch} {G : jG} {L : jL} (hL : jOKL L) {a0 : Nat} (ka0 : jK L a0 11) {μ μ' : jM} {r : Int32} (h : f_X11_culprits a0 μ = some ((r, μ'))) : jCt l G L 8 yX11_culprits cX11_culprits 1 (some .int) [.ref (L.2.2 a0)] μ (some (.int r)) μ' := by
  refine jCt_of (by decide) (Nat.le_of_ble_eq_true rfl) (fun X hC hX hR => ?_)
  subst hX
  have hC : jC X G cX11_culprits 1 RX11 (some .int) := hC
  unfold f_X11_culprits at h
  show jJ X G 1 L 0 0 (jQM X G L (some (.int r)) μ' 0 0) 0 [(0, .ref (L.2.2 a0))] [] μ
  refine j_aload_n (pc := 0) hC 0 0 dX11_culprits_0 rfl rfl ?_
  refine j_aload_n (pc := 1) hC 0 0 dX11_culprits_1 rfl rfl ?_
  refine j_iconst (pc := 2) hC (-1 : Int32) dX11_culprits_2 (by decide) ?_
  refine j_iconst (pc := 3) hC (-1 : Int32) dX11_culprits_3 (by decide) ?_
  obtain ⟨v1, m2, e3, h⟩ := jcl2_some h
  refine j_vi (pc := 4) hC hR [.int (-1 : Int32), .int (-1 : Int32)] iy_X11_fewestBlamed (q := (RX11, TX11, 15)) (ci := 11) rfl rfl (by decide) km_X11_363 dX11_culprits_4 rfl (by decide) ka0 (c_X11_fewestBlamed hL ka0 e3) (by decide) (Nat.le_of_ble_eq_true rfl) rfl ?_
  obtain ⟨v4, m5, e6, h⟩ := jcl2_some h
  refine j_vi (pc := 7) hC hR [.int v1] iy_X11_tellBlamed (q := (RX11, TX11, 15)) (ci := 11) rfl rfl (by decide) km_X11_366 dX11_culprits_7 rfl (by decide) ka0 (c_X11_tellBlamed hL ka0 e6) (by decide) (Nat.le_of_ble_eq_true rfl) rfl ?_
  obtain ⟨rfl, rfl⟩ := Prod.mk.inj (Option.some.inj h)
  exact j_iret (pc := 10) hC dX11_culprits_10 rfl
theorem dX11_why_0 : decode cX11_why 0 = .ok (.iload_n 1, 1) := by decide +kernel
theorem dX11_why_1 : decode cX11_why 1 = .ok (.invokestatic 122, 3) := by decide +kernel
theorem dX11_why_4 : decode cX11_why 4 = .ok (.ifCond .eq 10, 3) := by decide +kernel
theorem dX11_why_7 : decode cX11_why 7 = .ok (.iload_n 2, 1) := by decide +kernel
theorem dX11_why_8 : decode cX11_why 8 = .ok (.invokestatic 357, 3) := by decide +kernel
theorem dX11_why_11 : decode cX11_why 11 = .ok (.ifCond .ne 5, 3) := by decide +kernel
theorem dX11_why_14 : decode cX11_why 14 = .ok (.iconst (-1), 1) := by decide +kernel
theorem dX11_why_15 : decode cX11_why 15 = .ok (.ireturn, 1) := by decide +kernel
theorem dX11_why_16 : decode cX11_why 16 = .ok (.aload_n 0, 1) := by decide +kernel
theorem dX11_why_17 : decode cX11_why 17 = .ok (.getfield 26, 3) := by decide +kernel
theorem dX11_why_20 : decode cX11_why 20 = .ok (.getfield 42, 3) := by decide +kernel
theorem dX11_why_23 : decode cX11_why 23 = .ok (.iload_n 1, 1) := by decide +kernel
theorem dX11_why_24 : decode cX11_why 24 = .ok (.iload_n 2, 1) := by decide +kernel
theorem dX11_why_25 : decode cX11_why 25 = .ok (.invokevirtual 350, 3) := by decide +kernel
theorem dX11_why_28 : decode cX11_why 28 = .ok (.ifCond .ne 6, 3) := by decide +kernel
theorem dX11_why_31 : decode cX11_why 31 = .ok (.bipush (-3), 2) := by decide +kernel
theorem dX11_why_33 : decode cX11_why 33 = .ok (.ireturn, 1) := by decide +kernel
theorem dX11_why_34 : decode cX11_why 34 = .ok (.aload_n 0, 1) := by decide +kernel
theorem dX11_why_35 : decode cX11_why 35 = .ok (.aload_n 0, 1) := by decide +kernel
theorem dX11_why_36 : decode cX11_why 36 = .ok (.iload_n 1, 1) := by decide +kernel
theorem dX11_why_37 : decode cX11_why 37 = .ok (.iload_n 2, 1) := by decide +kernel
theorem dX11_why_38 : decode cX11_why 38 = .ok (.invokevirtual 363, 3) := by decide +kernel
theorem dX11_why_41 : decode cX11_why 41 = .ok (.invokevirtual 366, 3) := by decide +kernel
theorem dX11_why_44 : decode cX11_why 44 = .ok (.ireturn, 1) := by decide +kernel
def f_X11_why (a0 : Nat) (x1 : Int32) (x2 : Int32) (μ : jM) : Option (Int32 × jM) :=
  (if (f_X11_isVariable x1) = (0 : Int32) then some (((-1 : Int32), μ)) else (if (f_X11_isValue x2) = (0 : Int32) then some (((-1 : Int32), μ)) else jcl (f_X9_hasValue (a0 + 6) x1 x2 μ) (fun v3 => (if v3 = (0 : Int32) then some (((-3 : Int32), μ)) else jcl2 (f_X11_fewestBlamed a0 x1 x2 μ) (fun v6 m7 => jcl2 (f_X11_tellBlamed a0 v6 m7) (fun v9 m10 => some ((v9, m10))))))))
set_option maxHeartbeats 4000000 in
set_option maxRecDepth 100000 in
theorem c_X11_why {l : Launch} {G : jG} {L : jL} (hL : jOKL L) {a0 : Nat} {x1 : Int32} {x2 : Int32} (ka0 : jK L a0 11) {μ μ' : jM} {r : Int32} (h : f_X11_why a0 x1 x2 μ = some ((r, μ'))) : jCt l G L 8 yX11_why cX11_why 3 (some .int) [.ref (L.2.2 a0), .int x1, .int x2] μ (some (.int r)) μ' := by
  refine jCt_of (by decide) (Nat.le_of_ble_eq_true rfl) (fun X hC hX hR => ?_)
  subst hX
  have hC : jC X G cX11_why 3 RX11 (some .int) := hC
  unfold f_X11_why at h
  show jJ X G 3 L 0 0 (jQM X G L (some (.int r)) μ' 0 0) 0 [(0, .ref (L.2.2 a0)), (1, .int x1), (2, .int x2)] [] μ
  refine j_iload_n (pc := 0) hC 1 1 dX11_why_0 rfl rfl ?_
  refine j_si (pc := 1) hC hR [.int x1] iy_X11_isVariable km_X11_122 dX11_why_1 rfl (by decide) (c_X11_isVariable hL  rfl) (by decide) (Nat.le_of_ble_eq_true rfl) rfl ?_
  refine j_if_eq (pc := 4) hC 14 dX11_why_4 (by decide) (fun c1 => ?_) (fun c1 => ?_)
  · rw [if_pos c1] at h
    refine j_iconst (pc := 14) hC (-1 : Int32) dX11_why_14 (by decide) ?_
    obtain ⟨rfl, rfl⟩ := Prod.mk.inj (Option.some.inj h)
    exact j_iret (pc := 15) hC dX11_why_15 rfl
  · rw [if_neg c1] at h
    refine j_iload_n (pc := 7) hC 2 2 dX11_why_7 rfl rfl ?_
    refine j_si (pc := 8) hC hR [.int x2] iy_X11_isValue km_X11_357 dX11_why_8 rfl (by decide) (c_X11_isValue hL  rfl) (by decide) (Nat.le_of_ble_eq_true rfl) rfl ?_
    refine j_if_ne (pc := 11) hC 16 dX11_why_11 (by decide) (fun c2 => ?_) (fun c2 => ?_)
    · rw [if_neg c2] at h
      refine j_aload_n (pc := 16) hC 0 0 dX11_why_16 rfl rfl ?_
      refine jgr_11 (pc := 17) hC 2 (by decide) rfl kf_X11_26 dX11_why_17 ka0 (ly_11_2 hL ka0).1 ?_
      refine jgr_7 (pc := 20) hC 0 (by decide) rfl kf_X11_42 dX11_why_20 (ly_11_2 hL ka0).2.1 (ly_7_0 hL (ly_11_2 hL ka0).2.1).1 ?_
      refine j_iload_n (pc := 23) hC 1 1 dX11_why_23 rfl rfl ?_
      refine j_iload_n (pc := 24) hC 2 2 dX11_why_24 rfl rfl ?_
      obtain ⟨v3, e4, h⟩ := jcl_some h
      refine j_vi (pc := 25) hC hR [.int x1, .int x2] iy_X9_hasValue (q := (RX9, TX9, 7)) (ci := 9) rfl rfl (by decide) km_X11_350 dX11_why_25 rfl (by decide) (ly_7_0 hL (ly_11_2 hL ka0).2.1).2.1 (c_X9_hasValue hL (ly_7_0 hL (ly_11_2 hL ka0).2.1).2.1 e4) (by decide) (Nat.le_of_ble_eq_true rfl) rfl ?_
      refine j_if_ne (pc := 28) hC 34 dX11_why_28 (by decide) (fun c5 => ?_) (fun c5 => ?_)
      · rw [if_neg c5] at h
        refine j_aload_n (pc := 34) hC 0 0 dX11_why_34 rfl rfl ?_
        refine j_aload_n (pc := 35) hC 0 0 dX11_why_35 rfl rfl ?_
        refine j_iload_n (pc := 36) hC 1 1 dX11_why_36 rfl rfl ?_
        refine j_iload_n (pc := 37) hC 2 2 dX11_why_37 rfl rfl ?_
        obtain ⟨v6, m7, e8, h⟩ := jcl2_some h
        refine j_vi (pc := 38) hC hR [.int x1, .int x2] iy_X11_fewestBlamed (q := (RX11, TX11, 15)) (ci := 11) rfl rfl (by decide) km_X11_363 dX11_why_38 rfl (by decide) ka0 (c_X11_fewestBlamed hL ka0 e8) (by decide) (Nat.le_of_ble_eq_true rfl) rfl ?_
        obtain ⟨v9, m10, e11, h⟩ := jcl2_some h
        refine j_vi (pc := 41) hC hR [.int v6] iy_X11_tellBlamed (q := (RX11, TX11, 15)) (ci := 11) rfl rfl (by decide) km_X11_366 dX11_why_41 rfl (by decide) ka0 (c_X11_tellBlamed hL ka0 e11) (by decide) (Nat.le_of_ble_eq_true rfl) rfl ?_
        obtain ⟨rfl, rfl⟩ := Prod.mk.inj (Option.some.inj h)
        exact j_iret (pc := 44) hC dX11_why_44 rfl
      · rw [if_pos c5] at h
        refine j_bipush (pc := 31) hC (-3 : Int32) dX11_why_31 (by decide) ?_
        obtain ⟨rfl, rfl⟩ := Prod.mk.inj (Option.some.inj h)
        exact j_iret (pc := 33) hC dX11_why_33 rfl
    · rw [if_pos c2] at h
      refine j_iconst (pc := 14) hC (-1 : Int32) dX11_why_14 (by decide) ?_
      obtain ⟨rfl, rfl⟩ := Prod.mk.inj (Option.some.inj h)
      exact j_iret (pc := 15) hC dX11_why_15 rfl
theorem dX11_mends_0 : decode cX11_mends 0 = .ok (.aload_n 0, 1) := by decide +kernel
theorem dX11_mends_1 : decode cX11_mends 1 = .ok (.getfield 97, 3) := by decide +kernel
theorem dX11_mends_4 : decode cX11_mends 4 = .ok (.iconst 0, 1) := by decide +kernel
theorem dX11_mends_5 : decode cX11_mends 5 = .ok (.invokestatic 317, 3) := by decide +kernel
theorem dX11_mends_8 : decode cX11_mends 8 = .ok (.aload_n 0, 1) := by decide +kernel
theorem dX11_mends_9 : decode cX11_mends 9 = .ok (.getfield 49, 3) := by decide +kernel
theorem dX11_mends_12 : decode cX11_mends 12 = .ok (.iconst 0, 1) := by decide +kernel
theorem dX11_mends_13 : decode cX11_mends 13 = .ok (.invokevirtual 298, 3) := by decide +kernel
theorem dX11_mends_16 : decode cX11_mends 16 = .ok (.iconst 0, 1) := by decide +kernel
theorem dX11_mends_17 : decode cX11_mends 17 = .ok (.istore_n 1, 1) := by decide +kernel
theorem dX11_mends_18 : decode cX11_mends 18 = .ok (.iload_n 1, 1) := by decide +kernel
theorem dX11_mends_19 : decode cX11_mends 19 = .ok (.sipush 7776, 3) := by decide +kernel
theorem dX11_mends_22 : decode cX11_mends 22 = .ok (.if_icmp .ge 35, 3) := by decide +kernel
theorem dX11_mends_25 : decode cX11_mends 25 = .ok (.aload_n 0, 1) := by decide +kernel
theorem dX11_mends_26 : decode cX11_mends 26 = .ok (.getfield 49, 3) := by decide +kernel
theorem dX11_mends_29 : decode cX11_mends 29 = .ok (.invokevirtual 301, 3) := by decide +kernel
theorem dX11_mends_32 : decode cX11_mends 32 = .ok (.ifCond .eq 25, 3) := by decide +kernel
theorem dX11_mends_35 : decode cX11_mends 35 = .ok (.aload_n 0, 1) := by decide +kernel
theorem dX11_mends_36 : decode cX11_mends 36 = .ok (.getfield 97, 3) := by decide +kernel
theorem dX11_mends_39 : decode cX11_mends 39 = .ok (.aload_n 0, 1) := by decide +kernel
theorem dX11_mends_40 : decode cX11_mends 40 = .ok (.getfield 49, 3) := by decide +kernel
theorem dX11_mends_43 : decode cX11_mends 43 = .ok (.invokevirtual 369, 3) := by decide +kernel
theorem dX11_mends_46 : decode cX11_mends 46 = .ok (.dup2, 1) := by decide +kernel
theorem dX11_mends_47 : decode cX11_mends 47 = .ok (.iaload, 1) := by decide +kernel
theorem dX11_mends_48 : decode cX11_mends 48 = .ok (.iconst 1, 1) := by decide +kernel
theorem dX11_mends_49 : decode cX11_mends 49 = .ok (.iadd, 1) := by decide +kernel
theorem dX11_mends_50 : decode cX11_mends 50 = .ok (.iastore, 1) := by decide +kernel
theorem dX11_mends_51 : decode cX11_mends 51 = .ok (.iinc 1 1, 3) := by decide +kernel
theorem dX11_mends_54 : decode cX11_mends 54 = .ok (.goto (-36), 3) := by decide +kernel
theorem dX11_mends_57 : decode cX11_mends 57 = .ok (.aload_n 0, 1) := by decide +kernel
theorem dX11_mends_58 : decode cX11_mends 58 = .ok (.invokevirtual 372, 3) := by decide +kernel
theorem dX11_mends_61 : decode cX11_mends 61 = .ok (.istore_n 1, 1) := by decide +kernel
theorem dX11_mends_62 : decode cX11_mends 62 = .ok (.iconst 0, 1) := by decide +kernel
theorem dX11_mends_63 : decode cX11_mends 63 = .ok (.istore_n 2, 1) := by decide +kernel
theorem dX11_mends_64 : decode cX11_mends 64 = .ok (.iload_n 2, 1) := by decide +kernel
theorem dX11_mends_65 : decode cX11_mends 65 = .ok (.aload_n 0, 1) := by decide +kernel
theorem dX11_mends_66 : decode cX11_mends 66 = .ok (.getfield 97, 3) := by decide +kernel
theorem dX11_mends_69 : decode cX11_mends 69 = .ok (.arraylength, 1) := by decide +kernel
theorem dX11_mends_70 : decode cX11_mends 70 = .ok (.if_icmp .ge 31, 3) := by decide +kernel
theorem dX11_mends_73 : decode cX11_mends 73 = .ok (.aload_n 0, 1) := by decide +kernel
theorem dX11_mends_74 : decode cX11_mends 74 = .ok (.getfield 97, 3) := by decide +kernel
theorem dX11_mends_77 : decode cX11_mends 77 = .ok (.iload_n 2, 1) := by decide +kernel
theorem dX11_mends_78 : decode cX11_mends 78 = .ok (.iaload, 1) := by decide +kernel
theorem dX11_mends_79 : decode cX11_mends 79 = .ok (.ifCond .le 16, 3) := by decide +kernel
theorem dX11_mends_82 : decode cX11_mends 82 = .ok (.iload_n 2, 1) := by decide +kernel
theorem dX11_mends_83 : decode cX11_mends 83 = .ok (.invokestatic 284, 3) := by decide +kernel
theorem dX11_mends_86 : decode cX11_mends 86 = .ok (.iload_n 1, 1) := by decide +kernel
theorem dX11_mends_87 : decode cX11_mends 87 = .ok (.invokestatic 284, 3) := by decide +kernel
theorem dX11_mends_90 : decode cX11_mends 90 = .ok (.if_icmp .ge 5, 3) := by decide +kernel
theorem dX11_mends_93 : decode cX11_mends 93 = .ok (.iload_n 2, 1) := by decide +kernel
theorem dX11_mends_94 : decode cX11_mends 94 = .ok (.istore_n 1, 1) := by decide +kernel
theorem dX11_mends_95 : decode cX11_mends 95 = .ok (.iinc 2 1, 3) := by decide +kernel
theorem dX11_mends_98 : decode cX11_mends 98 = .ok (.goto (-34), 3) := by decide +kernel
theorem dX11_mends_101 : decode cX11_mends 101 = .ok (.iconst 0, 1) := by decide +kernel
theorem dX11_mends_102 : decode cX11_mends 102 = .ok (.istore_n 2, 1) := by decide +kernel
theorem dX11_mends_103 : decode cX11_mends 103 = .ok (.iconst 0, 1) := by decide +kernel
theorem dX11_mends_104 : decode cX11_mends 104 = .ok (.istore_n 3, 1) := by decide +kernel
theorem dX11_mends_105 : decode cX11_mends 105 = .ok (.iload_n 3, 1) := by decide +kernel
theorem dX11_mends_106 : decode cX11_mends 106 = .ok (.aload_n 0, 1) := by decide +kernel
theorem dX11_mends_107 : decode cX11_mends 107 = .ok (.getfield 97, 3) := by decide +kernel
theorem dX11_mends_110 : decode cX11_mends 110 = .ok (.arraylength, 1) := by decide +kernel
theorem dX11_mends_111 : decode cX11_mends 111 = .ok (.if_icmp .ge 26, 3) := by decide +kernel
theorem dX11_mends_114 : decode cX11_mends 114 = .ok (.iload_n 3, 1) := by decide +kernel
theorem dX11_mends_115 : decode cX11_mends 115 = .ok (.iload_n 1, 1) := by decide +kernel
theorem dX11_mends_116 : decode cX11_mends 116 = .ok (.iconst (-1), 1) := by decide +kernel
theorem dX11_mends_117 : decode cX11_mends 117 = .ok (.ixor, 1) := by decide +kernel
theorem dX11_mends_118 : decode cX11_mends 118 = .ok (.iand, 1) := by decide +kernel
theorem dX11_mends_119 : decode cX11_mends 119 = .ok (.ifCond .ne 12, 3) := by decide +kernel
theorem dX11_mends_122 : decode cX11_mends 122 = .ok (.iload_n 2, 1) := by decide +kernel
theorem dX11_mends_123 : decode cX11_mends 123 = .ok (.aload_n 0, 1) := by decide +kernel
theorem dX11_mends_124 : decode cX11_mends 124 = .ok (.getfield 97, 3) := by decide +kernel
theorem dX11_mends_127 : decode cX11_mends 127 = .ok (.iload_n 3, 1) := by decide +kernel
theorem dX11_mends_128 : decode cX11_mends 128 = .ok (.iaload, 1) := by decide +kernel
theorem dX11_mends_129 : decode cX11_mends 129 = .ok (.iadd, 1) := by decide +kernel
theorem dX11_mends_130 : decode cX11_mends 130 = .ok (.istore_n 2, 1) := by decide +kernel
theorem dX11_mends_131 : decode cX11_mends 131 = .ok (.iinc 3 1, 3) := by decide +kernel
theorem dX11_mends_134 : decode cX11_mends 134 = .ok (.goto (-29), 3) := by decide +kernel
theorem dX11_mends_137 : decode cX11_mends 137 = .ok (.aload_n 0, 1) := by decide +kernel
theorem dX11_mends_138 : decode cX11_mends 138 = .ok (.getfield 19, 3) := by decide +kernel
theorem dX11_mends_141 : decode cX11_mends 141 = .ok (.iload_n 1, 1) := by decide +kernel
theorem dX11_mends_142 : decode cX11_mends 142 = .ok (.invokestatic 284, 3) := by decide +kernel
theorem dX11_mends_145 : decode cX11_mends 145 = .ok (.i2l, 1) := by decide +kernel
theorem dX11_mends_146 : decode cX11_mends 146 = .ok (.invokevirtual 235, 3) := by decide +kernel
theorem dX11_mends_149 : decode cX11_mends 149 = .ok (.aload_n 0, 1) := by decide +kernel
theorem dX11_mends_150 : decode cX11_mends 150 = .ok (.getfield 19, 3) := by decide +kernel
theorem dX11_mends_153 : decode cX11_mends 153 = .ok (.iload_n 2, 1) := by decide +kernel
theorem dX11_mends_154 : decode cX11_mends 154 = .ok (.i2l, 1) := by decide +kernel
theorem dX11_mends_155 : decode cX11_mends 155 = .ok (.invokevirtual 248, 3) := by decide +kernel
theorem dX11_mends_158 : decode cX11_mends 158 = .ok (.iload_n 1, 1) := by decide +kernel
theorem dX11_mends_159 : decode cX11_mends 159 = .ok (.ireturn, 1) := by decide +kernel
def f_X11_mends_L18 (a0 : Nat) (u5 : Int32) (m6 : jM) : Option ((Int32 × jM) ⊕ (jM)) :=
  (if (7776 : Int32) ≤ u5 then some (.inr m6) else jcl2 (f_X10_advance (a0 + 167) m6) (fun v8 m9 => (if v8 = (0 : Int32) then some (.inr m9) else jcl (f_X10_brokenInAll (a0 + 167) m9) (fun v12 => jrd (m9.1 (a0 + 187)) v12 256 (fun v15 => jin v12 256 (jbd (jsi m9 (a0 + 187) v12.toNatClampNeg (v15 + (1 : Int32))) (fun m18 => some (.inl ((u5 + (1 : Int32), m18))))))))))
def f_X11_mends_L64 (a0 : Nat) (m23 : jM) (u26 : Int32) (u27 : Int32) : Option ((Int32 × Int32) ⊕ (Int32)) :=
  (if (nI 256) ≤ u27 then some (.inr u26) else jrd (m23.1 (a0 + 187)) u27 256 (fun v30 => (if v30 ≤ (0 : Int32) then some (.inl ((u26, u27 + (1 : Int32)))) else (if (f_J6_bitCount_0f7a4 u26) ≤ (f_J6_bitCount_0f7a4 u27) then some (.inl ((u26, u27 + (1 : Int32)))) else some (.inl ((u27, u27 + (1 : Int32))))))))
def f_X11_mends_L105 (a0 : Nat) (m23 : jM) (z37 : Int32) (u38 : Int32) (u39 : Int32) : Option ((Int32 × Int32) ⊕ (Int32)) :=
  (if (nI 256) ≤ u39 then some (.inr u38) else (if (u39 &&& (z37 ^^^ (-1 : Int32))) = (0 : Int32) then jrd (m23.1 (a0 + 187)) u39 256 (fun v43 => some (.inl ((u38 + v43, u39 + (1 : Int32))))) else some (.inl ((u38, u39 + (1 : Int32))))))
def f_X11_mends (a0 : Nat) (μ : jM) : Option (Int32 × jM) :=
  jcl (f_J7_fill_53178 (a0 + 187) (0 : Int32) μ) (fun m1 => jcl (f_X10_begin (a0 + 167) (0 : Int32) m1) (fun m3 => jcl (jloop (fun (s : Int32 × jM) => f_X11_mends_L18 a0 s.1 s.2) jfu (((0 : Int32), m3))) (fun w20 => jbd (f_X11_allConstraints a0 w20 : Int32) (fun v24 => jcl (jloop (fun (s : Int32 × Int32) => f_X11_mends_L64 a0 w20 s.1 s.2) jfu ((v24, (0 : Int32)))) (fun w34 => jcl (jloop (fun (s : Int32 × Int32) => f_X11_mends_L105 a0 w20 w34 s.1 s.2) jfu (((0 : Int32), (0 : Int32)))) (fun w45 => jcl (f_X3_only (a0 + 3) ((f_J6_bitCount_0f7a4 w34).toInt64) w20) (fun m49 => jcl (f_X3_tell (a0 + 3) w45.toInt64 m49) (fun m51 => some ((w34, m51))))))))))
set_option maxHeartbeats 4000000 in
set_option maxRecDepth 100000 in
theorem c_X11_mends {l : Launch} {G : jG} {L : jL} (hL : jOKL L) {a0 : Nat} (ka0 : jK L a0 11) {μ μ' : jM} {r : Int32} (h : f_X11_mends a0 μ = some ((r, μ'))) : jCt l G L 6 yX11_mends cX11_mends 4 (some .int) [.ref (L.2.2 a0)] μ (some (.int r)) μ' := by
  refine jCt_of (by decide) (Nat.le_of_ble_eq_true rfl) (fun X hC hX hR => ?_)
  subst hX
  have hC : jC X G cX11_mends 4 RX11 (some .int) := hC
  unfold f_X11_mends at h
  show jJ X G 4 L 0 0 (jQM X G L (some (.int r)) μ' 0 0) 0 [(0, .ref (L.2.2 a0))] [] μ
  refine j_aload_n (pc := 0) hC 0 0 dX11_mends_0 rfl rfl ?_
  refine jgr_11 (pc := 1) hC 12 (by decide) rfl kf_X11_97 dX11_mends_1 ka0 (ly_11_12 hL ka0).1 ?_
  refine j_iconst (pc := 4) hC (0 : Int32) dX11_mends_4 (by decide) ?_
  obtain ⟨m1, e2, h⟩ := jcl_some h
  refine j_sv (pc := 5) hC hR [.ref (L.2.2 (a0 + 187)), .int (0 : Int32)] iy_J7_fill_53178 km_X11_317 dX11_mends_5 rfl (by decide) (c_J7_fill_53178 hL (ly_11_12 hL ka0).2.1 e2) (by decide) (Nat.le_of_ble_eq_true rfl) rfl ?_
  refine j_aload_n (pc := 8) hC 0 0 dX11_mends_8 rfl rfl ?_
  refine jgr_11 (pc := 9) hC 5 (by decide) rfl kf_X11_49 dX11_mends_9 ka0 (ly_11_5 hL ka0).1 ?_
  refine j_iconst (pc := 12) hC (0 : Int32) dX11_mends_12 (by decide) ?_
  obtain ⟨m3, e4, h⟩ := jcl_some h
  refine j_vv (pc := 13) hC hR [.int (0 : Int32)] iy_X10_begin (q := (RX10, TX10, 5)) (ci := 10) rfl rfl (by decide) km_X11_298 dX11_mends_13 rfl (by decide) (ly_11_5 hL ka0).2.1 (c_X10_begin hL (ly_11_5 hL ka0).2.1 e4) (by decide) (Nat.le_of_ble_eq_true rfl) rfl ?_
  refine j_iconst (pc := 16) hC (0 : Int32) dX11_mends_16 (by decide) ?_
  refine j_istore_n (pc := 17) hC 1 [(1, .int (0 : Int32)), (0, .ref (L.2.2 a0))] dX11_mends_17 rfl (by decide) rfl rfl ?_
  obtain ⟨w20, hw21, h⟩ := jcl_some h
  refine j_lv [1, 0] rfl ?_
  refine j_loop (step := (fun (s : Int32 × jM) => f_X11_mends_L18 a0 s.1 s.2)) (P := (fun (s : Int32 × jM) => jJ X G 4 L 0 0 (jQM X G L (some (.int r)) μ' 0 0) 18 [(0, .ref (L.2.2 a0)), (1, .int s.1)] [] s.2)) (R := (fun (e : jM) => jJ X G 4 L 0 0 (jQM X G L (some (.int r)) μ' 0 0) 57 [(0, .ref (L.2.2 a0))] [] e)) ?_ jfu (((0 : Int32), m3)) w20 hw21 ?_
  · intro s22 o h hk
    obtain ⟨u5, m6⟩ := s22
    change f_X11_mends_L18 a0 u5 m6 = some o at h
    unfold f_X11_mends_L18 at h
    show jJ X G 4 L 0 0 (jQM X G L (some (.int r)) μ' 0 0) 18 [(0, .ref (L.2.2 a0)), (1, .int u5)] [] m6
    refine j_iload_n (pc := 18) hC 1 1 dX11_mends_18 rfl rfl ?_
    refine j_sipush (pc := 19) hC (7776 : Int32) dX11_mends_19 (by decide) ?_
    refine j_icmp_ge (pc := 22) hC 57 dX11_mends_22 (by decide) (fun c7 => ?_) (fun c7 => ?_)
    · rw [if_pos c7] at h
      obtain rfl := Option.some.inj h
      have hk : jJ X G 4 L 0 0 (jQM X G L (some (.int r)) μ' 0 0) 57 [(0, .ref (L.2.2 a0))] [] m6 := hk
      exact j_lv [0] rfl hk
    · rw [if_neg c7] at h
      refine j_aload_n (pc := 25) hC 0 0 dX11_mends_25 rfl rfl ?_
      refine jgr_11 (pc := 26) hC 5 (by decide) rfl kf_X11_49 dX11_mends_26 ka0 (ly_11_5 hL ka0).1 ?_
      obtain ⟨v8, m9, e10, h⟩ := jcl2_some h
      refine j_vi (pc := 29) hC hR [] iy_X10_advance (q := (RX10, TX10, 5)) (ci := 10) rfl rfl (by decide) km_X11_301 dX11_mends_29 rfl (by decide) (ly_11_5 hL ka0).2.1 (c_X10_advance hL (ly_11_5 hL ka0).2.1 e10) (by decide) (Nat.le_of_ble_eq_true rfl) rfl ?_
      refine j_if_eq (pc := 32) hC 57 dX11_mends_32 (by decide) (fun c11 => ?_) (fun c11 => ?_)
      · rw [if_pos c11] at h
        obtain rfl := Option.some.inj h
        have hk : jJ X G 4 L 0 0 (jQM X G L (some (.int r)) μ' 0 0) 57 [(0, .ref (L.2.2 a0))] [] m9 := hk
        exact j_lv [0] rfl hk
      · rw [if_neg c11] at h
        refine j_aload_n (pc := 35) hC 0 0 dX11_mends_35 rfl rfl ?_
        refine jgr_11 (pc := 36) hC 12 (by decide) rfl kf_X11_97 dX11_mends_36 ka0 (ly_11_12 hL ka0).1 ?_
        refine j_aload_n (pc := 39) hC 0 0 dX11_mends_39 rfl rfl ?_
        refine jgr_11 (pc := 40) hC 5 (by decide) rfl kf_X11_49 dX11_mends_40 ka0 (ly_11_5 hL ka0).1 ?_
        obtain ⟨v12, e13, h⟩ := jcl_some h
        refine j_vi (pc := 43) hC hR [] iy_X10_brokenInAll (q := (RX10, TX10, 5)) (ci := 10) rfl rfl (by decide) km_X11_369 dX11_mends_43 rfl (by decide) (ly_11_5 hL ka0).2.1 (c_X10_brokenInAll hL (ly_11_5 hL ka0).2.1 e13) (by decide) (Nat.le_of_ble_eq_true rfl) rfl ?_
        refine j_dup2 (pc := 46) hC dX11_mends_46 rfl rfl ?_
        obtain ⟨i14, v15, e16, h⟩ := jrd_some h
        refine j_iald (pc := 47) hC dX11_mends_47 (ly_11_12 hL ka0).2.1 (ly_11_12 hL ka0).2.2 i14 e16 ?_
        refine j_iconst (pc := 48) hC (1 : Int32) dX11_mends_48 (by decide) ?_
        refine j_iadd (pc := 49) hC dX11_mends_49 ?_
        obtain ⟨i17, h⟩ := jin_some h
        obtain ⟨m18, e19, h⟩ := jbd_ex h
        refine j_iast (pc := 50) hC dX11_mends_50 (ly_11_12 hL ka0).2.1 (ly_11_12 hL ka0).2.2 i17 e19 ?_
        refine j_iinc (pc := 51) hC 1 (u5 + (1 : Int32)) [(1, .int (u5 + (1 : Int32))), (0, .ref (L.2.2 a0))] dX11_mends_51 rfl rfl (by decide) rfl ?_
        refine j_goto (pc := 54) hC 18 dX11_mends_54 (by decide) ?_
        obtain rfl := Option.some.inj h
        have hk : jJ X G 4 L 0 0 (jQM X G L (some (.int r)) μ' 0 0) 18 [(0, .ref (L.2.2 a0)), (1, .int (u5 + (1 : Int32)))] [] m18 := hk
        exact j_lv [1, 0] rfl hk
  · obtain ⟨m23, rfl⟩ : ∃ y, y = w20 := ⟨_, rfl⟩
    try dsimp only at h
    show jJ X G 4 L 0 0 (jQM X G L (some (.int r)) μ' 0 0) 57 [(0, .ref (L.2.2 a0))] [] m23
    refine j_aload_n (pc := 57) hC 0 0 dX11_mends_57 rfl rfl ?_
    refine j_vi (pc := 58) hC hR [] iy_X11_allConstraints (q := (RX11, TX11, 15)) (ci := 11) rfl rfl (by decide) km_X11_372 dX11_mends_58 rfl (by decide) ka0 (c_X11_allConstraints hL ka0 rfl) (by decide) (Nat.le_of_ble_eq_true rfl) rfl ?_
    obtain ⟨v24, e25, h⟩ := jbd_ex h
    refine j_istore_n (pc := 61) hC 1 [(1, .int v24), (0, .ref (L.2.2 a0))] dX11_mends_61 rfl (by decide) e25 rfl ?_
    refine j_iconst (pc := 62) hC (0 : Int32) dX11_mends_62 (by decide) ?_
    refine j_istore_n (pc := 63) hC 2 [(2, .int (0 : Int32)), (1, .int v24), (0, .ref (L.2.2 a0))] dX11_mends_63 rfl (by decide) rfl rfl ?_
    obtain ⟨w34, hw35, h⟩ := jcl_some h
    refine j_lv [2, 1, 0] rfl ?_
    refine j_loop (step := (fun (s : Int32 × Int32) => f_X11_mends_L64 a0 m23 s.1 s.2)) (P := (fun (s : Int32 × Int32) => jJ X G 4 L 0 0 (jQM X G L (some (.int r)) μ' 0 0) 64 [(0, .ref (L.2.2 a0)), (1, .int s.1), (2, .int s.2)] [] m23)) (R := (fun (e : Int32) => jJ X G 4 L 0 0 (jQM X G L (some (.int r)) μ' 0 0) 101 [(0, .ref (L.2.2 a0)), (1, .int e)] [] m23)) ?_ jfu ((v24, (0 : Int32))) w34 hw35 ?_
    · intro s36 o h hk
      obtain ⟨u26, u27⟩ := s36
      change f_X11_mends_L64 a0 m23 u26 u27 = some o at h
      unfold f_X11_mends_L64 at h
      show jJ X G 4 L 0 0 (jQM X G L (some (.int r)) μ' 0 0) 64 [(0, .ref (L.2.2 a0)), (1, .int u26), (2, .int u27)] [] m23
      refine j_iload_n (pc := 64) hC 2 2 dX11_mends_64 rfl rfl ?_
      refine j_aload_n (pc := 65) hC 0 0 dX11_mends_65 rfl rfl ?_
      refine jgr_11 (pc := 66) hC 12 (by decide) rfl kf_X11_97 dX11_mends_66 ka0 (ly_11_12 hL ka0).1 ?_
      refine j_alen (pc := 69) hC 0 dX11_mends_69 (ly_11_12 hL ka0).2.1 rfl (by decide) (ly_11_12 hL ka0).2.2 ?_
      refine j_icmp_ge (pc := 70) hC 101 dX11_mends_70 (by decide) (fun c28 => ?_) (fun c28 => ?_)
      · rw [if_pos c28] at h
        obtain rfl := Option.some.inj h
        have hk : jJ X G 4 L 0 0 (jQM X G L (some (.int r)) μ' 0 0) 101 [(0, .ref (L.2.2 a0)), (1, .int u26)] [] m23 := hk
        exact j_lv [0, 1] rfl hk
      · rw [if_neg c28] at h
        refine j_aload_n (pc := 73) hC 0 0 dX11_mends_73 rfl rfl ?_
        refine jgr_11 (pc := 74) hC 12 (by decide) rfl kf_X11_97 dX11_mends_74 ka0 (ly_11_12 hL ka0).1 ?_
        refine j_iload_n (pc := 77) hC 2 2 dX11_mends_77 rfl rfl ?_
        obtain ⟨i29, v30, e31, h⟩ := jrd_some h
        refine j_iald (pc := 78) hC dX11_mends_78 (ly_11_12 hL ka0).2.1 (ly_11_12 hL ka0).2.2 i29 e31 ?_
        refine j_if_le (pc := 79) hC 95 dX11_mends_79 (by decide) (fun c32 => ?_) (fun c32 => ?_)
        · rw [if_pos c32] at h
          refine j_iinc (pc := 95) hC 2 (u27 + (1 : Int32)) [(2, .int (u27 + (1 : Int32))), (0, .ref (L.2.2 a0)), (1, .int u26)] dX11_mends_95 rfl rfl (by decide) rfl ?_
          refine j_goto (pc := 98) hC 64 dX11_mends_98 (by decide) ?_
          obtain rfl := Option.some.inj h
          have hk : jJ X G 4 L 0 0 (jQM X G L (some (.int r)) μ' 0 0) 64 [(0, .ref (L.2.2 a0)), (1, .int u26), (2, .int (u27 + (1 : Int32)))] [] m23 := hk
          exact j_lv [1, 2, 0] rfl hk
        · rw [if_neg c32] at h
          refine j_iload_n (pc := 82) hC 2 2 dX11_mends_82 rfl rfl ?_
          refine j_si (pc := 83) hC hR [.int u27] iy_J6_bitCount_0f7a4 km_X11_284 dX11_mends_83 rfl (by decide) (c_J6_bitCount_0f7a4 hL  rfl) (by decide) (Nat.le_of_ble_eq_true rfl) rfl ?_
          refine j_iload_n (pc := 86) hC 1 1 dX11_mends_86 rfl rfl ?_
          refine j_si (pc := 87) hC hR [.int u26] iy_J6_bitCount_0f7a4 km_X11_284 dX11_mends_87 rfl (by decide) (c_J6_bitCount_0f7a4 hL  rfl) (by decide) (Nat.le_of_ble_eq_true rfl) rfl ?_
          refine j_icmp_ge (pc := 90) hC 95 dX11_mends_90 (by decide) (fun c33 => ?_) (fun c33 => ?_)
          · rw [if_pos c33] at h
            refine j_iinc (pc := 95) hC 2 (u27 + (1 : Int32)) [(2, .int (u27 + (1 : Int32))), (0, .ref (L.2.2 a0)), (1, .int u26)] dX11_mends_95 rfl rfl (by decide) rfl ?_
            refine j_goto (pc := 98) hC 64 dX11_mends_98 (by decide) ?_
            obtain rfl := Option.some.inj h
            have hk : jJ X G 4 L 0 0 (jQM X G L (some (.int r)) μ' 0 0) 64 [(0, .ref (L.2.2 a0)), (1, .int u26), (2, .int (u27 + (1 : Int32)))] [] m23 := hk
            exact j_lv [1, 2, 0] rfl hk
          · rw [if_neg c33] at h
            refine j_iload_n (pc := 93) hC 2 2 dX11_mends_93 rfl rfl ?_
            refine j_istore_n (pc := 94) hC 1 [(1, .int u27), (0, .ref (L.2.2 a0)), (2, .int u27)] dX11_mends_94 rfl (by decide) rfl rfl ?_
            refine j_iinc (pc := 95) hC 2 (u27 + (1 : Int32)) [(2, .int (u27 + (1 : Int32))), (1, .int u27), (0, .ref (L.2.2 a0))] dX11_mends_95 rfl rfl (by decide) rfl ?_
            refine j_goto (pc := 98) hC 64 dX11_mends_98 (by decide) ?_
            obtain rfl := Option.some.inj h
            have hk : jJ X G 4 L 0 0 (jQM X G L (some (.int r)) μ' 0 0) 64 [(0, .ref (L.2.2 a0)), (1, .int u27), (2, .int (u27 + (1 : Int32)))] [] m23 := hk
            exact j_lv [2, 1, 0] rfl hk
    · obtain ⟨z37, rfl⟩ : ∃ y, y = w34 := ⟨_, rfl⟩
      try dsimp only at h
      show jJ X G 4 L 0 0 (jQM X G L (some (.int r)) μ' 0 0) 101 [(0, .ref (L.2.2 a0)), (1, .int z37)] [] m23
      refine j_iconst (pc := 101) hC (0 : Int32) dX11_mends_101 (by decide) ?_
      refine j_istore_n (pc := 102) hC 2 [(2, .int (0 : Int32)), (0, .ref (L.2.2 a0)), (1, .int z37)] dX11_mends_102 rfl (by decide) rfl rfl ?_
      refine j_iconst (pc := 103) hC (0 : Int32) dX11_mends_103 (by decide) ?_
      refine j_istore_n (pc := 104) hC 3 [(3, .int (0 : Int32)), (2, .int (0 : Int32)), (0, .ref (L.2.2 a0)), (1, .int z37)] dX11_mends_104 rfl (by decide) rfl rfl ?_
      obtain ⟨w45, hw46, h⟩ := jcl_some h
      refine j_lv [2, 3, 1, 0] rfl ?_
      refine j_loop (step := (fun (s : Int32 × Int32) => f_X11_mends_L105 a0 m23 z37 s.1 s.2)) (P := (fun (s : Int32 × Int32) => jJ X G 4 L 0 0 (jQM X G L (some (.int r)) μ' 0 0) 105 [(0, .ref (L.2.2 a0)), (1, .int z37), (2, .int s.1), (3, .int s.2)] [] m23)) (R := (fun (e : Int32) => jJ X G 4 L 0 0 (jQM X G L (some (.int r)) μ' 0 0) 137 [(0, .ref (L.2.2 a0)), (1, .int z37), (2, .int e)] [] m23)) ?_ jfu (((0 : Int32), (0 : Int32))) w45 hw46 ?_
      · intro s47 o h hk
        obtain ⟨u38, u39⟩ := s47
        change f_X11_mends_L105 a0 m23 z37 u38 u39 = some o at h
        unfold f_X11_mends_L105 at h
        show jJ X G 4 L 0 0 (jQM X G L (some (.int r)) μ' 0 0) 105 [(0, .ref (L.2.2 a0)), (1, .int z37), (2, .int u38), (3, .int u39)] [] m23
        refine j_iload_n (pc := 105) hC 3 3 dX11_mends_105 rfl rfl ?_
        refine j_aload_n (pc := 106) hC 0 0 dX11_mends_106 rfl rfl ?_
        refine jgr_11 (pc := 107) hC 12 (by decide) rfl kf_X11_97 dX11_mends_107 ka0 (ly_11_12 hL ka0).1 ?_
        refine j_alen (pc := 110) hC 0 dX11_mends_110 (ly_11_12 hL ka0).2.1 rfl (by decide) (ly_11_12 hL ka0).2.2 ?_
        refine j_icmp_ge (pc := 111) hC 137 dX11_mends_111 (by decide) (fun c40 => ?_) (fun c40 => ?_)
        · rw [if_pos c40] at h
          obtain rfl := Option.some.inj h
          have hk : jJ X G 4 L 0 0 (jQM X G L (some (.int r)) μ' 0 0) 137 [(0, .ref (L.2.2 a0)), (1, .int z37), (2, .int u38)] [] m23 := hk
          exact j_lv [0, 1, 2] rfl hk
        · rw [if_neg c40] at h
          refine j_iload_n (pc := 114) hC 3 3 dX11_mends_114 rfl rfl ?_
          refine j_iload_n (pc := 115) hC 1 1 dX11_mends_115 rfl rfl ?_
          refine j_iconst (pc := 116) hC (-1 : Int32) dX11_mends_116 (by decide) ?_
          refine j_ixor (pc := 117) hC dX11_mends_117 ?_
          refine j_iand (pc := 118) hC dX11_mends_118 ?_
          refine j_if_ne (pc := 119) hC 131 dX11_mends_119 (by decide) (fun c41 => ?_) (fun c41 => ?_)
          · rw [if_neg c41] at h
            refine j_iinc (pc := 131) hC 3 (u39 + (1 : Int32)) [(3, .int (u39 + (1 : Int32))), (0, .ref (L.2.2 a0)), (1, .int z37), (2, .int u38)] dX11_mends_131 rfl rfl (by decide) rfl ?_
            refine j_goto (pc := 134) hC 105 dX11_mends_134 (by decide) ?_
            obtain rfl := Option.some.inj h
            have hk : jJ X G 4 L 0 0 (jQM X G L (some (.int r)) μ' 0 0) 105 [(0, .ref (L.2.2 a0)), (1, .int z37), (2, .int u38), (3, .int (u39 + (1 : Int32)))] [] m23 := hk
            exact j_lv [1, 2, 3, 0] rfl hk
          · rw [if_pos c41] at h
            refine j_iload_n (pc := 122) hC 2 2 dX11_mends_122 rfl rfl ?_
            refine j_aload_n (pc := 123) hC 0 0 dX11_mends_123 rfl rfl ?_
            refine jgr_11 (pc := 124) hC 12 (by decide) rfl kf_X11_97 dX11_mends_124 ka0 (ly_11_12 hL ka0).1 ?_
            refine j_iload_n (pc := 127) hC 3 3 dX11_mends_127 rfl rfl ?_
            obtain ⟨i42, v43, e44, h⟩ := jrd_some h
            refine j_iald (pc := 128) hC dX11_mends_128 (ly_11_12 hL ka0).2.1 (ly_11_12 hL ka0).2.2 i42 e44 ?_
            refine j_iadd (pc := 129) hC dX11_mends_129 ?_
            refine j_istore_n (pc := 130) hC 2 [(2, .int (u38 + v43)), (0, .ref (L.2.2 a0)), (1, .int z37), (3, .int u39)] dX11_mends_130 rfl (by decide) rfl rfl ?_
            refine j_iinc (pc := 131) hC 3 (u39 + (1 : Int32)) [(3, .int (u39 + (1 : Int32))), (2, .int (u38 + v43)), (0, .ref (L.2.2 a0)), (1, .int z37)] dX11_mends_131 rfl rfl (by decide) rfl ?_
            refine j_goto (pc := 134) hC 105 dX11_mends_134 (by decide) ?_
            obtain rfl := Option.some.inj h
            have hk : jJ X G 4 L 0 0 (jQM X G L (some (.int r)) μ' 0 0) 105 [(0, .ref (L.2.2 a0)), (1, .int z37), (2, .int (u38 + v43)), (3, .int (u39 + (1 : Int32)))] [] m23 := hk
            exact j_lv [2, 3, 1, 0] rfl hk
      · obtain ⟨z48, rfl⟩ : ∃ y, y = w45 := ⟨_, rfl⟩
        try dsimp only at h
        show jJ X G 4 L 0 0 (jQM X G L (some (.int r)) μ' 0 0) 137 [(0, .ref (L.2.2 a0)), (1, .int z37), (2, .int z48)] [] m23
        refine j_aload_n (pc := 137) hC 0 0 dX11_mends_137 rfl rfl ?_
        refine jgr_11 (pc := 138) hC 1 (by decide) rfl kf_X11_19 dX11_mends_138 ka0 (ly_11_1 hL ka0).1 ?_
        refine j_iload_n (pc := 141) hC 1 1 dX11_mends_141 rfl rfl ?_
        refine j_si (pc := 142) hC hR [.int z37] iy_J6_bitCount_0f7a4 km_X11_284 dX11_mends_142 rfl (by decide) (c_J6_bitCount_0f7a4 hL  rfl) (by decide) (Nat.le_of_ble_eq_true rfl) rfl ?_
        refine j_i2l (pc := 145) hC dX11_mends_145 ?_
        obtain ⟨m49, e50, h⟩ := jcl_some h
        refine j_vv (pc := 146) hC hR [.long ((f_J6_bitCount_0f7a4 z37).toInt64)] iy_X3_only (q := (RX3, TX3, 2)) (ci := 3) rfl rfl (by decide) km_X11_235 dX11_mends_146 rfl (by decide) (ly_11_1 hL ka0).2.1 (c_X3_only hL (ly_11_1 hL ka0).2.1 e50) (by decide) (Nat.le_of_ble_eq_true rfl) rfl ?_
        refine j_aload_n (pc := 149) hC 0 0 dX11_mends_149 rfl rfl ?_
        refine jgr_11 (pc := 150) hC 1 (by decide) rfl kf_X11_19 dX11_mends_150 ka0 (ly_11_1 hL ka0).1 ?_
        refine j_iload_n (pc := 153) hC 2 2 dX11_mends_153 rfl rfl ?_
        refine j_i2l (pc := 154) hC dX11_mends_154 ?_
        obtain ⟨m51, e52, h⟩ := jcl_some h
        refine j_vv (pc := 155) hC hR [.long z48.toInt64] iy_X3_tell (q := (RX3, TX3, 2)) (ci := 3) rfl rfl (by decide) km_X11_248 dX11_mends_155 rfl (by decide) (ly_11_1 hL ka0).2.1 (c_X3_tell hL (ly_11_1 hL ka0).2.1 e52) (by decide) (Nat.le_of_ble_eq_true rfl) rfl ?_
        refine j_iload_n (pc := 158) hC 1 1 dX11_mends_158 rfl rfl ?_
        obtain ⟨rfl, rfl⟩ := Prod.mk.inj (Option.some.inj h)
        exact j_iret (pc := 159) hC dX11_mends_159 rfl
theorem dX11_heard_0 : decode cX11_heard 0 = .ok (.iload_n 1, 1) := by decide +kernel
theorem dX11_heard_1 : decode cX11_heard 1 = .ok (.invokestatic 122, 3) := by decide +kernel
theorem dX11_heard_4 : decode cX11_heard 4 = .ok (.ifCond .eq 19, 3) := by decide +kernel
theorem dX11_heard_7 : decode cX11_heard 7 = .ok (.iload_n 2, 1) := by decide +kernel
theorem dX11_heard_8 : decode cX11_heard 8 = .ok (.invokestatic 357, 3) := by decide +kernel
theorem dX11_heard_11 : decode cX11_heard 11 = .ok (.ifCond .eq 12, 3) := by decide +kernel
theorem dX11_heard_14 : decode cX11_heard 14 = .ok (.iload_n 3, 1) := by decide +kernel
theorem dX11_heard_15 : decode cX11_heard 15 = .ok (.ifCond .lt 8, 3) := by decide +kernel
theorem dX11_heard_18 : decode cX11_heard 18 = .ok (.iload_n 3, 1) := by decide +kernel
theorem dX11_heard_19 : decode cX11_heard 19 = .ok (.iconst 1, 1) := by decide +kernel
theorem dX11_heard_20 : decode cX11_heard 20 = .ok (.if_icmp .le 5, 3) := by decide +kernel
theorem dX11_heard_23 : decode cX11_heard 23 = .ok (.iconst (-1), 1) := by decide +kernel
theorem dX11_heard_24 : decode cX11_heard 24 = .ok (.ireturn, 1) := by decide +kernel
theorem dX11_heard_25 : decode cX11_heard 25 = .ok (.aload_n 0, 1) := by decide +kernel
theorem dX11_heard_26 : decode cX11_heard 26 = .ok (.getfield 83, 3) := by decide +kernel
theorem dX11_heard_29 : decode cX11_heard 29 = .ok (.iload_n 1, 1) := by decide +kernel
theorem dX11_heard_30 : decode cX11_heard 30 = .ok (.iload_n 2, 1) := by decide +kernel
theorem dX11_heard_31 : decode cX11_heard 31 = .ok (.iload_n 3, 1) := by decide +kernel
theorem dX11_heard_32 : decode cX11_heard 32 = .ok (.invokevirtual 391, 3) := by decide +kernel
theorem dX11_heard_35 : decode cX11_heard 35 = .ok (.ireturn, 1) := by decide +kernel
def f_X11_heard (a0 : Nat) (x1 : Int32) (x2 : Int32) (x3 : Int32) (μ : jM) : Option (Int32 × jM) :=
  (if (f_X11_isVariable x1) = (0 : Int32) then some (((-1 : Int32), μ)) else (if (f_X11_isValue x2) = (0 : Int32) then some (((-1 : Int32), μ)) else (if x3 < (0 : Int32) then some (((-1 : Int32), μ)) else (if x3 ≤ (1 : Int32) then jcl2 (f_X0_add (a0 + 181) x1 x2 x3 μ) (fun v5 m6 => some ((v5, m6))) else some (((-1 : Int32), μ))))))
set_option maxHeartbeats 4000000 in
set_option maxRecDepth 100000 in
theorem c_X11_heard {l : Launch} {G : jG} {L : jL} (hL : jOKL L) {a0 : Nat} {x1 : Int32} {x2 : Int32} {x3 : Int32} (ka0 : jK L a0 11) {μ μ' : jM} {r : Int32} (h : f_X11_heard a0 x1 x2 x3 μ = some ((r, μ'))) : jCt l G L 4 yX11_heard cX11_heard 4 (some .int) [.ref (L.2.2 a0), .int x1, .int x2, .int x3] μ (some (.int r)) μ' := by
  refine jCt_of (by decide) (Nat.le_of_ble_eq_true rfl) (fun X hC hX hR => ?_)
  subst hX
  have hC : jC X G cX11_heard 4 RX11 (some .int) := hC
  unfold f_X11_heard at h
  show jJ X G 4 L 0 0 (jQM X G L (some (.int r)) μ' 0 0) 0 [(0, .ref (L.2.2 a0)), (1, .int x1), (2, .int x2), (3, .int x3)] [] μ
  refine j_iload_n (pc := 0) hC 1 1 dX11_heard_0 rfl rfl ?_
  refine j_si (pc := 1) hC hR [.int x1] iy_X11_isVariable km_X11_122 dX11_heard_1 rfl (by decide) (c_X11_isVariable hL  rfl) (by decide) (Nat.le_of_ble_eq_true rfl) rfl ?_
  refine j_if_eq (pc := 4) hC 23 dX11_heard_4 (by decide) (fun c1 => ?_) (fun c1 => ?_)
  · rw [if_pos c1] at h
    refine j_iconst (pc := 23) hC (-1 : Int32) dX11_heard_23 (by decide) ?_
    obtain ⟨rfl, rfl⟩ := Prod.mk.inj (Option.some.inj h)
    exact j_iret (pc := 24) hC dX11_heard_24 rfl
  · rw [if_neg c1] at h
    refine j_iload_n (pc := 7) hC 2 2 dX11_heard_7 rfl rfl ?_
    refine j_si (pc := 8) hC hR [.int x2] iy_X11_isValue km_X11_357 dX11_heard_8 rfl (by decide) (c_X11_isValue hL  rfl) (by decide) (Nat.le_of_ble_eq_true rfl) rfl ?_
    refine j_if_eq (pc := 11) hC 23 dX11_heard_11 (by decide) (fun c2 => ?_) (fun c2 => ?_)
    · rw [if_pos c2] at h
      refine j_iconst (pc := 23) hC (-1 : Int32) dX11_heard_23 (by decide) ?_
      obtain ⟨rfl, rfl⟩ := Prod.mk.inj (Option.some.inj h)
      exact j_iret (pc := 24) hC dX11_heard_24 rfl
    · rw [if_neg c2] at h
      refine j_iload_n (pc := 14) hC 3 3 dX11_heard_14 rfl rfl ?_
      refine j_if_lt (pc := 15) hC 23 dX11_heard_15 (by decide) (fun c3 => ?_) (fun c3 => ?_)
      · rw [if_pos c3] at h
        refine j_iconst (pc := 23) hC (-1 : Int32) dX11_heard_23 (by decide) ?_
        obtain ⟨rfl, rfl⟩ := Prod.mk.inj (Option.some.inj h)
        exact j_iret (pc := 24) hC dX11_heard_24 rfl
      · rw [if_neg c3] at h
        refine j_iload_n (pc := 18) hC 3 3 dX11_heard_18 rfl rfl ?_
        refine j_iconst (pc := 19) hC (1 : Int32) dX11_heard_19 (by decide) ?_
        refine j_icmp_le (pc := 20) hC 25 dX11_heard_20 (by decide) (fun c4 => ?_) (fun c4 => ?_)
        · rw [if_pos c4] at h
          refine j_aload_n (pc := 25) hC 0 0 dX11_heard_25 rfl rfl ?_
          refine jgr_11 (pc := 26) hC 9 (by decide) rfl kf_X11_83 dX11_heard_26 ka0 (ly_11_9 hL ka0).1 ?_
          refine j_iload_n (pc := 29) hC 1 1 dX11_heard_29 rfl rfl ?_
          refine j_iload_n (pc := 30) hC 2 2 dX11_heard_30 rfl rfl ?_
          refine j_iload_n (pc := 31) hC 3 3 dX11_heard_31 rfl rfl ?_
          obtain ⟨v5, m6, e7, h⟩ := jcl2_some h
          refine j_vi (pc := 32) hC hR [.int x1, .int x2, .int x3] iy_X0_add (q := (RX0, TX0, 4)) (ci := 0) rfl rfl (by decide) km_X11_391 dX11_heard_32 rfl (by decide) (ly_11_9 hL ka0).2.1 (c_X0_add hL (ly_11_9 hL ka0).2.1 e7) (by decide) (Nat.le_of_ble_eq_true rfl) rfl ?_
          obtain ⟨rfl, rfl⟩ := Prod.mk.inj (Option.some.inj h)
          exact j_iret (pc := 35) hC dX11_heard_35 rfl
        · rw [if_neg c4] at h
          refine j_iconst (pc := 23) hC (-1 : Int32) dX11_heard_23 (by decide) ?_
          obtain ⟨rfl, rfl⟩ := Prod.mk.inj (Option.some.inj h)
          exact j_iret (pc := 24) hC dX11_heard_24 rfl
theorem dX11_forget_0 : decode cX11_forget 0 = .ok (.aload_n 0, 1) := by decide +kernel
theorem dX11_forget_1 : decode cX11_forget 1 = .ok (.getfield 83, 3) := by decide +kernel
theorem dX11_forget_4 : decode cX11_forget 4 = .ok (.getfield 394, 3) := by decide +kernel
theorem dX11_forget_7 : decode cX11_forget 7 = .ok (.istore_n 1, 1) := by decide +kernel
theorem dX11_forget_8 : decode cX11_forget 8 = .ok (.aload_n 0, 1) := by decide +kernel
theorem dX11_forget_9 : decode cX11_forget 9 = .ok (.getfield 83, 3) := by decide +kernel
theorem dX11_forget_12 : decode cX11_forget 12 = .ok (.iconst 0, 1) := by decide +kernel
theorem dX11_forget_13 : decode cX11_forget 13 = .ok (.putfield 394, 3) := by decide +kernel
theorem dX11_forget_16 : decode cX11_forget 16 = .ok (.iload_n 1, 1) := by decide +kernel
theorem dX11_forget_17 : decode cX11_forget 17 = .ok (.ireturn, 1) := by decide +kernel
def f_X11_forget (a0 : Nat) (μ : jM) : Int32 × jM :=
  jbd (jsi μ (a0 + 181) 3 (0 : Int32)) (fun m1 => (μ.1 (a0 + 181) 3, m1))
set_option maxHeartbeats 4000000 in
set_option maxRecDepth 100000 in
theorem c_X11_forget {l : Launch} {G : jG} {L : jL} (hL : jOKL L) {a0 : Nat} (ka0 : jK L a0 11) {μ μ' : jM} {r : Int32} (h : f_X11_forget a0 μ = (r, μ')) : jCt l G L 3 yX11_forget cX11_forget 2 (some .int) [.ref (L.2.2 a0)] μ (some (.int r)) μ' := by
  refine jCt_of (by decide) (Nat.le_of_ble_eq_true rfl) (fun X hC hX hR => ?_)
  subst hX
  have hC : jC X G cX11_forget 2 RX11 (some .int) := hC
  unfold f_X11_forget at h
  show jJ X G 2 L 0 0 (jQM X G L (some (.int r)) μ' 0 0) 0 [(0, .ref (L.2.2 a0))] [] μ
  refine j_aload_n (pc := 0) hC 0 0 dX11_forget_0 rfl rfl ?_
  refine jgr_11 (pc := 1) hC 9 (by decide) rfl kf_X11_83 dX11_forget_1 ka0 (ly_11_9 hL ka0).1 ?_
  refine jgi_0 (pc := 4) hC 3 (by decide) rfl kf_X11_394 dX11_forget_4 (ly_11_9 hL ka0).2.1 ?_
  refine j_istore_n (pc := 7) hC 1 [(1, .int (μ.1 (a0 + 181) 3)), (0, .ref (L.2.2 a0))] dX11_forget_7 rfl (by decide) rfl rfl ?_
  refine j_aload_n (pc := 8) hC 0 1 dX11_forget_8 rfl rfl ?_
  refine jgr_11 (pc := 9) hC 9 (by decide) rfl kf_X11_83 dX11_forget_9 ka0 (ly_11_9 hL ka0).1 ?_
  refine j_iconst (pc := 12) hC (0 : Int32) dX11_forget_12 (by decide) ?_
  obtain ⟨m1, e2, h⟩ := jbd_ex h
  refine jpi_0 (pc := 13) hC 3 (by decide) rfl kf_X11_394 dX11_forget_13 rfl (by decide) (ly_11_9 hL ka0).2.1 e2 ?_
  refine j_iload_n (pc := 16) hC 1 0 dX11_forget_16 rfl rfl ?_
  obtain ⟨rfl, rfl⟩ := Prod.mk.inj h
  exact j_iret (pc := 17) hC dX11_forget_17 rfl
theorem dX11_fits_0 : decode cX11_fits 0 = .ok (.iconst 0, 1) := by decide +kernel
theorem dX11_fits_1 : decode cX11_fits 1 = .ok (.istore_n 1, 1) := by decide +kernel
theorem dX11_fits_2 : decode cX11_fits 2 = .ok (.aload_n 0, 1) := by decide +kernel
theorem dX11_fits_3 : decode cX11_fits 3 = .ok (.getfield 49, 3) := by decide +kernel
theorem dX11_fits_6 : decode cX11_fits 6 = .ok (.iconst 1, 1) := by decide +kernel
theorem dX11_fits_7 : decode cX11_fits 7 = .ok (.invokevirtual 298, 3) := by decide +kernel
theorem dX11_fits_10 : decode cX11_fits 10 = .ok (.iconst 0, 1) := by decide +kernel
theorem dX11_fits_11 : decode cX11_fits 11 = .ok (.istore_n 2, 1) := by decide +kernel
theorem dX11_fits_12 : decode cX11_fits 12 = .ok (.iload_n 2, 1) := by decide +kernel
theorem dX11_fits_13 : decode cX11_fits 13 = .ok (.sipush 7776, 3) := by decide +kernel
theorem dX11_fits_16 : decode cX11_fits 16 = .ok (.if_icmp .ge 47, 3) := by decide +kernel
theorem dX11_fits_19 : decode cX11_fits 19 = .ok (.aload_n 0, 1) := by decide +kernel
theorem dX11_fits_20 : decode cX11_fits 20 = .ok (.getfield 49, 3) := by decide +kernel
theorem dX11_fits_23 : decode cX11_fits 23 = .ok (.invokevirtual 301, 3) := by decide +kernel
theorem dX11_fits_26 : decode cX11_fits 26 = .ok (.ifCond .eq 37, 3) := by decide +kernel
theorem dX11_fits_29 : decode cX11_fits 29 = .ok (.aload_n 0, 1) := by decide +kernel
theorem dX11_fits_30 : decode cX11_fits 30 = .ok (.getfield 83, 3) := by decide +kernel
theorem dX11_fits_33 : decode cX11_fits 33 = .ok (.aload_n 0, 1) := by decide +kernel
theorem dX11_fits_34 : decode cX11_fits 34 = .ok (.getfield 49, 3) := by decide +kernel
theorem dX11_fits_37 : decode cX11_fits 37 = .ok (.getfield 311, 3) := by decide +kernel
theorem dX11_fits_40 : decode cX11_fits 40 = .ok (.invokevirtual 395, 3) := by decide +kernel
theorem dX11_fits_43 : decode cX11_fits 43 = .ok (.ifCond .eq 14, 3) := by decide +kernel
theorem dX11_fits_46 : decode cX11_fits 46 = .ok (.iload_n 1, 1) := by decide +kernel
theorem dX11_fits_47 : decode cX11_fits 47 = .ok (.ifCond .ne 7, 3) := by decide +kernel
theorem dX11_fits_50 : decode cX11_fits 50 = .ok (.aload_n 0, 1) := by decide +kernel
theorem dX11_fits_51 : decode cX11_fits 51 = .ok (.invokevirtual 305, 3) := by decide +kernel
theorem dX11_fits_54 : decode cX11_fits 54 = .ok (.iinc 1 1, 3) := by decide +kernel
theorem dX11_fits_57 : decode cX11_fits 57 = .ok (.iinc 2 1, 3) := by decide +kernel
theorem dX11_fits_60 : decode cX11_fits 60 = .ok (.goto (-48), 3) := by decide +kernel
theorem dX11_fits_63 : decode cX11_fits 63 = .ok (.aload_n 0, 1) := by decide +kernel
theorem dX11_fits_64 : decode cX11_fits 64 = .ok (.iload_n 1, 1) := by decide +kernel
theorem dX11_fits_65 : decode cX11_fits 65 = .ok (.invokevirtual 308, 3) := by decide +kernel
theorem dX11_fits_68 : decode cX11_fits 68 = .ok (.iload_n 1, 1) := by decide +kernel
theorem dX11_fits_69 : decode cX11_fits 69 = .ok (.ireturn, 1) := by decide +kernel
def f_X11_fits_L12 (a0 : Nat) (u3 : Int32) (u4 : Int32) (m5 : jM) : Option ((Int32 × Int32 × jM) ⊕ (Int32 × jM)) :=
  (if (7776 : Int32) ≤ u4 then some (.inr ((u3, m5))) else jcl2 (f_X10_advance (a0 + 167) m5) (fun v7 m8 => (if v7 = (0 : Int32) then some (.inr ((u3, m8))) else jcl (f_X0_agrees (a0 + 181) (a0 + 168) m8) (fun v11 => (if v11 = (0 : Int32) then some (.inl ((u3, u4 + (1 : Int32), m8))) else (if u3 = (0 : Int32) then jcl (f_X11_keepFirst a0 m8) (fun m15 => some (.inl ((u3 + (1 : Int32), u4 + (1 : Int32), m15)))) else some (.inl ((u3 + (1 : Int32), u4 + (1 : Int32), m8)))))))))
def f_X11_fits (a0 : Nat) (μ : jM) : Option (Int32 × jM) :=
  jcl (f_X10_begin (a0 + 167) (1 : Int32) μ) (fun m1 => jcl (jloop (fun (s : Int32 × Int32 × jM) => f_X11_fits_L12 a0 s.1 s.2.1 s.2.2) jfu (((0 : Int32), (0 : Int32), m1))) (fun w17 => jcl (f_X11_tellFirst a0 w17.1 w17.2) (fun m22 => some ((w17.1, m22)))))
set_option maxHeartbeats 4000000 in
set_option maxRecDepth 100000 in
theorem c_X11_fits {l : Launch} {G : jG} {L : jL} (hL : jOKL L) {a0 : Nat} (ka0 : jK L a0 11) {μ μ' : jM} {r : Int32} (h : f_X11_fits a0 μ = some ((r, μ'))) : jCt l G L 6 yX11_fits cX11_fits 3 (some .int) [.ref (L.2.2 a0)] μ (some (.int r)) μ' := by
  refine jCt_of (by decide) (Nat.le_of_ble_eq_true rfl) (fun X hC hX hR => ?_)
  subst hX
  have hC : jC X G cX11_fits 3 RX11 (some .int) := hC
  unfold f_X11_fits at h
  show jJ X G 3 L 0 0 (jQM X G L (some (.int r)) μ' 0 0) 0 [(0, .ref (L.2.2 a0))] [] μ
  refine j_iconst (pc := 0) hC (0 : Int32) dX11_fits_0 (by decide) ?_
  refine j_istore_n (pc := 1) hC 1 [(1, .int (0 : Int32)), (0, .ref (L.2.2 a0))] dX11_fits_1 rfl (by decide) rfl rfl ?_
  refine j_aload_n (pc := 2) hC 0 1 dX11_fits_2 rfl rfl ?_
  refine jgr_11 (pc := 3) hC 5 (by decide) rfl kf_X11_49 dX11_fits_3 ka0 (ly_11_5 hL ka0).1 ?_
  refine j_iconst (pc := 6) hC (1 : Int32) dX11_fits_6 (by decide) ?_
  obtain ⟨m1, e2, h⟩ := jcl_some h
  refine j_vv (pc := 7) hC hR [.int (1 : Int32)] iy_X10_begin (q := (RX10, TX10, 5)) (ci := 10) rfl rfl (by decide) km_X11_298 dX11_fits_7 rfl (by decide) (ly_11_5 hL ka0).2.1 (c_X10_begin hL (ly_11_5 hL ka0).2.1 e2) (by decide) (Nat.le_of_ble_eq_true rfl) rfl ?_
  refine j_iconst (pc := 10) hC (0 : Int32) dX11_fits_10 (by decide) ?_
  refine j_istore_n (pc := 11) hC 2 [(2, .int (0 : Int32)), (1, .int (0 : Int32)), (0, .ref (L.2.2 a0))] dX11_fits_11 rfl (by decide) rfl rfl ?_
  obtain ⟨w17, hw18, h⟩ := jcl_some h
  refine j_lv [2, 1, 0] rfl ?_
  refine j_loop (step := (fun (s : Int32 × Int32 × jM) => f_X11_fits_L12 a0 s.1 s.2.1 s.2.2)) (P := (fun (s : Int32 × Int32 × jM) => jJ X G 3 L 0 0 (jQM X G L (some (.int r)) μ' 0 0) 12 [(0, .ref (L.2.2 a0)), (1, .int s.1), (2, .int s.2.1)] [] s.2.2)) (R := (fun (e : Int32 × jM) => jJ X G 3 L 0 0 (jQM X G L (some (.int r)) μ' 0 0) 63 [(0, .ref (L.2.2 a0)), (1, .int e.1)] [] e.2)) ?_ jfu (((0 : Int32), (0 : Int32), m1)) w17 hw18 ?_
  · intro s19 o h hk
    obtain ⟨u3, u4, m5⟩ := s19
    change f_X11_fits_L12 a0 u3 u4 m5 = some o at h
    unfold f_X11_fits_L12 at h
    show jJ X G 3 L 0 0 (jQM X G L (some (.int r)) μ' 0 0) 12 [(0, .ref (L.2.2 a0)), (1, .int u3), (2, .int u4)] [] m5
    refine j_iload_n (pc := 12) hC 2 2 dX11_fits_12 rfl rfl ?_
    refine j_sipush (pc := 13) hC (7776 : Int32) dX11_fits_13 (by decide) ?_
    refine j_icmp_ge (pc := 16) hC 63 dX11_fits_16 (by decide) (fun c6 => ?_) (fun c6 => ?_)
    · rw [if_pos c6] at h
      obtain rfl := Option.some.inj h
      have hk : jJ X G 3 L 0 0 (jQM X G L (some (.int r)) μ' 0 0) 63 [(0, .ref (L.2.2 a0)), (1, .int u3)] [] m5 := hk
      exact j_lv [0, 1] rfl hk
    · rw [if_neg c6] at h
      refine j_aload_n (pc := 19) hC 0 0 dX11_fits_19 rfl rfl ?_
      refine jgr_11 (pc := 20) hC 5 (by decide) rfl kf_X11_49 dX11_fits_20 ka0 (ly_11_5 hL ka0).1 ?_
      obtain ⟨v7, m8, e9, h⟩ := jcl2_some h
      refine j_vi (pc := 23) hC hR [] iy_X10_advance (q := (RX10, TX10, 5)) (ci := 10) rfl rfl (by decide) km_X11_301 dX11_fits_23 rfl (by decide) (ly_11_5 hL ka0).2.1 (c_X10_advance hL (ly_11_5 hL ka0).2.1 e9) (by decide) (Nat.le_of_ble_eq_true rfl) rfl ?_
      refine j_if_eq (pc := 26) hC 63 dX11_fits_26 (by decide) (fun c10 => ?_) (fun c10 => ?_)
      · rw [if_pos c10] at h
        obtain rfl := Option.some.inj h
        have hk : jJ X G 3 L 0 0 (jQM X G L (some (.int r)) μ' 0 0) 63 [(0, .ref (L.2.2 a0)), (1, .int u3)] [] m8 := hk
        exact j_lv [0, 1] rfl hk
      · rw [if_neg c10] at h
        refine j_aload_n (pc := 29) hC 0 0 dX11_fits_29 rfl rfl ?_
        refine jgr_11 (pc := 30) hC 9 (by decide) rfl kf_X11_83 dX11_fits_30 ka0 (ly_11_9 hL ka0).1 ?_
        refine j_aload_n (pc := 33) hC 0 0 dX11_fits_33 rfl rfl ?_
        refine jgr_11 (pc := 34) hC 5 (by decide) rfl kf_X11_49 dX11_fits_34 ka0 (ly_11_5 hL ka0).1 ?_
        refine jgr_10 (pc := 37) hC 0 (by decide) rfl kf_X11_311 dX11_fits_37 (ly_11_5 hL ka0).2.1 (ly_10_0 hL (ly_11_5 hL ka0).2.1).1 ?_
        obtain ⟨v11, e12, h⟩ := jcl_some h
        refine j_vi (pc := 40) hC hR [.ref (L.2.2 (a0 + 168))] iy_X0_agrees (q := (RX0, TX0, 4)) (ci := 0) rfl rfl (by decide) km_X11_395 dX11_fits_40 rfl (by decide) (ly_11_9 hL ka0).2.1 (c_X0_agrees hL (ly_11_9 hL ka0).2.1 (ly_10_0 hL (ly_11_5 hL ka0).2.1).2.1 e12) (by decide) (Nat.le_of_ble_eq_true rfl) rfl ?_
        refine j_if_eq (pc := 43) hC 57 dX11_fits_43 (by decide) (fun c13 => ?_) (fun c13 => ?_)
        · rw [if_pos c13] at h
          refine j_iinc (pc := 57) hC 2 (u4 + (1 : Int32)) [(2, .int (u4 + (1 : Int32))), (0, .ref (L.2.2 a0)), (1, .int u3)] dX11_fits_57 rfl rfl (by decide) rfl ?_
          refine j_goto (pc := 60) hC 12 dX11_fits_60 (by decide) ?_
          obtain rfl := Option.some.inj h
          have hk : jJ X G 3 L 0 0 (jQM X G L (some (.int r)) μ' 0 0) 12 [(0, .ref (L.2.2 a0)), (1, .int u3), (2, .int (u4 + (1 : Int32)))] [] m8 := hk
          exact j_lv [1, 2, 0] rfl hk
        · rw [if_neg c13] at h
          refine j_iload_n (pc := 46) hC 1 1 dX11_fits_46 rfl rfl ?_
          refine j_if_ne (pc := 47) hC 54 dX11_fits_47 (by decide) (fun c14 => ?_) (fun c14 => ?_)
          · rw [if_neg c14] at h
            refine j_iinc (pc := 54) hC 1 (u3 + (1 : Int32)) [(1, .int (u3 + (1 : Int32))), (0, .ref (L.2.2 a0)), (2, .int u4)] dX11_fits_54 rfl rfl (by decide) rfl ?_
            refine j_iinc (pc := 57) hC 2 (u4 + (1 : Int32)) [(2, .int (u4 + (1 : Int32))), (1, .int (u3 + (1 : Int32))), (0, .ref (L.2.2 a0))] dX11_fits_57 rfl rfl (by decide) rfl ?_
            refine j_goto (pc := 60) hC 12 dX11_fits_60 (by decide) ?_
            obtain rfl := Option.some.inj h
            have hk : jJ X G 3 L 0 0 (jQM X G L (some (.int r)) μ' 0 0) 12 [(0, .ref (L.2.2 a0)), (1, .int (u3 + (1 : Int32))), (2, .int (u4 + (1 : Int32)))] [] m8 := hk
            exact j_lv [2, 1, 0] rfl hk
          · rw [if_pos c14] at h
            refine j_aload_n (pc := 50) hC 0 0 dX11_fits_50 rfl rfl ?_
            obtain ⟨m15, e16, h⟩ := jcl_some h
            refine j_vv (pc := 51) hC hR [] iy_X11_keepFirst (q := (RX11, TX11, 15)) (ci := 11) rfl rfl (by decide) km_X11_305 dX11_fits_51 rfl (by decide) ka0 (c_X11_keepFirst hL ka0 e16) (by decide) (Nat.le_of_ble_eq_true rfl) rfl ?_
            refine j_iinc (pc := 54) hC 1 (u3 + (1 : Int32)) [(1, .int (u3 + (1 : Int32))), (0, .ref (L.2.2 a0)), (2, .int u4)] dX11_fits_54 rfl rfl (by decide) rfl ?_
            refine j_iinc (pc := 57) hC 2 (u4 + (1 : Int32)) [(2, .int (u4 + (1 : Int32))), (1, .int (u3 + (1 : Int32))), (0, .ref (L.2.2 a0))] dX11_fits_57 rfl rfl (by decide) rfl ?_
            refine j_goto (pc := 60) hC 12 dX11_fits_60 (by decide) ?_
            obtain rfl := Option.some.inj h
            have hk : jJ X G 3 L 0 0 (jQM X G L (some (.int r)) μ' 0 0) 12 [(0, .ref (L.2.2 a0)), (1, .int (u3 + (1 : Int32))), (2, .int (u4 + (1 : Int32)))] [] m15 := hk
            exact j_lv [2, 1, 0] rfl hk
  · obtain ⟨z20, m21⟩ := w17
    try dsimp only at h
    show jJ X G 3 L 0 0 (jQM X G L (some (.int r)) μ' 0 0) 63 [(0, .ref (L.2.2 a0)), (1, .int z20)] [] m21
    refine j_aload_n (pc := 63) hC 0 0 dX11_fits_63 rfl rfl ?_
    refine j_iload_n (pc := 64) hC 1 1 dX11_fits_64 rfl rfl ?_
    obtain ⟨m22, e23, h⟩ := jcl_some h
    refine j_vv (pc := 65) hC hR [.int z20] iy_X11_tellFirst (q := (RX11, TX11, 15)) (ci := 11) rfl rfl (by decide) km_X11_308 dX11_fits_65 rfl (by decide) ka0 (c_X11_tellFirst hL ka0 e23) (by decide) (Nat.le_of_ble_eq_true rfl) rfl ?_
    refine j_iload_n (pc := 68) hC 1 1 dX11_fits_68 rfl rfl ?_
    obtain ⟨rfl, rfl⟩ := Prod.mk.inj (Option.some.inj h)
    exact j_iret (pc := 69) hC dX11_fits_69 rfl
theorem dX11_tallyFitting_0 : decode cX11_tallyFitting 0 = .ok (.iconst 0, 1) := by decide +kernel
theorem dX11_tallyFitting_1 : decode cX11_tallyFitting 1 = .ok (.istore_n 1, 1) := by decide +kernel
theorem dX11_tallyFitting_2 : decode cX11_tallyFitting 2 = .ok (.aload_n 0, 1) := by decide +kernel
theorem dX11_tallyFitting_3 : decode cX11_tallyFitting 3 = .ok (.getfield 97, 3) := by decide +kernel
theorem dX11_tallyFitting_6 : decode cX11_tallyFitting 6 = .ok (.iconst 0, 1) := by decide +kernel
theorem dX11_tallyFitting_7 : decode cX11_tallyFitting 7 = .ok (.invokestatic 317, 3) := by decide +kernel
theorem dX11_tallyFitting_10 : decode cX11_tallyFitting 10 = .ok (.aload_n 0, 1) := by decide +kernel
theorem dX11_tallyFitting_11 : decode cX11_tallyFitting 11 = .ok (.getfield 49, 3) := by decide +kernel
theorem dX11_tallyFitting_14 : decode cX11_tallyFitting 14 = .ok (.iconst 1, 1) := by decide +kernel
theorem dX11_tallyFitting_15 : decode cX11_tallyFitting 15 = .ok (.invokevirtual 298, 3) := by decide +kernel
theorem dX11_tallyFitting_18 : decode cX11_tallyFitting 18 = .ok (.iconst 0, 1) := by decide +kernel
theorem dX11_tallyFitting_19 : decode cX11_tallyFitting 19 = .ok (.istore_n 2, 1) := by decide +kernel
theorem dX11_tallyFitting_20 : decode cX11_tallyFitting 20 = .ok (.iload_n 2, 1) := by decide +kernel
theorem dX11_tallyFitting_21 : decode cX11_tallyFitting 21 = .ok (.sipush 7776, 3) := by decide +kernel
theorem dX11_tallyFitting_24 : decode cX11_tallyFitting 24 = .ok (.if_icmp .ge 75, 3) := by decide +kernel
theorem dX11_tallyFitting_27 : decode cX11_tallyFitting 27 = .ok (.aload_n 0, 1) := by decide +kernel
theorem dX11_tallyFitting_28 : decode cX11_tallyFitting 28 = .ok (.getfield 49, 3) := by decide +kernel
theorem dX11_tallyFitting_31 : decode cX11_tallyFitting 31 = .ok (.invokevirtual 301, 3) := by decide +kernel
theorem dX11_tallyFitting_34 : decode cX11_tallyFitting 34 = .ok (.ifCond .eq 65, 3) := by decide +kernel
theorem dX11_tallyFitting_37 : decode cX11_tallyFitting 37 = .ok (.aload_n 0, 1) := by decide +kernel
theorem dX11_tallyFitting_38 : decode cX11_tallyFitting 38 = .ok (.getfield 83, 3) := by decide +kernel
theorem dX11_tallyFitting_41 : decode cX11_tallyFitting 41 = .ok (.aload_n 0, 1) := by decide +kernel
theorem dX11_tallyFitting_42 : decode cX11_tallyFitting 42 = .ok (.getfield 49, 3) := by decide +kernel
theorem dX11_tallyFitting_45 : decode cX11_tallyFitting 45 = .ok (.getfield 311, 3) := by decide +kernel
theorem dX11_tallyFitting_48 : decode cX11_tallyFitting 48 = .ok (.invokevirtual 395, 3) := by decide +kernel
theorem dX11_tallyFitting_51 : decode cX11_tallyFitting 51 = .ok (.ifCond .eq 42, 3) := by decide +kernel
theorem dX11_tallyFitting_54 : decode cX11_tallyFitting 54 = .ok (.iconst 0, 1) := by decide +kernel
theorem dX11_tallyFitting_55 : decode cX11_tallyFitting 55 = .ok (.istore_n 3, 1) := by decide +kernel
theorem dX11_tallyFitting_56 : decode cX11_tallyFitting 56 = .ok (.iload_n 3, 1) := by decide +kernel
theorem dX11_tallyFitting_57 : decode cX11_tallyFitting 57 = .ok (.iconst 5, 1) := by decide +kernel
theorem dX11_tallyFitting_58 : decode cX11_tallyFitting 58 = .ok (.if_icmp .ge 32, 3) := by decide +kernel
theorem dX11_tallyFitting_61 : decode cX11_tallyFitting 61 = .ok (.aload_n 0, 1) := by decide +kernel
theorem dX11_tallyFitting_62 : decode cX11_tallyFitting 62 = .ok (.getfield 97, 3) := by decide +kernel
theorem dX11_tallyFitting_65 : decode cX11_tallyFitting 65 = .ok (.bipush 6, 2) := by decide +kernel
theorem dX11_tallyFitting_67 : decode cX11_tallyFitting 67 = .ok (.iload_n 3, 1) := by decide +kernel
theorem dX11_tallyFitting_68 : decode cX11_tallyFitting 68 = .ok (.imul, 1) := by decide +kernel
theorem dX11_tallyFitting_69 : decode cX11_tallyFitting 69 = .ok (.aload_n 0, 1) := by decide +kernel
theorem dX11_tallyFitting_70 : decode cX11_tallyFitting 70 = .ok (.getfield 49, 3) := by decide +kernel
theorem dX11_tallyFitting_73 : decode cX11_tallyFitting 73 = .ok (.getfield 311, 3) := by decide +kernel
theorem dX11_tallyFitting_76 : decode cX11_tallyFitting 76 = .ok (.iload_n 3, 1) := by decide +kernel
theorem dX11_tallyFitting_77 : decode cX11_tallyFitting 77 = .ok (.iaload, 1) := by decide +kernel
theorem dX11_tallyFitting_78 : decode cX11_tallyFitting 78 = .ok (.iadd, 1) := by decide +kernel
theorem dX11_tallyFitting_79 : decode cX11_tallyFitting 79 = .ok (.dup2, 1) := by decide +kernel
theorem dX11_tallyFitting_80 : decode cX11_tallyFitting 80 = .ok (.iaload, 1) := by decide +kernel
theorem dX11_tallyFitting_81 : decode cX11_tallyFitting 81 = .ok (.iconst 1, 1) := by decide +kernel
theorem dX11_tallyFitting_82 : decode cX11_tallyFitting 82 = .ok (.iadd, 1) := by decide +kernel
theorem dX11_tallyFitting_83 : decode cX11_tallyFitting 83 = .ok (.iastore, 1) := by decide +kernel
theorem dX11_tallyFitting_84 : decode cX11_tallyFitting 84 = .ok (.iinc 3 1, 3) := by decide +kernel
theorem dX11_tallyFitting_87 : decode cX11_tallyFitting 87 = .ok (.goto (-31), 3) := by decide +kernel
theorem dX11_tallyFitting_90 : decode cX11_tallyFitting 90 = .ok (.iinc 1 1, 3) := by decide +kernel
theorem dX11_tallyFitting_93 : decode cX11_tallyFitting 93 = .ok (.iinc 2 1, 3) := by decide +kernel
theorem dX11_tallyFitting_96 : decode cX11_tallyFitting 96 = .ok (.goto (-76), 3) := by decide +kernel
theorem dX11_tallyFitting_99 : decode cX11_tallyFitting 99 = .ok (.iload_n 1, 1) := by decide +kernel
theorem dX11_tallyFitting_100 : decode cX11_tallyFitting 100 = .ok (.ireturn, 1) := by decide +kernel
def f_X11_tallyFitting_L56 (a0 : Nat) (u16 : Int32) (m17 : jM) : Option ((Int32 × jM) ⊕ (jM)) :=
  (if (5 : Int32) ≤ u16 then some (.inr m17) else jrd (m17.1 (a0 + 168)) u16 5 (fun v20 => jrd (m17.1 (a0 + 187)) (((6 : Int32) * u16) + v20) 256 (fun v23 => jin (((6 : Int32) * u16) + v20) 256 (jbd (jsi m17 (a0 + 187) (((6 : Int32) * u16) + v20).toNatClampNeg (v23 + (1 : Int32))) (fun m26 => some (.inl ((u16 + (1 : Int32), m26))))))))
def f_X11_tallyFitting_L20 (a0 : Nat) (u5 : Int32) (u6 : Int32) (m7 : jM) : Option ((Int32 × Int32 × jM) ⊕ (Int32 × jM)) :=
  (if (7776 : Int32) ≤ u6 then some (.inr ((u5, m7))) else jcl2 (f_X10_advance (a0 + 167) m7) (fun v9 m10 => (if v9 = (0 : Int32) then some (.inr ((u5, m10))) else jcl (f_X0_agrees (a0 + 181) (a0 + 168) m10) (fun v13 => (if v13 = (0 : Int32) then some (.inl ((u5, u6 + (1 : Int32), m10))) else jcl (jloop (fun (s : Int32 × jM) => f_X11_tallyFitting_L56 a0 s.1 s.2) jfu (((0 : Int32), m10))) (fun w28 => some (.inl ((u5 + (1 : Int32), u6 + (1 : Int32), w28)))))))))
def f_X11_tallyFitting (a0 : Nat) (μ : jM) : Option (Int32 × jM) :=
  jcl (f_J7_fill_53178 (a0 + 187) (0 : Int32) μ) (fun m1 => jcl (f_X10_begin (a0 + 167) (1 : Int32) m1) (fun m3 => jcl (jloop (fun (s : Int32 × Int32 × jM) => f_X11_tallyFitting_L20 a0 s.1 s.2.1 s.2.2) jfu (((0 : Int32), (0 : Int32), m3))) (fun w32 => some ((w32.1, w32.2)))))
set_option maxHeartbeats 4000000 in
set_option maxRecDepth 100000 in
theorem c_X11_tallyFitting {l : Launch} {G : jG} {L : jL} (hL : jOKL L) {a0 : Nat} (ka0 : jK L a0 11) {μ μ' : jM} {r : Int32} (h : f_X11_tallyFitting a0 μ = some ((r, μ'))) : jCt l G L 6 yX11_tallyFitting cX11_tallyFitting 4 (some .int) [.ref (L.2.2 a0)] μ (some (.int r)) μ' := by
  refine jCt_of (by decide) (Nat.le_of_ble_eq_true rfl) (fun X hC hX hR => ?_)
  subst hX
  have hC : jC X G cX11_tallyFitting 4 RX11 (some .int) := hC
  unfold f_X11_tallyFitting at h
  show jJ X G 4 L 0 0 (jQM X G L (some (.int r)) μ' 0 0) 0 [(0, .ref (L.2.2 a0))] [] μ
  refine j_iconst (pc := 0) hC (0 : Int32) dX11_tallyFitting_0 (by decide) ?_
  refine j_istore_n (pc := 1) hC 1 [(1, .int (0 : Int32)), (0, .ref (L.2.2 a0))] dX11_tallyFitting_1 rfl (by decide) rfl rfl ?_
  refine j_aload_n (pc := 2) hC 0 1 dX11_tallyFitting_2 rfl rfl ?_
  refine jgr_11 (pc := 3) hC 12 (by decide) rfl kf_X11_97 dX11_tallyFitting_3 ka0 (ly_11_12 hL ka0).1 ?_
  refine j_iconst (pc := 6) hC (0 : Int32) dX11_tallyFitting_6 (by decide) ?_
  obtain ⟨m1, e2, h⟩ := jcl_some h
  refine j_sv (pc := 7) hC hR [.ref (L.2.2 (a0 + 187)), .int (0 : Int32)] iy_J7_fill_53178 km_X11_317 dX11_tallyFitting_7 rfl (by decide) (c_J7_fill_53178 hL (ly_11_12 hL ka0).2.1 e2) (by decide) (Nat.le_of_ble_eq_true rfl) rfl ?_
  refine j_aload_n (pc := 10) hC 0 1 dX11_tallyFitting_10 rfl rfl ?_
  refine jgr_11 (pc := 11) hC 5 (by decide) rfl kf_X11_49 dX11_tallyFitting_11 ka0 (ly_11_5 hL ka0).1 ?_
  refine j_iconst (pc := 14) hC (1 : Int32) dX11_tallyFitting_14 (by decide) ?_
  obtain ⟨m3, e4, h⟩ := jcl_some h
  refine j_vv (pc := 15) hC hR [.int (1 : Int32)] iy_X10_begin (q := (RX10, TX10, 5)) (ci := 10) rfl rfl (by decide) km_X11_298 dX11_tallyFitting_15 rfl (by decide) (ly_11_5 hL ka0).2.1 (c_X10_begin hL (ly_11_5 hL ka0).2.1 e4) (by decide) (Nat.le_of_ble_eq_true rfl) rfl ?_
  refine j_iconst (pc := 18) hC (0 : Int32) dX11_tallyFitting_18 (by decide) ?_
  refine j_istore_n (pc := 19) hC 2 [(2, .int (0 : Int32)), (1, .int (0 : Int32)), (0, .ref (L.2.2 a0))] dX11_tallyFitting_19 rfl (by decide) rfl rfl ?_
  obtain ⟨w32, hw33, h⟩ := jcl_some h
  refine j_lv [2, 1, 0] rfl ?_
  refine j_loop (step := (fun (s : Int32 × Int32 × jM) => f_X11_tallyFitting_L20 a0 s.1 s.2.1 s.2.2)) (P := (fun (s : Int32 × Int32 × jM) => jJ X G 4 L 0 0 (jQM X G L (some (.int r)) μ' 0 0) 20 [(0, .ref (L.2.2 a0)), (1, .int s.1), (2, .int s.2.1)] [] s.2.2)) (R := (fun (e : Int32 × jM) => jJ X G 4 L 0 0 (jQM X G L (some (.int r)) μ' 0 0) 99 [(1, .int e.1)] [] e.2)) ?_ jfu (((0 : Int32), (0 : Int32), m3)) w32 hw33 ?_
  · intro s34 o h hk
    obtain ⟨u5, u6, m7⟩ := s34
    change f_X11_tallyFitting_L20 a0 u5 u6 m7 = some o at h
    unfold f_X11_tallyFitting_L20 at h
    show jJ X G 4 L 0 0 (jQM X G L (some (.int r)) μ' 0 0) 20 [(0, .ref (L.2.2 a0)), (1, .int u5), (2, .int u6)] [] m7
    refine j_iload_n (pc := 20) hC 2 2 dX11_tallyFitting_20 rfl rfl ?_
    refine j_sipush (pc := 21) hC (7776 : Int32) dX11_tallyFitting_21 (by decide) ?_
    refine j_icmp_ge (pc := 24) hC 99 dX11_tallyFitting_24 (by decide) (fun c8 => ?_) (fun c8 => ?_)
    · rw [if_pos c8] at h
      obtain rfl := Option.some.inj h
      have hk : jJ X G 4 L 0 0 (jQM X G L (some (.int r)) μ' 0 0) 99 [(1, .int u5)] [] m7 := hk
      exact j_lv [1] rfl hk
    · rw [if_neg c8] at h
      refine j_aload_n (pc := 27) hC 0 0 dX11_tallyFitting_27 rfl rfl ?_
      refine jgr_11 (pc := 28) hC 5 (by decide) rfl kf_X11_49 dX11_tallyFitting_28 ka0 (ly_11_5 hL ka0).1 ?_
      obtain ⟨v9, m10, e11, h⟩ := jcl2_some h
      refine j_vi (pc := 31) hC hR [] iy_X10_advance (q := (RX10, TX10, 5)) (ci := 10) rfl rfl (by decide) km_X11_301 dX11_tallyFitting_31 rfl (by decide) (ly_11_5 hL ka0).2.1 (c_X10_advance hL (ly_11_5 hL ka0).2.1 e11) (by decide) (Nat.le_of_ble_eq_true rfl) rfl ?_
      refine j_if_eq (pc := 34) hC 99 dX11_tallyFitting_34 (by decide) (fun c12 => ?_) (fun c12 => ?_)
      · rw [if_pos c12] at h
        obtain rfl := Option.some.inj h
        have hk : jJ X G 4 L 0 0 (jQM X G L (some (.int r)) μ' 0 0) 99 [(1, .int u5)] [] m10 := hk
        exact j_lv [1] rfl hk
      · rw [if_neg c12] at h
        refine j_aload_n (pc := 37) hC 0 0 dX11_tallyFitting_37 rfl rfl ?_
        refine jgr_11 (pc := 38) hC 9 (by decide) rfl kf_X11_83 dX11_tallyFitting_38 ka0 (ly_11_9 hL ka0).1 ?_
        refine j_aload_n (pc := 41) hC 0 0 dX11_tallyFitting_41 rfl rfl ?_
        refine jgr_11 (pc := 42) hC 5 (by decide) rfl kf_X11_49 dX11_tallyFitting_42 ka0 (ly_11_5 hL ka0).1 ?_
        refine jgr_10 (pc := 45) hC 0 (by decide) rfl kf_X11_311 dX11_tallyFitting_45 (ly_11_5 hL ka0).2.1 (ly_10_0 hL (ly_11_5 hL ka0).2.1).1 ?_
        obtain ⟨v13, e14, h⟩ := jcl_some h
        refine j_vi (pc := 48) hC hR [.ref (L.2.2 (a0 + 168))] iy_X0_agrees (q := (RX0, TX0, 4)) (ci := 0) rfl rfl (by decide) km_X11_395 dX11_tallyFitting_48 rfl (by decide) (ly_11_9 hL ka0).2.1 (c_X0_agrees hL (ly_11_9 hL ka0).2.1 (ly_10_0 hL (ly_11_5 hL ka0).2.1).2.1 e14) (by decide) (Nat.le_of_ble_eq_true rfl) rfl ?_
        refine j_if_eq (pc := 51) hC 93 dX11_tallyFitting_51 (by decide) (fun c15 => ?_) (fun c15 => ?_)
        · rw [if_pos c15] at h
          refine j_iinc (pc := 93) hC 2 (u6 + (1 : Int32)) [(2, .int (u6 + (1 : Int32))), (0, .ref (L.2.2 a0)), (1, .int u5)] dX11_tallyFitting_93 rfl rfl (by decide) rfl ?_
          refine j_goto (pc := 96) hC 20 dX11_tallyFitting_96 (by decide) ?_
          obtain rfl := Option.some.inj h
          have hk : jJ X G 4 L 0 0 (jQM X G L (some (.int r)) μ' 0 0) 20 [(0, .ref (L.2.2 a0)), (1, .int u5), (2, .int (u6 + (1 : Int32)))] [] m10 := hk
          exact j_lv [1, 2, 0] rfl hk
        · rw [if_neg c15] at h
          refine j_iconst (pc := 54) hC (0 : Int32) dX11_tallyFitting_54 (by decide) ?_
          refine j_istore_n (pc := 55) hC 3 [(3, .int (0 : Int32)), (0, .ref (L.2.2 a0)), (1, .int u5), (2, .int u6)] dX11_tallyFitting_55 rfl (by decide) rfl rfl ?_
          obtain ⟨w28, hw29, h⟩ := jcl_some h
          refine j_lv [1, 2, 3, 0] rfl ?_
          refine j_loop (step := (fun (s : Int32 × jM) => f_X11_tallyFitting_L56 a0 s.1 s.2)) (P := (fun (s : Int32 × jM) => jJ X G 4 L 0 0 (jQM X G L (some (.int r)) μ' 0 0) 56 [(0, .ref (L.2.2 a0)), (1, .int u5), (2, .int u6), (3, .int s.1)] [] s.2)) (R := (fun (e : jM) => jJ X G 4 L 0 0 (jQM X G L (some (.int r)) μ' 0 0) 90 [(0, .ref (L.2.2 a0)), (1, .int u5), (2, .int u6)] [] e)) ?_ jfu (((0 : Int32), m10)) w28 hw29 ?_
          · intro s30 o h hk
            obtain ⟨u16, m17⟩ := s30
            change f_X11_tallyFitting_L56 a0 u16 m17 = some o at h
            unfold f_X11_tallyFitting_L56 at h
            show jJ X G 4 L 0 0 (jQM X G L (some (.int r)) μ' 0 0) 56 [(0, .ref (L.2.2 a0)), (1, .int u5), (2, .int u6), (3, .int u16)] [] m17
            refine j_iload_n (pc := 56) hC 3 3 dX11_tallyFitting_56 rfl rfl ?_
            refine j_iconst (pc := 57) hC (5 : Int32) dX11_tallyFitting_57 (by decide) ?_
            refine j_icmp_ge (pc := 58) hC 90 dX11_tallyFitting_58 (by decide) (fun c18 => ?_) (fun c18 => ?_)
            · rw [if_pos c18] at h
              obtain rfl := Option.some.inj h
              have hk : jJ X G 4 L 0 0 (jQM X G L (some (.int r)) μ' 0 0) 90 [(0, .ref (L.2.2 a0)), (1, .int u5), (2, .int u6)] [] m17 := hk
              exact j_lv [0, 1, 2] rfl hk
            · rw [if_neg c18] at h
              refine j_aload_n (pc := 61) hC 0 0 dX11_tallyFitting_61 rfl rfl ?_
              refine jgr_11 (pc := 62) hC 12 (by decide) rfl kf_X11_97 dX11_tallyFitting_62 ka0 (ly_11_12 hL ka0).1 ?_
              refine j_bipush (pc := 65) hC (6 : Int32) dX11_tallyFitting_65 (by decide) ?_
              refine j_iload_n (pc := 67) hC 3 3 dX11_tallyFitting_67 rfl rfl ?_
              refine j_imul (pc := 68) hC dX11_tallyFitting_68 ?_
              refine j_aload_n (pc := 69) hC 0 0 dX11_tallyFitting_69 rfl rfl ?_
              refine jgr_11 (pc := 70) hC 5 (by decide) rfl kf_X11_49 dX11_tallyFitting_70 ka0 (ly_11_5 hL ka0).1 ?_
              refine jgr_10 (pc := 73) hC 0 (by decide) rfl kf_X11_311 dX11_tallyFitting_73 (ly_11_5 hL ka0).2.1 (ly_10_0 hL (ly_11_5 hL ka0).2.1).1 ?_
              refine j_iload_n (pc := 76) hC 3 3 dX11_tallyFitting_76 rfl rfl ?_
              obtain ⟨i19, v20, e21, h⟩ := jrd_some h
              refine j_iald (pc := 77) hC dX11_tallyFitting_77 (ly_10_0 hL (ly_11_5 hL ka0).2.1).2.1 (ly_10_0 hL (ly_11_5 hL ka0).2.1).2.2 i19 e21 ?_
              refine j_iadd (pc := 78) hC dX11_tallyFitting_78 ?_
              refine j_dup2 (pc := 79) hC dX11_tallyFitting_79 rfl rfl ?_
              obtain ⟨i22, v23, e24, h⟩ := jrd_some h
              refine j_iald (pc := 80) hC dX11_tallyFitting_80 (ly_11_12 hL ka0).2.1 (ly_11_12 hL ka0).2.2 i22 e24 ?_
              refine j_iconst (pc := 81) hC (1 : Int32) dX11_tallyFitting_81 (by decide) ?_
              refine j_iadd (pc := 82) hC dX11_tallyFitting_82 ?_
              obtain ⟨i25, h⟩ := jin_some h
              obtain ⟨m26, e27, h⟩ := jbd_ex h
              refine j_iast (pc := 83) hC dX11_tallyFitting_83 (ly_11_12 hL ka0).2.1 (ly_11_12 hL ka0).2.2 i25 e27 ?_
              refine j_iinc (pc := 84) hC 3 (u16 + (1 : Int32)) [(3, .int (u16 + (1 : Int32))), (0, .ref (L.2.2 a0)), (1, .int u5), (2, .int u6)] dX11_tallyFitting_84 rfl rfl (by decide) rfl ?_
              refine j_goto (pc := 87) hC 56 dX11_tallyFitting_87 (by decide) ?_
              obtain rfl := Option.some.inj h
              have hk : jJ X G 4 L 0 0 (jQM X G L (some (.int r)) μ' 0 0) 56 [(0, .ref (L.2.2 a0)), (1, .int u5), (2, .int u6), (3, .int (u16 + (1 : Int32)))] [] m26 := hk
              exact j_lv [1, 2, 3, 0] rfl hk
          · obtain ⟨m31, rfl⟩ : ∃ y, y = w28 := ⟨_, rfl⟩
            try dsimp only at h
            show jJ X G 4 L 0 0 (jQM X G L (some (.int r)) μ' 0 0) 90 [(0, .ref (L.2.2 a0)), (1, .int u5), (2, .int u6)] [] m31
            refine j_iinc (pc := 90) hC 1 (u5 + (1 : Int32)) [(1, .int (u5 + (1 : Int32))), (0, .ref (L.2.2 a0)), (2, .int u6)] dX11_tallyFitting_90 rfl rfl (by decide) rfl ?_
            refine j_iinc (pc := 93) hC 2 (u6 + (1 : Int32)) [(2, .int (u6 + (1 : Int32))), (1, .int (u5 + (1 : Int32))), (0, .ref (L.2.2 a0))] dX11_tallyFitting_93 rfl rfl (by decide) rfl ?_
            refine j_goto (pc := 96) hC 20 dX11_tallyFitting_96 (by decide) ?_
            obtain rfl := Option.some.inj h
            have hk : jJ X G 4 L 0 0 (jQM X G L (some (.int r)) μ' 0 0) 20 [(0, .ref (L.2.2 a0)), (1, .int (u5 + (1 : Int32))), (2, .int (u6 + (1 : Int32)))] [] m31 := hk
            exact j_lv [2, 1, 0] rfl hk
  · obtain ⟨z35, m36⟩ := w32
    try dsimp only at h
    show jJ X G 4 L 0 0 (jQM X G L (some (.int r)) μ' 0 0) 99 [(1, .int z35)] [] m36
    refine j_iload_n (pc := 99) hC 1 0 dX11_tallyFitting_99 rfl rfl ?_
    obtain ⟨rfl, rfl⟩ := Prod.mk.inj (Option.some.inj h)
    exact j_iret (pc := 100) hC dX11_tallyFitting_100 rfl
theorem dX11_asks_0 : decode cX11_asks 0 = .ok (.aload_n 0, 1) := by decide +kernel
theorem dX11_asks_1 : decode cX11_asks 1 = .ok (.invokevirtual 399, 3) := by decide +kernel
theorem dX11_asks_4 : decode cX11_asks 4 = .ok (.istore_n 1, 1) := by decide +kernel
theorem dX11_asks_5 : decode cX11_asks 5 = .ok (.iload_n 1, 1) := by decide +kernel
theorem dX11_asks_6 : decode cX11_asks 6 = .ok (.ifCond .ne 6, 3) := by decide +kernel
theorem dX11_asks_9 : decode cX11_asks 9 = .ok (.bipush (-2), 2) := by decide +kernel
theorem dX11_asks_11 : decode cX11_asks 11 = .ok (.ireturn, 1) := by decide +kernel
theorem dX11_asks_12 : decode cX11_asks 12 = .ok (.iconst 0, 1) := by decide +kernel
theorem dX11_asks_13 : decode cX11_asks 13 = .ok (.istore_n 2, 1) := by decide +kernel
theorem dX11_asks_14 : decode cX11_asks 14 = .ok (.iload_n 1, 1) := by decide +kernel
theorem dX11_asks_15 : decode cX11_asks 15 = .ok (.istore_n 3, 1) := by decide +kernel
theorem dX11_asks_16 : decode cX11_asks 16 = .ok (.iconst 0, 1) := by decide +kernel
theorem dX11_asks_17 : decode cX11_asks 17 = .ok (.istore 4, 2) := by decide +kernel
theorem dX11_asks_19 : decode cX11_asks 19 = .ok (.iload 4, 2) := by decide +kernel
theorem dX11_asks_21 : decode cX11_asks 21 = .ok (.bipush 30, 2) := by decide +kernel
theorem dX11_asks_23 : decode cX11_asks 23 = .ok (.if_icmp .ge 42, 3) := by decide +kernel
theorem dX11_asks_26 : decode cX11_asks 26 = .ok (.aload_n 0, 1) := by decide +kernel
theorem dX11_asks_27 : decode cX11_asks 27 = .ok (.getfield 97, 3) := by decide +kernel
theorem dX11_asks_30 : decode cX11_asks 30 = .ok (.iload 4, 2) := by decide +kernel
theorem dX11_asks_32 : decode cX11_asks 32 = .ok (.iaload, 1) := by decide +kernel
theorem dX11_asks_33 : decode cX11_asks 33 = .ok (.iload_n 1, 1) := by decide +kernel
theorem dX11_asks_34 : decode cX11_asks 34 = .ok (.aload_n 0, 1) := by decide +kernel
theorem dX11_asks_35 : decode cX11_asks 35 = .ok (.getfield 97, 3) := by decide +kernel
theorem dX11_asks_38 : decode cX11_asks 38 = .ok (.iload 4, 2) := by decide +kernel
theorem dX11_asks_40 : decode cX11_asks 40 = .ok (.iaload, 1) := by decide +kernel
theorem dX11_asks_41 : decode cX11_asks 41 = .ok (.isub, 1) := by decide +kernel
theorem dX11_asks_42 : decode cX11_asks 42 = .ok (.invokestatic 161, 3) := by decide +kernel
theorem dX11_asks_45 : decode cX11_asks 45 = .ok (.istore 5, 2) := by decide +kernel
theorem dX11_asks_47 : decode cX11_asks 47 = .ok (.iload 5, 2) := by decide +kernel
theorem dX11_asks_49 : decode cX11_asks 49 = .ok (.iload_n 3, 1) := by decide +kernel
theorem dX11_asks_50 : decode cX11_asks 50 = .ok (.if_icmp .ge 9, 3) := by decide +kernel
theorem dX11_asks_53 : decode cX11_asks 53 = .ok (.iload 5, 2) := by decide +kernel
theorem dX11_asks_55 : decode cX11_asks 55 = .ok (.istore_n 3, 1) := by decide +kernel
theorem dX11_asks_56 : decode cX11_asks 56 = .ok (.iload 4, 2) := by decide +kernel
theorem dX11_asks_58 : decode cX11_asks 58 = .ok (.istore_n 2, 1) := by decide +kernel
theorem dX11_asks_59 : decode cX11_asks 59 = .ok (.iinc 4 1, 3) := by decide +kernel
theorem dX11_asks_62 : decode cX11_asks 62 = .ok (.goto (-43), 3) := by decide +kernel
theorem dX11_asks_65 : decode cX11_asks 65 = .ok (.aload_n 0, 1) := by decide +kernel
theorem dX11_asks_66 : decode cX11_asks 66 = .ok (.getfield 19, 3) := by decide +kernel
theorem dX11_asks_69 : decode cX11_asks 69 = .ok (.iload_n 3, 1) := by decide +kernel
theorem dX11_asks_70 : decode cX11_asks 70 = .ok (.i2l, 1) := by decide +kernel
theorem dX11_asks_71 : decode cX11_asks 71 = .ok (.invokevirtual 235, 3) := by decide +kernel
theorem dX11_asks_74 : decode cX11_asks 74 = .ok (.iload_n 2, 1) := by decide +kernel
theorem dX11_asks_75 : decode cX11_asks 75 = .ok (.ireturn, 1) := by decide +kernel
def f_X11_asks_L19 (a0 : Nat) (v1 : Int32) (m2 : jM) (u5 : Int32) (u6 : Int32) (u7 : Int32) : Option ((Int32 × Int32 × Int32) ⊕ (Int32 × Int32)) :=
  (if (30 : Int32) ≤ u7 then some (.inr ((u5, u6))) else jrd (m2.1 (a0 + 187)) u7 256 (fun v10 => jrd (m2.1 (a0 + 187)) u7 256 (fun v13 => jbd (jmax v10 (v1 - v13) : Int32) (fun v15 => (if u6 ≤ v15 then some (.inl ((u5, u6, u7 + (1 : Int32)))) else some (.inl ((u7, v15, u7 + (1 : Int32)))))))))
def f_X11_asks (a0 : Nat) (μ : jM) : Option (Int32 × jM) :=
  jcl2 (f_X11_tallyFitting a0 μ) (fun v1 m2 => (if v1 = (0 : Int32) then some (((-2 : Int32), m2)) else jcl (jloop (fun (s : Int32 × Int32 × Int32) => f_X11_asks_L19 a0 v1 m2 s.1 s.2.1 s.2.2) jfu (((0 : Int32), v1, (0 : Int32)))) (fun w18 => jcl (f_X3_only (a0 + 3) w18.2.toInt64 m2) (fun m23 => some ((w18.1, m23))))))
set_option maxHeartbeats 4000000 in
set_option maxRecDepth 100000 in
theorem c_X11_asks {l : Launch} {G : jG} {L : jL} (hL : jOKL L) {a0 : Nat} (ka0 : jK L a0 11) {μ μ' : jM} {r : Int32} (h : f_X11_asks a0 μ = some ((r, μ'))) : jCt l G L 7 yX11_asks cX11_asks 6 (some .int) [.ref (L.2.2 a0)] μ (some (.int r)) μ' := by
  refine jCt_of (by decide) (Nat.le_of_ble_eq_true rfl) (fun X hC hX hR => ?_)
  subst hX
  have hC : jC X G cX11_asks 6 RX11 (some .int) := hC
  unfold f_X11_asks at h
  show jJ X G 6 L 0 0 (jQM X G L (some (.int r)) μ' 0 0) 0 [(0, .ref (L.2.2 a0))] [] μ
  refine j_aload_n (pc := 0) hC 0 0 dX11_asks_0 rfl rfl ?_
  obtain ⟨v1, m2, e3, h⟩ := jcl2_some h
  refine j_vi (pc := 1) hC hR [] iy_X11_tallyFitting (q := (RX11, TX11, 15)) (ci := 11) rfl rfl (by decide) km_X11_399 dX11_asks_1 rfl (by decide) ka0 (c_X11_tallyFitting hL ka0 e3) (by decide) (Nat.le_of_ble_eq_true rfl) rfl ?_
  refine j_istore_n (pc := 4) hC 1 [(1, .int v1), (0, .ref (L.2.2 a0))] dX11_asks_4 rfl (by decide) rfl rfl ?_
  refine j_iload_n (pc := 5) hC 1 0 dX11_asks_5 rfl rfl ?_
  refine j_if_ne (pc := 6) hC 12 dX11_asks_6 (by decide) (fun c4 => ?_) (fun c4 => ?_)
  · rw [if_neg c4] at h
    refine j_iconst (pc := 12) hC (0 : Int32) dX11_asks_12 (by decide) ?_
    refine j_istore_n (pc := 13) hC 2 [(2, .int (0 : Int32)), (1, .int v1), (0, .ref (L.2.2 a0))] dX11_asks_13 rfl (by decide) rfl rfl ?_
    refine j_iload_n (pc := 14) hC 1 1 dX11_asks_14 rfl rfl ?_
    refine j_istore_n (pc := 15) hC 3 [(3, .int v1), (2, .int (0 : Int32)), (1, .int v1), (0, .ref (L.2.2 a0))] dX11_asks_15 rfl (by decide) rfl rfl ?_
    refine j_iconst (pc := 16) hC (0 : Int32) dX11_asks_16 (by decide) ?_
    refine j_istore (pc := 17) hC [(4, .int (0 : Int32)), (3, .int v1), (2, .int (0 : Int32)), (1, .int v1), (0, .ref (L.2.2 a0))] dX11_asks_17 (by decide) rfl rfl ?_
    obtain ⟨w18, hw19, h⟩ := jcl_some h
    refine j_lv [4, 3, 2, 1, 0] rfl ?_
    refine j_loop (step := (fun (s : Int32 × Int32 × Int32) => f_X11_asks_L19 a0 v1 m2 s.1 s.2.1 s.2.2)) (P := (fun (s : Int32 × Int32 × Int32) => jJ X G 6 L 0 0 (jQM X G L (some (.int r)) μ' 0 0) 19 [(0, .ref (L.2.2 a0)), (1, .int v1), (2, .int s.1), (3, .int s.2.1), (4, .int s.2.2)] [] m2)) (R := (fun (e : Int32 × Int32) => jJ X G 6 L 0 0 (jQM X G L (some (.int r)) μ' 0 0) 65 [(0, .ref (L.2.2 a0)), (2, .int e.1), (3, .int e.2)] [] m2)) ?_ jfu (((0 : Int32), v1, (0 : Int32))) w18 hw19 ?_
    · intro s20 o h hk
      obtain ⟨u5, u6, u7⟩ := s20
      change f_X11_asks_L19 a0 v1 m2 u5 u6 u7 = some o at h
      unfold f_X11_asks_L19 at h
      show jJ X G 6 L 0 0 (jQM X G L (some (.int r)) μ' 0 0) 19 [(0, .ref (L.2.2 a0)), (1, .int v1), (2, .int u5), (3, .int u6), (4, .int u7)] [] m2
      refine j_iload (pc := 19) hC 4 dX11_asks_19 rfl ?_
      refine j_bipush (pc := 21) hC (30 : Int32) dX11_asks_21 (by decide) ?_
      refine j_icmp_ge (pc := 23) hC 65 dX11_asks_23 (by decide) (fun c8 => ?_) (fun c8 => ?_)
      · rw [if_pos c8] at h
        obtain rfl := Option.some.inj h
        have hk : jJ X G 6 L 0 0 (jQM X G L (some (.int r)) μ' 0 0) 65 [(0, .ref (L.2.2 a0)), (2, .int u5), (3, .int u6)] [] m2 := hk
        exact j_lv [0, 2, 3] rfl hk
      · rw [if_neg c8] at h
        refine j_aload_n (pc := 26) hC 0 0 dX11_asks_26 rfl rfl ?_
        refine jgr_11 (pc := 27) hC 12 (by decide) rfl kf_X11_97 dX11_asks_27 ka0 (ly_11_12 hL ka0).1 ?_
        refine j_iload (pc := 30) hC 4 dX11_asks_30 rfl ?_
        obtain ⟨i9, v10, e11, h⟩ := jrd_some h
        refine j_iald (pc := 32) hC dX11_asks_32 (ly_11_12 hL ka0).2.1 (ly_11_12 hL ka0).2.2 i9 e11 ?_
        refine j_iload_n (pc := 33) hC 1 1 dX11_asks_33 rfl rfl ?_
        refine j_aload_n (pc := 34) hC 0 0 dX11_asks_34 rfl rfl ?_
        refine jgr_11 (pc := 35) hC 12 (by decide) rfl kf_X11_97 dX11_asks_35 ka0 (ly_11_12 hL ka0).1 ?_
        refine j_iload (pc := 38) hC 4 dX11_asks_38 rfl ?_
        obtain ⟨i12, v13, e14, h⟩ := jrd_some h
        refine j_iald (pc := 40) hC dX11_asks_40 (ly_11_12 hL ka0).2.1 (ly_11_12 hL ka0).2.2 i12 e14 ?_
        refine j_isub (pc := 41) hC dX11_asks_41 ?_
        refine j_mmax (pc := 42) hC hR kx_X11_161 dX11_asks_42 (by decide) (Nat.le_of_ble_eq_true rfl) ?_
        obtain ⟨v15, e16, h⟩ := jbd_ex h
        refine j_istore (pc := 45) hC [(5, .int v15), (0, .ref (L.2.2 a0)), (1, .int v1), (2, .int u5), (3, .int u6), (4, .int u7)] dX11_asks_45 (by decide) e16 rfl ?_
        refine j_iload (pc := 47) hC 0 dX11_asks_47 rfl ?_
        refine j_iload_n (pc := 49) hC 3 4 dX11_asks_49 rfl rfl ?_
        refine j_icmp_ge (pc := 50) hC 59 dX11_asks_50 (by decide) (fun c17 => ?_) (fun c17 => ?_)
        · rw [if_pos c17] at h
          refine j_iinc (pc := 59) hC 5 (u7 + (1 : Int32)) [(4, .int (u7 + (1 : Int32))), (5, .int v15), (0, .ref (L.2.2 a0)), (1, .int v1), (2, .int u5), (3, .int u6)] dX11_asks_59 rfl rfl (by decide) rfl ?_
          refine j_goto (pc := 62) hC 19 dX11_asks_62 (by decide) ?_
          obtain rfl := Option.some.inj h
          have hk : jJ X G 6 L 0 0 (jQM X G L (some (.int r)) μ' 0 0) 19 [(0, .ref (L.2.2 a0)), (1, .int v1), (2, .int u5), (3, .int u6), (4, .int (u7 + (1 : Int32)))] [] m2 := hk
          exact j_lv [2, 3, 4, 5, 0] rfl hk
        · rw [if_neg c17] at h
          refine j_iload (pc := 53) hC 0 dX11_asks_53 rfl ?_
          refine j_istore_n (pc := 55) hC 3 [(3, .int v15), (5, .int v15), (0, .ref (L.2.2 a0)), (1, .int v1), (2, .int u5), (4, .int u7)] dX11_asks_55 rfl (by decide) rfl rfl ?_
          refine j_iload (pc := 56) hC 5 dX11_asks_56 rfl ?_
          refine j_istore_n (pc := 58) hC 2 [(2, .int u7), (3, .int v15), (5, .int v15), (0, .ref (L.2.2 a0)), (1, .int v1), (4, .int u7)] dX11_asks_58 rfl (by decide) rfl rfl ?_
          refine j_iinc (pc := 59) hC 5 (u7 + (1 : Int32)) [(4, .int (u7 + (1 : Int32))), (2, .int u7), (3, .int v15), (5, .int v15), (0, .ref (L.2.2 a0)), (1, .int v1)] dX11_asks_59 rfl rfl (by decide) rfl ?_
          refine j_goto (pc := 62) hC 19 dX11_asks_62 (by decide) ?_
          obtain rfl := Option.some.inj h
          have hk : jJ X G 6 L 0 0 (jQM X G L (some (.int r)) μ' 0 0) 19 [(0, .ref (L.2.2 a0)), (1, .int v1), (2, .int u7), (3, .int v15), (4, .int (u7 + (1 : Int32)))] [] m2 := hk
          exact j_lv [4, 5, 1, 2, 0] rfl hk
    · obtain ⟨z21, z22⟩ := w18
      try dsimp only at h
      show jJ X G 6 L 0 0 (jQM X G L (some (.int r)) μ' 0 0) 65 [(0, .ref (L.2.2 a0)), (2, .int z21), (3, .int z22)] [] m2
      refine j_aload_n (pc := 65) hC 0 0 dX11_asks_65 rfl rfl ?_
      refine jgr_11 (pc := 66) hC 1 (by decide) rfl kf_X11_19 dX11_asks_66 ka0 (ly_11_1 hL ka0).1 ?_
      refine j_iload_n (pc := 69) hC 3 2 dX11_asks_69 rfl rfl ?_
      refine j_i2l (pc := 70) hC dX11_asks_70 ?_
      obtain ⟨m23, e24, h⟩ := jcl_some h
      refine j_vv (pc := 71) hC hR [.long z22.toInt64] iy_X3_only (q := (RX3, TX3, 2)) (ci := 3) rfl rfl (by decide) km_X11_235 dX11_asks_71 rfl (by decide) (ly_11_1 hL ka0).2.1 (c_X3_only hL (ly_11_1 hL ka0).2.1 e24) (by decide) (Nat.le_of_ble_eq_true rfl) rfl ?_
      refine j_iload_n (pc := 74) hC 2 1 dX11_asks_74 rfl rfl ?_
      obtain ⟨rfl, rfl⟩ := Prod.mk.inj (Option.some.inj h)
      exact j_iret (pc := 75) hC dX11_asks_75 rfl
  · rw [if_pos c4] at h
    refine j_bipush (pc := 9) hC (-2 : Int32) dX11_asks_9 (by decide) ?_
    obtain ⟨rfl, rfl⟩ := Prod.mk.inj (Option.some.inj h)
    exact j_iret (pc := 11) hC dX11_asks_11 rfl
theorem dX11_draw_0 : decode cX11_draw 0 = .ok (.aload_n 0, 1) := by decide +kernel
theorem dX11_draw_1 : decode cX11_draw 1 = .ok (.aload_n 0, 1) := by decide +kernel
theorem dX11_draw_2 : decode cX11_draw 2 = .ok (.getfield 402, 3) := by decide +kernel
theorem dX11_draw_5 : decode cX11_draw 5 = .ok (.ldc_w 415, 3) := by decide +kernel
theorem dX11_draw_8 : decode cX11_draw 8 = .ok (.imul, 1) := by decide +kernel
theorem dX11_draw_9 : decode cX11_draw 9 = .ok (.sipush 12345, 3) := by decide +kernel
theorem dX11_draw_12 : decode cX11_draw 12 = .ok (.iadd, 1) := by decide +kernel
theorem dX11_draw_13 : decode cX11_draw 13 = .ok (.putfield 402, 3) := by decide +kernel
theorem dX11_draw_16 : decode cX11_draw 16 = .ok (.iload_n 1, 1) := by decide +kernel
theorem dX11_draw_17 : decode cX11_draw 17 = .ok (.iconst 1, 1) := by decide +kernel
theorem dX11_draw_18 : decode cX11_draw 18 = .ok (.if_icmp .ge 7, 3) := by decide +kernel
theorem dX11_draw_21 : decode cX11_draw 21 = .ok (.iconst 0, 1) := by decide +kernel
theorem dX11_draw_22 : decode cX11_draw 22 = .ok (.goto 12, 3) := by decide +kernel
theorem dX11_draw_25 : decode cX11_draw 25 = .ok (.aload_n 0, 1) := by decide +kernel
theorem dX11_draw_26 : decode cX11_draw 26 = .ok (.getfield 402, 3) := by decide +kernel
theorem dX11_draw_29 : decode cX11_draw 29 = .ok (.bipush 16, 2) := by decide +kernel
theorem dX11_draw_31 : decode cX11_draw 31 = .ok (.iushr, 1) := by decide +kernel
theorem dX11_draw_32 : decode cX11_draw 32 = .ok (.iload_n 1, 1) := by decide +kernel
theorem dX11_draw_33 : decode cX11_draw 33 = .ok (.irem, 1) := by decide +kernel
theorem dX11_draw_34 : decode cX11_draw 34 = .ok (.ireturn, 1) := by decide +kernel
def f_X11_draw (a0 : Nat) (x1 : Int32) (μ : jM) : Option (Int32 × jM) :=
  jbd (jsi μ a0 14 (((μ.1 a0 14) * (1103515245 : Int32)) + (12345 : Int32))) (fun m1 => (if (1 : Int32) ≤ x1 then jnz x1 (some (((jushr (m1.1 a0 14) (16 : Int32)) - (jushr (m1.1 a0 14) (16 : Int32)) / x1 * x1, m1))) else some (((0 : Int32), m1))))
set_option maxHeartbeats 4000000 in
set_option maxRecDepth 100000 in
theorem c_X11_draw {l : Launch} {G : jG} {L : jL} (hL : jOKL L) {a0 : Nat} {x1 : Int32} (ka0 : jK L a0 11) {μ μ' : jM} {r : Int32} (h : f_X11_draw a0 x1 μ = some ((r, μ'))) : jCt l G L 3 yX11_draw cX11_draw 2 (some .int) [.ref (L.2.2 a0), .int x1] μ (some (.int r)) μ' := by
  refine jCt_of (by decide) (Nat.le_of_ble_eq_true rfl) (fun X hC hX hR => ?_)
  subst hX
  have hC : jC X G cX11_draw 2 RX11 (some .int) := hC
  unfold f_X11_draw at h
  show jJ X G 2 L 0 0 (jQM X G L (some (.int r)) μ' 0 0) 0 [(0, .ref (L.2.2 a0)), (1, .int x1)] [] μ
  refine j_aload_n (pc := 0) hC 0 0 dX11_draw_0 rfl rfl ?_
  refine j_aload_n (pc := 1) hC 0 0 dX11_draw_1 rfl rfl ?_
  refine jgi_11 (pc := 2) hC 14 (by decide) rfl kf_X11_402 dX11_draw_2 ka0 ?_
  refine j_ldcw (pc := 5) hC dX11_draw_5 kc_X11_415 ?_
  refine j_imul (pc := 8) hC dX11_draw_8 ?_
  refine j_sipush (pc := 9) hC (12345 : Int32) dX11_draw_9 (by decide) ?_
  refine j_iadd (pc := 12) hC dX11_draw_12 ?_
  obtain ⟨m1, e2, h⟩ := jbd_ex h
  refine jpi_11 (pc := 13) hC 14 (by decide) rfl kf_X11_402 dX11_draw_13 rfl (by decide) ka0 e2 ?_
  refine j_iload_n (pc := 16) hC 1 1 dX11_draw_16 rfl rfl ?_
  refine j_iconst (pc := 17) hC (1 : Int32) dX11_draw_17 (by decide) ?_
  refine j_icmp_ge (pc := 18) hC 25 dX11_draw_18 (by decide) (fun c3 => ?_) (fun c3 => ?_)
  · rw [if_pos c3] at h
    refine j_aload_n (pc := 25) hC 0 0 dX11_draw_25 rfl rfl ?_
    refine jgi_11 (pc := 26) hC 14 (by decide) rfl kf_X11_402 dX11_draw_26 ka0 ?_
    refine j_bipush (pc := 29) hC (16 : Int32) dX11_draw_29 (by decide) ?_
    refine j_iushr (pc := 31) hC dX11_draw_31 ?_
    refine j_iload_n (pc := 32) hC 1 1 dX11_draw_32 rfl rfl ?_
    obtain ⟨nz4, h⟩ := jnz_some h
    refine j_irem (pc := 33) hC dX11_draw_33 nz4 ?_
    obtain ⟨rfl, rfl⟩ := Prod.mk.inj (Option.some.inj h)
    exact j_iret (pc := 34) hC dX11_draw_34 rfl
  · rw [if_neg c3] at h
    refine j_iconst (pc := 21) hC (0 : Int32) dX11_draw_21 (by decide) ?_
    refine j_goto (pc := 22) hC 34 dX11_draw_22 (by decide) ?_
    obtain ⟨rfl, rfl⟩ := Prod.mk.inj (Option.some.inj h)
    exact j_iret (pc := 34) hC dX11_draw_34 rfl
theorem dX11_dreamYear_0 : decode cX11_dreamYear 0 = .ok (.aload_n 0, 1) := by decide +kernel
theorem dX11_dreamYear_1 : decode cX11_dreamYear 1 = .ok (.bipush 8, 2) := by decide +kernel
theorem dX11_dreamYear_3 : decode cX11_dreamYear 3 = .ok (.invokevirtual 412, 3) := by decide +kernel
theorem dX11_dreamYear_6 : decode cX11_dreamYear 6 = .ok (.tableswitch 177 0 6 #[42, 70, 94, 119, 136, 147, 166], 42) := by decide +kernel
theorem dX11_dreamYear_48 : decode cX11_dreamYear 48 = .ok (.aload_n 0, 1) := by decide +kernel
theorem dX11_dreamYear_49 : decode cX11_dreamYear 49 = .ok (.bipush 6, 2) := by decide +kernel
theorem dX11_dreamYear_51 : decode cX11_dreamYear 51 = .ok (.invokevirtual 412, 3) := by decide +kernel
theorem dX11_dreamYear_54 : decode cX11_dreamYear 54 = .ok (.istore_n 1, 1) := by decide +kernel
theorem dX11_dreamYear_55 : decode cX11_dreamYear 55 = .ok (.aload_n 0, 1) := by decide +kernel
theorem dX11_dreamYear_56 : decode cX11_dreamYear 56 = .ok (.getfield 30, 3) := by decide +kernel
theorem dX11_dreamYear_59 : decode cX11_dreamYear 59 = .ok (.iload_n 1, 1) := by decide +kernel
theorem dX11_dreamYear_60 : decode cX11_dreamYear 60 = .ok (.aload_n 0, 1) := by decide +kernel
theorem dX11_dreamYear_61 : decode cX11_dreamYear 61 = .ok (.bipush 41, 2) := by decide +kernel
theorem dX11_dreamYear_63 : decode cX11_dreamYear 63 = .ok (.invokevirtual 412, 3) := by decide +kernel
theorem dX11_dreamYear_66 : decode cX11_dreamYear 66 = .ok (.bipush 20, 2) := by decide +kernel
theorem dX11_dreamYear_68 : decode cX11_dreamYear 68 = .ok (.isub, 1) := by decide +kernel
theorem dX11_dreamYear_69 : decode cX11_dreamYear 69 = .ok (.invokevirtual 167, 3) := by decide +kernel
theorem dX11_dreamYear_72 : decode cX11_dreamYear 72 = .ok (.pop, 1) := by decide +kernel
theorem dX11_dreamYear_73 : decode cX11_dreamYear 73 = .ok (.goto 122, 3) := by decide +kernel
theorem dX11_dreamYear_76 : decode cX11_dreamYear 76 = .ok (.aload_n 0, 1) := by decide +kernel
theorem dX11_dreamYear_77 : decode cX11_dreamYear 77 = .ok (.iconst 5, 1) := by decide +kernel
theorem dX11_dreamYear_78 : decode cX11_dreamYear 78 = .ok (.invokevirtual 412, 3) := by decide +kernel
theorem dX11_dreamYear_81 : decode cX11_dreamYear 81 = .ok (.istore_n 2, 1) := by decide +kernel
theorem dX11_dreamYear_82 : decode cX11_dreamYear 82 = .ok (.aload_n 0, 1) := by decide +kernel
theorem dX11_dreamYear_83 : decode cX11_dreamYear 83 = .ok (.getfield 30, 3) := by decide +kernel
theorem dX11_dreamYear_86 : decode cX11_dreamYear 86 = .ok (.iload_n 2, 1) := by decide +kernel
theorem dX11_dreamYear_87 : decode cX11_dreamYear 87 = .ok (.aload_n 0, 1) := by decide +kernel
theorem dX11_dreamYear_88 : decode cX11_dreamYear 88 = .ok (.bipush 6, 2) := by decide +kernel
theorem dX11_dreamYear_90 : decode cX11_dreamYear 90 = .ok (.invokevirtual 412, 3) := by decide +kernel
theorem dX11_dreamYear_93 : decode cX11_dreamYear 93 = .ok (.invokevirtual 170, 3) := by decide +kernel
theorem dX11_dreamYear_96 : decode cX11_dreamYear 96 = .ok (.pop, 1) := by decide +kernel
theorem dX11_dreamYear_97 : decode cX11_dreamYear 97 = .ok (.goto 98, 3) := by decide +kernel
theorem dX11_dreamYear_100 : decode cX11_dreamYear 100 = .ok (.aload_n 0, 1) := by decide +kernel
theorem dX11_dreamYear_101 : decode cX11_dreamYear 101 = .ok (.bipush 10, 2) := by decide +kernel
theorem dX11_dreamYear_103 : decode cX11_dreamYear 103 = .ok (.invokevirtual 412, 3) := by decide +kernel
theorem dX11_dreamYear_106 : decode cX11_dreamYear 106 = .ok (.istore_n 3, 1) := by decide +kernel
theorem dX11_dreamYear_107 : decode cX11_dreamYear 107 = .ok (.aload_n 0, 1) := by decide +kernel
theorem dX11_dreamYear_108 : decode cX11_dreamYear 108 = .ok (.getfield 30, 3) := by decide +kernel
theorem dX11_dreamYear_111 : decode cX11_dreamYear 111 = .ok (.iload_n 3, 1) := by decide +kernel
theorem dX11_dreamYear_112 : decode cX11_dreamYear 112 = .ok (.aload_n 0, 1) := by decide +kernel
theorem dX11_dreamYear_113 : decode cX11_dreamYear 113 = .ok (.bipush 100, 2) := by decide +kernel
theorem dX11_dreamYear_115 : decode cX11_dreamYear 115 = .ok (.invokevirtual 412, 3) := by decide +kernel
theorem dX11_dreamYear_118 : decode cX11_dreamYear 118 = .ok (.invokevirtual 183, 3) := by decide +kernel
theorem dX11_dreamYear_121 : decode cX11_dreamYear 121 = .ok (.pop, 1) := by decide +kernel
theorem dX11_dreamYear_122 : decode cX11_dreamYear 122 = .ok (.goto 73, 3) := by decide +kernel
theorem dX11_dreamYear_125 : decode cX11_dreamYear 125 = .ok (.aload_n 0, 1) := by decide +kernel
theorem dX11_dreamYear_126 : decode cX11_dreamYear 126 = .ok (.getfield 30, 3) := by decide +kernel
theorem dX11_dreamYear_129 : decode cX11_dreamYear 129 = .ok (.aload_n 0, 1) := by decide +kernel
theorem dX11_dreamYear_130 : decode cX11_dreamYear 130 = .ok (.bipush 10, 2) := by decide +kernel
theorem dX11_dreamYear_132 : decode cX11_dreamYear 132 = .ok (.invokevirtual 412, 3) := by decide +kernel
theorem dX11_dreamYear_135 : decode cX11_dreamYear 135 = .ok (.invokevirtual 186, 3) := by decide +kernel
theorem dX11_dreamYear_138 : decode cX11_dreamYear 138 = .ok (.pop, 1) := by decide +kernel
theorem dX11_dreamYear_139 : decode cX11_dreamYear 139 = .ok (.goto 56, 3) := by decide +kernel
theorem dX11_dreamYear_142 : decode cX11_dreamYear 142 = .ok (.aload_n 0, 1) := by decide +kernel
theorem dX11_dreamYear_143 : decode cX11_dreamYear 143 = .ok (.getfield 30, 3) := by decide +kernel
theorem dX11_dreamYear_146 : decode cX11_dreamYear 146 = .ok (.invokevirtual 212, 3) := by decide +kernel
theorem dX11_dreamYear_149 : decode cX11_dreamYear 149 = .ok (.pop, 1) := by decide +kernel
theorem dX11_dreamYear_150 : decode cX11_dreamYear 150 = .ok (.goto 45, 3) := by decide +kernel
theorem dX11_dreamYear_153 : decode cX11_dreamYear 153 = .ok (.aload_n 0, 1) := by decide +kernel
theorem dX11_dreamYear_154 : decode cX11_dreamYear 154 = .ok (.getfield 30, 3) := by decide +kernel
theorem dX11_dreamYear_157 : decode cX11_dreamYear 157 = .ok (.aload_n 0, 1) := by decide +kernel
theorem dX11_dreamYear_158 : decode cX11_dreamYear 158 = .ok (.getfield 30, 3) := by decide +kernel
theorem dX11_dreamYear_161 : decode cX11_dreamYear 161 = .ok (.getfield 215, 3) := by decide +kernel
theorem dX11_dreamYear_164 : decode cX11_dreamYear 164 = .ok (.iconst 1, 1) := by decide +kernel
theorem dX11_dreamYear_165 : decode cX11_dreamYear 165 = .ok (.isub, 1) := by decide +kernel
theorem dX11_dreamYear_166 : decode cX11_dreamYear 166 = .ok (.invokevirtual 239, 3) := by decide +kernel
theorem dX11_dreamYear_169 : decode cX11_dreamYear 169 = .ok (.goto 26, 3) := by decide +kernel
theorem dX11_dreamYear_172 : decode cX11_dreamYear 172 = .ok (.aload_n 0, 1) := by decide +kernel
theorem dX11_dreamYear_173 : decode cX11_dreamYear 173 = .ok (.getfield 30, 3) := by decide +kernel
theorem dX11_dreamYear_176 : decode cX11_dreamYear 176 = .ok (.invokevirtual 242, 3) := by decide +kernel
theorem dX11_dreamYear_179 : decode cX11_dreamYear 179 = .ok (.pop, 1) := by decide +kernel
theorem dX11_dreamYear_180 : decode cX11_dreamYear 180 = .ok (.goto 15, 3) := by decide +kernel
theorem dX11_dreamYear_183 : decode cX11_dreamYear 183 = .ok (.aload_n 0, 1) := by decide +kernel
theorem dX11_dreamYear_184 : decode cX11_dreamYear 184 = .ok (.getfield 30, 3) := by decide +kernel
theorem dX11_dreamYear_187 : decode cX11_dreamYear 187 = .ok (.aload_n 0, 1) := by decide +kernel
theorem dX11_dreamYear_188 : decode cX11_dreamYear 188 = .ok (.getfield 36, 3) := by decide +kernel
theorem dX11_dreamYear_191 : decode cX11_dreamYear 191 = .ok (.invokevirtual 208, 3) := by decide +kernel
theorem dX11_dreamYear_194 : decode cX11_dreamYear 194 = .ok (.pop, 1) := by decide +kernel
theorem dX11_dreamYear_195 : decode cX11_dreamYear 195 = .ok (.return_, 1) := by decide +kernel
def f_X11_dreamYear (a0 : Nat) (μ : jM) : Option (jM) :=
  jcl2 (f_X11_draw a0 (8 : Int32) μ) (fun v1 m2 => (if v1 = (0 : Int32) then jcl2 (f_X11_draw a0 (6 : Int32) m2) (fun v5 m6 => jcl2 (f_X11_draw a0 (41 : Int32) m6) (fun v8 m9 => jcl2 (f_X7_addToCell (a0 + 85) v5 (v8 - (20 : Int32)) m9) (fun v11 m12 => some m12))) else (if v1 = (1 : Int32) then jcl2 (f_X11_draw a0 (5 : Int32) m2) (fun v15 m16 => jcl2 (f_X11_draw a0 (6 : Int32) m16) (fun v18 m19 => jcl2 (f_X7_takeValue (a0 + 85) v15 v18 m19) (fun v21 m22 => some m22))) else (if v1 = (2 : Int32) then jcl2 (f_X11_draw a0 (10 : Int32) m2) (fun v25 m26 => jcl2 (f_X11_draw a0 (100 : Int32) m26) (fun v28 m29 => jcl2 (f_X7_putKey (a0 + 85) v25 v28 m29) (fun v31 m32 => some m32))) else (if v1 = (3 : Int32) then jcl2 (f_X11_draw a0 (10 : Int32) m2) (fun v35 m36 => jcl2 (f_X7_dropKey (a0 + 85) v35 m36) (fun v38 m39 => some m39)) else (if v1 = (4 : Int32) then jcl2 (f_X7_openLevel (a0 + 85) m2) (fun v42 m43 => some m43) else (if v1 = (5 : Int32) then jcl (f_X7_closeTo (a0 + 85) ((m2.1 (a0 + 85) 2) - (1 : Int32)) m2) (fun m46 => some m46) else (if v1 = (6 : Int32) then jcl2 (f_X7_commitLevel (a0 + 85) m2) (fun v49 m50 => some m50) else jcl2 (f_X7_spreadAll (a0 + 85) (a0 + 165) m2) (fun v52 m53 => some m53)))))))))
set_option maxHeartbeats 4000000 in
set_option maxRecDepth 100000 in
theorem c_X11_dreamYear {l : Launch} {G : jG} {L : jL} (hL : jOKL L) {a0 : Nat} (ka0 : jK L a0 11) {μ μ' : jM} (h : f_X11_dreamYear a0 μ = some μ') : jCt l G L 7 yX11_dreamYear cX11_dreamYear 4 none [.ref (L.2.2 a0)] μ none μ' := by
  refine jCt_of (by decide) (Nat.le_of_ble_eq_true rfl) (fun X hC hX hR => ?_)
  subst hX
  have hC : jC X G cX11_dreamYear 4 RX11 none := hC
  unfold f_X11_dreamYear at h
  show jJ X G 4 L 0 0 (jQM X G L none μ' 0 0) 0 [(0, .ref (L.2.2 a0))] [] μ
  refine j_aload_n (pc := 0) hC 0 0 dX11_dreamYear_0 rfl rfl ?_
  refine j_bipush (pc := 1) hC (8 : Int32) dX11_dreamYear_1 (by decide) ?_
  obtain ⟨v1, m2, e3, h⟩ := jcl2_some h
  refine j_vi (pc := 3) hC hR [.int (8 : Int32)] iy_X11_draw (q := (RX11, TX11, 15)) (ci := 11) rfl rfl (by decide) km_X11_412 dX11_dreamYear_3 rfl (by decide) ka0 (c_X11_draw hL ka0 e3) (by decide) (Nat.le_of_ble_eq_true rfl) rfl ?_
  by_cases c4 : v1 = (0 : Int32)
  · rw [if_pos c4] at h
    refine j_tableIn (pc := 6) hC 48 dX11_dreamYear_6 (by rw [c4]; decide) (by rw [c4]; decide) (by rw [c4]; rfl) (by decide) ?_
    refine j_aload_n (pc := 48) hC 0 0 dX11_dreamYear_48 rfl rfl ?_
    refine j_bipush (pc := 49) hC (6 : Int32) dX11_dreamYear_49 (by decide) ?_
    obtain ⟨v5, m6, e7, h⟩ := jcl2_some h
    refine j_vi (pc := 51) hC hR [.int (6 : Int32)] iy_X11_draw (q := (RX11, TX11, 15)) (ci := 11) rfl rfl (by decide) km_X11_412 dX11_dreamYear_51 rfl (by decide) ka0 (c_X11_draw hL ka0 e7) (by decide) (Nat.le_of_ble_eq_true rfl) rfl ?_
    refine j_istore_n (pc := 54) hC 1 [(1, .int v5), (0, .ref (L.2.2 a0))] dX11_dreamYear_54 rfl (by decide) rfl rfl ?_
    refine j_aload_n (pc := 55) hC 0 1 dX11_dreamYear_55 rfl rfl ?_
    refine jgr_11 (pc := 56) hC 3 (by decide) rfl kf_X11_30 dX11_dreamYear_56 ka0 (ly_11_3 hL ka0).1 ?_
    refine j_iload_n (pc := 59) hC 1 0 dX11_dreamYear_59 rfl rfl ?_
    refine j_aload_n (pc := 60) hC 0 1 dX11_dreamYear_60 rfl rfl ?_
    refine j_bipush (pc := 61) hC (41 : Int32) dX11_dreamYear_61 (by decide) ?_
    obtain ⟨v8, m9, e10, h⟩ := jcl2_some h
    refine j_vi (pc := 63) hC hR [.int (41 : Int32)] iy_X11_draw (q := (RX11, TX11, 15)) (ci := 11) rfl rfl (by decide) km_X11_412 dX11_dreamYear_63 rfl (by decide) ka0 (c_X11_draw hL ka0 e10) (by decide) (Nat.le_of_ble_eq_true rfl) rfl ?_
    refine j_bipush (pc := 66) hC (20 : Int32) dX11_dreamYear_66 (by decide) ?_
    refine j_isub (pc := 68) hC dX11_dreamYear_68 ?_
    obtain ⟨v11, m12, e13, h⟩ := jcl2_some h
    refine j_vi (pc := 69) hC hR [.int v5, .int (v8 - (20 : Int32))] iy_X7_addToCell (q := (RX7, TX7, 3)) (ci := 7) rfl rfl (by decide) km_X11_167 dX11_dreamYear_69 rfl (by decide) (ly_11_3 hL ka0).2.1 (c_X7_addToCell hL (ly_11_3 hL ka0).2.1 e13) (by decide) (Nat.le_of_ble_eq_true rfl) rfl ?_
    refine j_pop (pc := 72) hC dX11_dreamYear_72 rfl ?_
    refine j_goto (pc := 73) hC 195 dX11_dreamYear_73 (by decide) ?_
    obtain rfl := Option.some.inj h
    exact j_vret (pc := 195) hC dX11_dreamYear_195 rfl
  · rw [if_neg c4] at h
    by_cases c14 : v1 = (1 : Int32)
    · rw [if_pos c14] at h
      refine j_tableIn (pc := 6) hC 76 dX11_dreamYear_6 (by rw [c14]; decide) (by rw [c14]; decide) (by rw [c14]; rfl) (by decide) ?_
      refine j_aload_n (pc := 76) hC 0 0 dX11_dreamYear_76 rfl rfl ?_
      refine j_iconst (pc := 77) hC (5 : Int32) dX11_dreamYear_77 (by decide) ?_
      obtain ⟨v15, m16, e17, h⟩ := jcl2_some h
      refine j_vi (pc := 78) hC hR [.int (5 : Int32)] iy_X11_draw (q := (RX11, TX11, 15)) (ci := 11) rfl rfl (by decide) km_X11_412 dX11_dreamYear_78 rfl (by decide) ka0 (c_X11_draw hL ka0 e17) (by decide) (Nat.le_of_ble_eq_true rfl) rfl ?_
      refine j_istore_n (pc := 81) hC 2 [(2, .int v15), (0, .ref (L.2.2 a0))] dX11_dreamYear_81 rfl (by decide) rfl rfl ?_
      refine j_aload_n (pc := 82) hC 0 1 dX11_dreamYear_82 rfl rfl ?_
      refine jgr_11 (pc := 83) hC 3 (by decide) rfl kf_X11_30 dX11_dreamYear_83 ka0 (ly_11_3 hL ka0).1 ?_
      refine j_iload_n (pc := 86) hC 2 0 dX11_dreamYear_86 rfl rfl ?_
      refine j_aload_n (pc := 87) hC 0 1 dX11_dreamYear_87 rfl rfl ?_
      refine j_bipush (pc := 88) hC (6 : Int32) dX11_dreamYear_88 (by decide) ?_
      obtain ⟨v18, m19, e20, h⟩ := jcl2_some h
      refine j_vi (pc := 90) hC hR [.int (6 : Int32)] iy_X11_draw (q := (RX11, TX11, 15)) (ci := 11) rfl rfl (by decide) km_X11_412 dX11_dreamYear_90 rfl (by decide) ka0 (c_X11_draw hL ka0 e20) (by decide) (Nat.le_of_ble_eq_true rfl) rfl ?_
      obtain ⟨v21, m22, e23, h⟩ := jcl2_some h
      refine j_vi (pc := 93) hC hR [.int v15, .int v18] iy_X7_takeValue (q := (RX7, TX7, 3)) (ci := 7) rfl rfl (by decide) km_X11_170 dX11_dreamYear_93 rfl (by decide) (ly_11_3 hL ka0).2.1 (c_X7_takeValue hL (ly_11_3 hL ka0).2.1 e23) (by decide) (Nat.le_of_ble_eq_true rfl) rfl ?_
      refine j_pop (pc := 96) hC dX11_dreamYear_96 rfl ?_
      refine j_goto (pc := 97) hC 195 dX11_dreamYear_97 (by decide) ?_
      obtain rfl := Option.some.inj h
      exact j_vret (pc := 195) hC dX11_dreamYear_195 rfl
    · rw [if_neg c14] at h
      by_cases c24 : v1 = (2 : Int32)
      · rw [if_pos c24] at h
        refine j_tableIn (pc := 6) hC 100 dX11_dreamYear_6 (by rw [c24]; decide) (by rw [c24]; decide) (by rw [c24]; rfl) (by decide) ?_
        refine j_aload_n (pc := 100) hC 0 0 dX11_dreamYear_100 rfl rfl ?_
        refine j_bipush (pc := 101) hC (10 : Int32) dX11_dreamYear_101 (by decide) ?_
        obtain ⟨v25, m26, e27, h⟩ := jcl2_some h
        refine j_vi (pc := 103) hC hR [.int (10 : Int32)] iy_X11_draw (q := (RX11, TX11, 15)) (ci := 11) rfl rfl (by decide) km_X11_412 dX11_dreamYear_103 rfl (by decide) ka0 (c_X11_draw hL ka0 e27) (by decide) (Nat.le_of_ble_eq_true rfl) rfl ?_
        refine j_istore_n (pc := 106) hC 3 [(3, .int v25), (0, .ref (L.2.2 a0))] dX11_dreamYear_106 rfl (by decide) rfl rfl ?_
        refine j_aload_n (pc := 107) hC 0 1 dX11_dreamYear_107 rfl rfl ?_
        refine jgr_11 (pc := 108) hC 3 (by decide) rfl kf_X11_30 dX11_dreamYear_108 ka0 (ly_11_3 hL ka0).1 ?_
        refine j_iload_n (pc := 111) hC 3 0 dX11_dreamYear_111 rfl rfl ?_
        refine j_aload_n (pc := 112) hC 0 1 dX11_dreamYear_112 rfl rfl ?_
        refine j_bipush (pc := 113) hC (100 : Int32) dX11_dreamYear_113 (by decide) ?_
        obtain ⟨v28, m29, e30, h⟩ := jcl2_some h
        refine j_vi (pc := 115) hC hR [.int (100 : Int32)] iy_X11_draw (q := (RX11, TX11, 15)) (ci := 11) rfl rfl (by decide) km_X11_412 dX11_dreamYear_115 rfl (by decide) ka0 (c_X11_draw hL ka0 e30) (by decide) (Nat.le_of_ble_eq_true rfl) rfl ?_
        obtain ⟨v31, m32, e33, h⟩ := jcl2_some h
        refine j_vi (pc := 118) hC hR [.int v25, .int v28] iy_X7_putKey (q := (RX7, TX7, 3)) (ci := 7) rfl rfl (by decide) km_X11_183 dX11_dreamYear_118 rfl (by decide) (ly_11_3 hL ka0).2.1 (c_X7_putKey hL (ly_11_3 hL ka0).2.1 e33) (by decide) (Nat.le_of_ble_eq_true rfl) rfl ?_
        refine j_pop (pc := 121) hC dX11_dreamYear_121 rfl ?_
        refine j_goto (pc := 122) hC 195 dX11_dreamYear_122 (by decide) ?_
        obtain rfl := Option.some.inj h
        exact j_vret (pc := 195) hC dX11_dreamYear_195 rfl
      · rw [if_neg c24] at h
        by_cases c34 : v1 = (3 : Int32)
        · rw [if_pos c34] at h
          refine j_tableIn (pc := 6) hC 125 dX11_dreamYear_6 (by rw [c34]; decide) (by rw [c34]; decide) (by rw [c34]; rfl) (by decide) ?_
          refine j_aload_n (pc := 125) hC 0 0 dX11_dreamYear_125 rfl rfl ?_
          refine jgr_11 (pc := 126) hC 3 (by decide) rfl kf_X11_30 dX11_dreamYear_126 ka0 (ly_11_3 hL ka0).1 ?_
          refine j_aload_n (pc := 129) hC 0 0 dX11_dreamYear_129 rfl rfl ?_
          refine j_bipush (pc := 130) hC (10 : Int32) dX11_dreamYear_130 (by decide) ?_
          obtain ⟨v35, m36, e37, h⟩ := jcl2_some h
          refine j_vi (pc := 132) hC hR [.int (10 : Int32)] iy_X11_draw (q := (RX11, TX11, 15)) (ci := 11) rfl rfl (by decide) km_X11_412 dX11_dreamYear_132 rfl (by decide) ka0 (c_X11_draw hL ka0 e37) (by decide) (Nat.le_of_ble_eq_true rfl) rfl ?_
          obtain ⟨v38, m39, e40, h⟩ := jcl2_some h
          refine j_vi (pc := 135) hC hR [.int v35] iy_X7_dropKey (q := (RX7, TX7, 3)) (ci := 7) rfl rfl (by decide) km_X11_186 dX11_dreamYear_135 rfl (by decide) (ly_11_3 hL ka0).2.1 (c_X7_dropKey hL (ly_11_3 hL ka0).2.1 e40) (by decide) (Nat.le_of_ble_eq_true rfl) rfl ?_
          refine j_pop (pc := 138) hC dX11_dreamYear_138 rfl ?_
          refine j_goto (pc := 139) hC 195 dX11_dreamYear_139 (by decide) ?_
          obtain rfl := Option.some.inj h
          exact j_vret (pc := 195) hC dX11_dreamYear_195 rfl
        · rw [if_neg c34] at h
          by_cases c41 : v1 = (4 : Int32)
          · rw [if_pos c41] at h
            refine j_tableIn (pc := 6) hC 142 dX11_dreamYear_6 (by rw [c41]; decide) (by rw [c41]; decide) (by rw [c41]; rfl) (by decide) ?_
            refine j_aload_n (pc := 142) hC 0 0 dX11_dreamYear_142 rfl rfl ?_
            refine jgr_11 (pc := 143) hC 3 (by decide) rfl kf_X11_30 dX11_dreamYear_143 ka0 (ly_11_3 hL ka0).1 ?_
            obtain ⟨v42, m43, e44, h⟩ := jcl2_some h
            refine j_vi (pc := 146) hC hR [] iy_X7_openLevel (q := (RX7, TX7, 3)) (ci := 7) rfl rfl (by decide) km_X11_212 dX11_dreamYear_146 rfl (by decide) (ly_11_3 hL ka0).2.1 (c_X7_openLevel hL (ly_11_3 hL ka0).2.1 e44) (by decide) (Nat.le_of_ble_eq_true rfl) rfl ?_
            refine j_pop (pc := 149) hC dX11_dreamYear_149 rfl ?_
            refine j_goto (pc := 150) hC 195 dX11_dreamYear_150 (by decide) ?_
            obtain rfl := Option.some.inj h
            exact j_vret (pc := 195) hC dX11_dreamYear_195 rfl
          · rw [if_neg c41] at h
            by_cases c45 : v1 = (5 : Int32)
            · rw [if_pos c45] at h
              refine j_tableIn (pc := 6) hC 153 dX11_dreamYear_6 (by rw [c45]; decide) (by rw [c45]; decide) (by rw [c45]; rfl) (by decide) ?_
              refine j_aload_n (pc := 153) hC 0 0 dX11_dreamYear_153 rfl rfl ?_
              refine jgr_11 (pc := 154) hC 3 (by decide) rfl kf_X11_30 dX11_dreamYear_154 ka0 (ly_11_3 hL ka0).1 ?_
              refine j_aload_n (pc := 157) hC 0 0 dX11_dreamYear_157 rfl rfl ?_
              refine jgr_11 (pc := 158) hC 3 (by decide) rfl kf_X11_30 dX11_dreamYear_158 ka0 (ly_11_3 hL ka0).1 ?_
              refine jgi_7 (pc := 161) hC 2 (by decide) rfl kf_X11_215 dX11_dreamYear_161 (ly_11_3 hL ka0).2.1 ?_
              refine j_iconst (pc := 164) hC (1 : Int32) dX11_dreamYear_164 (by decide) ?_
              refine j_isub (pc := 165) hC dX11_dreamYear_165 ?_
              obtain ⟨m46, e47, h⟩ := jcl_some h
              refine j_vv (pc := 166) hC hR [.int ((m2.1 (a0 + 85) 2) - (1 : Int32))] iy_X7_closeTo (q := (RX7, TX7, 3)) (ci := 7) rfl rfl (by decide) km_X11_239 dX11_dreamYear_166 rfl (by decide) (ly_11_3 hL ka0).2.1 (c_X7_closeTo hL (ly_11_3 hL ka0).2.1 e47) (by decide) (Nat.le_of_ble_eq_true rfl) rfl ?_
              refine j_goto (pc := 169) hC 195 dX11_dreamYear_169 (by decide) ?_
              obtain rfl := Option.some.inj h
              exact j_vret (pc := 195) hC dX11_dreamYear_195 rfl
            · rw [if_neg c45] at h
              by_cases c48 : v1 = (6 : Int32)
              · rw [if_pos c48] at h
                refine j_tableIn (pc := 6) hC 172 dX11_dreamYear_6 (by rw [c48]; decide) (by rw [c48]; decide) (by rw [c48]; rfl) (by decide) ?_
                refine j_aload_n (pc := 172) hC 0 0 dX11_dreamYear_172 rfl rfl ?_
                refine jgr_11 (pc := 173) hC 3 (by decide) rfl kf_X11_30 dX11_dreamYear_173 ka0 (ly_11_3 hL ka0).1 ?_
                obtain ⟨v49, m50, e51, h⟩ := jcl2_some h
                refine j_vi (pc := 176) hC hR [] iy_X7_commitLevel (q := (RX7, TX7, 3)) (ci := 7) rfl rfl (by decide) km_X11_242 dX11_dreamYear_176 rfl (by decide) (ly_11_3 hL ka0).2.1 (c_X7_commitLevel hL (ly_11_3 hL ka0).2.1 e51) (by decide) (Nat.le_of_ble_eq_true rfl) rfl ?_
                refine j_pop (pc := 179) hC dX11_dreamYear_179 rfl ?_
                refine j_goto (pc := 180) hC 195 dX11_dreamYear_180 (by decide) ?_
                obtain rfl := Option.some.inj h
                exact j_vret (pc := 195) hC dX11_dreamYear_195 rfl
              · rw [if_neg c48] at h
                refine j_tableOut (pc := 6) hC 183 dX11_dreamYear_6 (by have := lv_neT c4 (show (0 : Int32).toInt = 0 by decide); have := lv_neT c14 (show (1 : Int32).toInt = 1 by decide); have := lv_neT c24 (show (2 : Int32).toInt = 2 by decide); have := lv_neT c34 (show (3 : Int32).toInt = 3 by decide); have := lv_neT c41 (show (4 : Int32).toInt = 4 by decide); have := lv_neT c45 (show (5 : Int32).toInt = 5 by decide); have := lv_neT c48 (show (6 : Int32).toInt = 6 by decide); omega) (by decide) ?_
                refine j_aload_n (pc := 183) hC 0 0 dX11_dreamYear_183 rfl rfl ?_
                refine jgr_11 (pc := 184) hC 3 (by decide) rfl kf_X11_30 dX11_dreamYear_184 ka0 (ly_11_3 hL ka0).1 ?_
                refine j_aload_n (pc := 187) hC 0 0 dX11_dreamYear_187 rfl rfl ?_
                refine jgr_11 (pc := 188) hC 4 (by decide) rfl kf_X11_36 dX11_dreamYear_188 ka0 (ly_11_4 hL ka0).1 ?_
                obtain ⟨v52, m53, e54, h⟩ := jcl2_some h
                refine j_vi (pc := 191) hC hR [.ref (L.2.2 (a0 + 165))] iy_X7_spreadAll (q := (RX7, TX7, 3)) (ci := 7) rfl rfl (by decide) km_X11_208 dX11_dreamYear_191 rfl (by decide) (ly_11_3 hL ka0).2.1 (c_X7_spreadAll hL (ly_11_3 hL ka0).2.1 (ly_11_4 hL ka0).2.1 e54) (by decide) (Nat.le_of_ble_eq_true rfl) rfl ?_
                refine j_pop (pc := 194) hC dX11_dreamYear_194 rfl ?_
                obtain rfl := Option.some.inj h
                exact j_vret (pc := 195) hC dX11_dreamYear_195 rfl
