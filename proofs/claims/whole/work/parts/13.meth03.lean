theorem dX7_putKey_0 : decode cX7_putKey 0 = .ok (.iload_n 1, 1) := by decide +kernel
theorem dX7_putKey_1 : decode cX7_putKey 1 = .ok (.invokestatic 87, 3) := by decide +kernel
theorem dX7_putKey_4 : decode cX7_putKey 4 = .ok (.ifCond .eq 11, 3) := by decide +kernel
theorem dX7_putKey_7 : decode cX7_putKey 7 = .ok (.iload_n 2, 1) := by decide +kernel
theorem dX7_putKey_8 : decode cX7_putKey 8 = .ok (.i2l, 1) := by decide +kernel
theorem dX7_putKey_9 : decode cX7_putKey 9 = .ok (.invokestatic 51, 3) := by decide +kernel
theorem dX7_putKey_12 : decode cX7_putKey 12 = .ok (.ifCond .ne 5, 3) := by decide +kernel
theorem dX7_putKey_15 : decode cX7_putKey 15 = .ok (.iconst (-1), 1) := by decide +kernel
theorem dX7_putKey_16 : decode cX7_putKey 16 = .ok (.ireturn, 1) := by decide +kernel
theorem dX7_putKey_17 : decode cX7_putKey 17 = .ok (.aload_n 0, 1) := by decide +kernel
theorem dX7_putKey_18 : decode cX7_putKey 18 = .ok (.getfield 12, 3) := by decide +kernel
theorem dX7_putKey_21 : decode cX7_putKey 21 = .ok (.iload_n 1, 1) := by decide +kernel
theorem dX7_putKey_22 : decode cX7_putKey 22 = .ok (.invokevirtual 90, 3) := by decide +kernel
theorem dX7_putKey_25 : decode cX7_putKey 25 = .ok (.istore_n 3, 1) := by decide +kernel
theorem dX7_putKey_26 : decode cX7_putKey 26 = .ok (.iload_n 3, 1) := by decide +kernel
theorem dX7_putKey_27 : decode cX7_putKey 27 = .ok (.iconst (-1), 1) := by decide +kernel
theorem dX7_putKey_28 : decode cX7_putKey 28 = .ok (.if_icmp .ne 54, 3) := by decide +kernel
theorem dX7_putKey_31 : decode cX7_putKey 31 = .ok (.aload_n 0, 1) := by decide +kernel
theorem dX7_putKey_32 : decode cX7_putKey 32 = .ok (.getfield 12, 3) := by decide +kernel
theorem dX7_putKey_35 : decode cX7_putKey 35 = .ok (.getfield 93, 3) := by decide +kernel
theorem dX7_putKey_38 : decode cX7_putKey 38 = .ok (.istore_n 3, 1) := by decide +kernel
theorem dX7_putKey_39 : decode cX7_putKey 39 = .ok (.iload_n 3, 1) := by decide +kernel
theorem dX7_putKey_40 : decode cX7_putKey 40 = .ok (.bipush 8, 2) := by decide +kernel
theorem dX7_putKey_42 : decode cX7_putKey 42 = .ok (.if_icmp .lt 6, 3) := by decide +kernel
theorem dX7_putKey_45 : decode cX7_putKey 45 = .ok (.bipush (-2), 2) := by decide +kernel
theorem dX7_putKey_47 : decode cX7_putKey 47 = .ok (.ireturn, 1) := by decide +kernel
theorem dX7_putKey_48 : decode cX7_putKey 48 = .ok (.aload_n 0, 1) := by decide +kernel
theorem dX7_putKey_49 : decode cX7_putKey 49 = .ok (.getfield 12, 3) := by decide +kernel
theorem dX7_putKey_52 : decode cX7_putKey 52 = .ok (.getfield 96, 3) := by decide +kernel
theorem dX7_putKey_55 : decode cX7_putKey 55 = .ok (.iload_n 3, 1) := by decide +kernel
theorem dX7_putKey_56 : decode cX7_putKey 56 = .ok (.iload_n 1, 1) := by decide +kernel
theorem dX7_putKey_57 : decode cX7_putKey 57 = .ok (.iastore, 1) := by decide +kernel
theorem dX7_putKey_58 : decode cX7_putKey 58 = .ok (.aload_n 0, 1) := by decide +kernel
theorem dX7_putKey_59 : decode cX7_putKey 59 = .ok (.getfield 12, 3) := by decide +kernel
theorem dX7_putKey_62 : decode cX7_putKey 62 = .ok (.dup, 1) := by decide +kernel
theorem dX7_putKey_63 : decode cX7_putKey 63 = .ok (.getfield 93, 3) := by decide +kernel
theorem dX7_putKey_66 : decode cX7_putKey 66 = .ok (.iconst 1, 1) := by decide +kernel
theorem dX7_putKey_67 : decode cX7_putKey 67 = .ok (.iadd, 1) := by decide +kernel
theorem dX7_putKey_68 : decode cX7_putKey 68 = .ok (.putfield 93, 3) := by decide +kernel
theorem dX7_putKey_71 : decode cX7_putKey 71 = .ok (.aload_n 0, 1) := by decide +kernel
theorem dX7_putKey_72 : decode cX7_putKey 72 = .ok (.bipush 20, 2) := by decide +kernel
theorem dX7_putKey_74 : decode cX7_putKey 74 = .ok (.iload_n 1, 1) := by decide +kernel
theorem dX7_putKey_75 : decode cX7_putKey 75 = .ok (.iadd, 1) := by decide +kernel
theorem dX7_putKey_76 : decode cX7_putKey 76 = .ok (.invokevirtual 44, 3) := by decide +kernel
theorem dX7_putKey_79 : decode cX7_putKey 79 = .ok (.goto 24, 3) := by decide +kernel
theorem dX7_putKey_82 : decode cX7_putKey 82 = .ok (.aload_n 0, 1) := by decide +kernel
theorem dX7_putKey_83 : decode cX7_putKey 83 = .ok (.getfield 12, 3) := by decide +kernel
theorem dX7_putKey_86 : decode cX7_putKey 86 = .ok (.getfield 99, 3) := by decide +kernel
theorem dX7_putKey_89 : decode cX7_putKey 89 = .ok (.iload_n 3, 1) := by decide +kernel
theorem dX7_putKey_90 : decode cX7_putKey 90 = .ok (.iaload, 1) := by decide +kernel
theorem dX7_putKey_91 : decode cX7_putKey 91 = .ok (.iload_n 2, 1) := by decide +kernel
theorem dX7_putKey_92 : decode cX7_putKey 92 = .ok (.if_icmp .eq 11, 3) := by decide +kernel
theorem dX7_putKey_95 : decode cX7_putKey 95 = .ok (.aload_n 0, 1) := by decide +kernel
theorem dX7_putKey_96 : decode cX7_putKey 96 = .ok (.bipush 20, 2) := by decide +kernel
theorem dX7_putKey_98 : decode cX7_putKey 98 = .ok (.iload_n 1, 1) := by decide +kernel
theorem dX7_putKey_99 : decode cX7_putKey 99 = .ok (.iadd, 1) := by decide +kernel
theorem dX7_putKey_100 : decode cX7_putKey 100 = .ok (.invokevirtual 44, 3) := by decide +kernel
theorem dX7_putKey_103 : decode cX7_putKey 103 = .ok (.aload_n 0, 1) := by decide +kernel
theorem dX7_putKey_104 : decode cX7_putKey 104 = .ok (.getfield 12, 3) := by decide +kernel
theorem dX7_putKey_107 : decode cX7_putKey 107 = .ok (.getfield 99, 3) := by decide +kernel
theorem dX7_putKey_110 : decode cX7_putKey 110 = .ok (.iload_n 3, 1) := by decide +kernel
theorem dX7_putKey_111 : decode cX7_putKey 111 = .ok (.iload_n 2, 1) := by decide +kernel
theorem dX7_putKey_112 : decode cX7_putKey 112 = .ok (.iastore, 1) := by decide +kernel
theorem dX7_putKey_113 : decode cX7_putKey 113 = .ok (.iload_n 3, 1) := by decide +kernel
theorem dX7_putKey_114 : decode cX7_putKey 114 = .ok (.ireturn, 1) := by decide +kernel
def f_X7_putKey (a0 : Nat) (x1 : Int32) (x2 : Int32) (μ : jM) : Option (Int32 × jM) :=
  (if (f_X11_isKey x1) = (0 : Int32) then some (((-1 : Int32), μ)) else (if (f_X11_isNumber x2.toInt64) = (0 : Int32) then some (((-1 : Int32), μ)) else jcl (f_X9_placeOf (a0 + 1) x1 μ) (fun v3 => jbd (fun (t5 : Int32) (m6 : jM) => jin t5 8 (jbd (jsi m6 (a0 + 5) t5.toNatClampNeg x2) (fun m11 => some ((t5, m11))))) (fun k7 => (if v3 = (-1 : Int32) then (if (μ.1 (a0 + 1) 5) < (8 : Int32) then jin (μ.1 (a0 + 1) 5) 8 (jbd (jsi μ (a0 + 4) (μ.1 (a0 + 1) 5).toNatClampNeg x1) (fun m22 => jbd (jsi m22 (a0 + 1) 5 ((m22.1 (a0 + 1) 5) + (1 : Int32))) (fun m24 => jcl (f_X7_changed a0 ((20 : Int32) + x1) m24) (fun m26 => k7 (μ.1 (a0 + 1) 5) m26)))) else some (((-2 : Int32), μ))) else jrd (μ.1 (a0 + 5)) v3 8 (fun v15 => (if v15 = x2 then k7 v3 μ else jcl (f_X7_changed a0 ((20 : Int32) + x1) μ) (fun m18 => k7 v3 m18))))))))
set_option maxHeartbeats 4000000 in
set_option maxRecDepth 100000 in
theorem c_X7_putKey {l : Launch} {G : jG} {L : jL} (hL : jOKL L) {a0 : Nat} {x1 : Int32} {x2 : Int32} (ka0 : jK L a0 7) {μ μ' : jM} {r : Int32} (h : f_X7_putKey a0 x1 x2 μ = some ((r, μ'))) : jCt l G L 5 yX7_putKey cX7_putKey 4 (some .int) [.ref (L.2.2 a0), .int x1, .int x2] μ (some (.int r)) μ' := by
  refine jCt_of (by decide) (Nat.le_of_ble_eq_true rfl) (fun X hC hX hR => ?_)
  subst hX
  have hC : jC X G cX7_putKey 4 RX7 (some .int) := hC
  unfold f_X7_putKey at h
  show jJ X G 4 L 0 0 (jQM X G L (some (.int r)) μ' 0 0) 0 [(0, .ref (L.2.2 a0)), (1, .int x1), (2, .int x2)] [] μ
  refine j_iload_n (pc := 0) hC 1 1 dX7_putKey_0 rfl rfl ?_
  refine j_ni (pc := 1) hC hR [.int x1] iy_X11_isKey kn_X7_87 dX7_putKey_1 rfl (by decide) (c_X11_isKey hL  rfl) (by decide) (Nat.le_of_ble_eq_true rfl) rfl ?_
  refine j_if_eq (pc := 4) hC 15 dX7_putKey_4 (by decide) (fun c1 => ?_) (fun c1 => ?_)
  · rw [if_pos c1] at h
    refine j_iconst (pc := 15) hC (-1 : Int32) dX7_putKey_15 (by decide) ?_
    obtain ⟨rfl, rfl⟩ := Prod.mk.inj (Option.some.inj h)
    exact j_iret (pc := 16) hC dX7_putKey_16 rfl
  · rw [if_neg c1] at h
    refine j_iload_n (pc := 7) hC 2 2 dX7_putKey_7 rfl rfl ?_
    refine j_i2l (pc := 8) hC dX7_putKey_8 ?_
    refine j_ni (pc := 9) hC hR [.long x2.toInt64] iy_X11_isNumber kn_X7_51 dX7_putKey_9 rfl (by decide) (c_X11_isNumber hL  rfl) (by decide) (Nat.le_of_ble_eq_true rfl) rfl ?_
    refine j_if_ne (pc := 12) hC 17 dX7_putKey_12 (by decide) (fun c2 => ?_) (fun c2 => ?_)
    · rw [if_neg c2] at h
      refine j_aload_n (pc := 17) hC 0 0 dX7_putKey_17 rfl rfl ?_
      refine jgr_7 (pc := 18) hC 0 (by decide) rfl kf_X7_12 dX7_putKey_18 ka0 (ly_7_0 hL ka0).1 ?_
      refine j_iload_n (pc := 21) hC 1 1 dX7_putKey_21 rfl rfl ?_
      obtain ⟨v3, e4, h⟩ := jcl_some h
      refine j_vi (pc := 22) hC hR [.int x1] iy_X9_placeOf (q := (RX9, TX9, 7)) (ci := 9) rfl rfl (by decide) km_X7_90 dX7_putKey_22 rfl (by decide) (ly_7_0 hL ka0).2.1 (c_X9_placeOf hL (ly_7_0 hL ka0).2.1 e4) (by decide) (Nat.le_of_ble_eq_true rfl) rfl ?_
      refine j_istore_n (pc := 25) hC 3 [(3, .int v3), (0, .ref (L.2.2 a0)), (1, .int x1), (2, .int x2)] dX7_putKey_25 rfl (by decide) rfl rfl ?_
      refine j_iload_n (pc := 26) hC 3 0 dX7_putKey_26 rfl rfl ?_
      refine j_iconst (pc := 27) hC (-1 : Int32) dX7_putKey_27 (by decide) ?_
      obtain ⟨k7, e9, h⟩ := jbd_ex h
      have q8 : ∀ (t5 : Int32) (m6 : jM), k7 t5 m6 = some ((r, μ')) → jJ X G 4 L 0 0 (jQM X G L (some (.int r)) μ' 0 0) 103 [(0, .ref (L.2.2 a0)), (2, .int x2), (3, .int t5)] [] m6 := by
        intro t5 m6 h
        rw [e9] at h
        try dsimp only at h
        refine j_aload_n (pc := 103) hC 0 0 dX7_putKey_103 rfl rfl ?_
        refine jgr_7 (pc := 104) hC 0 (by decide) rfl kf_X7_12 dX7_putKey_104 ka0 (ly_7_0 hL ka0).1 ?_
        refine jgr_9 (pc := 107) hC 3 (by decide) rfl kf_X7_99 dX7_putKey_107 (ly_7_0 hL ka0).2.1 (ly_9_3 hL (ly_7_0 hL ka0).2.1).1 ?_
        refine j_iload_n (pc := 110) hC 3 2 dX7_putKey_110 rfl rfl ?_
        refine j_iload_n (pc := 111) hC 2 1 dX7_putKey_111 rfl rfl ?_
        obtain ⟨i10, h⟩ := jin_some h
        obtain ⟨m11, e12, h⟩ := jbd_ex h
        refine j_iast (pc := 112) hC dX7_putKey_112 (ly_9_3 hL (ly_7_0 hL ka0).2.1).2.1 (ly_9_3 hL (ly_7_0 hL ka0).2.1).2.2 i10 e12 ?_
        refine j_iload_n (pc := 113) hC 3 2 dX7_putKey_113 rfl rfl ?_
        obtain ⟨rfl, rfl⟩ := Prod.mk.inj (Option.some.inj h)
        exact j_iret (pc := 114) hC dX7_putKey_114 rfl
      refine j_icmp_ne (pc := 28) hC 82 dX7_putKey_28 (by decide) (fun c13 => ?_) (fun c13 => ?_)
      · rw [if_neg c13] at h
        refine j_aload_n (pc := 82) hC 0 1 dX7_putKey_82 rfl rfl ?_
        refine jgr_7 (pc := 83) hC 0 (by decide) rfl kf_X7_12 dX7_putKey_83 ka0 (ly_7_0 hL ka0).1 ?_
        refine jgr_9 (pc := 86) hC 3 (by decide) rfl kf_X7_99 dX7_putKey_86 (ly_7_0 hL ka0).2.1 (ly_9_3 hL (ly_7_0 hL ka0).2.1).1 ?_
        refine j_iload_n (pc := 89) hC 3 0 dX7_putKey_89 rfl rfl ?_
        obtain ⟨i14, v15, e16, h⟩ := jrd_some h
        refine j_iald (pc := 90) hC dX7_putKey_90 (ly_9_3 hL (ly_7_0 hL ka0).2.1).2.1 (ly_9_3 hL (ly_7_0 hL ka0).2.1).2.2 i14 e16 ?_
        refine j_iload_n (pc := 91) hC 2 3 dX7_putKey_91 rfl rfl ?_
        refine j_icmp_eq (pc := 92) hC 103 dX7_putKey_92 (by decide) (fun c17 => ?_) (fun c17 => ?_)
        · rw [if_pos c17] at h
          exact j_lv [1, 3, 0] rfl (q8 _ _ h)
        · rw [if_neg c17] at h
          refine j_aload_n (pc := 95) hC 0 1 dX7_putKey_95 rfl rfl ?_
          refine j_bipush (pc := 96) hC (20 : Int32) dX7_putKey_96 (by decide) ?_
          refine j_iload_n (pc := 98) hC 1 2 dX7_putKey_98 rfl rfl ?_
          refine j_iadd (pc := 99) hC dX7_putKey_99 ?_
          obtain ⟨m18, e19, h⟩ := jcl_some h
          refine j_vv (pc := 100) hC hR [.int ((20 : Int32) + x1)] iy_X7_changed (q := (RX7, TX7, 3)) (ci := 7) rfl rfl (by decide) km_X7_44 dX7_putKey_100 rfl (by decide) ka0 (c_X7_changed hL ka0 e19) (by decide) (Nat.le_of_ble_eq_true rfl) rfl ?_
          exact j_lv [1, 3, 0] rfl (q8 _ _ h)
      · rw [if_pos c13] at h
        refine j_aload_n (pc := 31) hC 0 1 dX7_putKey_31 rfl rfl ?_
        refine jgr_7 (pc := 32) hC 0 (by decide) rfl kf_X7_12 dX7_putKey_32 ka0 (ly_7_0 hL ka0).1 ?_
        refine jgi_9 (pc := 35) hC 5 (by decide) rfl kf_X7_93 dX7_putKey_35 (ly_7_0 hL ka0).2.1 ?_
        refine j_istore_n (pc := 38) hC 3 [(3, .int (μ.1 (a0 + 1) 5)), (0, .ref (L.2.2 a0)), (1, .int x1), (2, .int x2)] dX7_putKey_38 rfl (by decide) rfl rfl ?_
        refine j_iload_n (pc := 39) hC 3 0 dX7_putKey_39 rfl rfl ?_
        refine j_bipush (pc := 40) hC (8 : Int32) dX7_putKey_40 (by decide) ?_
        refine j_icmp_lt (pc := 42) hC 48 dX7_putKey_42 (by decide) (fun c20 => ?_) (fun c20 => ?_)
        · rw [if_pos c20] at h
          refine j_aload_n (pc := 48) hC 0 1 dX7_putKey_48 rfl rfl ?_
          refine jgr_7 (pc := 49) hC 0 (by decide) rfl kf_X7_12 dX7_putKey_49 ka0 (ly_7_0 hL ka0).1 ?_
          refine jgr_9 (pc := 52) hC 2 (by decide) rfl kf_X7_96 dX7_putKey_52 (ly_7_0 hL ka0).2.1 (ly_9_2 hL (ly_7_0 hL ka0).2.1).1 ?_
          refine j_iload_n (pc := 55) hC 3 0 dX7_putKey_55 rfl rfl ?_
          refine j_iload_n (pc := 56) hC 1 2 dX7_putKey_56 rfl rfl ?_
          obtain ⟨i21, h⟩ := jin_some h
          obtain ⟨m22, e23, h⟩ := jbd_ex h
          refine j_iast (pc := 57) hC dX7_putKey_57 (ly_9_2 hL (ly_7_0 hL ka0).2.1).2.1 (ly_9_2 hL (ly_7_0 hL ka0).2.1).2.2 i21 e23 ?_
          refine j_aload_n (pc := 58) hC 0 1 dX7_putKey_58 rfl rfl ?_
          refine jgr_7 (pc := 59) hC 0 (by decide) rfl kf_X7_12 dX7_putKey_59 ka0 (ly_7_0 hL ka0).1 ?_
          refine j_dup (pc := 62) hC dX7_putKey_62 rfl ?_
          refine jgi_9 (pc := 63) hC 5 (by decide) rfl kf_X7_93 dX7_putKey_63 (ly_7_0 hL ka0).2.1 ?_
          refine j_iconst (pc := 66) hC (1 : Int32) dX7_putKey_66 (by decide) ?_
          refine j_iadd (pc := 67) hC dX7_putKey_67 ?_
          obtain ⟨m24, e25, h⟩ := jbd_ex h
          refine jpi_9 (pc := 68) hC 5 (by decide) rfl kf_X7_93 dX7_putKey_68 rfl (by decide) (ly_7_0 hL ka0).2.1 e25 ?_
          refine j_aload_n (pc := 71) hC 0 1 dX7_putKey_71 rfl rfl ?_
          refine j_bipush (pc := 72) hC (20 : Int32) dX7_putKey_72 (by decide) ?_
          refine j_iload_n (pc := 74) hC 1 2 dX7_putKey_74 rfl rfl ?_
          refine j_iadd (pc := 75) hC dX7_putKey_75 ?_
          obtain ⟨m26, e27, h⟩ := jcl_some h
          refine j_vv (pc := 76) hC hR [.int ((20 : Int32) + x1)] iy_X7_changed (q := (RX7, TX7, 3)) (ci := 7) rfl rfl (by decide) km_X7_44 dX7_putKey_76 rfl (by decide) ka0 (c_X7_changed hL ka0 e27) (by decide) (Nat.le_of_ble_eq_true rfl) rfl ?_
          refine j_goto (pc := 79) hC 103 dX7_putKey_79 (by decide) ?_
          exact j_lv [1, 3, 0] rfl (q8 _ _ h)
        · rw [if_neg c20] at h
          refine j_bipush (pc := 45) hC (-2 : Int32) dX7_putKey_45 (by decide) ?_
          obtain ⟨rfl, rfl⟩ := Prod.mk.inj (Option.some.inj h)
          exact j_iret (pc := 47) hC dX7_putKey_47 rfl
    · rw [if_pos c2] at h
      refine j_iconst (pc := 15) hC (-1 : Int32) dX7_putKey_15 (by decide) ?_
      obtain ⟨rfl, rfl⟩ := Prod.mk.inj (Option.some.inj h)
      exact j_iret (pc := 16) hC dX7_putKey_16 rfl
theorem dX7_setCell_0 : decode cX7_setCell 0 = .ok (.iload_n 1, 1) := by decide +kernel
theorem dX7_setCell_1 : decode cX7_setCell 1 = .ok (.invokestatic 47, 3) := by decide +kernel
theorem dX7_setCell_4 : decode cX7_setCell 4 = .ok (.ifCond .eq 11, 3) := by decide +kernel
theorem dX7_setCell_7 : decode cX7_setCell 7 = .ok (.iload_n 2, 1) := by decide +kernel
theorem dX7_setCell_8 : decode cX7_setCell 8 = .ok (.i2l, 1) := by decide +kernel
theorem dX7_setCell_9 : decode cX7_setCell 9 = .ok (.invokestatic 51, 3) := by decide +kernel
theorem dX7_setCell_12 : decode cX7_setCell 12 = .ok (.ifCond .ne 5, 3) := by decide +kernel
theorem dX7_setCell_15 : decode cX7_setCell 15 = .ok (.iconst (-1), 1) := by decide +kernel
theorem dX7_setCell_16 : decode cX7_setCell 16 = .ok (.ireturn, 1) := by decide +kernel
theorem dX7_setCell_17 : decode cX7_setCell 17 = .ok (.aload_n 0, 1) := by decide +kernel
theorem dX7_setCell_18 : decode cX7_setCell 18 = .ok (.getfield 12, 3) := by decide +kernel
theorem dX7_setCell_21 : decode cX7_setCell 21 = .ok (.getfield 40, 3) := by decide +kernel
theorem dX7_setCell_24 : decode cX7_setCell 24 = .ok (.iload_n 1, 1) := by decide +kernel
theorem dX7_setCell_25 : decode cX7_setCell 25 = .ok (.iaload, 1) := by decide +kernel
theorem dX7_setCell_26 : decode cX7_setCell 26 = .ok (.istore_n 3, 1) := by decide +kernel
theorem dX7_setCell_27 : decode cX7_setCell 27 = .ok (.aload_n 0, 1) := by decide +kernel
theorem dX7_setCell_28 : decode cX7_setCell 28 = .ok (.iload_n 1, 1) := by decide +kernel
theorem dX7_setCell_29 : decode cX7_setCell 29 = .ok (.iload_n 2, 1) := by decide +kernel
theorem dX7_setCell_30 : decode cX7_setCell 30 = .ok (.invokevirtual 55, 3) := by decide +kernel
theorem dX7_setCell_33 : decode cX7_setCell 33 = .ok (.sipush 1000, 3) := by decide +kernel
theorem dX7_setCell_36 : decode cX7_setCell 36 = .ok (.iload_n 3, 1) := by decide +kernel
theorem dX7_setCell_37 : decode cX7_setCell 37 = .ok (.iadd, 1) := by decide +kernel
theorem dX7_setCell_38 : decode cX7_setCell 38 = .ok (.ireturn, 1) := by decide +kernel
def f_X7_setCell (a0 : Nat) (x1 : Int32) (x2 : Int32) (μ : jM) : Option (Int32 × jM) :=
  (if (f_X11_isCell x1) = (0 : Int32) then some (((-1 : Int32), μ)) else (if (f_X11_isNumber x2.toInt64) = (0 : Int32) then some (((-1 : Int32), μ)) else jrd (μ.1 (a0 + 2)) x1 6 (fun v4 => jcl (f_X7_cellBecomes a0 x1 x2 μ) (fun m6 => some (((1000 : Int32) + v4, m6))))))
set_option maxHeartbeats 4000000 in
set_option maxRecDepth 100000 in
theorem c_X7_setCell {l : Launch} {G : jG} {L : jL} (hL : jOKL L) {a0 : Nat} {x1 : Int32} {x2 : Int32} (ka0 : jK L a0 7) {μ μ' : jM} {r : Int32} (h : f_X7_setCell a0 x1 x2 μ = some ((r, μ'))) : jCt l G L 6 yX7_setCell cX7_setCell 4 (some .int) [.ref (L.2.2 a0), .int x1, .int x2] μ (some (.int r)) μ' := by
  refine jCt_of (by decide) (Nat.le_of_ble_eq_true rfl) (fun X hC hX hR => ?_)
  subst hX
  have hC : jC X G cX7_setCell 4 RX7 (some .int) := hC
  unfold f_X7_setCell at h
  show jJ X G 4 L 0 0 (jQM X G L (some (.int r)) μ' 0 0) 0 [(0, .ref (L.2.2 a0)), (1, .int x1), (2, .int x2)] [] μ
  refine j_iload_n (pc := 0) hC 1 1 dX7_setCell_0 rfl rfl ?_
  refine j_ni (pc := 1) hC hR [.int x1] iy_X11_isCell kn_X7_47 dX7_setCell_1 rfl (by decide) (c_X11_isCell hL  rfl) (by decide) (Nat.le_of_ble_eq_true rfl) rfl ?_
  refine j_if_eq (pc := 4) hC 15 dX7_setCell_4 (by decide) (fun c1 => ?_) (fun c1 => ?_)
  · rw [if_pos c1] at h
    refine j_iconst (pc := 15) hC (-1 : Int32) dX7_setCell_15 (by decide) ?_
    obtain ⟨rfl, rfl⟩ := Prod.mk.inj (Option.some.inj h)
    exact j_iret (pc := 16) hC dX7_setCell_16 rfl
  · rw [if_neg c1] at h
    refine j_iload_n (pc := 7) hC 2 2 dX7_setCell_7 rfl rfl ?_
    refine j_i2l (pc := 8) hC dX7_setCell_8 ?_
    refine j_ni (pc := 9) hC hR [.long x2.toInt64] iy_X11_isNumber kn_X7_51 dX7_setCell_9 rfl (by decide) (c_X11_isNumber hL  rfl) (by decide) (Nat.le_of_ble_eq_true rfl) rfl ?_
    refine j_if_ne (pc := 12) hC 17 dX7_setCell_12 (by decide) (fun c2 => ?_) (fun c2 => ?_)
    · rw [if_neg c2] at h
      refine j_aload_n (pc := 17) hC 0 0 dX7_setCell_17 rfl rfl ?_
      refine jgr_7 (pc := 18) hC 0 (by decide) rfl kf_X7_12 dX7_setCell_18 ka0 (ly_7_0 hL ka0).1 ?_
      refine jgr_9 (pc := 21) hC 0 (by decide) rfl kf_X7_40 dX7_setCell_21 (ly_7_0 hL ka0).2.1 (ly_9_0 hL (ly_7_0 hL ka0).2.1).1 ?_
      refine j_iload_n (pc := 24) hC 1 1 dX7_setCell_24 rfl rfl ?_
      obtain ⟨i3, v4, e5, h⟩ := jrd_some h
      refine j_iald (pc := 25) hC dX7_setCell_25 (ly_9_0 hL (ly_7_0 hL ka0).2.1).2.1 (ly_9_0 hL (ly_7_0 hL ka0).2.1).2.2 i3 e5 ?_
      refine j_istore_n (pc := 26) hC 3 [(3, .int v4), (0, .ref (L.2.2 a0)), (1, .int x1), (2, .int x2)] dX7_setCell_26 rfl (by decide) rfl rfl ?_
      refine j_aload_n (pc := 27) hC 0 1 dX7_setCell_27 rfl rfl ?_
      refine j_iload_n (pc := 28) hC 1 2 dX7_setCell_28 rfl rfl ?_
      refine j_iload_n (pc := 29) hC 2 3 dX7_setCell_29 rfl rfl ?_
      obtain ⟨m6, e7, h⟩ := jcl_some h
      refine j_vv (pc := 30) hC hR [.int x1, .int x2] iy_X7_cellBecomes (q := (RX7, TX7, 3)) (ci := 7) rfl rfl (by decide) km_X7_55 dX7_setCell_30 rfl (by decide) ka0 (c_X7_cellBecomes hL ka0 e7) (by decide) (Nat.le_of_ble_eq_true rfl) rfl ?_
      refine j_sipush (pc := 33) hC (1000 : Int32) dX7_setCell_33 (by decide) ?_
      refine j_iload_n (pc := 36) hC 3 0 dX7_setCell_36 rfl rfl ?_
      refine j_iadd (pc := 37) hC dX7_setCell_37 ?_
      obtain ⟨rfl, rfl⟩ := Prod.mk.inj (Option.some.inj h)
      exact j_iret (pc := 38) hC dX7_setCell_38 rfl
    · rw [if_pos c2] at h
      refine j_iconst (pc := 15) hC (-1 : Int32) dX7_setCell_15 (by decide) ?_
      obtain ⟨rfl, rfl⟩ := Prod.mk.inj (Option.some.inj h)
      exact j_iret (pc := 16) hC dX7_setCell_16 rfl
theorem dX6_begin_0 : decode cX6_begin 0 = .ok (.aload_n 1, 1) := by decide +kernel
theorem dX6_begin_1 : decode cX6_begin 1 = .ok (.getfield 15, 3) := by decide +kernel
theorem dX6_begin_4 : decode cX6_begin 4 = .ok (.iconst 0, 1) := by decide +kernel
theorem dX6_begin_5 : decode cX6_begin 5 = .ok (.aload_n 0, 1) := by decide +kernel
theorem dX6_begin_6 : decode cX6_begin 6 = .ok (.getfield 9, 3) := by decide +kernel
theorem dX6_begin_9 : decode cX6_begin 9 = .ok (.iconst 0, 1) := by decide +kernel
theorem dX6_begin_10 : decode cX6_begin 10 = .ok (.iconst 5, 1) := by decide +kernel
theorem dX6_begin_11 : decode cX6_begin 11 = .ok (.invokestatic 18, 3) := by decide +kernel
theorem dX6_begin_14 : decode cX6_begin 14 = .ok (.return_, 1) := by decide +kernel
def f_X6_begin (a0 : Nat) (a1 : Nat) (μ : jM) : Option (jM) :=
  jcpq (0 : Int32) (0 : Int32) (5 : Int32) 5 5 (jbd (jcp μ (a1 + 2) (0 : Int32).toNatClampNeg (a0 + 1) (0 : Int32).toNatClampNeg (5 : Int32).toNatClampNeg) (fun m2 => some m2))
set_option maxHeartbeats 4000000 in
set_option maxRecDepth 100000 in
theorem c_X6_begin {l : Launch} {G : jG} {L : jL} (hL : jOKL L) {a0 : Nat} {a1 : Nat} (ka0 : jK L a0 6) (ka1 : jK L a1 9) {μ μ' : jM} (h : f_X6_begin a0 a1 μ = some μ') : jCt l G L 3 yX6_begin cX6_begin 2 none [.ref (L.2.2 a0), .ref (L.2.2 a1)] μ none μ' := by
  refine jCt_of (by decide) (Nat.le_of_ble_eq_true rfl) (fun X hC hX hR => ?_)
  subst hX
  have hC : jC X G cX6_begin 2 RX6 none := hC
  unfold f_X6_begin at h
  show jJ X G 2 L 0 0 (jQM X G L none μ' 0 0) 0 [(0, .ref (L.2.2 a0)), (1, .ref (L.2.2 a1))] [] μ
  refine j_aload_n (pc := 0) hC 1 1 dX6_begin_0 rfl rfl ?_
  refine jgr_9 (pc := 1) hC 1 (by decide) rfl kf_X6_15 dX6_begin_1 ka1 (ly_9_1 hL ka1).1 ?_
  refine j_iconst (pc := 4) hC (0 : Int32) dX6_begin_4 (by decide) ?_
  refine j_aload_n (pc := 5) hC 0 0 dX6_begin_5 rfl rfl ?_
  refine jgr_6 (pc := 6) hC 0 (by decide) rfl kf_X6_9 dX6_begin_6 ka0 (ly_6_0 hL ka0).1 ?_
  refine j_iconst (pc := 9) hC (0 : Int32) dX6_begin_9 (by decide) ?_
  refine j_iconst (pc := 10) hC (5 : Int32) dX6_begin_10 (by decide) ?_
  obtain ⟨h1, h⟩ := jcpq_some h
  obtain ⟨m2, e3, h⟩ := jbd_ex h
  refine j_copyi (pc := 11) hC ka_X6_18 kac1 kac2 kac3 dX6_begin_11 (ly_9_1 hL ka1).2.1 (ly_9_1 hL ka1).2.2 (ly_6_0 hL ka0).2.1 (ly_6_0 hL ka0).2.2 h1.1 h1.2.1 h1.2.2.1 h1.2.2.2.1 h1.2.2.2.2 (j_nat1 hR (by decide)) (j_nat2 hR (by decide) (Nat.le_of_ble_eq_true rfl)) e3 ?_
  obtain rfl := Option.some.inj h
  exact j_vret (pc := 14) hC dX6_begin_14 rfl
theorem dX6_takeFrom_0 : decode cX6_takeFrom 0 = .ok (.iconst 0, 1) := by decide +kernel
theorem dX6_takeFrom_1 : decode cX6_takeFrom 1 = .ok (.istore_n 3, 1) := by decide +kernel
theorem dX6_takeFrom_2 : decode cX6_takeFrom 2 = .ok (.iload_n 3, 1) := by decide +kernel
theorem dX6_takeFrom_3 : decode cX6_takeFrom 3 = .ok (.iconst 5, 1) := by decide +kernel
theorem dX6_takeFrom_4 : decode cX6_takeFrom 4 = .ok (.if_icmp .ge 41, 3) := by decide +kernel
theorem dX6_takeFrom_7 : decode cX6_takeFrom 7 = .ok (.iload_n 1, 1) := by decide +kernel
theorem dX6_takeFrom_8 : decode cX6_takeFrom 8 = .ok (.iload_n 3, 1) := by decide +kernel
theorem dX6_takeFrom_9 : decode cX6_takeFrom 9 = .ok (.iushr, 1) := by decide +kernel
theorem dX6_takeFrom_10 : decode cX6_takeFrom 10 = .ok (.iconst 1, 1) := by decide +kernel
theorem dX6_takeFrom_11 : decode cX6_takeFrom 11 = .ok (.iand, 1) := by decide +kernel
theorem dX6_takeFrom_12 : decode cX6_takeFrom 12 = .ok (.iconst 1, 1) := by decide +kernel
theorem dX6_takeFrom_13 : decode cX6_takeFrom 13 = .ok (.if_icmp .ne 26, 3) := by decide +kernel
theorem dX6_takeFrom_16 : decode cX6_takeFrom 16 = .ok (.aload_n 0, 1) := by decide +kernel
theorem dX6_takeFrom_17 : decode cX6_takeFrom 17 = .ok (.getfield 9, 3) := by decide +kernel
theorem dX6_takeFrom_20 : decode cX6_takeFrom 20 = .ok (.iload_n 3, 1) := by decide +kernel
theorem dX6_takeFrom_21 : decode cX6_takeFrom 21 = .ok (.dup2, 1) := by decide +kernel
theorem dX6_takeFrom_22 : decode cX6_takeFrom 22 = .ok (.iaload, 1) := by decide +kernel
theorem dX6_takeFrom_23 : decode cX6_takeFrom 23 = .ok (.iload_n 2, 1) := by decide +kernel
theorem dX6_takeFrom_24 : decode cX6_takeFrom 24 = .ok (.iconst (-1), 1) := by decide +kernel
theorem dX6_takeFrom_25 : decode cX6_takeFrom 25 = .ok (.ixor, 1) := by decide +kernel
theorem dX6_takeFrom_26 : decode cX6_takeFrom 26 = .ok (.iand, 1) := by decide +kernel
theorem dX6_takeFrom_27 : decode cX6_takeFrom 27 = .ok (.iastore, 1) := by decide +kernel
theorem dX6_takeFrom_28 : decode cX6_takeFrom 28 = .ok (.aload_n 0, 1) := by decide +kernel
theorem dX6_takeFrom_29 : decode cX6_takeFrom 29 = .ok (.getfield 9, 3) := by decide +kernel
theorem dX6_takeFrom_32 : decode cX6_takeFrom 32 = .ok (.iload_n 3, 1) := by decide +kernel
theorem dX6_takeFrom_33 : decode cX6_takeFrom 33 = .ok (.iaload, 1) := by decide +kernel
theorem dX6_takeFrom_34 : decode cX6_takeFrom 34 = .ok (.ifCond .ne 5, 3) := by decide +kernel
theorem dX6_takeFrom_37 : decode cX6_takeFrom 37 = .ok (.iconst 0, 1) := by decide +kernel
theorem dX6_takeFrom_38 : decode cX6_takeFrom 38 = .ok (.ireturn, 1) := by decide +kernel
theorem dX6_takeFrom_39 : decode cX6_takeFrom 39 = .ok (.iinc 3 1, 3) := by decide +kernel
theorem dX6_takeFrom_42 : decode cX6_takeFrom 42 = .ok (.goto (-40), 3) := by decide +kernel
theorem dX6_takeFrom_45 : decode cX6_takeFrom 45 = .ok (.iconst 1, 1) := by decide +kernel
theorem dX6_takeFrom_46 : decode cX6_takeFrom 46 = .ok (.ireturn, 1) := by decide +kernel
def f_X6_takeFrom_L2 (a0 : Nat) (x1 : Int32) (x2 : Int32) (u1 : Int32) (m2 : jM) : Option ((Int32 × jM) ⊕ ((jM) ⊕ (jM))) :=
  (if (5 : Int32) ≤ u1 then some (.inr (.inr (m2))) else (if ((jushr x1 u1) &&& (1 : Int32)) = (1 : Int32) then jrd (m2.1 (a0 + 1)) u1 5 (fun v6 => jin u1 5 (jbd (jsi m2 (a0 + 1) u1.toNatClampNeg (v6 &&& (x2 ^^^ (-1 : Int32)))) (fun m9 => jrd (m9.1 (a0 + 1)) u1 5 (fun v12 => (if v12 = (0 : Int32) then some (.inr (.inl m9)) else some (.inl ((u1 + (1 : Int32), m9)))))))) else some (.inl ((u1 + (1 : Int32), m2)))))
def f_X6_takeFrom (a0 : Nat) (x1 : Int32) (x2 : Int32) (μ : jM) : Option (Int32 × jM) :=
  jcl (jloop (fun (s : Int32 × jM) => f_X6_takeFrom_L2 a0 x1 x2 s.1 s.2) jfu (((0 : Int32), μ))) (fun w15 => match w15 with | .inl w15 => some (((0 : Int32), w15)) | .inr w15 => some (((1 : Int32), w15)))
set_option maxHeartbeats 4000000 in
set_option maxRecDepth 100000 in
theorem c_X6_takeFrom {l : Launch} {G : jG} {L : jL} (hL : jOKL L) {a0 : Nat} {x1 : Int32} {x2 : Int32} (ka0 : jK L a0 6) {μ μ' : jM} {r : Int32} (h : f_X6_takeFrom a0 x1 x2 μ = some ((r, μ'))) : jCt l G L 3 yX6_takeFrom cX6_takeFrom 4 (some .boolean) [.ref (L.2.2 a0), .int x1, .int x2] μ (some (.int r)) μ' := by
  refine jCt_of (by decide) (Nat.le_of_ble_eq_true rfl) (fun X hC hX hR => ?_)
  subst hX
  have hC : jC X G cX6_takeFrom 4 RX6 (some .boolean) := hC
  unfold f_X6_takeFrom at h
  show jJ X G 4 L 0 0 (jQM X G L (some (.int r)) μ' 0 0) 0 [(0, .ref (L.2.2 a0)), (1, .int x1), (2, .int x2)] [] μ
  refine j_iconst (pc := 0) hC (0 : Int32) dX6_takeFrom_0 (by decide) ?_
  refine j_istore_n (pc := 1) hC 3 [(3, .int (0 : Int32)), (0, .ref (L.2.2 a0)), (1, .int x1), (2, .int x2)] dX6_takeFrom_1 rfl (by decide) rfl rfl ?_
  obtain ⟨w15, hw16, h⟩ := jcl_some h
  refine j_lv [1, 2, 3, 0] rfl ?_
  refine j_loop (step := (fun (s : Int32 × jM) => f_X6_takeFrom_L2 a0 x1 x2 s.1 s.2)) (P := (fun (s : Int32 × jM) => jJ X G 4 L 0 0 (jQM X G L (some (.int r)) μ' 0 0) 2 [(0, .ref (L.2.2 a0)), (1, .int x1), (2, .int x2), (3, .int s.1)] [] s.2)) (R := (fun (e : (jM) ⊕ (jM)) => match e with | .inl e => jJ X G 4 L 0 0 (jQM X G L (some (.int r)) μ' 0 0) 37 [] [] e | .inr e => jJ X G 4 L 0 0 (jQM X G L (some (.int r)) μ' 0 0) 45 [] [] e)) ?_ jfu (((0 : Int32), μ)) w15 hw16 ?_
  · intro s17 o h hk
    obtain ⟨u1, m2⟩ := s17
    change f_X6_takeFrom_L2 a0 x1 x2 u1 m2 = some o at h
    unfold f_X6_takeFrom_L2 at h
    show jJ X G 4 L 0 0 (jQM X G L (some (.int r)) μ' 0 0) 2 [(0, .ref (L.2.2 a0)), (1, .int x1), (2, .int x2), (3, .int u1)] [] m2
    refine j_iload_n (pc := 2) hC 3 3 dX6_takeFrom_2 rfl rfl ?_
    refine j_iconst (pc := 3) hC (5 : Int32) dX6_takeFrom_3 (by decide) ?_
    refine j_icmp_ge (pc := 4) hC 45 dX6_takeFrom_4 (by decide) (fun c3 => ?_) (fun c3 => ?_)
    · rw [if_pos c3] at h
      obtain rfl := Option.some.inj h
      have hk : jJ X G 4 L 0 0 (jQM X G L (some (.int r)) μ' 0 0) 45 [] [] m2 := hk
      exact j_lv [] rfl hk
    · rw [if_neg c3] at h
      refine j_iload_n (pc := 7) hC 1 1 dX6_takeFrom_7 rfl rfl ?_
      refine j_iload_n (pc := 8) hC 3 3 dX6_takeFrom_8 rfl rfl ?_
      refine j_iushr (pc := 9) hC dX6_takeFrom_9 ?_
      refine j_iconst (pc := 10) hC (1 : Int32) dX6_takeFrom_10 (by decide) ?_
      refine j_iand (pc := 11) hC dX6_takeFrom_11 ?_
      refine j_iconst (pc := 12) hC (1 : Int32) dX6_takeFrom_12 (by decide) ?_
      refine j_icmp_ne (pc := 13) hC 39 dX6_takeFrom_13 (by decide) (fun c4 => ?_) (fun c4 => ?_)
      · rw [if_neg c4] at h
        refine j_iinc (pc := 39) hC 3 (u1 + (1 : Int32)) [(3, .int (u1 + (1 : Int32))), (0, .ref (L.2.2 a0)), (1, .int x1), (2, .int x2)] dX6_takeFrom_39 rfl rfl (by decide) rfl ?_
        refine j_goto (pc := 42) hC 2 dX6_takeFrom_42 (by decide) ?_
        obtain rfl := Option.some.inj h
        have hk : jJ X G 4 L 0 0 (jQM X G L (some (.int r)) μ' 0 0) 2 [(0, .ref (L.2.2 a0)), (1, .int x1), (2, .int x2), (3, .int (u1 + (1 : Int32)))] [] m2 := hk
        exact j_lv [1, 2, 3, 0] rfl hk
      · rw [if_pos c4] at h
        refine j_aload_n (pc := 16) hC 0 0 dX6_takeFrom_16 rfl rfl ?_
        refine jgr_6 (pc := 17) hC 0 (by decide) rfl kf_X6_9 dX6_takeFrom_17 ka0 (ly_6_0 hL ka0).1 ?_
        refine j_iload_n (pc := 20) hC 3 3 dX6_takeFrom_20 rfl rfl ?_
        refine j_dup2 (pc := 21) hC dX6_takeFrom_21 rfl rfl ?_
        obtain ⟨i5, v6, e7, h⟩ := jrd_some h
        refine j_iald (pc := 22) hC dX6_takeFrom_22 (ly_6_0 hL ka0).2.1 (ly_6_0 hL ka0).2.2 i5 e7 ?_
        refine j_iload_n (pc := 23) hC 2 2 dX6_takeFrom_23 rfl rfl ?_
        refine j_iconst (pc := 24) hC (-1 : Int32) dX6_takeFrom_24 (by decide) ?_
        refine j_ixor (pc := 25) hC dX6_takeFrom_25 ?_
        refine j_iand (pc := 26) hC dX6_takeFrom_26 ?_
        obtain ⟨i8, h⟩ := jin_some h
        obtain ⟨m9, e10, h⟩ := jbd_ex h
        refine j_iast (pc := 27) hC dX6_takeFrom_27 (ly_6_0 hL ka0).2.1 (ly_6_0 hL ka0).2.2 i8 e10 ?_
        refine j_aload_n (pc := 28) hC 0 0 dX6_takeFrom_28 rfl rfl ?_
        refine jgr_6 (pc := 29) hC 0 (by decide) rfl kf_X6_9 dX6_takeFrom_29 ka0 (ly_6_0 hL ka0).1 ?_
        refine j_iload_n (pc := 32) hC 3 3 dX6_takeFrom_32 rfl rfl ?_
        obtain ⟨i11, v12, e13, h⟩ := jrd_some h
        refine j_iald (pc := 33) hC dX6_takeFrom_33 (ly_6_0 hL ka0).2.1 (ly_6_0 hL ka0).2.2 i11 e13 ?_
        refine j_if_ne (pc := 34) hC 39 dX6_takeFrom_34 (by decide) (fun c14 => ?_) (fun c14 => ?_)
        · rw [if_neg c14] at h
          refine j_iinc (pc := 39) hC 3 (u1 + (1 : Int32)) [(3, .int (u1 + (1 : Int32))), (0, .ref (L.2.2 a0)), (1, .int x1), (2, .int x2)] dX6_takeFrom_39 rfl rfl (by decide) rfl ?_
          refine j_goto (pc := 42) hC 2 dX6_takeFrom_42 (by decide) ?_
          obtain rfl := Option.some.inj h
          have hk : jJ X G 4 L 0 0 (jQM X G L (some (.int r)) μ' 0 0) 2 [(0, .ref (L.2.2 a0)), (1, .int x1), (2, .int x2), (3, .int (u1 + (1 : Int32)))] [] m9 := hk
          exact j_lv [1, 2, 3, 0] rfl hk
        · rw [if_pos c14] at h
          obtain rfl := Option.some.inj h
          have hk : jJ X G 4 L 0 0 (jQM X G L (some (.int r)) μ' 0 0) 37 [] [] m9 := hk
          exact j_lv [] rfl hk
  · cases w15 with
    | inl w15 =>
      try dsimp only at h
      obtain ⟨m18, rfl⟩ : ∃ y, y = w15 := ⟨_, rfl⟩
      try dsimp only at h
      show jJ X G 4 L 0 0 (jQM X G L (some (.int r)) μ' 0 0) 37 [] [] m18
      refine j_iconst (pc := 37) hC (0 : Int32) dX6_takeFrom_37 (by decide) ?_
      obtain ⟨rfl, rfl⟩ := Prod.mk.inj (Option.some.inj h)
      exact j_bret (pc := 38) hC dX6_takeFrom_38 rfl rfl
    | inr w15 =>
      try dsimp only at h
      obtain ⟨m19, rfl⟩ : ∃ y, y = w15 := ⟨_, rfl⟩
      try dsimp only at h
      show jJ X G 4 L 0 0 (jQM X G L (some (.int r)) μ' 0 0) 45 [] [] m19
      refine j_iconst (pc := 45) hC (1 : Int32) dX6_takeFrom_45 (by decide) ?_
      obtain ⟨rfl, rfl⟩ := Prod.mk.inj (Option.some.inj h)
      exact j_bret (pc := 46) hC dX6_takeFrom_46 rfl rfl
theorem dX6_unionOf_0 : decode cX6_unionOf 0 = .ok (.iconst 0, 1) := by decide +kernel
theorem dX6_unionOf_1 : decode cX6_unionOf 1 = .ok (.istore_n 2, 1) := by decide +kernel
theorem dX6_unionOf_2 : decode cX6_unionOf 2 = .ok (.iconst 0, 1) := by decide +kernel
theorem dX6_unionOf_3 : decode cX6_unionOf 3 = .ok (.istore_n 3, 1) := by decide +kernel
theorem dX6_unionOf_4 : decode cX6_unionOf 4 = .ok (.iload_n 3, 1) := by decide +kernel
theorem dX6_unionOf_5 : decode cX6_unionOf 5 = .ok (.iconst 5, 1) := by decide +kernel
theorem dX6_unionOf_6 : decode cX6_unionOf 6 = .ok (.if_icmp .ge 27, 3) := by decide +kernel
theorem dX6_unionOf_9 : decode cX6_unionOf 9 = .ok (.iload_n 1, 1) := by decide +kernel
theorem dX6_unionOf_10 : decode cX6_unionOf 10 = .ok (.iload_n 3, 1) := by decide +kernel
theorem dX6_unionOf_11 : decode cX6_unionOf 11 = .ok (.iushr, 1) := by decide +kernel
theorem dX6_unionOf_12 : decode cX6_unionOf 12 = .ok (.iconst 1, 1) := by decide +kernel
theorem dX6_unionOf_13 : decode cX6_unionOf 13 = .ok (.iand, 1) := by decide +kernel
theorem dX6_unionOf_14 : decode cX6_unionOf 14 = .ok (.iconst 1, 1) := by decide +kernel
theorem dX6_unionOf_15 : decode cX6_unionOf 15 = .ok (.if_icmp .ne 12, 3) := by decide +kernel
theorem dX6_unionOf_18 : decode cX6_unionOf 18 = .ok (.iload_n 2, 1) := by decide +kernel
theorem dX6_unionOf_19 : decode cX6_unionOf 19 = .ok (.aload_n 0, 1) := by decide +kernel
theorem dX6_unionOf_20 : decode cX6_unionOf 20 = .ok (.getfield 9, 3) := by decide +kernel
theorem dX6_unionOf_23 : decode cX6_unionOf 23 = .ok (.iload_n 3, 1) := by decide +kernel
theorem dX6_unionOf_24 : decode cX6_unionOf 24 = .ok (.iaload, 1) := by decide +kernel
theorem dX6_unionOf_25 : decode cX6_unionOf 25 = .ok (.ior, 1) := by decide +kernel
theorem dX6_unionOf_26 : decode cX6_unionOf 26 = .ok (.istore_n 2, 1) := by decide +kernel
theorem dX6_unionOf_27 : decode cX6_unionOf 27 = .ok (.iinc 3 1, 3) := by decide +kernel
theorem dX6_unionOf_30 : decode cX6_unionOf 30 = .ok (.goto (-26), 3) := by decide +kernel
theorem dX6_unionOf_33 : decode cX6_unionOf 33 = .ok (.iload_n 2, 1) := by decide +kernel
theorem dX6_unionOf_34 : decode cX6_unionOf 34 = .ok (.ireturn, 1) := by decide +kernel
def f_X6_unionOf_L4 (a0 : Nat) (x1 : Int32) (μ : jM) (u1 : Int32) (u2 : Int32) : Option ((Int32 × Int32) ⊕ (Int32)) :=
  (if (5 : Int32) ≤ u2 then some (.inr u1) else (if ((jushr x1 u2) &&& (1 : Int32)) = (1 : Int32) then jrd (μ.1 (a0 + 1)) u2 5 (fun v6 => some (.inl ((u1 ||| v6, u2 + (1 : Int32))))) else some (.inl ((u1, u2 + (1 : Int32))))))
def f_X6_unionOf (a0 : Nat) (x1 : Int32) (μ : jM) : Option (Int32) :=
  jcl (jloop (fun (s : Int32 × Int32) => f_X6_unionOf_L4 a0 x1 μ s.1 s.2) jfu (((0 : Int32), (0 : Int32)))) (fun w8 => some w8)
set_option maxHeartbeats 4000000 in
set_option maxRecDepth 100000 in
theorem c_X6_unionOf {l : Launch} {G : jG} {L : jL} (hL : jOKL L) {a0 : Nat} {x1 : Int32} (ka0 : jK L a0 6) {μ : jM} {r : Int32} (h : f_X6_unionOf a0 x1 μ = some r) : jCt l G L 3 yX6_unionOf cX6_unionOf 4 (some .int) [.ref (L.2.2 a0), .int x1] μ (some (.int r)) μ := by
  refine jCt_of (by decide) (Nat.le_of_ble_eq_true rfl) (fun X hC hX hR => ?_)
  subst hX
  have hC : jC X G cX6_unionOf 4 RX6 (some .int) := hC
  unfold f_X6_unionOf at h
  show jJ X G 4 L 0 0 (jQM X G L (some (.int r)) μ 0 0) 0 [(0, .ref (L.2.2 a0)), (1, .int x1)] [] μ
  refine j_iconst (pc := 0) hC (0 : Int32) dX6_unionOf_0 (by decide) ?_
  refine j_istore_n (pc := 1) hC 2 [(2, .int (0 : Int32)), (0, .ref (L.2.2 a0)), (1, .int x1)] dX6_unionOf_1 rfl (by decide) rfl rfl ?_
  refine j_iconst (pc := 2) hC (0 : Int32) dX6_unionOf_2 (by decide) ?_
  refine j_istore_n (pc := 3) hC 3 [(3, .int (0 : Int32)), (2, .int (0 : Int32)), (0, .ref (L.2.2 a0)), (1, .int x1)] dX6_unionOf_3 rfl (by decide) rfl rfl ?_
  obtain ⟨w8, hw9, h⟩ := jcl_some h
  refine j_lv [2, 3, 1, 0] rfl ?_
  refine j_loop (step := (fun (s : Int32 × Int32) => f_X6_unionOf_L4 a0 x1 μ s.1 s.2)) (P := (fun (s : Int32 × Int32) => jJ X G 4 L 0 0 (jQM X G L (some (.int r)) μ 0 0) 4 [(0, .ref (L.2.2 a0)), (1, .int x1), (2, .int s.1), (3, .int s.2)] [] μ)) (R := (fun (e : Int32) => jJ X G 4 L 0 0 (jQM X G L (some (.int r)) μ 0 0) 33 [(2, .int e)] [] μ)) ?_ jfu (((0 : Int32), (0 : Int32))) w8 hw9 ?_
  · intro s10 o h hk
    obtain ⟨u1, u2⟩ := s10
    change f_X6_unionOf_L4 a0 x1 μ u1 u2 = some o at h
    unfold f_X6_unionOf_L4 at h
    show jJ X G 4 L 0 0 (jQM X G L (some (.int r)) μ 0 0) 4 [(0, .ref (L.2.2 a0)), (1, .int x1), (2, .int u1), (3, .int u2)] [] μ
    refine j_iload_n (pc := 4) hC 3 3 dX6_unionOf_4 rfl rfl ?_
    refine j_iconst (pc := 5) hC (5 : Int32) dX6_unionOf_5 (by decide) ?_
    refine j_icmp_ge (pc := 6) hC 33 dX6_unionOf_6 (by decide) (fun c3 => ?_) (fun c3 => ?_)
    · rw [if_pos c3] at h
      obtain rfl := Option.some.inj h
      have hk : jJ X G 4 L 0 0 (jQM X G L (some (.int r)) μ 0 0) 33 [(2, .int u1)] [] μ := hk
      exact j_lv [2] rfl hk
    · rw [if_neg c3] at h
      refine j_iload_n (pc := 9) hC 1 1 dX6_unionOf_9 rfl rfl ?_
      refine j_iload_n (pc := 10) hC 3 3 dX6_unionOf_10 rfl rfl ?_
      refine j_iushr (pc := 11) hC dX6_unionOf_11 ?_
      refine j_iconst (pc := 12) hC (1 : Int32) dX6_unionOf_12 (by decide) ?_
      refine j_iand (pc := 13) hC dX6_unionOf_13 ?_
      refine j_iconst (pc := 14) hC (1 : Int32) dX6_unionOf_14 (by decide) ?_
      refine j_icmp_ne (pc := 15) hC 27 dX6_unionOf_15 (by decide) (fun c4 => ?_) (fun c4 => ?_)
      · rw [if_neg c4] at h
        refine j_iinc (pc := 27) hC 3 (u2 + (1 : Int32)) [(3, .int (u2 + (1 : Int32))), (0, .ref (L.2.2 a0)), (1, .int x1), (2, .int u1)] dX6_unionOf_27 rfl rfl (by decide) rfl ?_
        refine j_goto (pc := 30) hC 4 dX6_unionOf_30 (by decide) ?_
        obtain rfl := Option.some.inj h
        have hk : jJ X G 4 L 0 0 (jQM X G L (some (.int r)) μ 0 0) 4 [(0, .ref (L.2.2 a0)), (1, .int x1), (2, .int u1), (3, .int (u2 + (1 : Int32)))] [] μ := hk
        exact j_lv [1, 2, 3, 0] rfl hk
      · rw [if_pos c4] at h
        refine j_iload_n (pc := 18) hC 2 2 dX6_unionOf_18 rfl rfl ?_
        refine j_aload_n (pc := 19) hC 0 0 dX6_unionOf_19 rfl rfl ?_
        refine jgr_6 (pc := 20) hC 0 (by decide) rfl kf_X6_9 dX6_unionOf_20 ka0 (ly_6_0 hL ka0).1 ?_
        refine j_iload_n (pc := 23) hC 3 3 dX6_unionOf_23 rfl rfl ?_
        obtain ⟨i5, v6, e7, h⟩ := jrd_some h
        refine j_iald (pc := 24) hC dX6_unionOf_24 (ly_6_0 hL ka0).2.1 (ly_6_0 hL ka0).2.2 i5 e7 ?_
        refine j_ior (pc := 25) hC dX6_unionOf_25 ?_
        refine j_istore_n (pc := 26) hC 2 [(2, .int (u1 ||| v6)), (0, .ref (L.2.2 a0)), (1, .int x1), (3, .int u2)] dX6_unionOf_26 rfl (by decide) rfl rfl ?_
        refine j_iinc (pc := 27) hC 3 (u2 + (1 : Int32)) [(3, .int (u2 + (1 : Int32))), (2, .int (u1 ||| v6)), (0, .ref (L.2.2 a0)), (1, .int x1)] dX6_unionOf_27 rfl rfl (by decide) rfl ?_
        refine j_goto (pc := 30) hC 4 dX6_unionOf_30 (by decide) ?_
        obtain rfl := Option.some.inj h
        have hk : jJ X G 4 L 0 0 (jQM X G L (some (.int r)) μ 0 0) 4 [(0, .ref (L.2.2 a0)), (1, .int x1), (2, .int (u1 ||| v6)), (3, .int (u2 + (1 : Int32)))] [] μ := hk
        exact j_lv [2, 3, 1, 0] rfl hk
  · obtain ⟨z11, rfl⟩ : ∃ y, y = w8 := ⟨_, rfl⟩
    try dsimp only at h
    show jJ X G 4 L 0 0 (jQM X G L (some (.int r)) μ 0 0) 33 [(2, .int z11)] [] μ
    refine j_iload_n (pc := 33) hC 2 0 dX6_unionOf_33 rfl rfl ?_
    obtain rfl := Option.some.inj h
    exact j_iret (pc := 34) hC dX6_unionOf_34 rfl
theorem dX6_bearAllDifferent_0 : decode cX6_bearAllDifferent 0 = .ok (.iconst 1, 1) := by decide +kernel
theorem dX6_bearAllDifferent_1 : decode cX6_bearAllDifferent 1 = .ok (.istore_n 2, 1) := by decide +kernel
theorem dX6_bearAllDifferent_2 : decode cX6_bearAllDifferent 2 = .ok (.iload_n 2, 1) := by decide +kernel
theorem dX6_bearAllDifferent_3 : decode cX6_bearAllDifferent 3 = .ok (.iload_n 1, 1) := by decide +kernel
theorem dX6_bearAllDifferent_4 : decode cX6_bearAllDifferent 4 = .ok (.if_icmp .gt 59, 3) := by decide +kernel
theorem dX6_bearAllDifferent_7 : decode cX6_bearAllDifferent 7 = .ok (.iload_n 2, 1) := by decide +kernel
theorem dX6_bearAllDifferent_8 : decode cX6_bearAllDifferent 8 = .ok (.iload_n 1, 1) := by decide +kernel
theorem dX6_bearAllDifferent_9 : decode cX6_bearAllDifferent 9 = .ok (.iconst (-1), 1) := by decide +kernel
theorem dX6_bearAllDifferent_10 : decode cX6_bearAllDifferent 10 = .ok (.ixor, 1) := by decide +kernel
theorem dX6_bearAllDifferent_11 : decode cX6_bearAllDifferent 11 = .ok (.iand, 1) := by decide +kernel
theorem dX6_bearAllDifferent_12 : decode cX6_bearAllDifferent 12 = .ok (.ifCond .ne 45, 3) := by decide +kernel
theorem dX6_bearAllDifferent_15 : decode cX6_bearAllDifferent 15 = .ok (.aload_n 0, 1) := by decide +kernel
theorem dX6_bearAllDifferent_16 : decode cX6_bearAllDifferent 16 = .ok (.iload_n 2, 1) := by decide +kernel
theorem dX6_bearAllDifferent_17 : decode cX6_bearAllDifferent 17 = .ok (.invokevirtual 62, 3) := by decide +kernel
theorem dX6_bearAllDifferent_20 : decode cX6_bearAllDifferent 20 = .ok (.istore_n 3, 1) := by decide +kernel
theorem dX6_bearAllDifferent_21 : decode cX6_bearAllDifferent 21 = .ok (.iload_n 3, 1) := by decide +kernel
theorem dX6_bearAllDifferent_22 : decode cX6_bearAllDifferent 22 = .ok (.invokestatic 24, 3) := by decide +kernel
theorem dX6_bearAllDifferent_25 : decode cX6_bearAllDifferent 25 = .ok (.iload_n 2, 1) := by decide +kernel
theorem dX6_bearAllDifferent_26 : decode cX6_bearAllDifferent 26 = .ok (.invokestatic 24, 3) := by decide +kernel
theorem dX6_bearAllDifferent_29 : decode cX6_bearAllDifferent 29 = .ok (.isub, 1) := by decide +kernel
theorem dX6_bearAllDifferent_30 : decode cX6_bearAllDifferent 30 = .ok (.istore 4, 2) := by decide +kernel
theorem dX6_bearAllDifferent_32 : decode cX6_bearAllDifferent 32 = .ok (.iload 4, 2) := by decide +kernel
theorem dX6_bearAllDifferent_34 : decode cX6_bearAllDifferent 34 = .ok (.ifCond .lt 21, 3) := by decide +kernel
theorem dX6_bearAllDifferent_37 : decode cX6_bearAllDifferent 37 = .ok (.iload 4, 2) := by decide +kernel
theorem dX6_bearAllDifferent_39 : decode cX6_bearAllDifferent 39 = .ok (.ifCond .ne 18, 3) := by decide +kernel
theorem dX6_bearAllDifferent_42 : decode cX6_bearAllDifferent 42 = .ok (.aload_n 0, 1) := by decide +kernel
theorem dX6_bearAllDifferent_43 : decode cX6_bearAllDifferent 43 = .ok (.iload_n 1, 1) := by decide +kernel
theorem dX6_bearAllDifferent_44 : decode cX6_bearAllDifferent 44 = .ok (.iload_n 2, 1) := by decide +kernel
theorem dX6_bearAllDifferent_45 : decode cX6_bearAllDifferent 45 = .ok (.iconst (-1), 1) := by decide +kernel
theorem dX6_bearAllDifferent_46 : decode cX6_bearAllDifferent 46 = .ok (.ixor, 1) := by decide +kernel
theorem dX6_bearAllDifferent_47 : decode cX6_bearAllDifferent 47 = .ok (.iand, 1) := by decide +kernel
theorem dX6_bearAllDifferent_48 : decode cX6_bearAllDifferent 48 = .ok (.iload_n 3, 1) := by decide +kernel
theorem dX6_bearAllDifferent_49 : decode cX6_bearAllDifferent 49 = .ok (.invokevirtual 65, 3) := by decide +kernel
theorem dX6_bearAllDifferent_52 : decode cX6_bearAllDifferent 52 = .ok (.ifCond .ne 5, 3) := by decide +kernel
theorem dX6_bearAllDifferent_55 : decode cX6_bearAllDifferent 55 = .ok (.iconst 0, 1) := by decide +kernel
theorem dX6_bearAllDifferent_56 : decode cX6_bearAllDifferent 56 = .ok (.ireturn, 1) := by decide +kernel
theorem dX6_bearAllDifferent_57 : decode cX6_bearAllDifferent 57 = .ok (.iinc 2 1, 3) := by decide +kernel
theorem dX6_bearAllDifferent_60 : decode cX6_bearAllDifferent 60 = .ok (.goto (-58), 3) := by decide +kernel
theorem dX6_bearAllDifferent_63 : decode cX6_bearAllDifferent 63 = .ok (.iconst 1, 1) := by decide +kernel
theorem dX6_bearAllDifferent_64 : decode cX6_bearAllDifferent 64 = .ok (.ireturn, 1) := by decide +kernel
def f_X6_bearAllDifferent_L2 (a0 : Nat) (x1 : Int32) (u1 : Int32) (m2 : jM) : Option ((Int32 × jM) ⊕ ((jM) ⊕ (jM))) :=
  (if x1 < u1 then some (.inr (.inr (m2))) else (if (u1 &&& (x1 ^^^ (-1 : Int32))) = (0 : Int32) then jcl (f_X6_unionOf a0 u1 m2) (fun v5 => jbd ((f_J6_bitCount_0f7a4 v5) - (f_J6_bitCount_0f7a4 u1) : Int32) (fun v7 => (if v7 < (0 : Int32) then some (.inr (.inl m2)) else (if v7 = (0 : Int32) then jcl2 (f_X6_takeFrom a0 (x1 &&& (u1 ^^^ (-1 : Int32))) v5 m2) (fun v11 m12 => (if v11 = (0 : Int32) then some (.inr (.inl m12)) else some (.inl ((u1 + (1 : Int32), m12))))) else some (.inl ((u1 + (1 : Int32), m2))))))) else some (.inl ((u1 + (1 : Int32), m2)))))
def f_X6_bearAllDifferent (a0 : Nat) (x1 : Int32) (μ : jM) : Option (Int32 × jM) :=
  jcl (jloop (fun (s : Int32 × jM) => f_X6_bearAllDifferent_L2 a0 x1 s.1 s.2) jfu (((1 : Int32), μ))) (fun w15 => match w15 with | .inl w15 => some (((0 : Int32), w15)) | .inr w15 => some (((1 : Int32), w15)))
set_option maxHeartbeats 4000000 in
set_option maxRecDepth 100000 in
theorem c_X6_bearAllDifferent {l : Launch} {G : jG} {L : jL} (hL : jOKL L) {a0 : Nat} {x1 : Int32} (ka0 : jK L a0 6) {μ μ' : jM} {r : Int32} (h : f_X6_bearAllDifferent a0 x1 μ = some ((r, μ'))) : jCt l G L 4 yX6_bearAllDifferent cX6_bearAllDifferent 5 (some .boolean) [.ref (L.2.2 a0), .int x1] μ (some (.int r)) μ' := by
  refine jCt_of (by decide) (Nat.le_of_ble_eq_true rfl) (fun X hC hX hR => ?_)
  subst hX
  have hC : jC X G cX6_bearAllDifferent 5 RX6 (some .boolean) := hC
  unfold f_X6_bearAllDifferent at h
  show jJ X G 5 L 0 0 (jQM X G L (some (.int r)) μ' 0 0) 0 [(0, .ref (L.2.2 a0)), (1, .int x1)] [] μ
  refine j_iconst (pc := 0) hC (1 : Int32) dX6_bearAllDifferent_0 (by decide) ?_
  refine j_istore_n (pc := 1) hC 2 [(2, .int (1 : Int32)), (0, .ref (L.2.2 a0)), (1, .int x1)] dX6_bearAllDifferent_1 rfl (by decide) rfl rfl ?_
  obtain ⟨w15, hw16, h⟩ := jcl_some h
  refine j_lv [1, 2, 0] rfl ?_
  refine j_loop (step := (fun (s : Int32 × jM) => f_X6_bearAllDifferent_L2 a0 x1 s.1 s.2)) (P := (fun (s : Int32 × jM) => jJ X G 5 L 0 0 (jQM X G L (some (.int r)) μ' 0 0) 2 [(0, .ref (L.2.2 a0)), (1, .int x1), (2, .int s.1)] [] s.2)) (R := (fun (e : (jM) ⊕ (jM)) => match e with | .inl e => jJ X G 5 L 0 0 (jQM X G L (some (.int r)) μ' 0 0) 55 [] [] e | .inr e => jJ X G 5 L 0 0 (jQM X G L (some (.int r)) μ' 0 0) 63 [] [] e)) ?_ jfu (((1 : Int32), μ)) w15 hw16 ?_
  · intro s17 o h hk
    obtain ⟨u1, m2⟩ := s17
    change f_X6_bearAllDifferent_L2 a0 x1 u1 m2 = some o at h
    unfold f_X6_bearAllDifferent_L2 at h
    show jJ X G 5 L 0 0 (jQM X G L (some (.int r)) μ' 0 0) 2 [(0, .ref (L.2.2 a0)), (1, .int x1), (2, .int u1)] [] m2
    refine j_iload_n (pc := 2) hC 2 2 dX6_bearAllDifferent_2 rfl rfl ?_
    refine j_iload_n (pc := 3) hC 1 1 dX6_bearAllDifferent_3 rfl rfl ?_
    refine j_icmp_gt (pc := 4) hC 63 dX6_bearAllDifferent_4 (by decide) (fun c3 => ?_) (fun c3 => ?_)
    · rw [if_pos c3] at h
      obtain rfl := Option.some.inj h
      have hk : jJ X G 5 L 0 0 (jQM X G L (some (.int r)) μ' 0 0) 63 [] [] m2 := hk
      exact j_lv [] rfl hk
    · rw [if_neg c3] at h
      refine j_iload_n (pc := 7) hC 2 2 dX6_bearAllDifferent_7 rfl rfl ?_
      refine j_iload_n (pc := 8) hC 1 1 dX6_bearAllDifferent_8 rfl rfl ?_
      refine j_iconst (pc := 9) hC (-1 : Int32) dX6_bearAllDifferent_9 (by decide) ?_
      refine j_ixor (pc := 10) hC dX6_bearAllDifferent_10 ?_
      refine j_iand (pc := 11) hC dX6_bearAllDifferent_11 ?_
      refine j_if_ne (pc := 12) hC 57 dX6_bearAllDifferent_12 (by decide) (fun c4 => ?_) (fun c4 => ?_)
      · rw [if_neg c4] at h
        refine j_iinc (pc := 57) hC 2 (u1 + (1 : Int32)) [(2, .int (u1 + (1 : Int32))), (0, .ref (L.2.2 a0)), (1, .int x1)] dX6_bearAllDifferent_57 rfl rfl (by decide) rfl ?_
        refine j_goto (pc := 60) hC 2 dX6_bearAllDifferent_60 (by decide) ?_
        obtain rfl := Option.some.inj h
        have hk : jJ X G 5 L 0 0 (jQM X G L (some (.int r)) μ' 0 0) 2 [(0, .ref (L.2.2 a0)), (1, .int x1), (2, .int (u1 + (1 : Int32)))] [] m2 := hk
        exact j_lv [1, 2, 0] rfl hk
      · rw [if_pos c4] at h
        refine j_aload_n (pc := 15) hC 0 0 dX6_bearAllDifferent_15 rfl rfl ?_
        refine j_iload_n (pc := 16) hC 2 2 dX6_bearAllDifferent_16 rfl rfl ?_
        obtain ⟨v5, e6, h⟩ := jcl_some h
        refine j_vi (pc := 17) hC hR [.int u1] iy_X6_unionOf (q := (RX6, TX6, 1)) (ci := 6) rfl rfl (by decide) km_X6_62 dX6_bearAllDifferent_17 rfl (by decide) ka0 (c_X6_unionOf hL ka0 e6) (by decide) (Nat.le_of_ble_eq_true rfl) rfl ?_
        refine j_istore_n (pc := 20) hC 3 [(3, .int v5), (0, .ref (L.2.2 a0)), (1, .int x1), (2, .int u1)] dX6_bearAllDifferent_20 rfl (by decide) rfl rfl ?_
        refine j_iload_n (pc := 21) hC 3 0 dX6_bearAllDifferent_21 rfl rfl ?_
        refine j_si (pc := 22) hC hR [.int v5] iy_J6_bitCount_0f7a4 km_X6_24 dX6_bearAllDifferent_22 rfl (by decide) (c_J6_bitCount_0f7a4 hL  rfl) (by decide) (Nat.le_of_ble_eq_true rfl) rfl ?_
        refine j_iload_n (pc := 25) hC 2 3 dX6_bearAllDifferent_25 rfl rfl ?_
        refine j_si (pc := 26) hC hR [.int u1] iy_J6_bitCount_0f7a4 km_X6_24 dX6_bearAllDifferent_26 rfl (by decide) (c_J6_bitCount_0f7a4 hL  rfl) (by decide) (Nat.le_of_ble_eq_true rfl) rfl ?_
        refine j_isub (pc := 29) hC dX6_bearAllDifferent_29 ?_
        obtain ⟨v7, e8, h⟩ := jbd_ex h
        refine j_istore (pc := 30) hC [(4, .int v7), (3, .int v5), (0, .ref (L.2.2 a0)), (1, .int x1), (2, .int u1)] dX6_bearAllDifferent_30 (by decide) e8 rfl ?_
        refine j_iload (pc := 32) hC 0 dX6_bearAllDifferent_32 rfl ?_
        refine j_if_lt (pc := 34) hC 55 dX6_bearAllDifferent_34 (by decide) (fun c9 => ?_) (fun c9 => ?_)
        · rw [if_pos c9] at h
          obtain rfl := Option.some.inj h
          have hk : jJ X G 5 L 0 0 (jQM X G L (some (.int r)) μ' 0 0) 55 [] [] m2 := hk
          exact j_lv [] rfl hk
        · rw [if_neg c9] at h
          refine j_iload (pc := 37) hC 0 dX6_bearAllDifferent_37 rfl ?_
          refine j_if_ne (pc := 39) hC 57 dX6_bearAllDifferent_39 (by decide) (fun c10 => ?_) (fun c10 => ?_)
          · rw [if_neg c10] at h
            refine j_iinc (pc := 57) hC 4 (u1 + (1 : Int32)) [(2, .int (u1 + (1 : Int32))), (4, .int v7), (3, .int v5), (0, .ref (L.2.2 a0)), (1, .int x1)] dX6_bearAllDifferent_57 rfl rfl (by decide) rfl ?_
            refine j_goto (pc := 60) hC 2 dX6_bearAllDifferent_60 (by decide) ?_
            obtain rfl := Option.some.inj h
            have hk : jJ X G 5 L 0 0 (jQM X G L (some (.int r)) μ' 0 0) 2 [(0, .ref (L.2.2 a0)), (1, .int x1), (2, .int (u1 + (1 : Int32)))] [] m2 := hk
            exact j_lv [3, 4, 0] rfl hk
          · rw [if_pos c10] at h
            refine j_aload_n (pc := 42) hC 0 2 dX6_bearAllDifferent_42 rfl rfl ?_
            refine j_iload_n (pc := 43) hC 1 3 dX6_bearAllDifferent_43 rfl rfl ?_
            refine j_iload_n (pc := 44) hC 2 4 dX6_bearAllDifferent_44 rfl rfl ?_
            refine j_iconst (pc := 45) hC (-1 : Int32) dX6_bearAllDifferent_45 (by decide) ?_
            refine j_ixor (pc := 46) hC dX6_bearAllDifferent_46 ?_
            refine j_iand (pc := 47) hC dX6_bearAllDifferent_47 ?_
            refine j_iload_n (pc := 48) hC 3 1 dX6_bearAllDifferent_48 rfl rfl ?_
            obtain ⟨v11, m12, e13, h⟩ := jcl2_some h
            refine j_vi (pc := 49) hC hR [.int (x1 &&& (u1 ^^^ (-1 : Int32))), .int v5] iy_X6_takeFrom (q := (RX6, TX6, 1)) (ci := 6) rfl rfl (by decide) km_X6_65 dX6_bearAllDifferent_49 rfl (by decide) ka0 (c_X6_takeFrom hL ka0 e13) (by decide) (Nat.le_of_ble_eq_true rfl) rfl ?_
            refine j_if_ne (pc := 52) hC 57 dX6_bearAllDifferent_52 (by decide) (fun c14 => ?_) (fun c14 => ?_)
            · rw [if_neg c14] at h
              refine j_iinc (pc := 57) hC 4 (u1 + (1 : Int32)) [(2, .int (u1 + (1 : Int32))), (4, .int v7), (3, .int v5), (0, .ref (L.2.2 a0)), (1, .int x1)] dX6_bearAllDifferent_57 rfl rfl (by decide) rfl ?_
              refine j_goto (pc := 60) hC 2 dX6_bearAllDifferent_60 (by decide) ?_
              obtain rfl := Option.some.inj h
              have hk : jJ X G 5 L 0 0 (jQM X G L (some (.int r)) μ' 0 0) 2 [(0, .ref (L.2.2 a0)), (1, .int x1), (2, .int (u1 + (1 : Int32)))] [] m12 := hk
              exact j_lv [3, 4, 0] rfl hk
            · rw [if_pos c14] at h
              obtain rfl := Option.some.inj h
              have hk : jJ X G 5 L 0 0 (jQM X G L (some (.int r)) μ' 0 0) 55 [] [] m12 := hk
              exact j_lv [] rfl hk
  · cases w15 with
    | inl w15 =>
      try dsimp only at h
      obtain ⟨m18, rfl⟩ : ∃ y, y = w15 := ⟨_, rfl⟩
      try dsimp only at h
      show jJ X G 5 L 0 0 (jQM X G L (some (.int r)) μ' 0 0) 55 [] [] m18
      refine j_iconst (pc := 55) hC (0 : Int32) dX6_bearAllDifferent_55 (by decide) ?_
      obtain ⟨rfl, rfl⟩ := Prod.mk.inj (Option.some.inj h)
      exact j_bret (pc := 56) hC dX6_bearAllDifferent_56 rfl rfl
    | inr w15 =>
      try dsimp only at h
      obtain ⟨m19, rfl⟩ : ∃ y, y = w15 := ⟨_, rfl⟩
      try dsimp only at h
      show jJ X G 5 L 0 0 (jQM X G L (some (.int r)) μ' 0 0) 63 [] [] m19
      refine j_iconst (pc := 63) hC (1 : Int32) dX6_bearAllDifferent_63 (by decide) ?_
      obtain ⟨rfl, rfl⟩ := Prod.mk.inj (Option.some.inj h)
      exact j_bret (pc := 64) hC dX6_bearAllDifferent_64 rfl rfl
theorem dJ6_numberOfLeadingZeros_0f7a4_0 : decode cJ6_numberOfLeadingZeros_0f7a4 0 = .ok (.iload_n 0, 1) := by decide +kernel
theorem dJ6_numberOfLeadingZeros_0f7a4_1 : decode cJ6_numberOfLeadingZeros_0f7a4 1 = .ok (.ifCond .gt 14, 3) := by decide +kernel
theorem dJ6_numberOfLeadingZeros_0f7a4_4 : decode cJ6_numberOfLeadingZeros_0f7a4 4 = .ok (.iload_n 0, 1) := by decide +kernel
theorem dJ6_numberOfLeadingZeros_0f7a4_5 : decode cJ6_numberOfLeadingZeros_0f7a4 5 = .ok (.ifCond .ne 8, 3) := by decide +kernel
theorem dJ6_numberOfLeadingZeros_0f7a4_8 : decode cJ6_numberOfLeadingZeros_0f7a4 8 = .ok (.bipush 32, 2) := by decide +kernel
theorem dJ6_numberOfLeadingZeros_0f7a4_10 : decode cJ6_numberOfLeadingZeros_0f7a4 10 = .ok (.goto 4, 3) := by decide +kernel
theorem dJ6_numberOfLeadingZeros_0f7a4_13 : decode cJ6_numberOfLeadingZeros_0f7a4 13 = .ok (.iconst 0, 1) := by decide +kernel
theorem dJ6_numberOfLeadingZeros_0f7a4_14 : decode cJ6_numberOfLeadingZeros_0f7a4 14 = .ok (.ireturn, 1) := by decide +kernel
theorem dJ6_numberOfLeadingZeros_0f7a4_15 : decode cJ6_numberOfLeadingZeros_0f7a4 15 = .ok (.bipush 31, 2) := by decide +kernel
theorem dJ6_numberOfLeadingZeros_0f7a4_17 : decode cJ6_numberOfLeadingZeros_0f7a4 17 = .ok (.istore_n 1, 1) := by decide +kernel
theorem dJ6_numberOfLeadingZeros_0f7a4_18 : decode cJ6_numberOfLeadingZeros_0f7a4 18 = .ok (.iload_n 0, 1) := by decide +kernel
theorem dJ6_numberOfLeadingZeros_0f7a4_19 : decode cJ6_numberOfLeadingZeros_0f7a4 19 = .ok (.ldc_w 264, 3) := by decide +kernel
theorem dJ6_numberOfLeadingZeros_0f7a4_22 : decode cJ6_numberOfLeadingZeros_0f7a4 22 = .ok (.if_icmp .lt 11, 3) := by decide +kernel
theorem dJ6_numberOfLeadingZeros_0f7a4_25 : decode cJ6_numberOfLeadingZeros_0f7a4 25 = .ok (.iinc 1 (-16), 3) := by decide +kernel
theorem dJ6_numberOfLeadingZeros_0f7a4_28 : decode cJ6_numberOfLeadingZeros_0f7a4 28 = .ok (.iload_n 0, 1) := by decide +kernel
theorem dJ6_numberOfLeadingZeros_0f7a4_29 : decode cJ6_numberOfLeadingZeros_0f7a4 29 = .ok (.bipush 16, 2) := by decide +kernel
theorem dJ6_numberOfLeadingZeros_0f7a4_31 : decode cJ6_numberOfLeadingZeros_0f7a4 31 = .ok (.iushr, 1) := by decide +kernel
theorem dJ6_numberOfLeadingZeros_0f7a4_32 : decode cJ6_numberOfLeadingZeros_0f7a4 32 = .ok (.istore_n 0, 1) := by decide +kernel
theorem dJ6_numberOfLeadingZeros_0f7a4_33 : decode cJ6_numberOfLeadingZeros_0f7a4 33 = .ok (.iload_n 0, 1) := by decide +kernel
theorem dJ6_numberOfLeadingZeros_0f7a4_34 : decode cJ6_numberOfLeadingZeros_0f7a4 34 = .ok (.sipush 256, 3) := by decide +kernel
theorem dJ6_numberOfLeadingZeros_0f7a4_37 : decode cJ6_numberOfLeadingZeros_0f7a4 37 = .ok (.if_icmp .lt 11, 3) := by decide +kernel
theorem dJ6_numberOfLeadingZeros_0f7a4_40 : decode cJ6_numberOfLeadingZeros_0f7a4 40 = .ok (.iinc 1 (-8), 3) := by decide +kernel
theorem dJ6_numberOfLeadingZeros_0f7a4_43 : decode cJ6_numberOfLeadingZeros_0f7a4 43 = .ok (.iload_n 0, 1) := by decide +kernel
theorem dJ6_numberOfLeadingZeros_0f7a4_44 : decode cJ6_numberOfLeadingZeros_0f7a4 44 = .ok (.bipush 8, 2) := by decide +kernel
theorem dJ6_numberOfLeadingZeros_0f7a4_46 : decode cJ6_numberOfLeadingZeros_0f7a4 46 = .ok (.iushr, 1) := by decide +kernel
theorem dJ6_numberOfLeadingZeros_0f7a4_47 : decode cJ6_numberOfLeadingZeros_0f7a4 47 = .ok (.istore_n 0, 1) := by decide +kernel
theorem dJ6_numberOfLeadingZeros_0f7a4_48 : decode cJ6_numberOfLeadingZeros_0f7a4 48 = .ok (.iload_n 0, 1) := by decide +kernel
theorem dJ6_numberOfLeadingZeros_0f7a4_49 : decode cJ6_numberOfLeadingZeros_0f7a4 49 = .ok (.bipush 16, 2) := by decide +kernel
theorem dJ6_numberOfLeadingZeros_0f7a4_51 : decode cJ6_numberOfLeadingZeros_0f7a4 51 = .ok (.if_icmp .lt 10, 3) := by decide +kernel
theorem dJ6_numberOfLeadingZeros_0f7a4_54 : decode cJ6_numberOfLeadingZeros_0f7a4 54 = .ok (.iinc 1 (-4), 3) := by decide +kernel
theorem dJ6_numberOfLeadingZeros_0f7a4_57 : decode cJ6_numberOfLeadingZeros_0f7a4 57 = .ok (.iload_n 0, 1) := by decide +kernel
theorem dJ6_numberOfLeadingZeros_0f7a4_58 : decode cJ6_numberOfLeadingZeros_0f7a4 58 = .ok (.iconst 4, 1) := by decide +kernel
theorem dJ6_numberOfLeadingZeros_0f7a4_59 : decode cJ6_numberOfLeadingZeros_0f7a4 59 = .ok (.iushr, 1) := by decide +kernel
theorem dJ6_numberOfLeadingZeros_0f7a4_60 : decode cJ6_numberOfLeadingZeros_0f7a4 60 = .ok (.istore_n 0, 1) := by decide +kernel
theorem dJ6_numberOfLeadingZeros_0f7a4_61 : decode cJ6_numberOfLeadingZeros_0f7a4 61 = .ok (.iload_n 0, 1) := by decide +kernel
theorem dJ6_numberOfLeadingZeros_0f7a4_62 : decode cJ6_numberOfLeadingZeros_0f7a4 62 = .ok (.iconst 4, 1) := by decide +kernel
theorem dJ6_numberOfLeadingZeros_0f7a4_63 : decode cJ6_numberOfLeadingZeros_0f7a4 63 = .ok (.if_icmp .lt 10, 3) := by decide +kernel
theorem dJ6_numberOfLeadingZeros_0f7a4_66 : decode cJ6_numberOfLeadingZeros_0f7a4 66 = .ok (.iinc 1 (-2), 3) := by decide +kernel
theorem dJ6_numberOfLeadingZeros_0f7a4_69 : decode cJ6_numberOfLeadingZeros_0f7a4 69 = .ok (.iload_n 0, 1) := by decide +kernel
theorem dJ6_numberOfLeadingZeros_0f7a4_70 : decode cJ6_numberOfLeadingZeros_0f7a4 70 = .ok (.iconst 2, 1) := by decide +kernel
theorem dJ6_numberOfLeadingZeros_0f7a4_71 : decode cJ6_numberOfLeadingZeros_0f7a4 71 = .ok (.iushr, 1) := by decide +kernel
theorem dJ6_numberOfLeadingZeros_0f7a4_72 : decode cJ6_numberOfLeadingZeros_0f7a4 72 = .ok (.istore_n 0, 1) := by decide +kernel
theorem dJ6_numberOfLeadingZeros_0f7a4_73 : decode cJ6_numberOfLeadingZeros_0f7a4 73 = .ok (.iload_n 1, 1) := by decide +kernel
theorem dJ6_numberOfLeadingZeros_0f7a4_74 : decode cJ6_numberOfLeadingZeros_0f7a4 74 = .ok (.iload_n 0, 1) := by decide +kernel
theorem dJ6_numberOfLeadingZeros_0f7a4_75 : decode cJ6_numberOfLeadingZeros_0f7a4 75 = .ok (.iconst 1, 1) := by decide +kernel
theorem dJ6_numberOfLeadingZeros_0f7a4_76 : decode cJ6_numberOfLeadingZeros_0f7a4 76 = .ok (.iushr, 1) := by decide +kernel
theorem dJ6_numberOfLeadingZeros_0f7a4_77 : decode cJ6_numberOfLeadingZeros_0f7a4 77 = .ok (.isub, 1) := by decide +kernel
theorem dJ6_numberOfLeadingZeros_0f7a4_78 : decode cJ6_numberOfLeadingZeros_0f7a4 78 = .ok (.ireturn, 1) := by decide +kernel
def f_J6_numberOfLeadingZeros_0f7a4 (x0 : Int32) : Int32 :=
  (if (0 : Int32) < x0 then jbd (fun (t2 : Int32) (t3 : Int32) => jbd (fun (t7 : Int32) (t8 : Int32) => jbd (fun (t12 : Int32) (t13 : Int32) => (if t12 < (4 : Int32) then t13 - (jushr t12 (1 : Int32)) else jbd (jushr t12 (2 : Int32) : Int32) (fun v18 => (t13 + (-2 : Int32)) - (jushr v18 (1 : Int32))))) (fun k14 => (if t7 < (16 : Int32) then k14 t7 t8 else jbd (jushr t7 (4 : Int32) : Int32) (fun v21 => k14 v21 (t8 + (-4 : Int32)))))) (fun k9 => (if t2 < (256 : Int32) then k9 t2 t3 else jbd (jushr t2 (8 : Int32) : Int32) (fun v24 => k9 v24 (t3 + (-8 : Int32)))))) (fun k4 => (if x0 < (65536 : Int32) then k4 x0 (31 : Int32) else jbd (jushr x0 (16 : Int32) : Int32) (fun v27 => k4 v27 ((31 : Int32) + (-16 : Int32))))) else (if x0 = (0 : Int32) then (32 : Int32) else (0 : Int32)))
set_option maxHeartbeats 4000000 in
set_option maxRecDepth 100000 in
theorem c_J6_numberOfLeadingZeros_0f7a4 {l : Launch} {G : jG} {L : jL} (hL : jOKL L) {x0 : Int32}  {μ : jM} {r : Int32} (h : f_J6_numberOfLeadingZeros_0f7a4 x0 = r) : jCt l G L 3 yJ6_numberOfLeadingZeros_0f7a4 cJ6_numberOfLeadingZeros_0f7a4 2 (some .int) [.int x0] μ (some (.int r)) μ := by
  refine jCt_of (by decide) (Nat.le_of_ble_eq_true rfl) (fun X hC hX hR => ?_)
  subst hX
  have hC : jC X G cJ6_numberOfLeadingZeros_0f7a4 2 RJ6 (some .int) := hC
  unfold f_J6_numberOfLeadingZeros_0f7a4 at h
  show jJ X G 2 L 0 0 (jQM X G L (some (.int r)) μ 0 0) 0 [(0, .int x0)] [] μ
  refine j_iload_n (pc := 0) hC 0 0 dJ6_numberOfLeadingZeros_0f7a4_0 rfl rfl ?_
  refine j_if_gt (pc := 1) hC 15 dJ6_numberOfLeadingZeros_0f7a4_1 (by decide) (fun c1 => ?_) (fun c1 => ?_)
  · rw [if_pos c1] at h
    refine j_bipush (pc := 15) hC (31 : Int32) dJ6_numberOfLeadingZeros_0f7a4_15 (by decide) ?_
    refine j_istore_n (pc := 17) hC 1 [(1, .int (31 : Int32)), (0, .int x0)] dJ6_numberOfLeadingZeros_0f7a4_17 rfl (by decide) rfl rfl ?_
    refine j_iload_n (pc := 18) hC 0 1 dJ6_numberOfLeadingZeros_0f7a4_18 rfl rfl ?_
    refine j_ldcw (pc := 19) hC dJ6_numberOfLeadingZeros_0f7a4_19 kc_J6_264 ?_
    obtain ⟨k4, e6, h⟩ := jbd_ex h
    have q5 : ∀ (t2 : Int32) (t3 : Int32), k4 t2 t3 = r → jJ X G 2 L 0 0 (jQM X G L (some (.int r)) μ 0 0) 33 [(0, .int t2), (1, .int t3)] [] μ := by
      intro t2 t3 h
      rw [e6] at h
      try dsimp only at h
      refine j_iload_n (pc := 33) hC 0 0 dJ6_numberOfLeadingZeros_0f7a4_33 rfl rfl ?_
      refine j_sipush (pc := 34) hC (256 : Int32) dJ6_numberOfLeadingZeros_0f7a4_34 (by decide) ?_
      obtain ⟨k9, e11, h⟩ := jbd_ex h
      have q10 : ∀ (t7 : Int32) (t8 : Int32), k9 t7 t8 = r → jJ X G 2 L 0 0 (jQM X G L (some (.int r)) μ 0 0) 48 [(0, .int t7), (1, .int t8)] [] μ := by
        intro t7 t8 h
        rw [e11] at h
        try dsimp only at h
        refine j_iload_n (pc := 48) hC 0 0 dJ6_numberOfLeadingZeros_0f7a4_48 rfl rfl ?_
        refine j_bipush (pc := 49) hC (16 : Int32) dJ6_numberOfLeadingZeros_0f7a4_49 (by decide) ?_
        obtain ⟨k14, e16, h⟩ := jbd_ex h
        have q15 : ∀ (t12 : Int32) (t13 : Int32), k14 t12 t13 = r → jJ X G 2 L 0 0 (jQM X G L (some (.int r)) μ 0 0) 61 [(0, .int t12), (1, .int t13)] [] μ := by
          intro t12 t13 h
          rw [e16] at h
          try dsimp only at h
          refine j_iload_n (pc := 61) hC 0 0 dJ6_numberOfLeadingZeros_0f7a4_61 rfl rfl ?_
          refine j_iconst (pc := 62) hC (4 : Int32) dJ6_numberOfLeadingZeros_0f7a4_62 (by decide) ?_
          refine j_icmp_lt (pc := 63) hC 73 dJ6_numberOfLeadingZeros_0f7a4_63 (by decide) (fun c17 => ?_) (fun c17 => ?_)
          · rw [if_pos c17] at h
            refine j_iload_n (pc := 73) hC 1 1 dJ6_numberOfLeadingZeros_0f7a4_73 rfl rfl ?_
            refine j_iload_n (pc := 74) hC 0 0 dJ6_numberOfLeadingZeros_0f7a4_74 rfl rfl ?_
            refine j_iconst (pc := 75) hC (1 : Int32) dJ6_numberOfLeadingZeros_0f7a4_75 (by decide) ?_
            refine j_iushr (pc := 76) hC dJ6_numberOfLeadingZeros_0f7a4_76 ?_
            refine j_isub (pc := 77) hC dJ6_numberOfLeadingZeros_0f7a4_77 ?_
            subst h
            exact j_iret (pc := 78) hC dJ6_numberOfLeadingZeros_0f7a4_78 rfl
          · rw [if_neg c17] at h
            refine j_iinc (pc := 66) hC 1 (t13 + (-2 : Int32)) [(1, .int (t13 + (-2 : Int32))), (0, .int t12)] dJ6_numberOfLeadingZeros_0f7a4_66 rfl rfl (by decide) rfl ?_
            refine j_iload_n (pc := 69) hC 0 1 dJ6_numberOfLeadingZeros_0f7a4_69 rfl rfl ?_
            refine j_iconst (pc := 70) hC (2 : Int32) dJ6_numberOfLeadingZeros_0f7a4_70 (by decide) ?_
            refine j_iushr (pc := 71) hC dJ6_numberOfLeadingZeros_0f7a4_71 ?_
            obtain ⟨v18, e19, h⟩ := jbd_ex h
            refine j_istore_n (pc := 72) hC 0 [(0, .int v18), (1, .int (t13 + (-2 : Int32)))] dJ6_numberOfLeadingZeros_0f7a4_72 rfl (by decide) e19 rfl ?_
            refine j_iload_n (pc := 73) hC 1 1 dJ6_numberOfLeadingZeros_0f7a4_73 rfl rfl ?_
            refine j_iload_n (pc := 74) hC 0 0 dJ6_numberOfLeadingZeros_0f7a4_74 rfl rfl ?_
            refine j_iconst (pc := 75) hC (1 : Int32) dJ6_numberOfLeadingZeros_0f7a4_75 (by decide) ?_
            refine j_iushr (pc := 76) hC dJ6_numberOfLeadingZeros_0f7a4_76 ?_
            refine j_isub (pc := 77) hC dJ6_numberOfLeadingZeros_0f7a4_77 ?_
            subst h
            exact j_iret (pc := 78) hC dJ6_numberOfLeadingZeros_0f7a4_78 rfl
        refine j_icmp_lt (pc := 51) hC 61 dJ6_numberOfLeadingZeros_0f7a4_51 (by decide) (fun c20 => ?_) (fun c20 => ?_)
        · rw [if_pos c20] at h
          exact j_lv [0, 1] rfl (q15 _ _ h)
        · rw [if_neg c20] at h
          refine j_iinc (pc := 54) hC 1 (t8 + (-4 : Int32)) [(1, .int (t8 + (-4 : Int32))), (0, .int t7)] dJ6_numberOfLeadingZeros_0f7a4_54 rfl rfl (by decide) rfl ?_
          refine j_iload_n (pc := 57) hC 0 1 dJ6_numberOfLeadingZeros_0f7a4_57 rfl rfl ?_
          refine j_iconst (pc := 58) hC (4 : Int32) dJ6_numberOfLeadingZeros_0f7a4_58 (by decide) ?_
          refine j_iushr (pc := 59) hC dJ6_numberOfLeadingZeros_0f7a4_59 ?_
          obtain ⟨v21, e22, h⟩ := jbd_ex h
          refine j_istore_n (pc := 60) hC 0 [(0, .int v21), (1, .int (t8 + (-4 : Int32)))] dJ6_numberOfLeadingZeros_0f7a4_60 rfl (by decide) e22 rfl ?_
          exact j_lv [0, 1] rfl (q15 _ _ h)
      refine j_icmp_lt (pc := 37) hC 48 dJ6_numberOfLeadingZeros_0f7a4_37 (by decide) (fun c23 => ?_) (fun c23 => ?_)
      · rw [if_pos c23] at h
        exact j_lv [0, 1] rfl (q10 _ _ h)
      · rw [if_neg c23] at h
        refine j_iinc (pc := 40) hC 1 (t3 + (-8 : Int32)) [(1, .int (t3 + (-8 : Int32))), (0, .int t2)] dJ6_numberOfLeadingZeros_0f7a4_40 rfl rfl (by decide) rfl ?_
        refine j_iload_n (pc := 43) hC 0 1 dJ6_numberOfLeadingZeros_0f7a4_43 rfl rfl ?_
        refine j_bipush (pc := 44) hC (8 : Int32) dJ6_numberOfLeadingZeros_0f7a4_44 (by decide) ?_
        refine j_iushr (pc := 46) hC dJ6_numberOfLeadingZeros_0f7a4_46 ?_
        obtain ⟨v24, e25, h⟩ := jbd_ex h
        refine j_istore_n (pc := 47) hC 0 [(0, .int v24), (1, .int (t3 + (-8 : Int32)))] dJ6_numberOfLeadingZeros_0f7a4_47 rfl (by decide) e25 rfl ?_
        exact j_lv [0, 1] rfl (q10 _ _ h)
    refine j_icmp_lt (pc := 22) hC 33 dJ6_numberOfLeadingZeros_0f7a4_22 (by decide) (fun c26 => ?_) (fun c26 => ?_)
    · rw [if_pos c26] at h
      exact j_lv [1, 0] rfl (q5 _ _ h)
    · rw [if_neg c26] at h
      refine j_iinc (pc := 25) hC 0 ((31 : Int32) + (-16 : Int32)) [(1, .int ((31 : Int32) + (-16 : Int32))), (0, .int x0)] dJ6_numberOfLeadingZeros_0f7a4_25 rfl rfl (by decide) rfl ?_
      refine j_iload_n (pc := 28) hC 0 1 dJ6_numberOfLeadingZeros_0f7a4_28 rfl rfl ?_
      refine j_bipush (pc := 29) hC (16 : Int32) dJ6_numberOfLeadingZeros_0f7a4_29 (by decide) ?_
      refine j_iushr (pc := 31) hC dJ6_numberOfLeadingZeros_0f7a4_31 ?_
      obtain ⟨v27, e28, h⟩ := jbd_ex h
      refine j_istore_n (pc := 32) hC 0 [(0, .int v27), (1, .int ((31 : Int32) + (-16 : Int32)))] dJ6_numberOfLeadingZeros_0f7a4_32 rfl (by decide) e28 rfl ?_
      exact j_lv [0, 1] rfl (q5 _ _ h)
  · rw [if_neg c1] at h
    refine j_iload_n (pc := 4) hC 0 0 dJ6_numberOfLeadingZeros_0f7a4_4 rfl rfl ?_
    refine jmg (B := jJ X G 2 L 0 0 (jQM X G L (some (.int r)) μ 0 0) 14 [(0, .int x0)] [.int ((if x0 = (0 : Int32) then (32 : Int32) else (0 : Int32)))] μ) (fun hj => ?_) ?_
    · refine j_if_ne (pc := 5) hC 13 dJ6_numberOfLeadingZeros_0f7a4_5 (by decide) (fun c29 => ?_) (fun c29 => ?_)
      · rw [if_neg c29] at hj
        refine j_iconst (pc := 13) hC (0 : Int32) dJ6_numberOfLeadingZeros_0f7a4_13 (by decide) ?_
        exact hj
      · rw [if_pos c29] at hj
        refine j_bipush (pc := 8) hC (32 : Int32) dJ6_numberOfLeadingZeros_0f7a4_8 (by decide) ?_
        refine j_goto (pc := 10) hC 14 dJ6_numberOfLeadingZeros_0f7a4_10 (by decide) ?_
        exact hj
    subst h
    exact j_iret (pc := 14) hC dJ6_numberOfLeadingZeros_0f7a4_14 rfl
theorem dJ6_numberOfTrailingZeros_0f7a4_0 : decode cJ6_numberOfTrailingZeros_0f7a4 0 = .ok (.iload_n 0, 1) := by decide +kernel
theorem dJ6_numberOfTrailingZeros_0f7a4_1 : decode cJ6_numberOfTrailingZeros_0f7a4 1 = .ok (.iconst (-1), 1) := by decide +kernel
theorem dJ6_numberOfTrailingZeros_0f7a4_2 : decode cJ6_numberOfTrailingZeros_0f7a4 2 = .ok (.ixor, 1) := by decide +kernel
theorem dJ6_numberOfTrailingZeros_0f7a4_3 : decode cJ6_numberOfTrailingZeros_0f7a4 3 = .ok (.iload_n 0, 1) := by decide +kernel
theorem dJ6_numberOfTrailingZeros_0f7a4_4 : decode cJ6_numberOfTrailingZeros_0f7a4 4 = .ok (.iconst 1, 1) := by decide +kernel
theorem dJ6_numberOfTrailingZeros_0f7a4_5 : decode cJ6_numberOfTrailingZeros_0f7a4 5 = .ok (.isub, 1) := by decide +kernel
theorem dJ6_numberOfTrailingZeros_0f7a4_6 : decode cJ6_numberOfTrailingZeros_0f7a4 6 = .ok (.iand, 1) := by decide +kernel
theorem dJ6_numberOfTrailingZeros_0f7a4_7 : decode cJ6_numberOfTrailingZeros_0f7a4 7 = .ok (.istore_n 0, 1) := by decide +kernel
theorem dJ6_numberOfTrailingZeros_0f7a4_8 : decode cJ6_numberOfTrailingZeros_0f7a4 8 = .ok (.iload_n 0, 1) := by decide +kernel
theorem dJ6_numberOfTrailingZeros_0f7a4_9 : decode cJ6_numberOfTrailingZeros_0f7a4 9 = .ok (.ifCond .gt 8, 3) := by decide +kernel
theorem dJ6_numberOfTrailingZeros_0f7a4_12 : decode cJ6_numberOfTrailingZeros_0f7a4 12 = .ok (.iload_n 0, 1) := by decide +kernel
theorem dJ6_numberOfTrailingZeros_0f7a4_13 : decode cJ6_numberOfTrailingZeros_0f7a4 13 = .ok (.bipush 32, 2) := by decide +kernel
theorem dJ6_numberOfTrailingZeros_0f7a4_15 : decode cJ6_numberOfTrailingZeros_0f7a4 15 = .ok (.iand, 1) := by decide +kernel
theorem dJ6_numberOfTrailingZeros_0f7a4_16 : decode cJ6_numberOfTrailingZeros_0f7a4 16 = .ok (.ireturn, 1) := by decide +kernel
theorem dJ6_numberOfTrailingZeros_0f7a4_17 : decode cJ6_numberOfTrailingZeros_0f7a4 17 = .ok (.iconst 1, 1) := by decide +kernel
theorem dJ6_numberOfTrailingZeros_0f7a4_18 : decode cJ6_numberOfTrailingZeros_0f7a4 18 = .ok (.istore_n 1, 1) := by decide +kernel
theorem dJ6_numberOfTrailingZeros_0f7a4_19 : decode cJ6_numberOfTrailingZeros_0f7a4 19 = .ok (.iload_n 0, 1) := by decide +kernel
theorem dJ6_numberOfTrailingZeros_0f7a4_20 : decode cJ6_numberOfTrailingZeros_0f7a4 20 = .ok (.ldc_w 264, 3) := by decide +kernel
theorem dJ6_numberOfTrailingZeros_0f7a4_23 : decode cJ6_numberOfTrailingZeros_0f7a4 23 = .ok (.if_icmp .le 11, 3) := by decide +kernel
theorem dJ6_numberOfTrailingZeros_0f7a4_26 : decode cJ6_numberOfTrailingZeros_0f7a4 26 = .ok (.iinc 1 16, 3) := by decide +kernel
theorem dJ6_numberOfTrailingZeros_0f7a4_29 : decode cJ6_numberOfTrailingZeros_0f7a4 29 = .ok (.iload_n 0, 1) := by decide +kernel
theorem dJ6_numberOfTrailingZeros_0f7a4_30 : decode cJ6_numberOfTrailingZeros_0f7a4 30 = .ok (.bipush 16, 2) := by decide +kernel
theorem dJ6_numberOfTrailingZeros_0f7a4_32 : decode cJ6_numberOfTrailingZeros_0f7a4 32 = .ok (.iushr, 1) := by decide +kernel
theorem dJ6_numberOfTrailingZeros_0f7a4_33 : decode cJ6_numberOfTrailingZeros_0f7a4 33 = .ok (.istore_n 0, 1) := by decide +kernel
theorem dJ6_numberOfTrailingZeros_0f7a4_34 : decode cJ6_numberOfTrailingZeros_0f7a4 34 = .ok (.iload_n 0, 1) := by decide +kernel
theorem dJ6_numberOfTrailingZeros_0f7a4_35 : decode cJ6_numberOfTrailingZeros_0f7a4 35 = .ok (.sipush 256, 3) := by decide +kernel
theorem dJ6_numberOfTrailingZeros_0f7a4_38 : decode cJ6_numberOfTrailingZeros_0f7a4 38 = .ok (.if_icmp .le 11, 3) := by decide +kernel
theorem dJ6_numberOfTrailingZeros_0f7a4_41 : decode cJ6_numberOfTrailingZeros_0f7a4 41 = .ok (.iinc 1 8, 3) := by decide +kernel
theorem dJ6_numberOfTrailingZeros_0f7a4_44 : decode cJ6_numberOfTrailingZeros_0f7a4 44 = .ok (.iload_n 0, 1) := by decide +kernel
theorem dJ6_numberOfTrailingZeros_0f7a4_45 : decode cJ6_numberOfTrailingZeros_0f7a4 45 = .ok (.bipush 8, 2) := by decide +kernel
theorem dJ6_numberOfTrailingZeros_0f7a4_47 : decode cJ6_numberOfTrailingZeros_0f7a4 47 = .ok (.iushr, 1) := by decide +kernel
theorem dJ6_numberOfTrailingZeros_0f7a4_48 : decode cJ6_numberOfTrailingZeros_0f7a4 48 = .ok (.istore_n 0, 1) := by decide +kernel
theorem dJ6_numberOfTrailingZeros_0f7a4_49 : decode cJ6_numberOfTrailingZeros_0f7a4 49 = .ok (.iload_n 0, 1) := by decide +kernel
theorem dJ6_numberOfTrailingZeros_0f7a4_50 : decode cJ6_numberOfTrailingZeros_0f7a4 50 = .ok (.bipush 16, 2) := by decide +kernel
theorem dJ6_numberOfTrailingZeros_0f7a4_52 : decode cJ6_numberOfTrailingZeros_0f7a4 52 = .ok (.if_icmp .le 10, 3) := by decide +kernel
theorem dJ6_numberOfTrailingZeros_0f7a4_55 : decode cJ6_numberOfTrailingZeros_0f7a4 55 = .ok (.iinc 1 4, 3) := by decide +kernel
theorem dJ6_numberOfTrailingZeros_0f7a4_58 : decode cJ6_numberOfTrailingZeros_0f7a4 58 = .ok (.iload_n 0, 1) := by decide +kernel
theorem dJ6_numberOfTrailingZeros_0f7a4_59 : decode cJ6_numberOfTrailingZeros_0f7a4 59 = .ok (.iconst 4, 1) := by decide +kernel
theorem dJ6_numberOfTrailingZeros_0f7a4_60 : decode cJ6_numberOfTrailingZeros_0f7a4 60 = .ok (.iushr, 1) := by decide +kernel
theorem dJ6_numberOfTrailingZeros_0f7a4_61 : decode cJ6_numberOfTrailingZeros_0f7a4 61 = .ok (.istore_n 0, 1) := by decide +kernel
theorem dJ6_numberOfTrailingZeros_0f7a4_62 : decode cJ6_numberOfTrailingZeros_0f7a4 62 = .ok (.iload_n 0, 1) := by decide +kernel
theorem dJ6_numberOfTrailingZeros_0f7a4_63 : decode cJ6_numberOfTrailingZeros_0f7a4 63 = .ok (.iconst 4, 1) := by decide +kernel
theorem dJ6_numberOfTrailingZeros_0f7a4_64 : decode cJ6_numberOfTrailingZeros_0f7a4 64 = .ok (.if_icmp .le 10, 3) := by decide +kernel
theorem dJ6_numberOfTrailingZeros_0f7a4_67 : decode cJ6_numberOfTrailingZeros_0f7a4 67 = .ok (.iinc 1 2, 3) := by decide +kernel
theorem dJ6_numberOfTrailingZeros_0f7a4_70 : decode cJ6_numberOfTrailingZeros_0f7a4 70 = .ok (.iload_n 0, 1) := by decide +kernel
theorem dJ6_numberOfTrailingZeros_0f7a4_71 : decode cJ6_numberOfTrailingZeros_0f7a4 71 = .ok (.iconst 2, 1) := by decide +kernel
theorem dJ6_numberOfTrailingZeros_0f7a4_72 : decode cJ6_numberOfTrailingZeros_0f7a4 72 = .ok (.iushr, 1) := by decide +kernel
theorem dJ6_numberOfTrailingZeros_0f7a4_73 : decode cJ6_numberOfTrailingZeros_0f7a4 73 = .ok (.istore_n 0, 1) := by decide +kernel
theorem dJ6_numberOfTrailingZeros_0f7a4_74 : decode cJ6_numberOfTrailingZeros_0f7a4 74 = .ok (.iload_n 1, 1) := by decide +kernel
theorem dJ6_numberOfTrailingZeros_0f7a4_75 : decode cJ6_numberOfTrailingZeros_0f7a4 75 = .ok (.iload_n 0, 1) := by decide +kernel
theorem dJ6_numberOfTrailingZeros_0f7a4_76 : decode cJ6_numberOfTrailingZeros_0f7a4 76 = .ok (.iconst 1, 1) := by decide +kernel
theorem dJ6_numberOfTrailingZeros_0f7a4_77 : decode cJ6_numberOfTrailingZeros_0f7a4 77 = .ok (.iushr, 1) := by decide +kernel
theorem dJ6_numberOfTrailingZeros_0f7a4_78 : decode cJ6_numberOfTrailingZeros_0f7a4 78 = .ok (.iadd, 1) := by decide +kernel
theorem dJ6_numberOfTrailingZeros_0f7a4_79 : decode cJ6_numberOfTrailingZeros_0f7a4 79 = .ok (.ireturn, 1) := by decide +kernel
def f_J6_numberOfTrailingZeros_0f7a4 (x0 : Int32) : Int32 :=
  jbd ((x0 ^^^ (-1 : Int32)) &&& (x0 - (1 : Int32)) : Int32) (fun v1 => (if (0 : Int32) < v1 then jbd (fun (t4 : Int32) (t5 : Int32) => jbd (fun (t9 : Int32) (t10 : Int32) => jbd (fun (t14 : Int32) (t15 : Int32) => (if t14 ≤ (4 : Int32) then t15 + (jushr t14 (1 : Int32)) else jbd (jushr t14 (2 : Int32) : Int32) (fun v20 => (t15 + (2 : Int32)) + (jushr v20 (1 : Int32))))) (fun k16 => (if t9 ≤ (16 : Int32) then k16 t9 t10 else jbd (jushr t9 (4 : Int32) : Int32) (fun v23 => k16 v23 (t10 + (4 : Int32)))))) (fun k11 => (if t4 ≤ (256 : Int32) then k11 t4 t5 else jbd (jushr t4 (8 : Int32) : Int32) (fun v26 => k11 v26 (t5 + (8 : Int32)))))) (fun k6 => (if v1 ≤ (65536 : Int32) then k6 v1 (1 : Int32) else jbd (jushr v1 (16 : Int32) : Int32) (fun v29 => k6 v29 ((1 : Int32) + (16 : Int32))))) else v1 &&& (32 : Int32)))
set_option maxHeartbeats 4000000 in
set_option maxRecDepth 100000 in
theorem c_J6_numberOfTrailingZeros_0f7a4 {l : Launch} {G : jG} {L : jL} (hL : jOKL L) {x0 : Int32}  {μ : jM} {r : Int32} (h : f_J6_numberOfTrailingZeros_0f7a4 x0 = r) : jCt l G L 3 yJ6_numberOfTrailingZeros_0f7a4 cJ6_numberOfTrailingZeros_0f7a4 2 (some .int) [.int x0] μ (some (.int r)) μ := by
  refine jCt_of (by decide) (Nat.le_of_ble_eq_true rfl) (fun X hC hX hR => ?_)
  subst hX
  have hC : jC X G cJ6_numberOfTrailingZeros_0f7a4 2 RJ6 (some .int) := hC
  unfold f_J6_numberOfTrailingZeros_0f7a4 at h
  show jJ X G 2 L 0 0 (jQM X G L (some (.int r)) μ 0 0) 0 [(0, .int x0)] [] μ
  refine j_iload_n (pc := 0) hC 0 0 dJ6_numberOfTrailingZeros_0f7a4_0 rfl rfl ?_
  refine j_iconst (pc := 1) hC (-1 : Int32) dJ6_numberOfTrailingZeros_0f7a4_1 (by decide) ?_
  refine j_ixor (pc := 2) hC dJ6_numberOfTrailingZeros_0f7a4_2 ?_
  refine j_iload_n (pc := 3) hC 0 0 dJ6_numberOfTrailingZeros_0f7a4_3 rfl rfl ?_
  refine j_iconst (pc := 4) hC (1 : Int32) dJ6_numberOfTrailingZeros_0f7a4_4 (by decide) ?_
  refine j_isub (pc := 5) hC dJ6_numberOfTrailingZeros_0f7a4_5 ?_
  refine j_iand (pc := 6) hC dJ6_numberOfTrailingZeros_0f7a4_6 ?_
  obtain ⟨v1, e2, h⟩ := jbd_ex h
  refine j_istore_n (pc := 7) hC 0 [(0, .int v1)] dJ6_numberOfTrailingZeros_0f7a4_7 rfl (by decide) e2 rfl ?_
  refine j_iload_n (pc := 8) hC 0 0 dJ6_numberOfTrailingZeros_0f7a4_8 rfl rfl ?_
  refine j_if_gt (pc := 9) hC 17 dJ6_numberOfTrailingZeros_0f7a4_9 (by decide) (fun c3 => ?_) (fun c3 => ?_)
  · rw [if_pos c3] at h
    refine j_iconst (pc := 17) hC (1 : Int32) dJ6_numberOfTrailingZeros_0f7a4_17 (by decide) ?_
    refine j_istore_n (pc := 18) hC 1 [(1, .int (1 : Int32)), (0, .int v1)] dJ6_numberOfTrailingZeros_0f7a4_18 rfl (by decide) rfl rfl ?_
    refine j_iload_n (pc := 19) hC 0 1 dJ6_numberOfTrailingZeros_0f7a4_19 rfl rfl ?_
    refine j_ldcw (pc := 20) hC dJ6_numberOfTrailingZeros_0f7a4_20 kc_J6_264 ?_
    obtain ⟨k6, e8, h⟩ := jbd_ex h
    have q7 : ∀ (t4 : Int32) (t5 : Int32), k6 t4 t5 = r → jJ X G 2 L 0 0 (jQM X G L (some (.int r)) μ 0 0) 34 [(0, .int t4), (1, .int t5)] [] μ := by
      intro t4 t5 h
      rw [e8] at h
      try dsimp only at h
      refine j_iload_n (pc := 34) hC 0 0 dJ6_numberOfTrailingZeros_0f7a4_34 rfl rfl ?_
      refine j_sipush (pc := 35) hC (256 : Int32) dJ6_numberOfTrailingZeros_0f7a4_35 (by decide) ?_
      obtain ⟨k11, e13, h⟩ := jbd_ex h
      have q12 : ∀ (t9 : Int32) (t10 : Int32), k11 t9 t10 = r → jJ X G 2 L 0 0 (jQM X G L (some (.int r)) μ 0 0) 49 [(0, .int t9), (1, .int t10)] [] μ := by
        intro t9 t10 h
        rw [e13] at h
        try dsimp only at h
        refine j_iload_n (pc := 49) hC 0 0 dJ6_numberOfTrailingZeros_0f7a4_49 rfl rfl ?_
        refine j_bipush (pc := 50) hC (16 : Int32) dJ6_numberOfTrailingZeros_0f7a4_50 (by decide) ?_
        obtain ⟨k16, e18, h⟩ := jbd_ex h
        have q17 : ∀ (t14 : Int32) (t15 : Int32), k16 t14 t15 = r → jJ X G 2 L 0 0 (jQM X G L (some (.int r)) μ 0 0) 62 [(0, .int t14), (1, .int t15)] [] μ := by
          intro t14 t15 h
          rw [e18] at h
          try dsimp only at h
          refine j_iload_n (pc := 62) hC 0 0 dJ6_numberOfTrailingZeros_0f7a4_62 rfl rfl ?_
          refine j_iconst (pc := 63) hC (4 : Int32) dJ6_numberOfTrailingZeros_0f7a4_63 (by decide) ?_
          refine j_icmp_le (pc := 64) hC 74 dJ6_numberOfTrailingZeros_0f7a4_64 (by decide) (fun c19 => ?_) (fun c19 => ?_)
          · rw [if_pos c19] at h
            refine j_iload_n (pc := 74) hC 1 1 dJ6_numberOfTrailingZeros_0f7a4_74 rfl rfl ?_
            refine j_iload_n (pc := 75) hC 0 0 dJ6_numberOfTrailingZeros_0f7a4_75 rfl rfl ?_
            refine j_iconst (pc := 76) hC (1 : Int32) dJ6_numberOfTrailingZeros_0f7a4_76 (by decide) ?_
            refine j_iushr (pc := 77) hC dJ6_numberOfTrailingZeros_0f7a4_77 ?_
            refine j_iadd (pc := 78) hC dJ6_numberOfTrailingZeros_0f7a4_78 ?_
            subst h
            exact j_iret (pc := 79) hC dJ6_numberOfTrailingZeros_0f7a4_79 rfl
          · rw [if_neg c19] at h
            refine j_iinc (pc := 67) hC 1 (t15 + (2 : Int32)) [(1, .int (t15 + (2 : Int32))), (0, .int t14)] dJ6_numberOfTrailingZeros_0f7a4_67 rfl rfl (by decide) rfl ?_
            refine j_iload_n (pc := 70) hC 0 1 dJ6_numberOfTrailingZeros_0f7a4_70 rfl rfl ?_
            refine j_iconst (pc := 71) hC (2 : Int32) dJ6_numberOfTrailingZeros_0f7a4_71 (by decide) ?_
            refine j_iushr (pc := 72) hC dJ6_numberOfTrailingZeros_0f7a4_72 ?_
            obtain ⟨v20, e21, h⟩ := jbd_ex h
            refine j_istore_n (pc := 73) hC 0 [(0, .int v20), (1, .int (t15 + (2 : Int32)))] dJ6_numberOfTrailingZeros_0f7a4_73 rfl (by decide) e21 rfl ?_
            refine j_iload_n (pc := 74) hC 1 1 dJ6_numberOfTrailingZeros_0f7a4_74 rfl rfl ?_
            refine j_iload_n (pc := 75) hC 0 0 dJ6_numberOfTrailingZeros_0f7a4_75 rfl rfl ?_
            refine j_iconst (pc := 76) hC (1 : Int32) dJ6_numberOfTrailingZeros_0f7a4_76 (by decide) ?_
            refine j_iushr (pc := 77) hC dJ6_numberOfTrailingZeros_0f7a4_77 ?_
            refine j_iadd (pc := 78) hC dJ6_numberOfTrailingZeros_0f7a4_78 ?_
            subst h
            exact j_iret (pc := 79) hC dJ6_numberOfTrailingZeros_0f7a4_79 rfl
        refine j_icmp_le (pc := 52) hC 62 dJ6_numberOfTrailingZeros_0f7a4_52 (by decide) (fun c22 => ?_) (fun c22 => ?_)
        · rw [if_pos c22] at h
          exact j_lv [0, 1] rfl (q17 _ _ h)
        · rw [if_neg c22] at h
          refine j_iinc (pc := 55) hC 1 (t10 + (4 : Int32)) [(1, .int (t10 + (4 : Int32))), (0, .int t9)] dJ6_numberOfTrailingZeros_0f7a4_55 rfl rfl (by decide) rfl ?_
          refine j_iload_n (pc := 58) hC 0 1 dJ6_numberOfTrailingZeros_0f7a4_58 rfl rfl ?_
          refine j_iconst (pc := 59) hC (4 : Int32) dJ6_numberOfTrailingZeros_0f7a4_59 (by decide) ?_
          refine j_iushr (pc := 60) hC dJ6_numberOfTrailingZeros_0f7a4_60 ?_
          obtain ⟨v23, e24, h⟩ := jbd_ex h
          refine j_istore_n (pc := 61) hC 0 [(0, .int v23), (1, .int (t10 + (4 : Int32)))] dJ6_numberOfTrailingZeros_0f7a4_61 rfl (by decide) e24 rfl ?_
          exact j_lv [0, 1] rfl (q17 _ _ h)
      refine j_icmp_le (pc := 38) hC 49 dJ6_numberOfTrailingZeros_0f7a4_38 (by decide) (fun c25 => ?_) (fun c25 => ?_)
      · rw [if_pos c25] at h
        exact j_lv [0, 1] rfl (q12 _ _ h)
      · rw [if_neg c25] at h
        refine j_iinc (pc := 41) hC 1 (t5 + (8 : Int32)) [(1, .int (t5 + (8 : Int32))), (0, .int t4)] dJ6_numberOfTrailingZeros_0f7a4_41 rfl rfl (by decide) rfl ?_
        refine j_iload_n (pc := 44) hC 0 1 dJ6_numberOfTrailingZeros_0f7a4_44 rfl rfl ?_
        refine j_bipush (pc := 45) hC (8 : Int32) dJ6_numberOfTrailingZeros_0f7a4_45 (by decide) ?_
        refine j_iushr (pc := 47) hC dJ6_numberOfTrailingZeros_0f7a4_47 ?_
        obtain ⟨v26, e27, h⟩ := jbd_ex h
        refine j_istore_n (pc := 48) hC 0 [(0, .int v26), (1, .int (t5 + (8 : Int32)))] dJ6_numberOfTrailingZeros_0f7a4_48 rfl (by decide) e27 rfl ?_
        exact j_lv [0, 1] rfl (q12 _ _ h)
    refine j_icmp_le (pc := 23) hC 34 dJ6_numberOfTrailingZeros_0f7a4_23 (by decide) (fun c28 => ?_) (fun c28 => ?_)
    · rw [if_pos c28] at h
      exact j_lv [1, 0] rfl (q7 _ _ h)
    · rw [if_neg c28] at h
      refine j_iinc (pc := 26) hC 0 ((1 : Int32) + (16 : Int32)) [(1, .int ((1 : Int32) + (16 : Int32))), (0, .int v1)] dJ6_numberOfTrailingZeros_0f7a4_26 rfl rfl (by decide) rfl ?_
      refine j_iload_n (pc := 29) hC 0 1 dJ6_numberOfTrailingZeros_0f7a4_29 rfl rfl ?_
      refine j_bipush (pc := 30) hC (16 : Int32) dJ6_numberOfTrailingZeros_0f7a4_30 (by decide) ?_
      refine j_iushr (pc := 32) hC dJ6_numberOfTrailingZeros_0f7a4_32 ?_
      obtain ⟨v29, e30, h⟩ := jbd_ex h
      refine j_istore_n (pc := 33) hC 0 [(0, .int v29), (1, .int ((1 : Int32) + (16 : Int32)))] dJ6_numberOfTrailingZeros_0f7a4_33 rfl (by decide) e30 rfl ?_
      exact j_lv [0, 1] rfl (q7 _ _ h)
  · rw [if_neg c3] at h
    refine j_iload_n (pc := 12) hC 0 0 dJ6_numberOfTrailingZeros_0f7a4_12 rfl rfl ?_
    refine j_bipush (pc := 13) hC (32 : Int32) dJ6_numberOfTrailingZeros_0f7a4_13 (by decide) ?_
    refine j_iand (pc := 15) hC dJ6_numberOfTrailingZeros_0f7a4_15 ?_
    subst h
    exact j_iret (pc := 16) hC dJ6_numberOfTrailingZeros_0f7a4_16 rfl
theorem dX6_moved_0 : decode cX6_moved 0 = .ok (.iload_n 1, 1) := by decide +kernel
theorem dX6_moved_1 : decode cX6_moved 1 = .ok (.ifCond .lt 9, 3) := by decide +kernel
theorem dX6_moved_4 : decode cX6_moved 4 = .ok (.iload_n 0, 1) := by decide +kernel
theorem dX6_moved_5 : decode cX6_moved 5 = .ok (.iload_n 1, 1) := by decide +kernel
theorem dX6_moved_6 : decode cX6_moved 6 = .ok (.ishl, 1) := by decide +kernel
theorem dX6_moved_7 : decode cX6_moved 7 = .ok (.goto 7, 3) := by decide +kernel
theorem dX6_moved_10 : decode cX6_moved 10 = .ok (.iload_n 0, 1) := by decide +kernel
theorem dX6_moved_11 : decode cX6_moved 11 = .ok (.iload_n 1, 1) := by decide +kernel
theorem dX6_moved_12 : decode cX6_moved 12 = .ok (.ineg, 1) := by decide +kernel
theorem dX6_moved_13 : decode cX6_moved 13 = .ok (.iushr, 1) := by decide +kernel
theorem dX6_moved_14 : decode cX6_moved 14 = .ok (.bipush 63, 2) := by decide +kernel
theorem dX6_moved_16 : decode cX6_moved 16 = .ok (.iand, 1) := by decide +kernel
theorem dX6_moved_17 : decode cX6_moved 17 = .ok (.ireturn, 1) := by decide +kernel
def f_X6_moved (x0 : Int32) (x1 : Int32) : Int32 :=
  (if x1 < (0 : Int32) then (jushr x0 (-x1)) &&& (63 : Int32) else (x0 <<< (x1 &&& 31)) &&& (63 : Int32))
set_option maxHeartbeats 4000000 in
set_option maxRecDepth 100000 in
theorem c_X6_moved {l : Launch} {G : jG} {L : jL} (hL : jOKL L) {x0 : Int32} {x1 : Int32}  {μ : jM} {r : Int32} (h : f_X6_moved x0 x1 = r) : jCt l G L 3 yX6_moved cX6_moved 2 (some .int) [.int x0, .int x1] μ (some (.int r)) μ := by
  refine jCt_of (by decide) (Nat.le_of_ble_eq_true rfl) (fun X hC hX hR => ?_)
  subst hX
  have hC : jC X G cX6_moved 2 RX6 (some .int) := hC
  unfold f_X6_moved at h
  show jJ X G 2 L 0 0 (jQM X G L (some (.int r)) μ 0 0) 0 [(0, .int x0), (1, .int x1)] [] μ
  refine j_iload_n (pc := 0) hC 1 1 dX6_moved_0 rfl rfl ?_
  refine j_if_lt (pc := 1) hC 10 dX6_moved_1 (by decide) (fun c1 => ?_) (fun c1 => ?_)
  · rw [if_pos c1] at h
    refine j_iload_n (pc := 10) hC 0 0 dX6_moved_10 rfl rfl ?_
    refine j_iload_n (pc := 11) hC 1 1 dX6_moved_11 rfl rfl ?_
    refine j_ineg (pc := 12) hC dX6_moved_12 ?_
    refine j_iushr (pc := 13) hC dX6_moved_13 ?_
    refine j_bipush (pc := 14) hC (63 : Int32) dX6_moved_14 (by decide) ?_
    refine j_iand (pc := 16) hC dX6_moved_16 ?_
    subst h
    exact j_iret (pc := 17) hC dX6_moved_17 rfl
  · rw [if_neg c1] at h
    refine j_iload_n (pc := 4) hC 0 0 dX6_moved_4 rfl rfl ?_
    refine j_iload_n (pc := 5) hC 1 1 dX6_moved_5 rfl rfl ?_
    refine j_ishl (pc := 6) hC dX6_moved_6 ?_
    refine j_goto (pc := 7) hC 14 dX6_moved_7 (by decide) ?_
    refine j_bipush (pc := 14) hC (63 : Int32) dX6_moved_14 (by decide) ?_
    refine j_iand (pc := 16) hC dX6_moved_16 ?_
    subst h
    exact j_iret (pc := 17) hC dX6_moved_17 rfl
theorem dX6_bearTwo_0 : decode cX6_bearTwo 0 = .ok (.iload_n 1, 1) := by decide +kernel
theorem dX6_bearTwo_1 : decode cX6_bearTwo 1 = .ok (.ifCond .ne 61, 3) := by decide +kernel
theorem dX6_bearTwo_4 : decode cX6_bearTwo 4 = .ok (.aload_n 0, 1) := by decide +kernel
theorem dX6_bearTwo_5 : decode cX6_bearTwo 5 = .ok (.getfield 9, 3) := by decide +kernel
theorem dX6_bearTwo_8 : decode cX6_bearTwo 8 = .ok (.iload_n 2, 1) := by decide +kernel
theorem dX6_bearTwo_9 : decode cX6_bearTwo 9 = .ok (.dup2, 1) := by decide +kernel
theorem dX6_bearTwo_10 : decode cX6_bearTwo 10 = .ok (.iaload, 1) := by decide +kernel
theorem dX6_bearTwo_11 : decode cX6_bearTwo 11 = .ok (.bipush 31, 2) := by decide +kernel
theorem dX6_bearTwo_13 : decode cX6_bearTwo 13 = .ok (.aload_n 0, 1) := by decide +kernel
theorem dX6_bearTwo_14 : decode cX6_bearTwo 14 = .ok (.getfield 9, 3) := by decide +kernel
theorem dX6_bearTwo_17 : decode cX6_bearTwo 17 = .ok (.iload_n 3, 1) := by decide +kernel
theorem dX6_bearTwo_18 : decode cX6_bearTwo 18 = .ok (.iaload, 1) := by decide +kernel
theorem dX6_bearTwo_19 : decode cX6_bearTwo 19 = .ok (.invokestatic 49, 3) := by decide +kernel
theorem dX6_bearTwo_22 : decode cX6_bearTwo 22 = .ok (.isub, 1) := by decide +kernel
theorem dX6_bearTwo_23 : decode cX6_bearTwo 23 = .ok (.iload 4, 2) := by decide +kernel
theorem dX6_bearTwo_25 : decode cX6_bearTwo 25 = .ok (.iadd, 1) := by decide +kernel
theorem dX6_bearTwo_26 : decode cX6_bearTwo 26 = .ok (.invokestatic 52, 3) := by decide +kernel
theorem dX6_bearTwo_29 : decode cX6_bearTwo 29 = .ok (.iand, 1) := by decide +kernel
theorem dX6_bearTwo_30 : decode cX6_bearTwo 30 = .ok (.iastore, 1) := by decide +kernel
theorem dX6_bearTwo_31 : decode cX6_bearTwo 31 = .ok (.aload_n 0, 1) := by decide +kernel
theorem dX6_bearTwo_32 : decode cX6_bearTwo 32 = .ok (.getfield 9, 3) := by decide +kernel
theorem dX6_bearTwo_35 : decode cX6_bearTwo 35 = .ok (.iload_n 3, 1) := by decide +kernel
theorem dX6_bearTwo_36 : decode cX6_bearTwo 36 = .ok (.dup2, 1) := by decide +kernel
theorem dX6_bearTwo_37 : decode cX6_bearTwo 37 = .ok (.iaload, 1) := by decide +kernel
theorem dX6_bearTwo_38 : decode cX6_bearTwo 38 = .ok (.aload_n 0, 1) := by decide +kernel
theorem dX6_bearTwo_39 : decode cX6_bearTwo 39 = .ok (.getfield 9, 3) := by decide +kernel
theorem dX6_bearTwo_42 : decode cX6_bearTwo 42 = .ok (.iload_n 2, 1) := by decide +kernel
theorem dX6_bearTwo_43 : decode cX6_bearTwo 43 = .ok (.iaload, 1) := by decide +kernel
theorem dX6_bearTwo_44 : decode cX6_bearTwo 44 = .ok (.invokestatic 55, 3) := by decide +kernel
theorem dX6_bearTwo_47 : decode cX6_bearTwo 47 = .ok (.iload 4, 2) := by decide +kernel
theorem dX6_bearTwo_49 : decode cX6_bearTwo 49 = .ok (.isub, 1) := by decide +kernel
theorem dX6_bearTwo_50 : decode cX6_bearTwo 50 = .ok (.iconst 1, 1) := by decide +kernel
theorem dX6_bearTwo_51 : decode cX6_bearTwo 51 = .ok (.iadd, 1) := by decide +kernel
theorem dX6_bearTwo_52 : decode cX6_bearTwo 52 = .ok (.invokestatic 52, 3) := by decide +kernel
theorem dX6_bearTwo_55 : decode cX6_bearTwo 55 = .ok (.iconst (-1), 1) := by decide +kernel
theorem dX6_bearTwo_56 : decode cX6_bearTwo 56 = .ok (.ixor, 1) := by decide +kernel
theorem dX6_bearTwo_57 : decode cX6_bearTwo 57 = .ok (.iand, 1) := by decide +kernel
theorem dX6_bearTwo_58 : decode cX6_bearTwo 58 = .ok (.iastore, 1) := by decide +kernel
theorem dX6_bearTwo_59 : decode cX6_bearTwo 59 = .ok (.goto 123, 3) := by decide +kernel
theorem dX6_bearTwo_62 : decode cX6_bearTwo 62 = .ok (.iload_n 1, 1) := by decide +kernel
theorem dX6_bearTwo_63 : decode cX6_bearTwo 63 = .ok (.iconst 1, 1) := by decide +kernel
theorem dX6_bearTwo_64 : decode cX6_bearTwo 64 = .ok (.if_icmp .ne 47, 3) := by decide +kernel
theorem dX6_bearTwo_67 : decode cX6_bearTwo 67 = .ok (.aload_n 0, 1) := by decide +kernel
theorem dX6_bearTwo_68 : decode cX6_bearTwo 68 = .ok (.getfield 9, 3) := by decide +kernel
theorem dX6_bearTwo_71 : decode cX6_bearTwo 71 = .ok (.iload_n 2, 1) := by decide +kernel
theorem dX6_bearTwo_72 : decode cX6_bearTwo 72 = .ok (.dup2, 1) := by decide +kernel
theorem dX6_bearTwo_73 : decode cX6_bearTwo 73 = .ok (.iaload, 1) := by decide +kernel
theorem dX6_bearTwo_74 : decode cX6_bearTwo 74 = .ok (.aload_n 0, 1) := by decide +kernel
theorem dX6_bearTwo_75 : decode cX6_bearTwo 75 = .ok (.getfield 9, 3) := by decide +kernel
theorem dX6_bearTwo_78 : decode cX6_bearTwo 78 = .ok (.iload_n 3, 1) := by decide +kernel
theorem dX6_bearTwo_79 : decode cX6_bearTwo 79 = .ok (.iaload, 1) := by decide +kernel
theorem dX6_bearTwo_80 : decode cX6_bearTwo 80 = .ok (.iload 4, 2) := by decide +kernel
theorem dX6_bearTwo_82 : decode cX6_bearTwo 82 = .ok (.invokestatic 58, 3) := by decide +kernel
theorem dX6_bearTwo_85 : decode cX6_bearTwo 85 = .ok (.iand, 1) := by decide +kernel
theorem dX6_bearTwo_86 : decode cX6_bearTwo 86 = .ok (.iastore, 1) := by decide +kernel
theorem dX6_bearTwo_87 : decode cX6_bearTwo 87 = .ok (.aload_n 0, 1) := by decide +kernel
theorem dX6_bearTwo_88 : decode cX6_bearTwo 88 = .ok (.getfield 9, 3) := by decide +kernel
theorem dX6_bearTwo_91 : decode cX6_bearTwo 91 = .ok (.iload_n 3, 1) := by decide +kernel
theorem dX6_bearTwo_92 : decode cX6_bearTwo 92 = .ok (.dup2, 1) := by decide +kernel
theorem dX6_bearTwo_93 : decode cX6_bearTwo 93 = .ok (.iaload, 1) := by decide +kernel
theorem dX6_bearTwo_94 : decode cX6_bearTwo 94 = .ok (.aload_n 0, 1) := by decide +kernel
theorem dX6_bearTwo_95 : decode cX6_bearTwo 95 = .ok (.getfield 9, 3) := by decide +kernel
theorem dX6_bearTwo_98 : decode cX6_bearTwo 98 = .ok (.iload_n 2, 1) := by decide +kernel
theorem dX6_bearTwo_99 : decode cX6_bearTwo 99 = .ok (.iaload, 1) := by decide +kernel
theorem dX6_bearTwo_100 : decode cX6_bearTwo 100 = .ok (.iload 4, 2) := by decide +kernel
theorem dX6_bearTwo_102 : decode cX6_bearTwo 102 = .ok (.ineg, 1) := by decide +kernel
theorem dX6_bearTwo_103 : decode cX6_bearTwo 103 = .ok (.invokestatic 58, 3) := by decide +kernel
theorem dX6_bearTwo_106 : decode cX6_bearTwo 106 = .ok (.iand, 1) := by decide +kernel
theorem dX6_bearTwo_107 : decode cX6_bearTwo 107 = .ok (.iastore, 1) := by decide +kernel
theorem dX6_bearTwo_108 : decode cX6_bearTwo 108 = .ok (.goto 74, 3) := by decide +kernel
theorem dX6_bearTwo_111 : decode cX6_bearTwo 111 = .ok (.aload_n 0, 1) := by decide +kernel
theorem dX6_bearTwo_112 : decode cX6_bearTwo 112 = .ok (.getfield 9, 3) := by decide +kernel
theorem dX6_bearTwo_115 : decode cX6_bearTwo 115 = .ok (.iload_n 3, 1) := by decide +kernel
theorem dX6_bearTwo_116 : decode cX6_bearTwo 116 = .ok (.iaload, 1) := by decide +kernel
theorem dX6_bearTwo_117 : decode cX6_bearTwo 117 = .ok (.invokestatic 24, 3) := by decide +kernel
theorem dX6_bearTwo_120 : decode cX6_bearTwo 120 = .ok (.iconst 1, 1) := by decide +kernel
theorem dX6_bearTwo_121 : decode cX6_bearTwo 121 = .ok (.if_icmp .ne 25, 3) := by decide +kernel
theorem dX6_bearTwo_124 : decode cX6_bearTwo 124 = .ok (.aload_n 0, 1) := by decide +kernel
theorem dX6_bearTwo_125 : decode cX6_bearTwo 125 = .ok (.getfield 9, 3) := by decide +kernel
theorem dX6_bearTwo_128 : decode cX6_bearTwo 128 = .ok (.iload_n 2, 1) := by decide +kernel
theorem dX6_bearTwo_129 : decode cX6_bearTwo 129 = .ok (.dup2, 1) := by decide +kernel
theorem dX6_bearTwo_130 : decode cX6_bearTwo 130 = .ok (.iaload, 1) := by decide +kernel
theorem dX6_bearTwo_131 : decode cX6_bearTwo 131 = .ok (.aload_n 0, 1) := by decide +kernel
theorem dX6_bearTwo_132 : decode cX6_bearTwo 132 = .ok (.getfield 9, 3) := by decide +kernel
theorem dX6_bearTwo_135 : decode cX6_bearTwo 135 = .ok (.iload_n 3, 1) := by decide +kernel
theorem dX6_bearTwo_136 : decode cX6_bearTwo 136 = .ok (.iaload, 1) := by decide +kernel
theorem dX6_bearTwo_137 : decode cX6_bearTwo 137 = .ok (.iload 4, 2) := by decide +kernel
theorem dX6_bearTwo_139 : decode cX6_bearTwo 139 = .ok (.invokestatic 58, 3) := by decide +kernel
theorem dX6_bearTwo_142 : decode cX6_bearTwo 142 = .ok (.iconst (-1), 1) := by decide +kernel
theorem dX6_bearTwo_143 : decode cX6_bearTwo 143 = .ok (.ixor, 1) := by decide +kernel
theorem dX6_bearTwo_144 : decode cX6_bearTwo 144 = .ok (.iand, 1) := by decide +kernel
theorem dX6_bearTwo_145 : decode cX6_bearTwo 145 = .ok (.iastore, 1) := by decide +kernel
theorem dX6_bearTwo_146 : decode cX6_bearTwo 146 = .ok (.aload_n 0, 1) := by decide +kernel
theorem dX6_bearTwo_147 : decode cX6_bearTwo 147 = .ok (.getfield 9, 3) := by decide +kernel
theorem dX6_bearTwo_150 : decode cX6_bearTwo 150 = .ok (.iload_n 2, 1) := by decide +kernel
theorem dX6_bearTwo_151 : decode cX6_bearTwo 151 = .ok (.iaload, 1) := by decide +kernel
theorem dX6_bearTwo_152 : decode cX6_bearTwo 152 = .ok (.invokestatic 24, 3) := by decide +kernel
theorem dX6_bearTwo_155 : decode cX6_bearTwo 155 = .ok (.iconst 1, 1) := by decide +kernel
theorem dX6_bearTwo_156 : decode cX6_bearTwo 156 = .ok (.if_icmp .ne 26, 3) := by decide +kernel
theorem dX6_bearTwo_159 : decode cX6_bearTwo 159 = .ok (.aload_n 0, 1) := by decide +kernel
theorem dX6_bearTwo_160 : decode cX6_bearTwo 160 = .ok (.getfield 9, 3) := by decide +kernel
theorem dX6_bearTwo_163 : decode cX6_bearTwo 163 = .ok (.iload_n 3, 1) := by decide +kernel
theorem dX6_bearTwo_164 : decode cX6_bearTwo 164 = .ok (.dup2, 1) := by decide +kernel
theorem dX6_bearTwo_165 : decode cX6_bearTwo 165 = .ok (.iaload, 1) := by decide +kernel
theorem dX6_bearTwo_166 : decode cX6_bearTwo 166 = .ok (.aload_n 0, 1) := by decide +kernel
theorem dX6_bearTwo_167 : decode cX6_bearTwo 167 = .ok (.getfield 9, 3) := by decide +kernel
theorem dX6_bearTwo_170 : decode cX6_bearTwo 170 = .ok (.iload_n 2, 1) := by decide +kernel
theorem dX6_bearTwo_171 : decode cX6_bearTwo 171 = .ok (.iaload, 1) := by decide +kernel
theorem dX6_bearTwo_172 : decode cX6_bearTwo 172 = .ok (.iload 4, 2) := by decide +kernel
theorem dX6_bearTwo_174 : decode cX6_bearTwo 174 = .ok (.ineg, 1) := by decide +kernel
theorem dX6_bearTwo_175 : decode cX6_bearTwo 175 = .ok (.invokestatic 58, 3) := by decide +kernel
theorem dX6_bearTwo_178 : decode cX6_bearTwo 178 = .ok (.iconst (-1), 1) := by decide +kernel
theorem dX6_bearTwo_179 : decode cX6_bearTwo 179 = .ok (.ixor, 1) := by decide +kernel
theorem dX6_bearTwo_180 : decode cX6_bearTwo 180 = .ok (.iand, 1) := by decide +kernel
theorem dX6_bearTwo_181 : decode cX6_bearTwo 181 = .ok (.iastore, 1) := by decide +kernel
theorem dX6_bearTwo_182 : decode cX6_bearTwo 182 = .ok (.aload_n 0, 1) := by decide +kernel
theorem dX6_bearTwo_183 : decode cX6_bearTwo 183 = .ok (.getfield 9, 3) := by decide +kernel
theorem dX6_bearTwo_186 : decode cX6_bearTwo 186 = .ok (.iload_n 2, 1) := by decide +kernel
theorem dX6_bearTwo_187 : decode cX6_bearTwo 187 = .ok (.iaload, 1) := by decide +kernel
theorem dX6_bearTwo_188 : decode cX6_bearTwo 188 = .ok (.ifCond .eq 16, 3) := by decide +kernel
theorem dX6_bearTwo_191 : decode cX6_bearTwo 191 = .ok (.aload_n 0, 1) := by decide +kernel
theorem dX6_bearTwo_192 : decode cX6_bearTwo 192 = .ok (.getfield 9, 3) := by decide +kernel
theorem dX6_bearTwo_195 : decode cX6_bearTwo 195 = .ok (.iload_n 3, 1) := by decide +kernel
theorem dX6_bearTwo_196 : decode cX6_bearTwo 196 = .ok (.iaload, 1) := by decide +kernel
theorem dX6_bearTwo_197 : decode cX6_bearTwo 197 = .ok (.ifCond .eq 7, 3) := by decide +kernel
theorem dX6_bearTwo_200 : decode cX6_bearTwo 200 = .ok (.iconst 1, 1) := by decide +kernel
theorem dX6_bearTwo_201 : decode cX6_bearTwo 201 = .ok (.goto 4, 3) := by decide +kernel
theorem dX6_bearTwo_204 : decode cX6_bearTwo 204 = .ok (.iconst 0, 1) := by decide +kernel
theorem dX6_bearTwo_205 : decode cX6_bearTwo 205 = .ok (.ireturn, 1) := by decide +kernel
def f_X6_bearTwo (a0 : Nat) (x1 : Int32) (x2 : Int32) (x3 : Int32) (x4 : Int32) (μ : jM) : Option (Int32 × jM) :=
  jbd (fun (m1 : jM) => jrd (m1.1 (a0 + 1)) x2 5 (fun v6 => (if v6 = (0 : Int32) then some (((0 : Int32), m1)) else jrd (m1.1 (a0 + 1)) x3 5 (fun v10 => (if v10 = (0 : Int32) then some (((0 : Int32), m1)) else some (((1 : Int32), m1))))))) (fun k2 => (if x1 = (0 : Int32) then jrd (μ.1 (a0 + 1)) x2 5 (fun v64 => jrd (μ.1 (a0 + 1)) x3 5 (fun v67 => jin x2 5 (jbd (jsi μ (a0 + 1) x2.toNatClampNeg (v64 &&& (f_X6_below (((31 : Int32) - (f_J6_numberOfLeadingZeros_0f7a4 v67)) + x4)))) (fun m70 => jrd (m70.1 (a0 + 1)) x3 5 (fun v73 => jrd (m70.1 (a0 + 1)) x2 5 (fun v76 => jin x3 5 (jbd (jsi m70 (a0 + 1) x3.toNatClampNeg (v73 &&& ((f_X6_below (((f_J6_numberOfTrailingZeros_0f7a4 v76) - x4) + (1 : Int32))) ^^^ (-1 : Int32)))) (fun m79 => k2 m79)))))))) else (if x1 = (1 : Int32) then jrd (μ.1 (a0 + 1)) x2 5 (fun v46 => jrd (μ.1 (a0 + 1)) x3 5 (fun v49 => jin x2 5 (jbd (jsi μ (a0 + 1) x2.toNatClampNeg (v46 &&& (f_X6_moved v49 x4))) (fun m52 => jrd (m52.1 (a0 + 1)) x3 5 (fun v55 => jrd (m52.1 (a0 + 1)) x2 5 (fun v58 => jin x3 5 (jbd (jsi m52 (a0 + 1) x3.toNatClampNeg (v55 &&& (f_X6_moved v58 (-x4)))) (fun m61 => k2 m61)))))))) else jrd (μ.1 (a0 + 1)) x3 5 (fun v16 => jbd (fun (m18 : jM) => jrd (m18.1 (a0 + 1)) x2 5 (fun v23 => (if (f_J6_bitCount_0f7a4 v23) = (1 : Int32) then jrd (m18.1 (a0 + 1)) x3 5 (fun v27 => jrd (m18.1 (a0 + 1)) x2 5 (fun v30 => jin x3 5 (jbd (jsi m18 (a0 + 1) x3.toNatClampNeg (v27 &&& ((f_X6_moved v30 (-x4)) ^^^ (-1 : Int32)))) (fun m33 => k2 m33)))) else k2 m18))) (fun k19 => (if (f_J6_bitCount_0f7a4 v16) = (1 : Int32) then jrd (μ.1 (a0 + 1)) x2 5 (fun v37 => jrd (μ.1 (a0 + 1)) x3 5 (fun v40 => jin x2 5 (jbd (jsi μ (a0 + 1) x2.toNatClampNeg (v37 &&& ((f_X6_moved v40 x4) ^^^ (-1 : Int32)))) (fun m43 => k19 m43)))) else k19 μ))))))
set_option maxHeartbeats 4000000 in
set_option maxRecDepth 100000 in
theorem c_X6_bearTwo {l : Launch} {G : jG} {L : jL} (hL : jOKL L) {a0 : Nat} {x1 : Int32} {x2 : Int32} {x3 : Int32} {x4 : Int32} (ka0 : jK L a0 6) {μ μ' : jM} {r : Int32} (h : f_X6_bearTwo a0 x1 x2 x3 x4 μ = some ((r, μ'))) : jCt l G L 4 yX6_bearTwo cX6_bearTwo 5 (some .boolean) [.ref (L.2.2 a0), .int x1, .int x2, .int x3, .int x4] μ (some (.int r)) μ' := by
  refine jCt_of (by decide) (Nat.le_of_ble_eq_true rfl) (fun X hC hX hR => ?_)
  subst hX
  have hC : jC X G cX6_bearTwo 5 RX6 (some .boolean) := hC
  unfold f_X6_bearTwo at h
  show jJ X G 5 L 0 0 (jQM X G L (some (.int r)) μ' 0 0) 0 [(0, .ref (L.2.2 a0)), (1, .int x1), (2, .int x2), (3, .int x3), (4, .int x4)] [] μ
  refine j_iload_n (pc := 0) hC 1 1 dX6_bearTwo_0 rfl rfl ?_
  obtain ⟨k2, e4, h⟩ := jbd_ex h
  have q3 : ∀ (m1 : jM), k2 m1 = some ((r, μ')) → jJ X G 5 L 0 0 (jQM X G L (some (.int r)) μ' 0 0) 182 [(0, .ref (L.2.2 a0)), (2, .int x2), (3, .int x3)] [] m1 := by
    intro m1 h
    rw [e4] at h
    try dsimp only at h
    refine j_aload_n (pc := 182) hC 0 0 dX6_bearTwo_182 rfl rfl ?_
    refine jgr_6 (pc := 183) hC 0 (by decide) rfl kf_X6_9 dX6_bearTwo_183 ka0 (ly_6_0 hL ka0).1 ?_
    refine j_iload_n (pc := 186) hC 2 1 dX6_bearTwo_186 rfl rfl ?_
    obtain ⟨i5, v6, e7, h⟩ := jrd_some h
    refine j_iald (pc := 187) hC dX6_bearTwo_187 (ly_6_0 hL ka0).2.1 (ly_6_0 hL ka0).2.2 i5 e7 ?_
    refine j_if_eq (pc := 188) hC 204 dX6_bearTwo_188 (by decide) (fun c8 => ?_) (fun c8 => ?_)
    · rw [if_pos c8] at h
      refine j_iconst (pc := 204) hC (0 : Int32) dX6_bearTwo_204 (by decide) ?_
      obtain ⟨rfl, rfl⟩ := Prod.mk.inj (Option.some.inj h)
      exact j_bret (pc := 205) hC dX6_bearTwo_205 rfl rfl
    · rw [if_neg c8] at h
      refine j_aload_n (pc := 191) hC 0 0 dX6_bearTwo_191 rfl rfl ?_
      refine jgr_6 (pc := 192) hC 0 (by decide) rfl kf_X6_9 dX6_bearTwo_192 ka0 (ly_6_0 hL ka0).1 ?_
      refine j_iload_n (pc := 195) hC 3 2 dX6_bearTwo_195 rfl rfl ?_
      obtain ⟨i9, v10, e11, h⟩ := jrd_some h
      refine j_iald (pc := 196) hC dX6_bearTwo_196 (ly_6_0 hL ka0).2.1 (ly_6_0 hL ka0).2.2 i9 e11 ?_
      refine j_if_eq (pc := 197) hC 204 dX6_bearTwo_197 (by decide) (fun c12 => ?_) (fun c12 => ?_)
      · rw [if_pos c12] at h
        refine j_iconst (pc := 204) hC (0 : Int32) dX6_bearTwo_204 (by decide) ?_
        obtain ⟨rfl, rfl⟩ := Prod.mk.inj (Option.some.inj h)
        exact j_bret (pc := 205) hC dX6_bearTwo_205 rfl rfl
      · rw [if_neg c12] at h
        refine j_iconst (pc := 200) hC (1 : Int32) dX6_bearTwo_200 (by decide) ?_
        refine j_goto (pc := 201) hC 205 dX6_bearTwo_201 (by decide) ?_
        obtain ⟨rfl, rfl⟩ := Prod.mk.inj (Option.some.inj h)
        exact j_bret (pc := 205) hC dX6_bearTwo_205 rfl rfl
  refine j_if_ne (pc := 1) hC 62 dX6_bearTwo_1 (by decide) (fun c13 => ?_) (fun c13 => ?_)
  · rw [if_neg c13] at h
    refine j_iload_n (pc := 62) hC 1 1 dX6_bearTwo_62 rfl rfl ?_
    refine j_iconst (pc := 63) hC (1 : Int32) dX6_bearTwo_63 (by decide) ?_
    refine j_icmp_ne (pc := 64) hC 111 dX6_bearTwo_64 (by decide) (fun c14 => ?_) (fun c14 => ?_)
    · rw [if_neg c14] at h
      refine j_aload_n (pc := 111) hC 0 0 dX6_bearTwo_111 rfl rfl ?_
      refine jgr_6 (pc := 112) hC 0 (by decide) rfl kf_X6_9 dX6_bearTwo_112 ka0 (ly_6_0 hL ka0).1 ?_
      refine j_iload_n (pc := 115) hC 3 3 dX6_bearTwo_115 rfl rfl ?_
      obtain ⟨i15, v16, e17, h⟩ := jrd_some h
      refine j_iald (pc := 116) hC dX6_bearTwo_116 (ly_6_0 hL ka0).2.1 (ly_6_0 hL ka0).2.2 i15 e17 ?_
      refine j_si (pc := 117) hC hR [.int v16] iy_J6_bitCount_0f7a4 km_X6_24 dX6_bearTwo_117 rfl (by decide) (c_J6_bitCount_0f7a4 hL  rfl) (by decide) (Nat.le_of_ble_eq_true rfl) rfl ?_
      refine j_iconst (pc := 120) hC (1 : Int32) dX6_bearTwo_120 (by decide) ?_
      obtain ⟨k19, e21, h⟩ := jbd_ex h
      have q20 : ∀ (m18 : jM), k19 m18 = some ((r, μ')) → jJ X G 5 L 0 0 (jQM X G L (some (.int r)) μ' 0 0) 146 [(0, .ref (L.2.2 a0)), (2, .int x2), (3, .int x3), (4, .int x4)] [] m18 := by
        intro m18 h
        rw [e21] at h
        try dsimp only at h
        refine j_aload_n (pc := 146) hC 0 0 dX6_bearTwo_146 rfl rfl ?_
        refine jgr_6 (pc := 147) hC 0 (by decide) rfl kf_X6_9 dX6_bearTwo_147 ka0 (ly_6_0 hL ka0).1 ?_
        refine j_iload_n (pc := 150) hC 2 1 dX6_bearTwo_150 rfl rfl ?_
        obtain ⟨i22, v23, e24, h⟩ := jrd_some h
        refine j_iald (pc := 151) hC dX6_bearTwo_151 (ly_6_0 hL ka0).2.1 (ly_6_0 hL ka0).2.2 i22 e24 ?_
        refine j_si (pc := 152) hC hR [.int v23] iy_J6_bitCount_0f7a4 km_X6_24 dX6_bearTwo_152 rfl (by decide) (c_J6_bitCount_0f7a4 hL  rfl) (by decide) (Nat.le_of_ble_eq_true rfl) rfl ?_
        refine j_iconst (pc := 155) hC (1 : Int32) dX6_bearTwo_155 (by decide) ?_
        refine j_icmp_ne (pc := 156) hC 182 dX6_bearTwo_156 (by decide) (fun c25 => ?_) (fun c25 => ?_)
        · rw [if_neg c25] at h
          exact j_lv [0, 1, 2] rfl (q3 _ h)
        · rw [if_pos c25] at h
          refine j_aload_n (pc := 159) hC 0 0 dX6_bearTwo_159 rfl rfl ?_
          refine jgr_6 (pc := 160) hC 0 (by decide) rfl kf_X6_9 dX6_bearTwo_160 ka0 (ly_6_0 hL ka0).1 ?_
          refine j_iload_n (pc := 163) hC 3 2 dX6_bearTwo_163 rfl rfl ?_
          refine j_dup2 (pc := 164) hC dX6_bearTwo_164 rfl rfl ?_
          obtain ⟨i26, v27, e28, h⟩ := jrd_some h
          refine j_iald (pc := 165) hC dX6_bearTwo_165 (ly_6_0 hL ka0).2.1 (ly_6_0 hL ka0).2.2 i26 e28 ?_
          refine j_aload_n (pc := 166) hC 0 0 dX6_bearTwo_166 rfl rfl ?_
          refine jgr_6 (pc := 167) hC 0 (by decide) rfl kf_X6_9 dX6_bearTwo_167 ka0 (ly_6_0 hL ka0).1 ?_
          refine j_iload_n (pc := 170) hC 2 1 dX6_bearTwo_170 rfl rfl ?_
          obtain ⟨i29, v30, e31, h⟩ := jrd_some h
          refine j_iald (pc := 171) hC dX6_bearTwo_171 (ly_6_0 hL ka0).2.1 (ly_6_0 hL ka0).2.2 i29 e31 ?_
          refine j_iload (pc := 172) hC 3 dX6_bearTwo_172 rfl ?_
          refine j_ineg (pc := 174) hC dX6_bearTwo_174 ?_
          refine j_si (pc := 175) hC hR [.int v30, .int (-x4)] iy_X6_moved km_X6_58 dX6_bearTwo_175 rfl (by decide) (c_X6_moved hL  rfl) (by decide) (Nat.le_of_ble_eq_true rfl) rfl ?_
          refine j_iconst (pc := 178) hC (-1 : Int32) dX6_bearTwo_178 (by decide) ?_
          refine j_ixor (pc := 179) hC dX6_bearTwo_179 ?_
          refine j_iand (pc := 180) hC dX6_bearTwo_180 ?_
          obtain ⟨i32, h⟩ := jin_some h
          obtain ⟨m33, e34, h⟩ := jbd_ex h
          refine j_iast (pc := 181) hC dX6_bearTwo_181 (ly_6_0 hL ka0).2.1 (ly_6_0 hL ka0).2.2 i32 e34 ?_
          exact j_lv [0, 1, 2] rfl (q3 _ h)
      refine j_icmp_ne (pc := 121) hC 146 dX6_bearTwo_121 (by decide) (fun c35 => ?_) (fun c35 => ?_)
      · rw [if_neg c35] at h
        exact j_lv [0, 2, 3, 4] rfl (q20 _ h)
      · rw [if_pos c35] at h
        refine j_aload_n (pc := 124) hC 0 0 dX6_bearTwo_124 rfl rfl ?_
        refine jgr_6 (pc := 125) hC 0 (by decide) rfl kf_X6_9 dX6_bearTwo_125 ka0 (ly_6_0 hL ka0).1 ?_
        refine j_iload_n (pc := 128) hC 2 2 dX6_bearTwo_128 rfl rfl ?_
        refine j_dup2 (pc := 129) hC dX6_bearTwo_129 rfl rfl ?_
        obtain ⟨i36, v37, e38, h⟩ := jrd_some h
        refine j_iald (pc := 130) hC dX6_bearTwo_130 (ly_6_0 hL ka0).2.1 (ly_6_0 hL ka0).2.2 i36 e38 ?_
        refine j_aload_n (pc := 131) hC 0 0 dX6_bearTwo_131 rfl rfl ?_
        refine jgr_6 (pc := 132) hC 0 (by decide) rfl kf_X6_9 dX6_bearTwo_132 ka0 (ly_6_0 hL ka0).1 ?_
        refine j_iload_n (pc := 135) hC 3 3 dX6_bearTwo_135 rfl rfl ?_
        obtain ⟨i39, v40, e41, h⟩ := jrd_some h
        refine j_iald (pc := 136) hC dX6_bearTwo_136 (ly_6_0 hL ka0).2.1 (ly_6_0 hL ka0).2.2 i39 e41 ?_
        refine j_iload (pc := 137) hC 4 dX6_bearTwo_137 rfl ?_
        refine j_si (pc := 139) hC hR [.int v40, .int x4] iy_X6_moved km_X6_58 dX6_bearTwo_139 rfl (by decide) (c_X6_moved hL  rfl) (by decide) (Nat.le_of_ble_eq_true rfl) rfl ?_
        refine j_iconst (pc := 142) hC (-1 : Int32) dX6_bearTwo_142 (by decide) ?_
        refine j_ixor (pc := 143) hC dX6_bearTwo_143 ?_
        refine j_iand (pc := 144) hC dX6_bearTwo_144 ?_
        obtain ⟨i42, h⟩ := jin_some h
        obtain ⟨m43, e44, h⟩ := jbd_ex h
        refine j_iast (pc := 145) hC dX6_bearTwo_145 (ly_6_0 hL ka0).2.1 (ly_6_0 hL ka0).2.2 i42 e44 ?_
        exact j_lv [0, 2, 3, 4] rfl (q20 _ h)
    · rw [if_pos c14] at h
      refine j_aload_n (pc := 67) hC 0 0 dX6_bearTwo_67 rfl rfl ?_
      refine jgr_6 (pc := 68) hC 0 (by decide) rfl kf_X6_9 dX6_bearTwo_68 ka0 (ly_6_0 hL ka0).1 ?_
      refine j_iload_n (pc := 71) hC 2 2 dX6_bearTwo_71 rfl rfl ?_
      refine j_dup2 (pc := 72) hC dX6_bearTwo_72 rfl rfl ?_
      obtain ⟨i45, v46, e47, h⟩ := jrd_some h
      refine j_iald (pc := 73) hC dX6_bearTwo_73 (ly_6_0 hL ka0).2.1 (ly_6_0 hL ka0).2.2 i45 e47 ?_
      refine j_aload_n (pc := 74) hC 0 0 dX6_bearTwo_74 rfl rfl ?_
      refine jgr_6 (pc := 75) hC 0 (by decide) rfl kf_X6_9 dX6_bearTwo_75 ka0 (ly_6_0 hL ka0).1 ?_
      refine j_iload_n (pc := 78) hC 3 3 dX6_bearTwo_78 rfl rfl ?_
      obtain ⟨i48, v49, e50, h⟩ := jrd_some h
      refine j_iald (pc := 79) hC dX6_bearTwo_79 (ly_6_0 hL ka0).2.1 (ly_6_0 hL ka0).2.2 i48 e50 ?_
      refine j_iload (pc := 80) hC 4 dX6_bearTwo_80 rfl ?_
      refine j_si (pc := 82) hC hR [.int v49, .int x4] iy_X6_moved km_X6_58 dX6_bearTwo_82 rfl (by decide) (c_X6_moved hL  rfl) (by decide) (Nat.le_of_ble_eq_true rfl) rfl ?_
      refine j_iand (pc := 85) hC dX6_bearTwo_85 ?_
      obtain ⟨i51, h⟩ := jin_some h
      obtain ⟨m52, e53, h⟩ := jbd_ex h
      refine j_iast (pc := 86) hC dX6_bearTwo_86 (ly_6_0 hL ka0).2.1 (ly_6_0 hL ka0).2.2 i51 e53 ?_
      refine j_aload_n (pc := 87) hC 0 0 dX6_bearTwo_87 rfl rfl ?_
      refine jgr_6 (pc := 88) hC 0 (by decide) rfl kf_X6_9 dX6_bearTwo_88 ka0 (ly_6_0 hL ka0).1 ?_
      refine j_iload_n (pc := 91) hC 3 3 dX6_bearTwo_91 rfl rfl ?_
      refine j_dup2 (pc := 92) hC dX6_bearTwo_92 rfl rfl ?_
      obtain ⟨i54, v55, e56, h⟩ := jrd_some h
      refine j_iald (pc := 93) hC dX6_bearTwo_93 (ly_6_0 hL ka0).2.1 (ly_6_0 hL ka0).2.2 i54 e56 ?_
      refine j_aload_n (pc := 94) hC 0 0 dX6_bearTwo_94 rfl rfl ?_
      refine jgr_6 (pc := 95) hC 0 (by decide) rfl kf_X6_9 dX6_bearTwo_95 ka0 (ly_6_0 hL ka0).1 ?_
      refine j_iload_n (pc := 98) hC 2 2 dX6_bearTwo_98 rfl rfl ?_
      obtain ⟨i57, v58, e59, h⟩ := jrd_some h
      refine j_iald (pc := 99) hC dX6_bearTwo_99 (ly_6_0 hL ka0).2.1 (ly_6_0 hL ka0).2.2 i57 e59 ?_
      refine j_iload (pc := 100) hC 4 dX6_bearTwo_100 rfl ?_
      refine j_ineg (pc := 102) hC dX6_bearTwo_102 ?_
      refine j_si (pc := 103) hC hR [.int v58, .int (-x4)] iy_X6_moved km_X6_58 dX6_bearTwo_103 rfl (by decide) (c_X6_moved hL  rfl) (by decide) (Nat.le_of_ble_eq_true rfl) rfl ?_
      refine j_iand (pc := 106) hC dX6_bearTwo_106 ?_
      obtain ⟨i60, h⟩ := jin_some h
      obtain ⟨m61, e62, h⟩ := jbd_ex h
      refine j_iast (pc := 107) hC dX6_bearTwo_107 (ly_6_0 hL ka0).2.1 (ly_6_0 hL ka0).2.2 i60 e62 ?_
      refine j_goto (pc := 108) hC 182 dX6_bearTwo_108 (by decide) ?_
      exact j_lv [0, 2, 3] rfl (q3 _ h)
  · rw [if_pos c13] at h
    refine j_aload_n (pc := 4) hC 0 0 dX6_bearTwo_4 rfl rfl ?_
    refine jgr_6 (pc := 5) hC 0 (by decide) rfl kf_X6_9 dX6_bearTwo_5 ka0 (ly_6_0 hL ka0).1 ?_
    refine j_iload_n (pc := 8) hC 2 2 dX6_bearTwo_8 rfl rfl ?_
    refine j_dup2 (pc := 9) hC dX6_bearTwo_9 rfl rfl ?_
    obtain ⟨i63, v64, e65, h⟩ := jrd_some h
    refine j_iald (pc := 10) hC dX6_bearTwo_10 (ly_6_0 hL ka0).2.1 (ly_6_0 hL ka0).2.2 i63 e65 ?_
    refine j_bipush (pc := 11) hC (31 : Int32) dX6_bearTwo_11 (by decide) ?_
    refine j_aload_n (pc := 13) hC 0 0 dX6_bearTwo_13 rfl rfl ?_
    refine jgr_6 (pc := 14) hC 0 (by decide) rfl kf_X6_9 dX6_bearTwo_14 ka0 (ly_6_0 hL ka0).1 ?_
    refine j_iload_n (pc := 17) hC 3 3 dX6_bearTwo_17 rfl rfl ?_
    obtain ⟨i66, v67, e68, h⟩ := jrd_some h
    refine j_iald (pc := 18) hC dX6_bearTwo_18 (ly_6_0 hL ka0).2.1 (ly_6_0 hL ka0).2.2 i66 e68 ?_
    refine j_si (pc := 19) hC hR [.int v67] iy_J6_numberOfLeadingZeros_0f7a4 km_X6_49 dX6_bearTwo_19 rfl (by decide) (c_J6_numberOfLeadingZeros_0f7a4 hL  rfl) (by decide) (Nat.le_of_ble_eq_true rfl) rfl ?_
    refine j_isub (pc := 22) hC dX6_bearTwo_22 ?_
    refine j_iload (pc := 23) hC 4 dX6_bearTwo_23 rfl ?_
    refine j_iadd (pc := 25) hC dX6_bearTwo_25 ?_
    refine j_si (pc := 26) hC hR [.int (((31 : Int32) - (f_J6_numberOfLeadingZeros_0f7a4 v67)) + x4)] iy_X6_below km_X6_52 dX6_bearTwo_26 rfl (by decide) (c_X6_below hL  rfl) (by decide) (Nat.le_of_ble_eq_true rfl) rfl ?_
    refine j_iand (pc := 29) hC dX6_bearTwo_29 ?_
    obtain ⟨i69, h⟩ := jin_some h
    obtain ⟨m70, e71, h⟩ := jbd_ex h
    refine j_iast (pc := 30) hC dX6_bearTwo_30 (ly_6_0 hL ka0).2.1 (ly_6_0 hL ka0).2.2 i69 e71 ?_
    refine j_aload_n (pc := 31) hC 0 0 dX6_bearTwo_31 rfl rfl ?_
    refine jgr_6 (pc := 32) hC 0 (by decide) rfl kf_X6_9 dX6_bearTwo_32 ka0 (ly_6_0 hL ka0).1 ?_
    refine j_iload_n (pc := 35) hC 3 3 dX6_bearTwo_35 rfl rfl ?_
    refine j_dup2 (pc := 36) hC dX6_bearTwo_36 rfl rfl ?_
    obtain ⟨i72, v73, e74, h⟩ := jrd_some h
    refine j_iald (pc := 37) hC dX6_bearTwo_37 (ly_6_0 hL ka0).2.1 (ly_6_0 hL ka0).2.2 i72 e74 ?_
    refine j_aload_n (pc := 38) hC 0 0 dX6_bearTwo_38 rfl rfl ?_
    refine jgr_6 (pc := 39) hC 0 (by decide) rfl kf_X6_9 dX6_bearTwo_39 ka0 (ly_6_0 hL ka0).1 ?_
    refine j_iload_n (pc := 42) hC 2 2 dX6_bearTwo_42 rfl rfl ?_
    obtain ⟨i75, v76, e77, h⟩ := jrd_some h
    refine j_iald (pc := 43) hC dX6_bearTwo_43 (ly_6_0 hL ka0).2.1 (ly_6_0 hL ka0).2.2 i75 e77 ?_
    refine j_si (pc := 44) hC hR [.int v76] iy_J6_numberOfTrailingZeros_0f7a4 km_X6_55 dX6_bearTwo_44 rfl (by decide) (c_J6_numberOfTrailingZeros_0f7a4 hL  rfl) (by decide) (Nat.le_of_ble_eq_true rfl) rfl ?_
    refine j_iload (pc := 47) hC 4 dX6_bearTwo_47 rfl ?_
    refine j_isub (pc := 49) hC dX6_bearTwo_49 ?_
    refine j_iconst (pc := 50) hC (1 : Int32) dX6_bearTwo_50 (by decide) ?_
    refine j_iadd (pc := 51) hC dX6_bearTwo_51 ?_
    refine j_si (pc := 52) hC hR [.int (((f_J6_numberOfTrailingZeros_0f7a4 v76) - x4) + (1 : Int32))] iy_X6_below km_X6_52 dX6_bearTwo_52 rfl (by decide) (c_X6_below hL  rfl) (by decide) (Nat.le_of_ble_eq_true rfl) rfl ?_
    refine j_iconst (pc := 55) hC (-1 : Int32) dX6_bearTwo_55 (by decide) ?_
    refine j_ixor (pc := 56) hC dX6_bearTwo_56 ?_
    refine j_iand (pc := 57) hC dX6_bearTwo_57 ?_
    obtain ⟨i78, h⟩ := jin_some h
    obtain ⟨m79, e80, h⟩ := jbd_ex h
    refine j_iast (pc := 58) hC dX6_bearTwo_58 (ly_6_0 hL ka0).2.1 (ly_6_0 hL ka0).2.2 i78 e80 ?_
    refine j_goto (pc := 59) hC 182 dX6_bearTwo_59 (by decide) ?_
    exact j_lv [0, 2, 3] rfl (q3 _ h)
