theorem dX12_readsRule_0 : decode cX12_readsRule 0 = .ok (.aload_n 0, 1) := by decide +kernel
theorem dX12_readsRule_1 : decode cX12_readsRule 1 = .ok (.bipush 33, 2) := by decide +kernel
theorem dX12_readsRule_3 : decode cX12_readsRule 3 = .ok (.invokevirtual 247, 3) := by decide +kernel
theorem dX12_readsRule_6 : decode cX12_readsRule 6 = .ok (.ifCond .eq 8, 3) := by decide +kernel
theorem dX12_readsRule_9 : decode cX12_readsRule 9 = .ok (.aload_n 0, 1) := by decide +kernel
theorem dX12_readsRule_10 : decode cX12_readsRule 10 = .ok (.invokevirtual 250, 3) := by decide +kernel
theorem dX12_readsRule_13 : decode cX12_readsRule 13 = .ok (.ireturn, 1) := by decide +kernel
theorem dX12_readsRule_14 : decode cX12_readsRule 14 = .ok (.aload_n 0, 1) := by decide +kernel
theorem dX12_readsRule_15 : decode cX12_readsRule 15 = .ok (.ldc 241, 2) := by decide +kernel
theorem dX12_readsRule_17 : decode cX12_readsRule 17 = .ok (.invokevirtual 50, 3) := by decide +kernel
theorem dX12_readsRule_20 : decode cX12_readsRule 20 = .ok (.istore_n 1, 1) := by decide +kernel
theorem dX12_readsRule_21 : decode cX12_readsRule 21 = .ok (.iload_n 1, 1) := by decide +kernel
theorem dX12_readsRule_22 : decode cX12_readsRule 22 = .ok (.ifCond .ge 7, 3) := by decide +kernel
theorem dX12_readsRule_25 : decode cX12_readsRule 25 = .ok (.iconst (-1), 1) := by decide +kernel
theorem dX12_readsRule_26 : decode cX12_readsRule 26 = .ok (.goto 9, 3) := by decide +kernel
theorem dX12_readsRule_29 : decode cX12_readsRule 29 = .ok (.aload_n 0, 1) := by decide +kernel
theorem dX12_readsRule_30 : decode cX12_readsRule 30 = .ok (.ldc 254, 2) := by decide +kernel
theorem dX12_readsRule_32 : decode cX12_readsRule 32 = .ok (.invokevirtual 50, 3) := by decide +kernel
theorem dX12_readsRule_35 : decode cX12_readsRule 35 = .ok (.istore_n 2, 1) := by decide +kernel
theorem dX12_readsRule_36 : decode cX12_readsRule 36 = .ok (.iload_n 2, 1) := by decide +kernel
theorem dX12_readsRule_37 : decode cX12_readsRule 37 = .ok (.ifCond .ge 7, 3) := by decide +kernel
theorem dX12_readsRule_40 : decode cX12_readsRule 40 = .ok (.iconst (-1), 1) := by decide +kernel
theorem dX12_readsRule_41 : decode cX12_readsRule 41 = .ok (.goto 9, 3) := by decide +kernel
theorem dX12_readsRule_44 : decode cX12_readsRule 44 = .ok (.aload_n 0, 1) := by decide +kernel
theorem dX12_readsRule_45 : decode cX12_readsRule 45 = .ok (.ldc 241, 2) := by decide +kernel
theorem dX12_readsRule_47 : decode cX12_readsRule 47 = .ok (.invokevirtual 50, 3) := by decide +kernel
theorem dX12_readsRule_50 : decode cX12_readsRule 50 = .ok (.istore_n 3, 1) := by decide +kernel
theorem dX12_readsRule_51 : decode cX12_readsRule 51 = .ok (.iload_n 3, 1) := by decide +kernel
theorem dX12_readsRule_52 : decode cX12_readsRule 52 = .ok (.ifCond .ge 5, 3) := by decide +kernel
theorem dX12_readsRule_55 : decode cX12_readsRule 55 = .ok (.iconst 0, 1) := by decide +kernel
theorem dX12_readsRule_56 : decode cX12_readsRule 56 = .ok (.ireturn, 1) := by decide +kernel
theorem dX12_readsRule_57 : decode cX12_readsRule 57 = .ok (.iload_n 3, 1) := by decide +kernel
theorem dX12_readsRule_58 : decode cX12_readsRule 58 = .ok (.iload_n 1, 1) := by decide +kernel
theorem dX12_readsRule_59 : decode cX12_readsRule 59 = .ok (.if_icmp .ne 15, 3) := by decide +kernel
theorem dX12_readsRule_62 : decode cX12_readsRule 62 = .ok (.aload_n 0, 1) := by decide +kernel
theorem dX12_readsRule_63 : decode cX12_readsRule 63 = .ok (.dup, 1) := by decide +kernel
theorem dX12_readsRule_64 : decode cX12_readsRule 64 = .ok (.getfield 28, 3) := by decide +kernel
theorem dX12_readsRule_67 : decode cX12_readsRule 67 = .ok (.iconst 1, 1) := by decide +kernel
theorem dX12_readsRule_68 : decode cX12_readsRule 68 = .ok (.isub, 1) := by decide +kernel
theorem dX12_readsRule_69 : decode cX12_readsRule 69 = .ok (.putfield 28, 3) := by decide +kernel
theorem dX12_readsRule_72 : decode cX12_readsRule 72 = .ok (.iconst 0, 1) := by decide +kernel
theorem dX12_readsRule_73 : decode cX12_readsRule 73 = .ok (.ireturn, 1) := by decide +kernel
theorem dX12_readsRule_74 : decode cX12_readsRule 74 = .ok (.aload_n 0, 1) := by decide +kernel
theorem dX12_readsRule_75 : decode cX12_readsRule 75 = .ok (.ldc_w 256, 3) := by decide +kernel
theorem dX12_readsRule_78 : decode cX12_readsRule 78 = .ok (.invokevirtual 50, 3) := by decide +kernel
theorem dX12_readsRule_81 : decode cX12_readsRule 81 = .ok (.istore 4, 2) := by decide +kernel
theorem dX12_readsRule_83 : decode cX12_readsRule 83 = .ok (.iload 4, 2) := by decide +kernel
theorem dX12_readsRule_85 : decode cX12_readsRule 85 = .ok (.ifCond .ge 7, 3) := by decide +kernel
theorem dX12_readsRule_88 : decode cX12_readsRule 88 = .ok (.iconst 0, 1) := by decide +kernel
theorem dX12_readsRule_89 : decode cX12_readsRule 89 = .ok (.goto 9, 3) := by decide +kernel
theorem dX12_readsRule_92 : decode cX12_readsRule 92 = .ok (.aload_n 0, 1) := by decide +kernel
theorem dX12_readsRule_93 : decode cX12_readsRule 93 = .ok (.ldc 48, 2) := by decide +kernel
theorem dX12_readsRule_95 : decode cX12_readsRule 95 = .ok (.invokevirtual 50, 3) := by decide +kernel
theorem dX12_readsRule_98 : decode cX12_readsRule 98 = .ok (.istore 5, 2) := by decide +kernel
theorem dX12_readsRule_100 : decode cX12_readsRule 100 = .ok (.iload 5, 2) := by decide +kernel
theorem dX12_readsRule_102 : decode cX12_readsRule 102 = .ok (.ifCond .ge 5, 3) := by decide +kernel
theorem dX12_readsRule_105 : decode cX12_readsRule 105 = .ok (.iconst 0, 1) := by decide +kernel
theorem dX12_readsRule_106 : decode cX12_readsRule 106 = .ok (.ireturn, 1) := by decide +kernel
theorem dX12_readsRule_107 : decode cX12_readsRule 107 = .ok (.aload_n 0, 1) := by decide +kernel
theorem dX12_readsRule_108 : decode cX12_readsRule 108 = .ok (.iload_n 2, 1) := by decide +kernel
theorem dX12_readsRule_109 : decode cX12_readsRule 109 = .ok (.iload_n 1, 1) := by decide +kernel
theorem dX12_readsRule_110 : decode cX12_readsRule 110 = .ok (.iload_n 3, 1) := by decide +kernel
theorem dX12_readsRule_111 : decode cX12_readsRule 111 = .ok (.iload 4, 2) := by decide +kernel
theorem dX12_readsRule_113 : decode cX12_readsRule 113 = .ok (.iconst 1, 1) := by decide +kernel
theorem dX12_readsRule_114 : decode cX12_readsRule 114 = .ok (.if_icmp .ne 9, 3) := by decide +kernel
theorem dX12_readsRule_117 : decode cX12_readsRule 117 = .ok (.iload 5, 2) := by decide +kernel
theorem dX12_readsRule_119 : decode cX12_readsRule 119 = .ok (.ineg, 1) := by decide +kernel
theorem dX12_readsRule_120 : decode cX12_readsRule 120 = .ok (.goto 5, 3) := by decide +kernel
theorem dX12_readsRule_123 : decode cX12_readsRule 123 = .ok (.iload 5, 2) := by decide +kernel
theorem dX12_readsRule_125 : decode cX12_readsRule 125 = .ok (.invokevirtual 243, 3) := by decide +kernel
theorem dX12_readsRule_128 : decode cX12_readsRule 128 = .ok (.iconst 1, 1) := by decide +kernel
theorem dX12_readsRule_129 : decode cX12_readsRule 129 = .ok (.ireturn, 1) := by decide +kernel
def f_X12_readsRule (a0 : Nat) (μ : jM) : Option (Int32 × jM) :=
  jcl2 (f_X12_takes a0 (33 : Int32) μ) (fun v1 m2 => (if v1 = (0 : Int32) then jcl2 (f_X12_takesOf a0 16 m2) (fun v5 m6 => jbd (fun (t8 : Int32) (m9 : jM) => jbd (fun (t13 : Int32) (m14 : jM) => (if (0 : Int32) ≤ t13 then (if t13 = v5 then jbd (jsi m14 a0 5 ((m14.1 a0 5) - (1 : Int32))) (fun m36 => some (((0 : Int32), m36))) else jcl2 (f_X12_takesOf a0 18 m14) (fun v20 m21 => jbd (fun (t23 : Int32) (m24 : jM) => (if (0 : Int32) ≤ t23 then jcl (f_X12_tells a0 t8 v5 t13 ((if v20 = (1 : Int32) then -t23 else t23)) m24) (fun m30 => some (((1 : Int32), m30))) else some (((0 : Int32), m24)))) (fun k25 => (if (0 : Int32) ≤ v20 then jcl2 (f_X12_takesOf a0 15 m21) (fun v33 m34 => k25 v33 m34) else k25 (0 : Int32) m21)))) else some (((0 : Int32), m14)))) (fun k15 => (if (0 : Int32) ≤ t8 then jcl2 (f_X12_takesOf a0 16 m9) (fun v39 m40 => k15 v39 m40) else k15 (-1 : Int32) m9))) (fun k10 => (if (0 : Int32) ≤ v5 then jcl2 (f_X12_takesOf a0 17 m6) (fun v43 m44 => k10 v43 m44) else k10 (-1 : Int32) m6))) else jcl2 (f_X12_readsSet a0 m2) (fun v46 m47 => some ((v46 &&& 1, m47)))))
set_option maxHeartbeats 4000000 in
set_option maxRecDepth 100000 in
theorem c_X12_readsRule {l : Launch} {G : jG} {L : jL} (hL : jOKL L) {a0 : Nat} (ka0 : jK L a0 12) {μ μ' : jM} {r : Int32} (h : f_X12_readsRule a0 μ = some ((r, μ'))) : jCt l G L 9 yX12_readsRule cX12_readsRule 6 (some .boolean) [.ref (L.2.2 a0)] μ (some (.int r)) μ' := by
  refine jCt_of (by decide) (Nat.le_of_ble_eq_true rfl) (fun X hC hX hR => ?_)
  subst hX
  have hC : jC X G cX12_readsRule 6 RX12 (some .boolean) := hC
  unfold f_X12_readsRule at h
  show jJ X G 6 L 0 0 (jQM X G L (some (.int r)) μ' 0 0) 0 [(0, .ref (L.2.2 a0))] [] μ
  refine j_aload_n (pc := 0) hC 0 0 dX12_readsRule_0 rfl rfl ?_
  refine j_bipush (pc := 1) hC (33 : Int32) dX12_readsRule_1 (by decide) ?_
  obtain ⟨v1, m2, e3, h⟩ := jcl2_some h
  refine j_vi (pc := 3) hC hR [.int (33 : Int32)] iy_X12_takes (q := (RX12, TX12, 40)) (ci := 12) rfl rfl (by decide) km_X12_247 dX12_readsRule_3 rfl (by decide) ka0 (c_X12_takes hL ka0 e3) (by decide) (Nat.le_of_ble_eq_true rfl) rfl ?_
  refine j_if_eq (pc := 6) hC 14 dX12_readsRule_6 (by decide) (fun c4 => ?_) (fun c4 => ?_)
  · rw [if_pos c4] at h
    refine j_aload_n (pc := 14) hC 0 0 dX12_readsRule_14 rfl rfl ?_
    refine j_ldcS (pc := 15) hC 16 ks_X12_241 dX12_readsRule_15 ?_
    obtain ⟨v5, m6, e7, h⟩ := jcl2_some h
    refine j_vi (pc := 17) hC hR [.ref (G.2.2.2.1 16)] iy_X12_takesOf (q := (RX12, TX12, 40)) (ci := 12) rfl rfl (by decide) km_X12_50 dX12_readsRule_17 rfl (by decide) ka0 (c_X12_takesOf hL ka0 (by decide) e7) (by decide) (Nat.le_of_ble_eq_true rfl) rfl ?_
    refine j_istore_n (pc := 20) hC 1 [(1, .int v5), (0, .ref (L.2.2 a0))] dX12_readsRule_20 rfl (by decide) rfl rfl ?_
    refine j_iload_n (pc := 21) hC 1 0 dX12_readsRule_21 rfl rfl ?_
    obtain ⟨k10, e12, h⟩ := jbd_ex h
    have q11 : ∀ (t8 : Int32) (m9 : jM), k10 t8 m9 = some ((r, μ')) → jJ X G 6 L 0 0 (jQM X G L (some (.int r)) μ' 0 0) 35 [(0, .ref (L.2.2 a0)), (1, .int v5)] [.int t8] m9 := by
      intro t8 m9 h
      rw [e12] at h
      try dsimp only at h
      refine j_istore_n (pc := 35) hC 2 [(2, .int t8), (0, .ref (L.2.2 a0)), (1, .int v5)] dX12_readsRule_35 rfl (by decide) rfl rfl ?_
      refine j_iload_n (pc := 36) hC 2 0 dX12_readsRule_36 rfl rfl ?_
      obtain ⟨k15, e17, h⟩ := jbd_ex h
      have q16 : ∀ (t13 : Int32) (m14 : jM), k15 t13 m14 = some ((r, μ')) → jJ X G 6 L 0 0 (jQM X G L (some (.int r)) μ' 0 0) 50 [(0, .ref (L.2.2 a0)), (1, .int v5), (2, .int t8)] [.int t13] m14 := by
        intro t13 m14 h
        rw [e17] at h
        try dsimp only at h
        refine j_istore_n (pc := 50) hC 3 [(3, .int t13), (0, .ref (L.2.2 a0)), (1, .int v5), (2, .int t8)] dX12_readsRule_50 rfl (by decide) rfl rfl ?_
        refine j_iload_n (pc := 51) hC 3 0 dX12_readsRule_51 rfl rfl ?_
        refine j_if_ge (pc := 52) hC 57 dX12_readsRule_52 (by decide) (fun c18 => ?_) (fun c18 => ?_)
        · rw [if_pos c18] at h
          refine j_iload_n (pc := 57) hC 3 0 dX12_readsRule_57 rfl rfl ?_
          refine j_iload_n (pc := 58) hC 1 2 dX12_readsRule_58 rfl rfl ?_
          refine j_icmp_ne (pc := 59) hC 74 dX12_readsRule_59 (by decide) (fun c19 => ?_) (fun c19 => ?_)
          · rw [if_neg c19] at h
            refine j_aload_n (pc := 74) hC 0 1 dX12_readsRule_74 rfl rfl ?_
            refine j_ldcSw (pc := 75) hC 18 ks_X12_256 dX12_readsRule_75 ?_
            obtain ⟨v20, m21, e22, h⟩ := jcl2_some h
            refine j_vi (pc := 78) hC hR [.ref (G.2.2.2.1 18)] iy_X12_takesOf (q := (RX12, TX12, 40)) (ci := 12) rfl rfl (by decide) km_X12_50 dX12_readsRule_78 rfl (by decide) ka0 (c_X12_takesOf hL ka0 (by decide) e22) (by decide) (Nat.le_of_ble_eq_true rfl) rfl ?_
            refine j_istore (pc := 81) hC [(4, .int v20), (3, .int t13), (0, .ref (L.2.2 a0)), (1, .int v5), (2, .int t8)] dX12_readsRule_81 (by decide) rfl rfl ?_
            refine j_iload (pc := 83) hC 0 dX12_readsRule_83 rfl ?_
            obtain ⟨k25, e27, h⟩ := jbd_ex h
            have q26 : ∀ (t23 : Int32) (m24 : jM), k25 t23 m24 = some ((r, μ')) → jJ X G 6 L 0 0 (jQM X G L (some (.int r)) μ' 0 0) 98 [(0, .ref (L.2.2 a0)), (1, .int v5), (2, .int t8), (3, .int t13), (4, .int v20)] [.int t23] m24 := by
              intro t23 m24 h
              rw [e27] at h
              try dsimp only at h
              refine j_istore (pc := 98) hC [(5, .int t23), (0, .ref (L.2.2 a0)), (1, .int v5), (2, .int t8), (3, .int t13), (4, .int v20)] dX12_readsRule_98 (by decide) rfl rfl ?_
              refine j_iload (pc := 100) hC 0 dX12_readsRule_100 rfl ?_
              refine j_if_ge (pc := 102) hC 107 dX12_readsRule_102 (by decide) (fun c28 => ?_) (fun c28 => ?_)
              · rw [if_pos c28] at h
                refine j_aload_n (pc := 107) hC 0 1 dX12_readsRule_107 rfl rfl ?_
                refine j_iload_n (pc := 108) hC 2 3 dX12_readsRule_108 rfl rfl ?_
                refine j_iload_n (pc := 109) hC 1 2 dX12_readsRule_109 rfl rfl ?_
                refine j_iload_n (pc := 110) hC 3 4 dX12_readsRule_110 rfl rfl ?_
                refine j_iload (pc := 111) hC 5 dX12_readsRule_111 rfl ?_
                refine j_iconst (pc := 113) hC (1 : Int32) dX12_readsRule_113 (by decide) ?_
                refine jmg (B := jJ X G 6 L 0 0 (jQM X G L (some (.int r)) μ' 0 0) 125 [(5, .int t23), (0, .ref (L.2.2 a0)), (1, .int v5), (2, .int t8), (3, .int t13), (4, .int v20)] [.int ((if v20 = (1 : Int32) then -t23 else t23)), .int t13, .int v5, .int t8, .ref (L.2.2 a0)] m24) (fun hj => ?_) ?_
                · refine j_icmp_ne (pc := 114) hC 123 dX12_readsRule_114 (by decide) (fun c29 => ?_) (fun c29 => ?_)
                  · rw [if_neg c29] at hj
                    refine j_iload (pc := 123) hC 0 dX12_readsRule_123 rfl ?_
                    exact hj
                  · rw [if_pos c29] at hj
                    refine j_iload (pc := 117) hC 0 dX12_readsRule_117 rfl ?_
                    refine j_ineg (pc := 119) hC dX12_readsRule_119 ?_
                    refine j_goto (pc := 120) hC 125 dX12_readsRule_120 (by decide) ?_
                    exact hj
                obtain ⟨m30, e31, h⟩ := jcl_some h
                refine j_vv (pc := 125) hC hR [.int t8, .int v5, .int t13, .int ((if v20 = (1 : Int32) then -t23 else t23))] iy_X12_tells (q := (RX12, TX12, 40)) (ci := 12) rfl rfl (by decide) km_X12_243 dX12_readsRule_125 rfl (by decide) ka0 (c_X12_tells hL ka0 e31) (by decide) (Nat.le_of_ble_eq_true rfl) rfl ?_
                refine j_iconst (pc := 128) hC (1 : Int32) dX12_readsRule_128 (by decide) ?_
                obtain ⟨rfl, rfl⟩ := Prod.mk.inj (Option.some.inj h)
                exact j_bret (pc := 129) hC dX12_readsRule_129 rfl rfl
              · rw [if_neg c28] at h
                refine j_iconst (pc := 105) hC (0 : Int32) dX12_readsRule_105 (by decide) ?_
                obtain ⟨rfl, rfl⟩ := Prod.mk.inj (Option.some.inj h)
                exact j_bret (pc := 106) hC dX12_readsRule_106 rfl rfl
            refine j_if_ge (pc := 85) hC 92 dX12_readsRule_85 (by decide) (fun c32 => ?_) (fun c32 => ?_)
            · rw [if_pos c32] at h
              refine j_aload_n (pc := 92) hC 0 2 dX12_readsRule_92 rfl rfl ?_
              refine j_ldcS (pc := 93) hC 15 ks_X12_48 dX12_readsRule_93 ?_
              obtain ⟨v33, m34, e35, h⟩ := jcl2_some h
              refine j_vi (pc := 95) hC hR [.ref (G.2.2.2.1 15)] iy_X12_takesOf (q := (RX12, TX12, 40)) (ci := 12) rfl rfl (by decide) km_X12_50 dX12_readsRule_95 rfl (by decide) ka0 (c_X12_takesOf hL ka0 (by decide) e35) (by decide) (Nat.le_of_ble_eq_true rfl) rfl ?_
              exact j_lv [2, 3, 4, 1, 0] rfl (q26 _ _ h)
            · rw [if_neg c32] at h
              refine j_iconst (pc := 88) hC (0 : Int32) dX12_readsRule_88 (by decide) ?_
              refine j_goto (pc := 89) hC 98 dX12_readsRule_89 (by decide) ?_
              exact j_lv [2, 3, 4, 1, 0] rfl (q26 _ _ h)
          · rw [if_pos c19] at h
            refine j_aload_n (pc := 62) hC 0 1 dX12_readsRule_62 rfl rfl ?_
            refine j_dup (pc := 63) hC dX12_readsRule_63 rfl ?_
            refine jgi_12 (pc := 64) hC 5 (by decide) rfl kf_X12_28 dX12_readsRule_64 ka0 ?_
            refine j_iconst (pc := 67) hC (1 : Int32) dX12_readsRule_67 (by decide) ?_
            refine j_isub (pc := 68) hC dX12_readsRule_68 ?_
            obtain ⟨m36, e37, h⟩ := jbd_ex h
            refine jpi_12 (pc := 69) hC 5 (by decide) rfl kf_X12_28 dX12_readsRule_69 rfl (by decide) ka0 e37 ?_
            refine j_iconst (pc := 72) hC (0 : Int32) dX12_readsRule_72 (by decide) ?_
            obtain ⟨rfl, rfl⟩ := Prod.mk.inj (Option.some.inj h)
            exact j_bret (pc := 73) hC dX12_readsRule_73 rfl rfl
        · rw [if_neg c18] at h
          refine j_iconst (pc := 55) hC (0 : Int32) dX12_readsRule_55 (by decide) ?_
          obtain ⟨rfl, rfl⟩ := Prod.mk.inj (Option.some.inj h)
          exact j_bret (pc := 56) hC dX12_readsRule_56 rfl rfl
      refine j_if_ge (pc := 37) hC 44 dX12_readsRule_37 (by decide) (fun c38 => ?_) (fun c38 => ?_)
      · rw [if_pos c38] at h
        refine j_aload_n (pc := 44) hC 0 1 dX12_readsRule_44 rfl rfl ?_
        refine j_ldcS (pc := 45) hC 16 ks_X12_241 dX12_readsRule_45 ?_
        obtain ⟨v39, m40, e41, h⟩ := jcl2_some h
        refine j_vi (pc := 47) hC hR [.ref (G.2.2.2.1 16)] iy_X12_takesOf (q := (RX12, TX12, 40)) (ci := 12) rfl rfl (by decide) km_X12_50 dX12_readsRule_47 rfl (by decide) ka0 (c_X12_takesOf hL ka0 (by decide) e41) (by decide) (Nat.le_of_ble_eq_true rfl) rfl ?_
        exact j_lv [1, 2, 0] rfl (q16 _ _ h)
      · rw [if_neg c38] at h
        refine j_iconst (pc := 40) hC (-1 : Int32) dX12_readsRule_40 (by decide) ?_
        refine j_goto (pc := 41) hC 50 dX12_readsRule_41 (by decide) ?_
        exact j_lv [1, 2, 0] rfl (q16 _ _ h)
    refine j_if_ge (pc := 22) hC 29 dX12_readsRule_22 (by decide) (fun c42 => ?_) (fun c42 => ?_)
    · rw [if_pos c42] at h
      refine j_aload_n (pc := 29) hC 0 1 dX12_readsRule_29 rfl rfl ?_
      refine j_ldcS (pc := 30) hC 17 ks_X12_254 dX12_readsRule_30 ?_
      obtain ⟨v43, m44, e45, h⟩ := jcl2_some h
      refine j_vi (pc := 32) hC hR [.ref (G.2.2.2.1 17)] iy_X12_takesOf (q := (RX12, TX12, 40)) (ci := 12) rfl rfl (by decide) km_X12_50 dX12_readsRule_32 rfl (by decide) ka0 (c_X12_takesOf hL ka0 (by decide) e45) (by decide) (Nat.le_of_ble_eq_true rfl) rfl ?_
      exact j_lv [1, 0] rfl (q11 _ _ h)
    · rw [if_neg c42] at h
      refine j_iconst (pc := 25) hC (-1 : Int32) dX12_readsRule_25 (by decide) ?_
      refine j_goto (pc := 26) hC 35 dX12_readsRule_26 (by decide) ?_
      exact j_lv [1, 0] rfl (q11 _ _ h)
  · rw [if_neg c4] at h
    refine j_aload_n (pc := 9) hC 0 0 dX12_readsRule_9 rfl rfl ?_
    obtain ⟨v46, m47, e48, h⟩ := jcl2_some h
    refine j_vi (pc := 10) hC hR [] iy_X12_readsSet (q := (RX12, TX12, 40)) (ci := 12) rfl rfl (by decide) km_X12_250 dX12_readsRule_10 rfl (by decide) ka0 (c_X12_readsSet hL ka0 e48) (by decide) (Nat.le_of_ble_eq_true rfl) rfl ?_
    obtain ⟨rfl, rfl⟩ := Prod.mk.inj (Option.some.inj h)
    exact j_bret (pc := 13) hC dX12_readsRule_13 rfl (j_nz _)
theorem dX12_posts_0 : decode cX12_posts 0 = .ok (.aload_n 0, 1) := by decide +kernel
theorem dX12_posts_1 : decode cX12_posts 1 = .ok (.iconst 0, 1) := by decide +kernel
theorem dX12_posts_2 : decode cX12_posts 2 = .ok (.putfield 1, 3) := by decide +kernel
theorem dX12_posts_5 : decode cX12_posts 5 = .ok (.aload_n 0, 1) := by decide +kernel
theorem dX12_posts_6 : decode cX12_posts 6 = .ok (.invokevirtual 258, 3) := by decide +kernel
theorem dX12_posts_9 : decode cX12_posts 9 = .ok (.aload_n 0, 1) := by decide +kernel
theorem dX12_posts_10 : decode cX12_posts 10 = .ok (.iconst 0, 1) := by decide +kernel
theorem dX12_posts_11 : decode cX12_posts 11 = .ok (.putfield 238, 3) := by decide +kernel
theorem dX12_posts_14 : decode cX12_posts 14 = .ok (.aload_n 0, 1) := by decide +kernel
theorem dX12_posts_15 : decode cX12_posts 15 = .ok (.getfield 25, 3) := by decide +kernel
theorem dX12_posts_18 : decode cX12_posts 18 = .ok (.ifCond .eq 10, 3) := by decide +kernel
theorem dX12_posts_21 : decode cX12_posts 21 = .ok (.aload_n 0, 1) := by decide +kernel
theorem dX12_posts_22 : decode cX12_posts 22 = .ok (.invokevirtual 261, 3) := by decide +kernel
theorem dX12_posts_25 : decode cX12_posts 25 = .ok (.ifCond .eq 7, 3) := by decide +kernel
theorem dX12_posts_28 : decode cX12_posts 28 = .ok (.iconst 1, 1) := by decide +kernel
theorem dX12_posts_29 : decode cX12_posts 29 = .ok (.goto 4, 3) := by decide +kernel
theorem dX12_posts_32 : decode cX12_posts 32 = .ok (.iconst 0, 1) := by decide +kernel
theorem dX12_posts_33 : decode cX12_posts 33 = .ok (.istore_n 1, 1) := by decide +kernel
theorem dX12_posts_34 : decode cX12_posts 34 = .ok (.iload_n 1, 1) := by decide +kernel
theorem dX12_posts_35 : decode cX12_posts 35 = .ok (.ifCond .eq 39, 3) := by decide +kernel
theorem dX12_posts_38 : decode cX12_posts 38 = .ok (.aload_n 0, 1) := by decide +kernel
theorem dX12_posts_39 : decode cX12_posts 39 = .ok (.getfield 28, 3) := by decide +kernel
theorem dX12_posts_42 : decode cX12_posts 42 = .ok (.aload_n 0, 1) := by decide +kernel
theorem dX12_posts_43 : decode cX12_posts 43 = .ok (.getfield 25, 3) := by decide +kernel
theorem dX12_posts_46 : decode cX12_posts 46 = .ok (.if_icmp .ge 28, 3) := by decide +kernel
theorem dX12_posts_49 : decode cX12_posts 49 = .ok (.aload_n 0, 1) := by decide +kernel
theorem dX12_posts_50 : decode cX12_posts 50 = .ok (.bipush 44, 2) := by decide +kernel
theorem dX12_posts_52 : decode cX12_posts 52 = .ok (.invokevirtual 247, 3) := by decide +kernel
theorem dX12_posts_55 : decode cX12_posts 55 = .ok (.ifCond .eq 14, 3) := by decide +kernel
theorem dX12_posts_58 : decode cX12_posts 58 = .ok (.aload_n 0, 1) := by decide +kernel
theorem dX12_posts_59 : decode cX12_posts 59 = .ok (.invokevirtual 261, 3) := by decide +kernel
theorem dX12_posts_62 : decode cX12_posts 62 = .ok (.ifCond .eq 7, 3) := by decide +kernel
theorem dX12_posts_65 : decode cX12_posts 65 = .ok (.iconst 1, 1) := by decide +kernel
theorem dX12_posts_66 : decode cX12_posts 66 = .ok (.goto 4, 3) := by decide +kernel
theorem dX12_posts_69 : decode cX12_posts 69 = .ok (.iconst 0, 1) := by decide +kernel
theorem dX12_posts_70 : decode cX12_posts 70 = .ok (.istore_n 1, 1) := by decide +kernel
theorem dX12_posts_71 : decode cX12_posts 71 = .ok (.goto (-37), 3) := by decide +kernel
theorem dX12_posts_74 : decode cX12_posts 74 = .ok (.iload_n 1, 1) := by decide +kernel
theorem dX12_posts_75 : decode cX12_posts 75 = .ok (.ifCond .ne 10, 3) := by decide +kernel
theorem dX12_posts_78 : decode cX12_posts 78 = .ok (.iconst (-1), 1) := by decide +kernel
theorem dX12_posts_79 : decode cX12_posts 79 = .ok (.aload_n 0, 1) := by decide +kernel
theorem dX12_posts_80 : decode cX12_posts 80 = .ok (.getfield 28, 3) := by decide +kernel
theorem dX12_posts_83 : decode cX12_posts 83 = .ok (.isub, 1) := by decide +kernel
theorem dX12_posts_84 : decode cX12_posts 84 = .ok (.ireturn, 1) := by decide +kernel
theorem dX12_posts_85 : decode cX12_posts 85 = .ok (.aload_n 0, 1) := by decide +kernel
theorem dX12_posts_86 : decode cX12_posts 86 = .ok (.getfield 60, 3) := by decide +kernel
theorem dX12_posts_89 : decode cX12_posts 89 = .ok (.bipush 28, 2) := by decide +kernel
theorem dX12_posts_91 : decode cX12_posts 91 = .ok (.iaload, 1) := by decide +kernel
theorem dX12_posts_92 : decode cX12_posts 92 = .ok (.aload_n 0, 1) := by decide +kernel
theorem dX12_posts_93 : decode cX12_posts 93 = .ok (.getfield 238, 3) := by decide +kernel
theorem dX12_posts_96 : decode cX12_posts 96 = .ok (.iadd, 1) := by decide +kernel
theorem dX12_posts_97 : decode cX12_posts 97 = .ok (.bipush 8, 2) := by decide +kernel
theorem dX12_posts_99 : decode cX12_posts 99 = .ok (.if_icmp .le 6, 3) := by decide +kernel
theorem dX12_posts_102 : decode cX12_posts 102 = .ok (.bipush (-100), 2) := by decide +kernel
theorem dX12_posts_104 : decode cX12_posts 104 = .ok (.ireturn, 1) := by decide +kernel
theorem dX12_posts_105 : decode cX12_posts 105 = .ok (.aload_n 0, 1) := by decide +kernel
theorem dX12_posts_106 : decode cX12_posts 106 = .ok (.invokevirtual 170, 3) := by decide +kernel
theorem dX12_posts_109 : decode cX12_posts 109 = .ok (.iconst 0, 1) := by decide +kernel
theorem dX12_posts_110 : decode cX12_posts 110 = .ok (.istore_n 2, 1) := by decide +kernel
theorem dX12_posts_111 : decode cX12_posts 111 = .ok (.iload_n 2, 1) := by decide +kernel
theorem dX12_posts_112 : decode cX12_posts 112 = .ok (.iconst 4, 1) := by decide +kernel
theorem dX12_posts_113 : decode cX12_posts 113 = .ok (.aload_n 0, 1) := by decide +kernel
theorem dX12_posts_114 : decode cX12_posts 114 = .ok (.getfield 238, 3) := by decide +kernel
theorem dX12_posts_117 : decode cX12_posts 117 = .ok (.imul, 1) := by decide +kernel
theorem dX12_posts_118 : decode cX12_posts 118 = .ok (.if_icmp .ge 34, 3) := by decide +kernel
theorem dX12_posts_121 : decode cX12_posts 121 = .ok (.aload_n 0, 1) := by decide +kernel
theorem dX12_posts_122 : decode cX12_posts 122 = .ok (.getfield 60, 3) := by decide +kernel
theorem dX12_posts_125 : decode cX12_posts 125 = .ok (.bipush 29, 2) := by decide +kernel
theorem dX12_posts_127 : decode cX12_posts 127 = .ok (.iconst 4, 1) := by decide +kernel
theorem dX12_posts_128 : decode cX12_posts 128 = .ok (.aload_n 0, 1) := by decide +kernel
theorem dX12_posts_129 : decode cX12_posts 129 = .ok (.getfield 60, 3) := by decide +kernel
theorem dX12_posts_132 : decode cX12_posts 132 = .ok (.bipush 28, 2) := by decide +kernel
theorem dX12_posts_134 : decode cX12_posts 134 = .ok (.iaload, 1) := by decide +kernel
theorem dX12_posts_135 : decode cX12_posts 135 = .ok (.imul, 1) := by decide +kernel
theorem dX12_posts_136 : decode cX12_posts 136 = .ok (.iadd, 1) := by decide +kernel
theorem dX12_posts_137 : decode cX12_posts 137 = .ok (.iload_n 2, 1) := by decide +kernel
theorem dX12_posts_138 : decode cX12_posts 138 = .ok (.iadd, 1) := by decide +kernel
theorem dX12_posts_139 : decode cX12_posts 139 = .ok (.aload_n 0, 1) := by decide +kernel
theorem dX12_posts_140 : decode cX12_posts 140 = .ok (.getfield 75, 3) := by decide +kernel
theorem dX12_posts_143 : decode cX12_posts 143 = .ok (.iload_n 2, 1) := by decide +kernel
theorem dX12_posts_144 : decode cX12_posts 144 = .ok (.iaload, 1) := by decide +kernel
theorem dX12_posts_145 : decode cX12_posts 145 = .ok (.iastore, 1) := by decide +kernel
theorem dX12_posts_146 : decode cX12_posts 146 = .ok (.iinc 2 1, 3) := by decide +kernel
theorem dX12_posts_149 : decode cX12_posts 149 = .ok (.goto (-38), 3) := by decide +kernel
theorem dX12_posts_152 : decode cX12_posts 152 = .ok (.aload_n 0, 1) := by decide +kernel
theorem dX12_posts_153 : decode cX12_posts 153 = .ok (.getfield 60, 3) := by decide +kernel
theorem dX12_posts_156 : decode cX12_posts 156 = .ok (.bipush 28, 2) := by decide +kernel
theorem dX12_posts_158 : decode cX12_posts 158 = .ok (.dup2, 1) := by decide +kernel
theorem dX12_posts_159 : decode cX12_posts 159 = .ok (.iaload, 1) := by decide +kernel
theorem dX12_posts_160 : decode cX12_posts 160 = .ok (.aload_n 0, 1) := by decide +kernel
theorem dX12_posts_161 : decode cX12_posts 161 = .ok (.getfield 238, 3) := by decide +kernel
theorem dX12_posts_164 : decode cX12_posts 164 = .ok (.iadd, 1) := by decide +kernel
theorem dX12_posts_165 : decode cX12_posts 165 = .ok (.iastore, 1) := by decide +kernel
theorem dX12_posts_166 : decode cX12_posts 166 = .ok (.aload_n 0, 1) := by decide +kernel
theorem dX12_posts_167 : decode cX12_posts 167 = .ok (.aload_n 0, 1) := by decide +kernel
theorem dX12_posts_168 : decode cX12_posts 168 = .ok (.getfield 238, 3) := by decide +kernel
theorem dX12_posts_171 : decode cX12_posts 171 = .ok (.invokevirtual 195, 3) := by decide +kernel
theorem dX12_posts_174 : decode cX12_posts 174 = .ok (.ireturn, 1) := by decide +kernel
def f_X12_posts_L34 (a0 : Nat) (u12 : Int32) (m13 : jM) : Option ((Int32 × jM) ⊕ (Int32 × jM)) :=
  (if u12 = (0 : Int32) then some (.inr ((u12, m13))) else (if (m13.1 a0 6) ≤ (m13.1 a0 5) then some (.inr ((u12, m13))) else jcl2 (f_X12_takes a0 (44 : Int32) m13) (fun v16 m17 => (if v16 = (0 : Int32) then some (.inl (((0 : Int32), m17))) else jcl2 (f_X12_readsRule a0 m17) (fun v20 m21 => (if v20 = (0 : Int32) then some (.inl (((0 : Int32), m21))) else some (.inl (((1 : Int32), m21)))))))))
def f_X12_posts_L111 (a0 : Nat) (u36 : Int32) (m37 : jM) : Option ((Int32 × jM) ⊕ (jM)) :=
  (if ((4 : Int32) * (m37.1 a0 17)) ≤ u36 then some (.inr m37) else jrd (m37.1 (a0 + 3)) (28 : Int32) 2074 (fun v40 => jrd (m37.1 (a0 + 8)) u36 320 (fun v43 => jin (((29 : Int32) + ((4 : Int32) * v40)) + u36) 2074 (jbd (jsi m37 (a0 + 3) (((29 : Int32) + ((4 : Int32) * v40)) + u36).toNatClampNeg v43) (fun m46 => some (.inl ((u36 + (1 : Int32), m46))))))))
def f_X12_posts (a0 : Nat) (μ : jM) : Option (Int32 × jM) :=
  jbd (jsi μ a0 0 (0 : Int32)) (fun m1 => jbd (f_X12_reads a0 m1) (fun m3 => jbd (jsi m3 a0 17 (0 : Int32)) (fun m5 => jbd (fun (t7 : Int32) (m8 : jM) => jcl (jloop (fun (s : Int32 × jM) => f_X12_posts_L34 a0 s.1 s.2) jfu ((t7, m8))) (fun w24 => (if w24.1 = (0 : Int32) then some (((-1 : Int32) - (w24.2.1 a0 5), w24.2)) else jrd (w24.2.1 (a0 + 3)) (28 : Int32) 2074 (fun v31 => (if (v31 + (w24.2.1 a0 17)) ≤ (8 : Int32) then jcl (f_X12_begins a0 w24.2) (fun m34 => jcl (jloop (fun (s : Int32 × jM) => f_X12_posts_L111 a0 s.1 s.2) jfu (((0 : Int32), m34))) (fun w48 => jrd (w48.1 (a0 + 3)) (28 : Int32) 2074 (fun v53 => jin (28 : Int32) 2074 (jbd (jsi w48 (a0 + 3) (28 : Int32).toNatClampNeg (v53 + (w48.1 a0 17))) (fun m56 => jcl2 (f_X12_ends a0 (m56.1 a0 17) m56) (fun v58 m59 => some ((v58, m59)))))))) else some (((-100 : Int32), w24.2))))))) (fun k9 => jbd (fun (m61 : jM) => k9 (1 : Int32) m61) (fun k62 => (if (m5.1 a0 6) = (0 : Int32) then k62 m5 else jcl2 (f_X12_readsRule a0 m5) (fun v66 m67 => (if v66 = (0 : Int32) then k9 (0 : Int32) m67 else k62 m67))))))))
set_option maxHeartbeats 4000000 in
set_option maxRecDepth 100000 in
theorem c_X12_posts {l : Launch} {G : jG} {L : jL} (hL : jOKL L) {a0 : Nat} (ka0 : jK L a0 12) {μ μ' : jM} {r : Int32} (h : f_X12_posts a0 μ = some ((r, μ'))) : jCt l G L 10 yX12_posts cX12_posts 3 (some .int) [.ref (L.2.2 a0)] μ (some (.int r)) μ' := by
  refine jCt_of (by decide) (Nat.le_of_ble_eq_true rfl) (fun X hC hX hR => ?_)
  subst hX
  have hC : jC X G cX12_posts 3 RX12 (some .int) := hC
  unfold f_X12_posts at h
  show jJ X G 3 L 0 0 (jQM X G L (some (.int r)) μ' 0 0) 0 [(0, .ref (L.2.2 a0))] [] μ
  refine j_aload_n (pc := 0) hC 0 0 dX12_posts_0 rfl rfl ?_
  refine j_iconst (pc := 1) hC (0 : Int32) dX12_posts_1 (by decide) ?_
  obtain ⟨m1, e2, h⟩ := jbd_ex h
  refine jpi_12 (pc := 2) hC 0 (by decide) rfl kf_X12_1 dX12_posts_2 rfl (by decide) ka0 e2 ?_
  refine j_aload_n (pc := 5) hC 0 0 dX12_posts_5 rfl rfl ?_
  obtain ⟨m3, e4, h⟩ := jbd_ex h
  refine j_vv (pc := 6) hC hR [] iy_X12_reads (q := (RX12, TX12, 40)) (ci := 12) rfl rfl (by decide) km_X12_258 dX12_posts_6 rfl (by decide) ka0 (c_X12_reads hL ka0 e4.symm) (by decide) (Nat.le_of_ble_eq_true rfl) rfl ?_
  refine j_aload_n (pc := 9) hC 0 0 dX12_posts_9 rfl rfl ?_
  refine j_iconst (pc := 10) hC (0 : Int32) dX12_posts_10 (by decide) ?_
  obtain ⟨m5, e6, h⟩ := jbd_ex h
  refine jpi_12 (pc := 11) hC 17 (by decide) rfl kf_X12_238 dX12_posts_11 rfl (by decide) ka0 e6 ?_
  refine j_aload_n (pc := 14) hC 0 0 dX12_posts_14 rfl rfl ?_
  refine jgi_12 (pc := 15) hC 6 (by decide) rfl kf_X12_25 dX12_posts_15 ka0 ?_
  obtain ⟨k9, e11, h⟩ := jbd_ex h
  have q10 : ∀ (t7 : Int32) (m8 : jM), k9 t7 m8 = some ((r, μ')) → jJ X G 3 L 0 0 (jQM X G L (some (.int r)) μ' 0 0) 33 [(0, .ref (L.2.2 a0))] [.int t7] m8 := by
    intro t7 m8 h
    rw [e11] at h
    try dsimp only at h
    refine j_istore_n (pc := 33) hC 1 [(1, .int t7), (0, .ref (L.2.2 a0))] dX12_posts_33 rfl (by decide) rfl rfl ?_
    obtain ⟨w24, hw25, h⟩ := jcl_some h
    refine j_lv [1, 0] rfl ?_
    refine j_loop (step := (fun (s : Int32 × jM) => f_X12_posts_L34 a0 s.1 s.2)) (P := (fun (s : Int32 × jM) => jJ X G 3 L 0 0 (jQM X G L (some (.int r)) μ' 0 0) 34 [(0, .ref (L.2.2 a0)), (1, .int s.1)] [] s.2)) (R := (fun (e : Int32 × jM) => jJ X G 3 L 0 0 (jQM X G L (some (.int r)) μ' 0 0) 74 [(0, .ref (L.2.2 a0)), (1, .int e.1)] [] e.2)) ?_ jfu ((t7, m8)) w24 hw25 ?_
    · intro s26 o h hk
      obtain ⟨u12, m13⟩ := s26
      change f_X12_posts_L34 a0 u12 m13 = some o at h
      unfold f_X12_posts_L34 at h
      show jJ X G 3 L 0 0 (jQM X G L (some (.int r)) μ' 0 0) 34 [(0, .ref (L.2.2 a0)), (1, .int u12)] [] m13
      refine j_iload_n (pc := 34) hC 1 1 dX12_posts_34 rfl rfl ?_
      refine j_if_eq (pc := 35) hC 74 dX12_posts_35 (by decide) (fun c14 => ?_) (fun c14 => ?_)
      · rw [if_pos c14] at h
        obtain rfl := Option.some.inj h
        have hk : jJ X G 3 L 0 0 (jQM X G L (some (.int r)) μ' 0 0) 74 [(0, .ref (L.2.2 a0)), (1, .int u12)] [] m13 := hk
        exact j_lv [0, 1] rfl hk
      · rw [if_neg c14] at h
        refine j_aload_n (pc := 38) hC 0 0 dX12_posts_38 rfl rfl ?_
        refine jgi_12 (pc := 39) hC 5 (by decide) rfl kf_X12_28 dX12_posts_39 ka0 ?_
        refine j_aload_n (pc := 42) hC 0 0 dX12_posts_42 rfl rfl ?_
        refine jgi_12 (pc := 43) hC 6 (by decide) rfl kf_X12_25 dX12_posts_43 ka0 ?_
        refine j_icmp_ge (pc := 46) hC 74 dX12_posts_46 (by decide) (fun c15 => ?_) (fun c15 => ?_)
        · rw [if_pos c15] at h
          obtain rfl := Option.some.inj h
          have hk : jJ X G 3 L 0 0 (jQM X G L (some (.int r)) μ' 0 0) 74 [(0, .ref (L.2.2 a0)), (1, .int u12)] [] m13 := hk
          exact j_lv [0, 1] rfl hk
        · rw [if_neg c15] at h
          refine j_aload_n (pc := 49) hC 0 0 dX12_posts_49 rfl rfl ?_
          refine j_bipush (pc := 50) hC (44 : Int32) dX12_posts_50 (by decide) ?_
          obtain ⟨v16, m17, e18, h⟩ := jcl2_some h
          refine j_vi (pc := 52) hC hR [.int (44 : Int32)] iy_X12_takes (q := (RX12, TX12, 40)) (ci := 12) rfl rfl (by decide) km_X12_247 dX12_posts_52 rfl (by decide) ka0 (c_X12_takes hL ka0 e18) (by decide) (Nat.le_of_ble_eq_true rfl) rfl ?_
          refine j_if_eq (pc := 55) hC 69 dX12_posts_55 (by decide) (fun c19 => ?_) (fun c19 => ?_)
          · rw [if_pos c19] at h
            refine j_iconst (pc := 69) hC (0 : Int32) dX12_posts_69 (by decide) ?_
            refine j_istore_n (pc := 70) hC 1 [(1, .int (0 : Int32)), (0, .ref (L.2.2 a0))] dX12_posts_70 rfl (by decide) rfl rfl ?_
            refine j_goto (pc := 71) hC 34 dX12_posts_71 (by decide) ?_
            obtain rfl := Option.some.inj h
            have hk : jJ X G 3 L 0 0 (jQM X G L (some (.int r)) μ' 0 0) 34 [(0, .ref (L.2.2 a0)), (1, .int (0 : Int32))] [] m17 := hk
            exact j_lv [1, 0] rfl hk
          · rw [if_neg c19] at h
            refine j_aload_n (pc := 58) hC 0 0 dX12_posts_58 rfl rfl ?_
            obtain ⟨v20, m21, e22, h⟩ := jcl2_some h
            refine j_vi (pc := 59) hC hR [] iy_X12_readsRule (q := (RX12, TX12, 40)) (ci := 12) rfl rfl (by decide) km_X12_261 dX12_posts_59 rfl (by decide) ka0 (c_X12_readsRule hL ka0 e22) (by decide) (Nat.le_of_ble_eq_true rfl) rfl ?_
            refine j_if_eq (pc := 62) hC 69 dX12_posts_62 (by decide) (fun c23 => ?_) (fun c23 => ?_)
            · rw [if_pos c23] at h
              refine j_iconst (pc := 69) hC (0 : Int32) dX12_posts_69 (by decide) ?_
              refine j_istore_n (pc := 70) hC 1 [(1, .int (0 : Int32)), (0, .ref (L.2.2 a0))] dX12_posts_70 rfl (by decide) rfl rfl ?_
              refine j_goto (pc := 71) hC 34 dX12_posts_71 (by decide) ?_
              obtain rfl := Option.some.inj h
              have hk : jJ X G 3 L 0 0 (jQM X G L (some (.int r)) μ' 0 0) 34 [(0, .ref (L.2.2 a0)), (1, .int (0 : Int32))] [] m21 := hk
              exact j_lv [1, 0] rfl hk
            · rw [if_neg c23] at h
              refine j_iconst (pc := 65) hC (1 : Int32) dX12_posts_65 (by decide) ?_
              refine j_goto (pc := 66) hC 70 dX12_posts_66 (by decide) ?_
              refine j_istore_n (pc := 70) hC 1 [(1, .int (1 : Int32)), (0, .ref (L.2.2 a0))] dX12_posts_70 rfl (by decide) rfl rfl ?_
              refine j_goto (pc := 71) hC 34 dX12_posts_71 (by decide) ?_
              obtain rfl := Option.some.inj h
              have hk : jJ X G 3 L 0 0 (jQM X G L (some (.int r)) μ' 0 0) 34 [(0, .ref (L.2.2 a0)), (1, .int (1 : Int32))] [] m21 := hk
              exact j_lv [1, 0] rfl hk
    · obtain ⟨z27, m28⟩ := w24
      try dsimp only at h
      show jJ X G 3 L 0 0 (jQM X G L (some (.int r)) μ' 0 0) 74 [(0, .ref (L.2.2 a0)), (1, .int z27)] [] m28
      refine j_iload_n (pc := 74) hC 1 1 dX12_posts_74 rfl rfl ?_
      refine j_if_ne (pc := 75) hC 85 dX12_posts_75 (by decide) (fun c29 => ?_) (fun c29 => ?_)
      · rw [if_neg c29] at h
        refine j_aload_n (pc := 85) hC 0 0 dX12_posts_85 rfl rfl ?_
        refine jgr_12 (pc := 86) hC 8 (by decide) rfl kf_X12_60 dX12_posts_86 ka0 (ly_12_8 hL ka0).1 ?_
        refine j_bipush (pc := 89) hC (28 : Int32) dX12_posts_89 (by decide) ?_
        obtain ⟨i30, v31, e32, h⟩ := jrd_some h
        refine j_iald (pc := 91) hC dX12_posts_91 (ly_12_8 hL ka0).2.1 (ly_12_8 hL ka0).2.2 i30 e32 ?_
        refine j_aload_n (pc := 92) hC 0 0 dX12_posts_92 rfl rfl ?_
        refine jgi_12 (pc := 93) hC 17 (by decide) rfl kf_X12_238 dX12_posts_93 ka0 ?_
        refine j_iadd (pc := 96) hC dX12_posts_96 ?_
        refine j_bipush (pc := 97) hC (8 : Int32) dX12_posts_97 (by decide) ?_
        refine j_icmp_le (pc := 99) hC 105 dX12_posts_99 (by decide) (fun c33 => ?_) (fun c33 => ?_)
        · rw [if_pos c33] at h
          refine j_aload_n (pc := 105) hC 0 0 dX12_posts_105 rfl rfl ?_
          obtain ⟨m34, e35, h⟩ := jcl_some h
          refine j_vv (pc := 106) hC hR [] iy_X12_begins (q := (RX12, TX12, 40)) (ci := 12) rfl rfl (by decide) km_X12_170 dX12_posts_106 rfl (by decide) ka0 (c_X12_begins hL ka0 e35) (by decide) (Nat.le_of_ble_eq_true rfl) rfl ?_
          refine j_iconst (pc := 109) hC (0 : Int32) dX12_posts_109 (by decide) ?_
          refine j_istore_n (pc := 110) hC 2 [(2, .int (0 : Int32)), (0, .ref (L.2.2 a0)), (1, .int z27)] dX12_posts_110 rfl (by decide) rfl rfl ?_
          obtain ⟨w48, hw49, h⟩ := jcl_some h
          refine j_lv [1, 0] rfl ?_
          refine j_loop (step := (fun (s : Int32 × jM) => f_X12_posts_L111 a0 s.1 s.2)) (P := (fun (s : Int32 × jM) => jJ X G 3 L 0 0 (jQM X G L (some (.int r)) μ' 0 0) 111 [(0, .ref (L.2.2 a0)), (2, .int s.1)] [] s.2)) (R := (fun (e : jM) => jJ X G 3 L 0 0 (jQM X G L (some (.int r)) μ' 0 0) 152 [(0, .ref (L.2.2 a0))] [] e)) ?_ jfu (((0 : Int32), m34)) w48 hw49 ?_
          · intro s50 o h hk
            obtain ⟨u36, m37⟩ := s50
            change f_X12_posts_L111 a0 u36 m37 = some o at h
            unfold f_X12_posts_L111 at h
            show jJ X G 3 L 0 0 (jQM X G L (some (.int r)) μ' 0 0) 111 [(0, .ref (L.2.2 a0)), (2, .int u36)] [] m37
            refine j_iload_n (pc := 111) hC 2 1 dX12_posts_111 rfl rfl ?_
            refine j_iconst (pc := 112) hC (4 : Int32) dX12_posts_112 (by decide) ?_
            refine j_aload_n (pc := 113) hC 0 0 dX12_posts_113 rfl rfl ?_
            refine jgi_12 (pc := 114) hC 17 (by decide) rfl kf_X12_238 dX12_posts_114 ka0 ?_
            refine j_imul (pc := 117) hC dX12_posts_117 ?_
            refine j_icmp_ge (pc := 118) hC 152 dX12_posts_118 (by decide) (fun c38 => ?_) (fun c38 => ?_)
            · rw [if_pos c38] at h
              obtain rfl := Option.some.inj h
              have hk : jJ X G 3 L 0 0 (jQM X G L (some (.int r)) μ' 0 0) 152 [(0, .ref (L.2.2 a0))] [] m37 := hk
              exact j_lv [0] rfl hk
            · rw [if_neg c38] at h
              refine j_aload_n (pc := 121) hC 0 0 dX12_posts_121 rfl rfl ?_
              refine jgr_12 (pc := 122) hC 8 (by decide) rfl kf_X12_60 dX12_posts_122 ka0 (ly_12_8 hL ka0).1 ?_
              refine j_bipush (pc := 125) hC (29 : Int32) dX12_posts_125 (by decide) ?_
              refine j_iconst (pc := 127) hC (4 : Int32) dX12_posts_127 (by decide) ?_
              refine j_aload_n (pc := 128) hC 0 0 dX12_posts_128 rfl rfl ?_
              refine jgr_12 (pc := 129) hC 8 (by decide) rfl kf_X12_60 dX12_posts_129 ka0 (ly_12_8 hL ka0).1 ?_
              refine j_bipush (pc := 132) hC (28 : Int32) dX12_posts_132 (by decide) ?_
              obtain ⟨i39, v40, e41, h⟩ := jrd_some h
              refine j_iald (pc := 134) hC dX12_posts_134 (ly_12_8 hL ka0).2.1 (ly_12_8 hL ka0).2.2 i39 e41 ?_
              refine j_imul (pc := 135) hC dX12_posts_135 ?_
              refine j_iadd (pc := 136) hC dX12_posts_136 ?_
              refine j_iload_n (pc := 137) hC 2 1 dX12_posts_137 rfl rfl ?_
              refine j_iadd (pc := 138) hC dX12_posts_138 ?_
              refine j_aload_n (pc := 139) hC 0 0 dX12_posts_139 rfl rfl ?_
              refine jgr_12 (pc := 140) hC 16 (by decide) rfl kf_X12_75 dX12_posts_140 ka0 (ly_12_16 hL ka0).1 ?_
              refine j_iload_n (pc := 143) hC 2 1 dX12_posts_143 rfl rfl ?_
              obtain ⟨i42, v43, e44, h⟩ := jrd_some h
              refine j_iald (pc := 144) hC dX12_posts_144 (ly_12_16 hL ka0).2.1 (ly_12_16 hL ka0).2.2 i42 e44 ?_
              obtain ⟨i45, h⟩ := jin_some h
              obtain ⟨m46, e47, h⟩ := jbd_ex h
              refine j_iast (pc := 145) hC dX12_posts_145 (ly_12_8 hL ka0).2.1 (ly_12_8 hL ka0).2.2 i45 e47 ?_
              refine j_iinc (pc := 146) hC 1 (u36 + (1 : Int32)) [(2, .int (u36 + (1 : Int32))), (0, .ref (L.2.2 a0))] dX12_posts_146 rfl rfl (by decide) rfl ?_
              refine j_goto (pc := 149) hC 111 dX12_posts_149 (by decide) ?_
              obtain rfl := Option.some.inj h
              have hk : jJ X G 3 L 0 0 (jQM X G L (some (.int r)) μ' 0 0) 111 [(0, .ref (L.2.2 a0)), (2, .int (u36 + (1 : Int32)))] [] m46 := hk
              exact j_lv [1, 0] rfl hk
          · obtain ⟨m51, rfl⟩ : ∃ y, y = w48 := ⟨_, rfl⟩
            try dsimp only at h
            show jJ X G 3 L 0 0 (jQM X G L (some (.int r)) μ' 0 0) 152 [(0, .ref (L.2.2 a0))] [] m51
            refine j_aload_n (pc := 152) hC 0 0 dX12_posts_152 rfl rfl ?_
            refine jgr_12 (pc := 153) hC 8 (by decide) rfl kf_X12_60 dX12_posts_153 ka0 (ly_12_8 hL ka0).1 ?_
            refine j_bipush (pc := 156) hC (28 : Int32) dX12_posts_156 (by decide) ?_
            refine j_dup2 (pc := 158) hC dX12_posts_158 rfl rfl ?_
            obtain ⟨i52, v53, e54, h⟩ := jrd_some h
            refine j_iald (pc := 159) hC dX12_posts_159 (ly_12_8 hL ka0).2.1 (ly_12_8 hL ka0).2.2 i52 e54 ?_
            refine j_aload_n (pc := 160) hC 0 0 dX12_posts_160 rfl rfl ?_
            refine jgi_12 (pc := 161) hC 17 (by decide) rfl kf_X12_238 dX12_posts_161 ka0 ?_
            refine j_iadd (pc := 164) hC dX12_posts_164 ?_
            obtain ⟨i55, h⟩ := jin_some h
            obtain ⟨m56, e57, h⟩ := jbd_ex h
            refine j_iast (pc := 165) hC dX12_posts_165 (ly_12_8 hL ka0).2.1 (ly_12_8 hL ka0).2.2 i55 e57 ?_
            refine j_aload_n (pc := 166) hC 0 0 dX12_posts_166 rfl rfl ?_
            refine j_aload_n (pc := 167) hC 0 0 dX12_posts_167 rfl rfl ?_
            refine jgi_12 (pc := 168) hC 17 (by decide) rfl kf_X12_238 dX12_posts_168 ka0 ?_
            obtain ⟨v58, m59, e60, h⟩ := jcl2_some h
            refine j_vi (pc := 171) hC hR [.int (m56.1 a0 17)] iy_X12_ends (q := (RX12, TX12, 40)) (ci := 12) rfl rfl (by decide) km_X12_195 dX12_posts_171 rfl (by decide) ka0 (c_X12_ends hL ka0 e60) (by decide) (Nat.le_of_ble_eq_true rfl) rfl ?_
            obtain ⟨rfl, rfl⟩ := Prod.mk.inj (Option.some.inj h)
            exact j_iret (pc := 174) hC dX12_posts_174 rfl
        · rw [if_neg c33] at h
          refine j_bipush (pc := 102) hC (-100 : Int32) dX12_posts_102 (by decide) ?_
          obtain ⟨rfl, rfl⟩ := Prod.mk.inj (Option.some.inj h)
          exact j_iret (pc := 104) hC dX12_posts_104 rfl
      · rw [if_pos c29] at h
        refine j_iconst (pc := 78) hC (-1 : Int32) dX12_posts_78 (by decide) ?_
        refine j_aload_n (pc := 79) hC 0 0 dX12_posts_79 rfl rfl ?_
        refine jgi_12 (pc := 80) hC 5 (by decide) rfl kf_X12_28 dX12_posts_80 ka0 ?_
        refine j_isub (pc := 83) hC dX12_posts_83 ?_
        obtain ⟨rfl, rfl⟩ := Prod.mk.inj (Option.some.inj h)
        exact j_iret (pc := 84) hC dX12_posts_84 rfl
  obtain ⟨k62, e64, h⟩ := jbd_ex h
  have q63 : ∀ (m61 : jM), k62 m61 = some ((r, μ')) → jJ X G 3 L 0 0 (jQM X G L (some (.int r)) μ' 0 0) 28 [(0, .ref (L.2.2 a0))] [] m61 := by
    intro m61 h
    rw [e64] at h
    try dsimp only at h
    refine j_iconst (pc := 28) hC (1 : Int32) dX12_posts_28 (by decide) ?_
    refine j_goto (pc := 29) hC 33 dX12_posts_29 (by decide) ?_
    exact j_lv [0] rfl (q10 _ _ h)
  refine j_if_eq (pc := 18) hC 28 dX12_posts_18 (by decide) (fun c65 => ?_) (fun c65 => ?_)
  · rw [if_pos c65] at h
    exact j_lv [0] rfl (q63 _ h)
  · rw [if_neg c65] at h
    refine j_aload_n (pc := 21) hC 0 0 dX12_posts_21 rfl rfl ?_
    obtain ⟨v66, m67, e68, h⟩ := jcl2_some h
    refine j_vi (pc := 22) hC hR [] iy_X12_readsRule (q := (RX12, TX12, 40)) (ci := 12) rfl rfl (by decide) km_X12_261 dX12_posts_22 rfl (by decide) ka0 (c_X12_readsRule hL ka0 e68) (by decide) (Nat.le_of_ble_eq_true rfl) rfl ?_
    refine j_if_eq (pc := 25) hC 32 dX12_posts_25 (by decide) (fun c69 => ?_) (fun c69 => ?_)
    · rw [if_pos c69] at h
      refine j_iconst (pc := 32) hC (0 : Int32) dX12_posts_32 (by decide) ?_
      exact j_lv [0] rfl (q10 _ _ h)
    · rw [if_neg c69] at h
      exact j_lv [0] rfl (q63 _ h)
theorem dX12_lifts_0 : decode cX12_lifts 0 = .ok (.aload_n 0, 1) := by decide +kernel
theorem dX12_lifts_1 : decode cX12_lifts 1 = .ok (.iconst 0, 1) := by decide +kernel
theorem dX12_lifts_2 : decode cX12_lifts 2 = .ok (.putfield 1, 3) := by decide +kernel
theorem dX12_lifts_5 : decode cX12_lifts 5 = .ok (.iload_n 1, 1) := by decide +kernel
theorem dX12_lifts_6 : decode cX12_lifts 6 = .ok (.i2l, 1) := by decide +kernel
theorem dX12_lifts_7 : decode cX12_lifts 7 = .ok (.lconst 0, 1) := by decide +kernel
theorem dX12_lifts_8 : decode cX12_lifts 8 = .ok (.aload_n 0, 1) := by decide +kernel
theorem dX12_lifts_9 : decode cX12_lifts 9 = .ok (.getfield 60, 3) := by decide +kernel
theorem dX12_lifts_12 : decode cX12_lifts 12 = .ok (.bipush 28, 2) := by decide +kernel
theorem dX12_lifts_14 : decode cX12_lifts 14 = .ok (.iaload, 1) := by decide +kernel
theorem dX12_lifts_15 : decode cX12_lifts 15 = .ok (.iconst 1, 1) := by decide +kernel
theorem dX12_lifts_16 : decode cX12_lifts 16 = .ok (.isub, 1) := by decide +kernel
theorem dX12_lifts_17 : decode cX12_lifts 17 = .ok (.i2l, 1) := by decide +kernel
theorem dX12_lifts_18 : decode cX12_lifts 18 = .ok (.invokestatic 21, 3) := by decide +kernel
theorem dX12_lifts_21 : decode cX12_lifts 21 = .ok (.ifCond .ne 5, 3) := by decide +kernel
theorem dX12_lifts_24 : decode cX12_lifts 24 = .ok (.iconst (-1), 1) := by decide +kernel
theorem dX12_lifts_25 : decode cX12_lifts 25 = .ok (.ireturn, 1) := by decide +kernel
theorem dX12_lifts_26 : decode cX12_lifts 26 = .ok (.aload_n 0, 1) := by decide +kernel
theorem dX12_lifts_27 : decode cX12_lifts 27 = .ok (.invokevirtual 170, 3) := by decide +kernel
theorem dX12_lifts_30 : decode cX12_lifts 30 = .ok (.aload_n 0, 1) := by decide +kernel
theorem dX12_lifts_31 : decode cX12_lifts 31 = .ok (.getfield 60, 3) := by decide +kernel
theorem dX12_lifts_34 : decode cX12_lifts 34 = .ok (.bipush 28, 2) := by decide +kernel
theorem dX12_lifts_36 : decode cX12_lifts 36 = .ok (.dup2, 1) := by decide +kernel
theorem dX12_lifts_37 : decode cX12_lifts 37 = .ok (.iaload, 1) := by decide +kernel
theorem dX12_lifts_38 : decode cX12_lifts 38 = .ok (.iconst 1, 1) := by decide +kernel
theorem dX12_lifts_39 : decode cX12_lifts 39 = .ok (.isub, 1) := by decide +kernel
theorem dX12_lifts_40 : decode cX12_lifts 40 = .ok (.iastore, 1) := by decide +kernel
theorem dX12_lifts_41 : decode cX12_lifts 41 = .ok (.iconst 4, 1) := by decide +kernel
theorem dX12_lifts_42 : decode cX12_lifts 42 = .ok (.iload_n 1, 1) := by decide +kernel
theorem dX12_lifts_43 : decode cX12_lifts 43 = .ok (.imul, 1) := by decide +kernel
theorem dX12_lifts_44 : decode cX12_lifts 44 = .ok (.istore_n 2, 1) := by decide +kernel
theorem dX12_lifts_45 : decode cX12_lifts 45 = .ok (.iload_n 2, 1) := by decide +kernel
theorem dX12_lifts_46 : decode cX12_lifts 46 = .ok (.iconst 4, 1) := by decide +kernel
theorem dX12_lifts_47 : decode cX12_lifts 47 = .ok (.aload_n 0, 1) := by decide +kernel
theorem dX12_lifts_48 : decode cX12_lifts 48 = .ok (.getfield 60, 3) := by decide +kernel
theorem dX12_lifts_51 : decode cX12_lifts 51 = .ok (.bipush 28, 2) := by decide +kernel
theorem dX12_lifts_53 : decode cX12_lifts 53 = .ok (.iaload, 1) := by decide +kernel
theorem dX12_lifts_54 : decode cX12_lifts 54 = .ok (.imul, 1) := by decide +kernel
theorem dX12_lifts_55 : decode cX12_lifts 55 = .ok (.if_icmp .ge 29, 3) := by decide +kernel
theorem dX12_lifts_58 : decode cX12_lifts 58 = .ok (.aload_n 0, 1) := by decide +kernel
theorem dX12_lifts_59 : decode cX12_lifts 59 = .ok (.getfield 60, 3) := by decide +kernel
theorem dX12_lifts_62 : decode cX12_lifts 62 = .ok (.bipush 29, 2) := by decide +kernel
theorem dX12_lifts_64 : decode cX12_lifts 64 = .ok (.iload_n 2, 1) := by decide +kernel
theorem dX12_lifts_65 : decode cX12_lifts 65 = .ok (.iadd, 1) := by decide +kernel
theorem dX12_lifts_66 : decode cX12_lifts 66 = .ok (.aload_n 0, 1) := by decide +kernel
theorem dX12_lifts_67 : decode cX12_lifts 67 = .ok (.getfield 60, 3) := by decide +kernel
theorem dX12_lifts_70 : decode cX12_lifts 70 = .ok (.bipush 29, 2) := by decide +kernel
theorem dX12_lifts_72 : decode cX12_lifts 72 = .ok (.iload_n 2, 1) := by decide +kernel
theorem dX12_lifts_73 : decode cX12_lifts 73 = .ok (.iadd, 1) := by decide +kernel
theorem dX12_lifts_74 : decode cX12_lifts 74 = .ok (.iconst 4, 1) := by decide +kernel
theorem dX12_lifts_75 : decode cX12_lifts 75 = .ok (.iadd, 1) := by decide +kernel
theorem dX12_lifts_76 : decode cX12_lifts 76 = .ok (.iaload, 1) := by decide +kernel
theorem dX12_lifts_77 : decode cX12_lifts 77 = .ok (.iastore, 1) := by decide +kernel
theorem dX12_lifts_78 : decode cX12_lifts 78 = .ok (.iinc 2 1, 3) := by decide +kernel
theorem dX12_lifts_81 : decode cX12_lifts 81 = .ok (.goto (-36), 3) := by decide +kernel
theorem dX12_lifts_84 : decode cX12_lifts 84 = .ok (.aload_n 0, 1) := by decide +kernel
theorem dX12_lifts_85 : decode cX12_lifts 85 = .ok (.aload_n 0, 1) := by decide +kernel
theorem dX12_lifts_86 : decode cX12_lifts 86 = .ok (.getfield 60, 3) := by decide +kernel
theorem dX12_lifts_89 : decode cX12_lifts 89 = .ok (.bipush 28, 2) := by decide +kernel
theorem dX12_lifts_91 : decode cX12_lifts 91 = .ok (.iaload, 1) := by decide +kernel
theorem dX12_lifts_92 : decode cX12_lifts 92 = .ok (.invokevirtual 195, 3) := by decide +kernel
theorem dX12_lifts_95 : decode cX12_lifts 95 = .ok (.ireturn, 1) := by decide +kernel
def f_X12_lifts_L45 (a0 : Nat) (u15 : Int32) (m16 : jM) : Option ((Int32 × jM) ⊕ (jM)) :=
  jrd (m16.1 (a0 + 3)) (28 : Int32) 2074 (fun v18 => (if ((4 : Int32) * v18) ≤ u15 then some (.inr m16) else jrd (m16.1 (a0 + 3)) (((29 : Int32) + u15) + (4 : Int32)) 2074 (fun v22 => jin ((29 : Int32) + u15) 2074 (jbd (jsi m16 (a0 + 3) ((29 : Int32) + u15).toNatClampNeg v22) (fun m25 => some (.inl ((u15 + (1 : Int32), m25))))))))
def f_X12_lifts (a0 : Nat) (x1 : Int32) (μ : jM) : Option (Int32 × jM) :=
  jbd (jsi μ a0 0 (0 : Int32)) (fun m1 => jrd (m1.1 (a0 + 3)) (28 : Int32) 2074 (fun v4 => (if (f_X12_in x1.toInt64 (0 : Int64) ((v4 - (1 : Int32)).toInt64)) = (0 : Int32) then some (((-1 : Int32), m1)) else jcl (f_X12_begins a0 m1) (fun m7 => jrd (m7.1 (a0 + 3)) (28 : Int32) 2074 (fun v10 => jin (28 : Int32) 2074 (jbd (jsi m7 (a0 + 3) (28 : Int32).toNatClampNeg (v10 - (1 : Int32))) (fun m13 => jcl (jloop (fun (s : Int32 × jM) => f_X12_lifts_L45 a0 s.1 s.2) jfu (((4 : Int32) * x1, m13))) (fun w27 => jrd (w27.1 (a0 + 3)) (28 : Int32) 2074 (fun v32 => jcl2 (f_X12_ends a0 v32 w27) (fun v34 m35 => some ((v34, m35))))))))))))
set_option maxHeartbeats 4000000 in
set_option maxRecDepth 100000 in
theorem c_X12_lifts {l : Launch} {G : jG} {L : jL} (hL : jOKL L) {a0 : Nat} {x1 : Int32} (ka0 : jK L a0 12) {μ μ' : jM} {r : Int32} (h : f_X12_lifts a0 x1 μ = some ((r, μ'))) : jCt l G L 7 yX12_lifts cX12_lifts 3 (some .int) [.ref (L.2.2 a0), .int x1] μ (some (.int r)) μ' := by
  refine jCt_of (by decide) (Nat.le_of_ble_eq_true rfl) (fun X hC hX hR => ?_)
  subst hX
  have hC : jC X G cX12_lifts 3 RX12 (some .int) := hC
  unfold f_X12_lifts at h
  show jJ X G 3 L 0 0 (jQM X G L (some (.int r)) μ' 0 0) 0 [(0, .ref (L.2.2 a0)), (1, .int x1)] [] μ
  refine j_aload_n (pc := 0) hC 0 0 dX12_lifts_0 rfl rfl ?_
  refine j_iconst (pc := 1) hC (0 : Int32) dX12_lifts_1 (by decide) ?_
  obtain ⟨m1, e2, h⟩ := jbd_ex h
  refine jpi_12 (pc := 2) hC 0 (by decide) rfl kf_X12_1 dX12_lifts_2 rfl (by decide) ka0 e2 ?_
  refine j_iload_n (pc := 5) hC 1 1 dX12_lifts_5 rfl rfl ?_
  refine j_i2l (pc := 6) hC dX12_lifts_6 ?_
  refine j_lconst (pc := 7) hC (0 : Int64) dX12_lifts_7 (by decide) ?_
  refine j_aload_n (pc := 8) hC 0 0 dX12_lifts_8 rfl rfl ?_
  refine jgr_12 (pc := 9) hC 8 (by decide) rfl kf_X12_60 dX12_lifts_9 ka0 (ly_12_8 hL ka0).1 ?_
  refine j_bipush (pc := 12) hC (28 : Int32) dX12_lifts_12 (by decide) ?_
  obtain ⟨i3, v4, e5, h⟩ := jrd_some h
  refine j_iald (pc := 14) hC dX12_lifts_14 (ly_12_8 hL ka0).2.1 (ly_12_8 hL ka0).2.2 i3 e5 ?_
  refine j_iconst (pc := 15) hC (1 : Int32) dX12_lifts_15 (by decide) ?_
  refine j_isub (pc := 16) hC dX12_lifts_16 ?_
  refine j_i2l (pc := 17) hC dX12_lifts_17 ?_
  refine j_si (pc := 18) hC hR [.long x1.toInt64, .long (0 : Int64), .long ((v4 - (1 : Int32)).toInt64)] iy_X12_in km_X12_21 dX12_lifts_18 rfl (by decide) (c_X12_in hL  rfl) (by decide) (Nat.le_of_ble_eq_true rfl) rfl ?_
  refine j_if_ne (pc := 21) hC 26 dX12_lifts_21 (by decide) (fun c6 => ?_) (fun c6 => ?_)
  · rw [if_neg c6] at h
    refine j_aload_n (pc := 26) hC 0 0 dX12_lifts_26 rfl rfl ?_
    obtain ⟨m7, e8, h⟩ := jcl_some h
    refine j_vv (pc := 27) hC hR [] iy_X12_begins (q := (RX12, TX12, 40)) (ci := 12) rfl rfl (by decide) km_X12_170 dX12_lifts_27 rfl (by decide) ka0 (c_X12_begins hL ka0 e8) (by decide) (Nat.le_of_ble_eq_true rfl) rfl ?_
    refine j_aload_n (pc := 30) hC 0 0 dX12_lifts_30 rfl rfl ?_
    refine jgr_12 (pc := 31) hC 8 (by decide) rfl kf_X12_60 dX12_lifts_31 ka0 (ly_12_8 hL ka0).1 ?_
    refine j_bipush (pc := 34) hC (28 : Int32) dX12_lifts_34 (by decide) ?_
    refine j_dup2 (pc := 36) hC dX12_lifts_36 rfl rfl ?_
    obtain ⟨i9, v10, e11, h⟩ := jrd_some h
    refine j_iald (pc := 37) hC dX12_lifts_37 (ly_12_8 hL ka0).2.1 (ly_12_8 hL ka0).2.2 i9 e11 ?_
    refine j_iconst (pc := 38) hC (1 : Int32) dX12_lifts_38 (by decide) ?_
    refine j_isub (pc := 39) hC dX12_lifts_39 ?_
    obtain ⟨i12, h⟩ := jin_some h
    obtain ⟨m13, e14, h⟩ := jbd_ex h
    refine j_iast (pc := 40) hC dX12_lifts_40 (ly_12_8 hL ka0).2.1 (ly_12_8 hL ka0).2.2 i12 e14 ?_
    refine j_iconst (pc := 41) hC (4 : Int32) dX12_lifts_41 (by decide) ?_
    refine j_iload_n (pc := 42) hC 1 1 dX12_lifts_42 rfl rfl ?_
    refine j_imul (pc := 43) hC dX12_lifts_43 ?_
    refine j_istore_n (pc := 44) hC 2 [(2, .int ((4 : Int32) * x1)), (0, .ref (L.2.2 a0)), (1, .int x1)] dX12_lifts_44 rfl (by decide) rfl rfl ?_
    obtain ⟨w27, hw28, h⟩ := jcl_some h
    refine j_lv [1, 0] rfl ?_
    refine j_loop (step := (fun (s : Int32 × jM) => f_X12_lifts_L45 a0 s.1 s.2)) (P := (fun (s : Int32 × jM) => jJ X G 3 L 0 0 (jQM X G L (some (.int r)) μ' 0 0) 45 [(0, .ref (L.2.2 a0)), (2, .int s.1)] [] s.2)) (R := (fun (e : jM) => jJ X G 3 L 0 0 (jQM X G L (some (.int r)) μ' 0 0) 84 [(0, .ref (L.2.2 a0))] [] e)) ?_ jfu (((4 : Int32) * x1, m13)) w27 hw28 ?_
    · intro s29 o h hk
      obtain ⟨u15, m16⟩ := s29
      change f_X12_lifts_L45 a0 u15 m16 = some o at h
      unfold f_X12_lifts_L45 at h
      show jJ X G 3 L 0 0 (jQM X G L (some (.int r)) μ' 0 0) 45 [(0, .ref (L.2.2 a0)), (2, .int u15)] [] m16
      refine j_iload_n (pc := 45) hC 2 1 dX12_lifts_45 rfl rfl ?_
      refine j_iconst (pc := 46) hC (4 : Int32) dX12_lifts_46 (by decide) ?_
      refine j_aload_n (pc := 47) hC 0 0 dX12_lifts_47 rfl rfl ?_
      refine jgr_12 (pc := 48) hC 8 (by decide) rfl kf_X12_60 dX12_lifts_48 ka0 (ly_12_8 hL ka0).1 ?_
      refine j_bipush (pc := 51) hC (28 : Int32) dX12_lifts_51 (by decide) ?_
      obtain ⟨i17, v18, e19, h⟩ := jrd_some h
      refine j_iald (pc := 53) hC dX12_lifts_53 (ly_12_8 hL ka0).2.1 (ly_12_8 hL ka0).2.2 i17 e19 ?_
      refine j_imul (pc := 54) hC dX12_lifts_54 ?_
      refine j_icmp_ge (pc := 55) hC 84 dX12_lifts_55 (by decide) (fun c20 => ?_) (fun c20 => ?_)
      · rw [if_pos c20] at h
        obtain rfl := Option.some.inj h
        have hk : jJ X G 3 L 0 0 (jQM X G L (some (.int r)) μ' 0 0) 84 [(0, .ref (L.2.2 a0))] [] m16 := hk
        exact j_lv [0] rfl hk
      · rw [if_neg c20] at h
        refine j_aload_n (pc := 58) hC 0 0 dX12_lifts_58 rfl rfl ?_
        refine jgr_12 (pc := 59) hC 8 (by decide) rfl kf_X12_60 dX12_lifts_59 ka0 (ly_12_8 hL ka0).1 ?_
        refine j_bipush (pc := 62) hC (29 : Int32) dX12_lifts_62 (by decide) ?_
        refine j_iload_n (pc := 64) hC 2 1 dX12_lifts_64 rfl rfl ?_
        refine j_iadd (pc := 65) hC dX12_lifts_65 ?_
        refine j_aload_n (pc := 66) hC 0 0 dX12_lifts_66 rfl rfl ?_
        refine jgr_12 (pc := 67) hC 8 (by decide) rfl kf_X12_60 dX12_lifts_67 ka0 (ly_12_8 hL ka0).1 ?_
        refine j_bipush (pc := 70) hC (29 : Int32) dX12_lifts_70 (by decide) ?_
        refine j_iload_n (pc := 72) hC 2 1 dX12_lifts_72 rfl rfl ?_
        refine j_iadd (pc := 73) hC dX12_lifts_73 ?_
        refine j_iconst (pc := 74) hC (4 : Int32) dX12_lifts_74 (by decide) ?_
        refine j_iadd (pc := 75) hC dX12_lifts_75 ?_
        obtain ⟨i21, v22, e23, h⟩ := jrd_some h
        refine j_iald (pc := 76) hC dX12_lifts_76 (ly_12_8 hL ka0).2.1 (ly_12_8 hL ka0).2.2 i21 e23 ?_
        obtain ⟨i24, h⟩ := jin_some h
        obtain ⟨m25, e26, h⟩ := jbd_ex h
        refine j_iast (pc := 77) hC dX12_lifts_77 (ly_12_8 hL ka0).2.1 (ly_12_8 hL ka0).2.2 i24 e26 ?_
        refine j_iinc (pc := 78) hC 1 (u15 + (1 : Int32)) [(2, .int (u15 + (1 : Int32))), (0, .ref (L.2.2 a0))] dX12_lifts_78 rfl rfl (by decide) rfl ?_
        refine j_goto (pc := 81) hC 45 dX12_lifts_81 (by decide) ?_
        obtain rfl := Option.some.inj h
        have hk : jJ X G 3 L 0 0 (jQM X G L (some (.int r)) μ' 0 0) 45 [(0, .ref (L.2.2 a0)), (2, .int (u15 + (1 : Int32)))] [] m25 := hk
        exact j_lv [1, 0] rfl hk
    · obtain ⟨m30, rfl⟩ : ∃ y, y = w27 := ⟨_, rfl⟩
      try dsimp only at h
      show jJ X G 3 L 0 0 (jQM X G L (some (.int r)) μ' 0 0) 84 [(0, .ref (L.2.2 a0))] [] m30
      refine j_aload_n (pc := 84) hC 0 0 dX12_lifts_84 rfl rfl ?_
      refine j_aload_n (pc := 85) hC 0 0 dX12_lifts_85 rfl rfl ?_
      refine jgr_12 (pc := 86) hC 8 (by decide) rfl kf_X12_60 dX12_lifts_86 ka0 (ly_12_8 hL ka0).1 ?_
      refine j_bipush (pc := 89) hC (28 : Int32) dX12_lifts_89 (by decide) ?_
      obtain ⟨i31, v32, e33, h⟩ := jrd_some h
      refine j_iald (pc := 91) hC dX12_lifts_91 (ly_12_8 hL ka0).2.1 (ly_12_8 hL ka0).2.2 i31 e33 ?_
      obtain ⟨v34, m35, e36, h⟩ := jcl2_some h
      refine j_vi (pc := 92) hC hR [.int v32] iy_X12_ends (q := (RX12, TX12, 40)) (ci := 12) rfl rfl (by decide) km_X12_195 dX12_lifts_92 rfl (by decide) ka0 (c_X12_ends hL ka0 e36) (by decide) (Nat.le_of_ble_eq_true rfl) rfl ?_
      obtain ⟨rfl, rfl⟩ := Prod.mk.inj (Option.some.inj h)
      exact j_iret (pc := 95) hC dX12_lifts_95 rfl
  · rw [if_pos c6] at h
    refine j_iconst (pc := 24) hC (-1 : Int32) dX12_lifts_24 (by decide) ?_
    obtain ⟨rfl, rfl⟩ := Prod.mk.inj (Option.some.inj h)
    exact j_iret (pc := 25) hC dX12_lifts_25 rfl
theorem dX12_holds_0 : decode cX12_holds 0 = .ok (.iload_n 0, 1) := by decide +kernel
theorem dX12_holds_1 : decode cX12_holds 1 = .ok (.ifCond .ne 18, 3) := by decide +kernel
theorem dX12_holds_4 : decode cX12_holds 4 = .ok (.iload_n 1, 1) := by decide +kernel
theorem dX12_holds_5 : decode cX12_holds 5 = .ok (.iload_n 2, 1) := by decide +kernel
theorem dX12_holds_6 : decode cX12_holds 6 = .ok (.iload_n 3, 1) := by decide +kernel
theorem dX12_holds_7 : decode cX12_holds 7 = .ok (.iadd, 1) := by decide +kernel
theorem dX12_holds_8 : decode cX12_holds 8 = .ok (.if_icmp .ge 7, 3) := by decide +kernel
theorem dX12_holds_11 : decode cX12_holds 11 = .ok (.iconst 1, 1) := by decide +kernel
theorem dX12_holds_12 : decode cX12_holds 12 = .ok (.goto 39, 3) := by decide +kernel
theorem dX12_holds_15 : decode cX12_holds 15 = .ok (.iconst 0, 1) := by decide +kernel
theorem dX12_holds_16 : decode cX12_holds 16 = .ok (.goto 35, 3) := by decide +kernel
theorem dX12_holds_19 : decode cX12_holds 19 = .ok (.iload_n 0, 1) := by decide +kernel
theorem dX12_holds_20 : decode cX12_holds 20 = .ok (.iconst 1, 1) := by decide +kernel
theorem dX12_holds_21 : decode cX12_holds 21 = .ok (.if_icmp .ne 18, 3) := by decide +kernel
theorem dX12_holds_24 : decode cX12_holds 24 = .ok (.iload_n 1, 1) := by decide +kernel
theorem dX12_holds_25 : decode cX12_holds 25 = .ok (.iload_n 2, 1) := by decide +kernel
theorem dX12_holds_26 : decode cX12_holds 26 = .ok (.iload_n 3, 1) := by decide +kernel
theorem dX12_holds_27 : decode cX12_holds 27 = .ok (.iadd, 1) := by decide +kernel
theorem dX12_holds_28 : decode cX12_holds 28 = .ok (.if_icmp .ne 7, 3) := by decide +kernel
theorem dX12_holds_31 : decode cX12_holds 31 = .ok (.iconst 1, 1) := by decide +kernel
theorem dX12_holds_32 : decode cX12_holds 32 = .ok (.goto 19, 3) := by decide +kernel
theorem dX12_holds_35 : decode cX12_holds 35 = .ok (.iconst 0, 1) := by decide +kernel
theorem dX12_holds_36 : decode cX12_holds 36 = .ok (.goto 15, 3) := by decide +kernel
theorem dX12_holds_39 : decode cX12_holds 39 = .ok (.iload_n 1, 1) := by decide +kernel
theorem dX12_holds_40 : decode cX12_holds 40 = .ok (.iload_n 2, 1) := by decide +kernel
theorem dX12_holds_41 : decode cX12_holds 41 = .ok (.iload_n 3, 1) := by decide +kernel
theorem dX12_holds_42 : decode cX12_holds 42 = .ok (.iadd, 1) := by decide +kernel
theorem dX12_holds_43 : decode cX12_holds 43 = .ok (.if_icmp .eq 7, 3) := by decide +kernel
theorem dX12_holds_46 : decode cX12_holds 46 = .ok (.iconst 1, 1) := by decide +kernel
theorem dX12_holds_47 : decode cX12_holds 47 = .ok (.goto 4, 3) := by decide +kernel
theorem dX12_holds_50 : decode cX12_holds 50 = .ok (.iconst 0, 1) := by decide +kernel
theorem dX12_holds_51 : decode cX12_holds 51 = .ok (.ireturn, 1) := by decide +kernel
def f_X12_holds (x0 : Int32) (x1 : Int32) (x2 : Int32) (x3 : Int32) : Int32 :=
  (if x0 = (0 : Int32) then (if (x2 + x3) ≤ x1 then (0 : Int32) else (1 : Int32)) else (if x0 = (1 : Int32) then (if x1 = (x2 + x3) then (1 : Int32) else (0 : Int32)) else (if x1 = (x2 + x3) then (0 : Int32) else (1 : Int32))))
set_option maxHeartbeats 4000000 in
set_option maxRecDepth 100000 in
theorem c_X12_holds {l : Launch} {G : jG} {L : jL} (hL : jOKL L) {x0 : Int32} {x1 : Int32} {x2 : Int32} {x3 : Int32}  {μ : jM} {r : Int32} (h : f_X12_holds x0 x1 x2 x3 = r) : jCt l G L 3 yX12_holds cX12_holds 4 (some .boolean) [.int x0, .int x1, .int x2, .int x3] μ (some (.int r)) μ := by
  refine jCt_of (by decide) (Nat.le_of_ble_eq_true rfl) (fun X hC hX hR => ?_)
  subst hX
  have hC : jC X G cX12_holds 4 RX12 (some .boolean) := hC
  unfold f_X12_holds at h
  show jJ X G 4 L 0 0 (jQM X G L (some (.int r)) μ 0 0) 0 [(0, .int x0), (1, .int x1), (2, .int x2), (3, .int x3)] [] μ
  refine j_iload_n (pc := 0) hC 0 0 dX12_holds_0 rfl rfl ?_
  refine j_if_ne (pc := 1) hC 19 dX12_holds_1 (by decide) (fun c1 => ?_) (fun c1 => ?_)
  · rw [if_neg c1] at h
    refine j_iload_n (pc := 19) hC 0 0 dX12_holds_19 rfl rfl ?_
    refine j_iconst (pc := 20) hC (1 : Int32) dX12_holds_20 (by decide) ?_
    refine j_icmp_ne (pc := 21) hC 39 dX12_holds_21 (by decide) (fun c2 => ?_) (fun c2 => ?_)
    · rw [if_neg c2] at h
      refine j_iload_n (pc := 39) hC 1 1 dX12_holds_39 rfl rfl ?_
      refine j_iload_n (pc := 40) hC 2 2 dX12_holds_40 rfl rfl ?_
      refine j_iload_n (pc := 41) hC 3 3 dX12_holds_41 rfl rfl ?_
      refine j_iadd (pc := 42) hC dX12_holds_42 ?_
      refine j_icmp_eq (pc := 43) hC 50 dX12_holds_43 (by decide) (fun c3 => ?_) (fun c3 => ?_)
      · rw [if_pos c3] at h
        refine j_iconst (pc := 50) hC (0 : Int32) dX12_holds_50 (by decide) ?_
        subst h
        exact j_bret (pc := 51) hC dX12_holds_51 rfl rfl
      · rw [if_neg c3] at h
        refine j_iconst (pc := 46) hC (1 : Int32) dX12_holds_46 (by decide) ?_
        refine j_goto (pc := 47) hC 51 dX12_holds_47 (by decide) ?_
        subst h
        exact j_bret (pc := 51) hC dX12_holds_51 rfl rfl
    · rw [if_pos c2] at h
      refine j_iload_n (pc := 24) hC 1 1 dX12_holds_24 rfl rfl ?_
      refine j_iload_n (pc := 25) hC 2 2 dX12_holds_25 rfl rfl ?_
      refine j_iload_n (pc := 26) hC 3 3 dX12_holds_26 rfl rfl ?_
      refine j_iadd (pc := 27) hC dX12_holds_27 ?_
      refine j_icmp_ne (pc := 28) hC 35 dX12_holds_28 (by decide) (fun c4 => ?_) (fun c4 => ?_)
      · rw [if_neg c4] at h
        refine j_iconst (pc := 35) hC (0 : Int32) dX12_holds_35 (by decide) ?_
        refine j_goto (pc := 36) hC 51 dX12_holds_36 (by decide) ?_
        subst h
        exact j_bret (pc := 51) hC dX12_holds_51 rfl rfl
      · rw [if_pos c4] at h
        refine j_iconst (pc := 31) hC (1 : Int32) dX12_holds_31 (by decide) ?_
        refine j_goto (pc := 32) hC 51 dX12_holds_32 (by decide) ?_
        subst h
        exact j_bret (pc := 51) hC dX12_holds_51 rfl rfl
  · rw [if_pos c1] at h
    refine j_iload_n (pc := 4) hC 1 1 dX12_holds_4 rfl rfl ?_
    refine j_iload_n (pc := 5) hC 2 2 dX12_holds_5 rfl rfl ?_
    refine j_iload_n (pc := 6) hC 3 3 dX12_holds_6 rfl rfl ?_
    refine j_iadd (pc := 7) hC dX12_holds_7 ?_
    refine j_icmp_ge (pc := 8) hC 15 dX12_holds_8 (by decide) (fun c5 => ?_) (fun c5 => ?_)
    · rw [if_pos c5] at h
      refine j_iconst (pc := 15) hC (0 : Int32) dX12_holds_15 (by decide) ?_
      refine j_goto (pc := 16) hC 51 dX12_holds_16 (by decide) ?_
      subst h
      exact j_bret (pc := 51) hC dX12_holds_51 rfl rfl
    · rw [if_neg c5] at h
      refine j_iconst (pc := 11) hC (1 : Int32) dX12_holds_11 (by decide) ?_
      refine j_goto (pc := 12) hC 51 dX12_holds_12 (by decide) ?_
      subst h
      exact j_bret (pc := 51) hC dX12_holds_51 rfl rfl
theorem dX12_areUnlike_0 : decode cX12_areUnlike 0 = .ok (.iload_n 2, 1) := by decide +kernel
theorem dX12_areUnlike_1 : decode cX12_areUnlike 1 = .ok (.ifCond .ne 5, 3) := by decide +kernel
theorem dX12_areUnlike_4 : decode cX12_areUnlike 4 = .ok (.iconst 1, 1) := by decide +kernel
theorem dX12_areUnlike_5 : decode cX12_areUnlike 5 = .ok (.ireturn, 1) := by decide +kernel
theorem dX12_areUnlike_6 : decode cX12_areUnlike 6 = .ok (.iconst 0, 1) := by decide +kernel
theorem dX12_areUnlike_7 : decode cX12_areUnlike 7 = .ok (.istore 4, 2) := by decide +kernel
theorem dX12_areUnlike_9 : decode cX12_areUnlike 9 = .ok (.iload_n 2, 1) := by decide +kernel
theorem dX12_areUnlike_10 : decode cX12_areUnlike 10 = .ok (.iload 4, 2) := by decide +kernel
theorem dX12_areUnlike_12 : decode cX12_areUnlike 12 = .ok (.invokestatic 208, 3) := by decide +kernel
theorem dX12_areUnlike_15 : decode cX12_areUnlike 15 = .ok (.ifCond .ne 9, 3) := by decide +kernel
theorem dX12_areUnlike_18 : decode cX12_areUnlike 18 = .ok (.iinc 4 1, 3) := by decide +kernel
theorem dX12_areUnlike_21 : decode cX12_areUnlike 21 = .ok (.goto (-12), 3) := by decide +kernel
theorem dX12_areUnlike_24 : decode cX12_areUnlike 24 = .ok (.iconst 0, 1) := by decide +kernel
theorem dX12_areUnlike_25 : decode cX12_areUnlike 25 = .ok (.istore 5, 2) := by decide +kernel
theorem dX12_areUnlike_27 : decode cX12_areUnlike 27 = .ok (.iload 5, 2) := by decide +kernel
theorem dX12_areUnlike_29 : decode cX12_areUnlike 29 = .ok (.bipush 6, 2) := by decide +kernel
theorem dX12_areUnlike_31 : decode cX12_areUnlike 31 = .ok (.if_icmp .ge 52, 3) := by decide +kernel
theorem dX12_areUnlike_34 : decode cX12_areUnlike 34 = .ok (.aload_n 1, 1) := by decide +kernel
theorem dX12_areUnlike_35 : decode cX12_areUnlike 35 = .ok (.iload 4, 2) := by decide +kernel
theorem dX12_areUnlike_37 : decode cX12_areUnlike 37 = .ok (.iaload, 1) := by decide +kernel
theorem dX12_areUnlike_38 : decode cX12_areUnlike 38 = .ok (.iload 5, 2) := by decide +kernel
theorem dX12_areUnlike_40 : decode cX12_areUnlike 40 = .ok (.invokestatic 208, 3) := by decide +kernel
theorem dX12_areUnlike_43 : decode cX12_areUnlike 43 = .ok (.ifCond .eq 34, 3) := by decide +kernel
theorem dX12_areUnlike_46 : decode cX12_areUnlike 46 = .ok (.iload_n 3, 1) := by decide +kernel
theorem dX12_areUnlike_47 : decode cX12_areUnlike 47 = .ok (.iload 5, 2) := by decide +kernel
theorem dX12_areUnlike_49 : decode cX12_areUnlike 49 = .ok (.invokestatic 208, 3) := by decide +kernel
theorem dX12_areUnlike_52 : decode cX12_areUnlike 52 = .ok (.ifCond .ne 25, 3) := by decide +kernel
theorem dX12_areUnlike_55 : decode cX12_areUnlike 55 = .ok (.aload_n 0, 1) := by decide +kernel
theorem dX12_areUnlike_56 : decode cX12_areUnlike 56 = .ok (.aload_n 1, 1) := by decide +kernel
theorem dX12_areUnlike_57 : decode cX12_areUnlike 57 = .ok (.iload_n 2, 1) := by decide +kernel
theorem dX12_areUnlike_58 : decode cX12_areUnlike 58 = .ok (.iconst 1, 1) := by decide +kernel
theorem dX12_areUnlike_59 : decode cX12_areUnlike 59 = .ok (.iload 4, 2) := by decide +kernel
theorem dX12_areUnlike_61 : decode cX12_areUnlike 61 = .ok (.ishl, 1) := by decide +kernel
theorem dX12_areUnlike_62 : decode cX12_areUnlike 62 = .ok (.isub, 1) := by decide +kernel
theorem dX12_areUnlike_63 : decode cX12_areUnlike 63 = .ok (.iload_n 3, 1) := by decide +kernel
theorem dX12_areUnlike_64 : decode cX12_areUnlike 64 = .ok (.iconst 1, 1) := by decide +kernel
theorem dX12_areUnlike_65 : decode cX12_areUnlike 65 = .ok (.iload 5, 2) := by decide +kernel
theorem dX12_areUnlike_67 : decode cX12_areUnlike 67 = .ok (.ishl, 1) := by decide +kernel
theorem dX12_areUnlike_68 : decode cX12_areUnlike 68 = .ok (.ior, 1) := by decide +kernel
theorem dX12_areUnlike_69 : decode cX12_areUnlike 69 = .ok (.invokevirtual 264, 3) := by decide +kernel
theorem dX12_areUnlike_72 : decode cX12_areUnlike 72 = .ok (.ifCond .eq 5, 3) := by decide +kernel
theorem dX12_areUnlike_75 : decode cX12_areUnlike 75 = .ok (.iconst 1, 1) := by decide +kernel
theorem dX12_areUnlike_76 : decode cX12_areUnlike 76 = .ok (.ireturn, 1) := by decide +kernel
theorem dX12_areUnlike_77 : decode cX12_areUnlike 77 = .ok (.iinc 5 1, 3) := by decide +kernel
theorem dX12_areUnlike_80 : decode cX12_areUnlike 80 = .ok (.goto (-53), 3) := by decide +kernel
theorem dX12_areUnlike_83 : decode cX12_areUnlike 83 = .ok (.iconst 0, 1) := by decide +kernel
theorem dX12_areUnlike_84 : decode cX12_areUnlike 84 = .ok (.ireturn, 1) := by decide +kernel
def f_X12_areUnlike_L9 (x2 : Int32) (u2 : Int32) : Option ((Int32) ⊕ (Int32)) :=
  (if (f_X12_has x2 u2) = (0 : Int32) then some (.inl (u2 + (1 : Int32))) else some (.inr u2))
def f_X12_areUnlike_L27 (a0 : Nat) (a1 : Nat) (x2 : Int32) (x3 : Int32) (μ : jM) (rA : Nat → Nat → Int32 → Int32 → jM → Option (Int32)) (z7 : Int32) (u8 : Int32) : Option ((Int32) ⊕ ((Unit) ⊕ (Unit))) :=
  (if (6 : Int32) ≤ u8 then some (.inr (.inr (()))) else jrd (μ.1 a1) z7 (jlen a1) (fun v11 => (if (f_X12_has v11 u8) = (0 : Int32) then some (.inl (u8 + (1 : Int32))) else (if (f_X12_has x3 u8) = (0 : Int32) then jcl (rA a0 a1 (x2 - ((1 : Int32) <<< (z7 &&& 31))) (x3 ||| ((1 : Int32) <<< (u8 &&& 31))) μ) (fun v15 => (if v15 = (0 : Int32) then some (.inl (u8 + (1 : Int32))) else some (.inr (.inl (()))))) else some (.inl (u8 + (1 : Int32)))))))
def fb_X12_areUnlike (rA : Nat → Nat → Int32 → Int32 → jM → Option (Int32)) (a0 : Nat) (a1 : Nat) (x2 : Int32) (x3 : Int32) (μ : jM) : Option (Int32) :=
  (if x2 = (0 : Int32) then some (1 : Int32) else jcl (jloop (fun (s : Int32) => f_X12_areUnlike_L9 x2 s) jfu (0 : Int32)) (fun w4 => jcl (jloop (fun (s : Int32) => f_X12_areUnlike_L27 a0 a1 x2 x3 μ rA w4 s) jfu (0 : Int32)) (fun w18 => match w18 with | .inl w18 => some (1 : Int32) | .inr w18 => some (0 : Int32))))
set_option maxHeartbeats 4000000 in
set_option maxRecDepth 100000 in
theorem cb_X12_areUnlike {l : Launch} {G : jG} {L : jL} (hL : jOKL L) {dA : Nat} (hD : 3 ≤ dA) {rA : Nat → Nat → Int32 → Int32 → jM → Option (Int32)} (hA : ∀ {b0 : Nat} {b1 : Nat} {b2 : Int32} {b3 : Int32} {μ1 : jM} {r : Int32}, jK L b0 12 → jK L b1 13 → rA b0 b1 b2 b3 μ1 = some r → jCt l G L dA yX12_areUnlike cX12_areUnlike 6 (some .boolean) [.ref (L.2.2 b0), .ref (L.2.2 b1), .int b2, .int b3] μ1 (some (.int r)) μ1) {a0 : Nat} {a1 : Nat} {x2 : Int32} {x3 : Int32} (ka0 : jK L a0 12) (ka1 : jK L a1 13) {μ : jM} {r : Int32} (h : fb_X12_areUnlike rA a0 a1 x2 x3 μ = some r) : jCt l G L (dA + 1) yX12_areUnlike cX12_areUnlike 6 (some .boolean) [.ref (L.2.2 a0), .ref (L.2.2 a1), .int x2, .int x3] μ (some (.int r)) μ := by
  refine jCt_of (by decide) (Nat.le_of_ble_eq_true rfl) (fun X hC hX hR => ?_)
  subst hX
  have hC : jC X G cX12_areUnlike 6 RX12 (some .boolean) := hC
  unfold fb_X12_areUnlike at h
  show jJ X G 6 L 0 0 (jQM X G L (some (.int r)) μ 0 0) 0 [(0, .ref (L.2.2 a0)), (1, .ref (L.2.2 a1)), (2, .int x2), (3, .int x3)] [] μ
  refine j_iload_n (pc := 0) hC 2 2 dX12_areUnlike_0 rfl rfl ?_
  refine j_if_ne (pc := 1) hC 6 dX12_areUnlike_1 (by decide) (fun c1 => ?_) (fun c1 => ?_)
  · rw [if_neg c1] at h
    refine j_iconst (pc := 6) hC (0 : Int32) dX12_areUnlike_6 (by decide) ?_
    refine j_istore (pc := 7) hC [(4, .int (0 : Int32)), (0, .ref (L.2.2 a0)), (1, .ref (L.2.2 a1)), (2, .int x2), (3, .int x3)] dX12_areUnlike_7 (by decide) rfl rfl ?_
    obtain ⟨w4, hw5, h⟩ := jcl_some h
    refine j_lv [1, 2, 3, 4, 0] rfl ?_
    refine j_loop (step := (fun (s : Int32) => f_X12_areUnlike_L9 x2 s)) (P := (fun (s : Int32) => jJ X G 6 L 0 0 (jQM X G L (some (.int r)) μ 0 0) 9 [(0, .ref (L.2.2 a0)), (1, .ref (L.2.2 a1)), (2, .int x2), (3, .int x3), (4, .int s)] [] μ)) (R := (fun (e : Int32) => jJ X G 6 L 0 0 (jQM X G L (some (.int r)) μ 0 0) 24 [(0, .ref (L.2.2 a0)), (1, .ref (L.2.2 a1)), (2, .int x2), (3, .int x3), (4, .int e)] [] μ)) ?_ jfu (0 : Int32) w4 hw5 ?_
    · intro u2 o h hk
      change f_X12_areUnlike_L9 x2 u2 = some o at h
      unfold f_X12_areUnlike_L9 at h
      show jJ X G 6 L 0 0 (jQM X G L (some (.int r)) μ 0 0) 9 [(0, .ref (L.2.2 a0)), (1, .ref (L.2.2 a1)), (2, .int x2), (3, .int x3), (4, .int u2)] [] μ
      refine j_iload_n (pc := 9) hC 2 2 dX12_areUnlike_9 rfl rfl ?_
      refine j_iload (pc := 10) hC 4 dX12_areUnlike_10 rfl ?_
      refine j_si (pc := 12) hC hR [.int x2, .int u2] iy_X12_has km_X12_208 dX12_areUnlike_12 rfl (by decide) (c_X12_has hL  rfl) (by omega) (Nat.le_of_ble_eq_true rfl) rfl ?_
      refine j_if_ne (pc := 15) hC 24 dX12_areUnlike_15 (by decide) (fun c3 => ?_) (fun c3 => ?_)
      · rw [if_neg c3] at h
        obtain rfl := Option.some.inj h
        have hk : jJ X G 6 L 0 0 (jQM X G L (some (.int r)) μ 0 0) 24 [(0, .ref (L.2.2 a0)), (1, .ref (L.2.2 a1)), (2, .int x2), (3, .int x3), (4, .int u2)] [] μ := hk
        exact j_lv [0, 1, 2, 3, 4] rfl hk
      · rw [if_pos c3] at h
        refine j_iinc (pc := 18) hC 4 (u2 + (1 : Int32)) [(4, .int (u2 + (1 : Int32))), (0, .ref (L.2.2 a0)), (1, .ref (L.2.2 a1)), (2, .int x2), (3, .int x3)] dX12_areUnlike_18 rfl rfl (by decide) rfl ?_
        refine j_goto (pc := 21) hC 9 dX12_areUnlike_21 (by decide) ?_
        obtain rfl := Option.some.inj h
        have hk : jJ X G 6 L 0 0 (jQM X G L (some (.int r)) μ 0 0) 9 [(0, .ref (L.2.2 a0)), (1, .ref (L.2.2 a1)), (2, .int x2), (3, .int x3), (4, .int (u2 + (1 : Int32)))] [] μ := hk
        exact j_lv [1, 2, 3, 4, 0] rfl hk
    · obtain ⟨z7, rfl⟩ : ∃ y, y = w4 := ⟨_, rfl⟩
      try dsimp only at h
      show jJ X G 6 L 0 0 (jQM X G L (some (.int r)) μ 0 0) 24 [(0, .ref (L.2.2 a0)), (1, .ref (L.2.2 a1)), (2, .int x2), (3, .int x3), (4, .int z7)] [] μ
      refine j_iconst (pc := 24) hC (0 : Int32) dX12_areUnlike_24 (by decide) ?_
      refine j_istore (pc := 25) hC [(5, .int (0 : Int32)), (0, .ref (L.2.2 a0)), (1, .ref (L.2.2 a1)), (2, .int x2), (3, .int x3), (4, .int z7)] dX12_areUnlike_25 (by decide) rfl rfl ?_
      obtain ⟨w18, hw19, h⟩ := jcl_some h
      refine j_lv [1, 2, 3, 4, 5, 0] rfl ?_
      refine j_loop (step := (fun (s : Int32) => f_X12_areUnlike_L27 a0 a1 x2 x3 μ rA z7 s)) (P := (fun (s : Int32) => jJ X G 6 L 0 0 (jQM X G L (some (.int r)) μ 0 0) 27 [(0, .ref (L.2.2 a0)), (1, .ref (L.2.2 a1)), (2, .int x2), (3, .int x3), (4, .int z7), (5, .int s)] [] μ)) (R := (fun (e : (Unit) ⊕ (Unit)) => match e with | .inl e => jJ X G 6 L 0 0 (jQM X G L (some (.int r)) μ 0 0) 75 [] [] μ | .inr e => jJ X G 6 L 0 0 (jQM X G L (some (.int r)) μ 0 0) 83 [] [] μ)) ?_ jfu (0 : Int32) w18 hw19 ?_
      · intro u8 o h hk
        change f_X12_areUnlike_L27 a0 a1 x2 x3 μ rA z7 u8 = some o at h
        unfold f_X12_areUnlike_L27 at h
        show jJ X G 6 L 0 0 (jQM X G L (some (.int r)) μ 0 0) 27 [(0, .ref (L.2.2 a0)), (1, .ref (L.2.2 a1)), (2, .int x2), (3, .int x3), (4, .int z7), (5, .int u8)] [] μ
        refine j_iload (pc := 27) hC 5 dX12_areUnlike_27 rfl ?_
        refine j_bipush (pc := 29) hC (6 : Int32) dX12_areUnlike_29 (by decide) ?_
        refine j_icmp_ge (pc := 31) hC 83 dX12_areUnlike_31 (by decide) (fun c9 => ?_) (fun c9 => ?_)
        · rw [if_pos c9] at h
          obtain rfl := Option.some.inj h
          have hk : jJ X G 6 L 0 0 (jQM X G L (some (.int r)) μ 0 0) 83 [] [] μ := hk
          exact j_lv [] rfl hk
        · rw [if_neg c9] at h
          refine j_aload_n (pc := 34) hC 1 1 dX12_areUnlike_34 rfl rfl ?_
          refine j_iload (pc := 35) hC 4 dX12_areUnlike_35 rfl ?_
          obtain ⟨i10, v11, e12, h⟩ := jrd_some h
          refine j_iald (pc := 37) hC dX12_areUnlike_37 ka1 (jlen_ok hL _) i10 e12 ?_
          refine j_iload (pc := 38) hC 5 dX12_areUnlike_38 rfl ?_
          refine j_si (pc := 40) hC hR [.int v11, .int u8] iy_X12_has km_X12_208 dX12_areUnlike_40 rfl (by decide) (c_X12_has hL  rfl) (by omega) (Nat.le_of_ble_eq_true rfl) rfl ?_
          refine j_if_eq (pc := 43) hC 77 dX12_areUnlike_43 (by decide) (fun c13 => ?_) (fun c13 => ?_)
          · rw [if_pos c13] at h
            refine j_iinc (pc := 77) hC 5 (u8 + (1 : Int32)) [(5, .int (u8 + (1 : Int32))), (0, .ref (L.2.2 a0)), (1, .ref (L.2.2 a1)), (2, .int x2), (3, .int x3), (4, .int z7)] dX12_areUnlike_77 rfl rfl (by decide) rfl ?_
            refine j_goto (pc := 80) hC 27 dX12_areUnlike_80 (by decide) ?_
            obtain rfl := Option.some.inj h
            have hk : jJ X G 6 L 0 0 (jQM X G L (some (.int r)) μ 0 0) 27 [(0, .ref (L.2.2 a0)), (1, .ref (L.2.2 a1)), (2, .int x2), (3, .int x3), (4, .int z7), (5, .int (u8 + (1 : Int32)))] [] μ := hk
            exact j_lv [1, 2, 3, 4, 5, 0] rfl hk
          · rw [if_neg c13] at h
            refine j_iload_n (pc := 46) hC 3 3 dX12_areUnlike_46 rfl rfl ?_
            refine j_iload (pc := 47) hC 5 dX12_areUnlike_47 rfl ?_
            refine j_si (pc := 49) hC hR [.int x3, .int u8] iy_X12_has km_X12_208 dX12_areUnlike_49 rfl (by decide) (c_X12_has hL  rfl) (by omega) (Nat.le_of_ble_eq_true rfl) rfl ?_
            refine j_if_ne (pc := 52) hC 77 dX12_areUnlike_52 (by decide) (fun c14 => ?_) (fun c14 => ?_)
            · rw [if_neg c14] at h
              refine j_iinc (pc := 77) hC 5 (u8 + (1 : Int32)) [(5, .int (u8 + (1 : Int32))), (0, .ref (L.2.2 a0)), (1, .ref (L.2.2 a1)), (2, .int x2), (3, .int x3), (4, .int z7)] dX12_areUnlike_77 rfl rfl (by decide) rfl ?_
              refine j_goto (pc := 80) hC 27 dX12_areUnlike_80 (by decide) ?_
              obtain rfl := Option.some.inj h
              have hk : jJ X G 6 L 0 0 (jQM X G L (some (.int r)) μ 0 0) 27 [(0, .ref (L.2.2 a0)), (1, .ref (L.2.2 a1)), (2, .int x2), (3, .int x3), (4, .int z7), (5, .int (u8 + (1 : Int32)))] [] μ := hk
              exact j_lv [1, 2, 3, 4, 5, 0] rfl hk
            · rw [if_pos c14] at h
              refine j_aload_n (pc := 55) hC 0 0 dX12_areUnlike_55 rfl rfl ?_
              refine j_aload_n (pc := 56) hC 1 1 dX12_areUnlike_56 rfl rfl ?_
              refine j_iload_n (pc := 57) hC 2 2 dX12_areUnlike_57 rfl rfl ?_
              refine j_iconst (pc := 58) hC (1 : Int32) dX12_areUnlike_58 (by decide) ?_
              refine j_iload (pc := 59) hC 4 dX12_areUnlike_59 rfl ?_
              refine j_ishl (pc := 61) hC dX12_areUnlike_61 ?_
              refine j_isub (pc := 62) hC dX12_areUnlike_62 ?_
              refine j_iload_n (pc := 63) hC 3 3 dX12_areUnlike_63 rfl rfl ?_
              refine j_iconst (pc := 64) hC (1 : Int32) dX12_areUnlike_64 (by decide) ?_
              refine j_iload (pc := 65) hC 5 dX12_areUnlike_65 rfl ?_
              refine j_ishl (pc := 67) hC dX12_areUnlike_67 ?_
              refine j_ior (pc := 68) hC dX12_areUnlike_68 ?_
              obtain ⟨v15, e16, h⟩ := jcl_some h
              refine j_vi (pc := 69) hC hR [.ref (L.2.2 a1), .int (x2 - ((1 : Int32) <<< (z7 &&& 31))), .int (x3 ||| ((1 : Int32) <<< (u8 &&& 31)))] iy_X12_areUnlike (q := (RX12, TX12, 40)) (ci := 12) rfl rfl (by decide) km_X12_264 dX12_areUnlike_69 rfl (by decide) ka0 (hA ka0 ka1 e16) (by omega) (Nat.le_of_ble_eq_true rfl) rfl ?_
              refine j_if_eq (pc := 72) hC 77 dX12_areUnlike_72 (by decide) (fun c17 => ?_) (fun c17 => ?_)
              · rw [if_pos c17] at h
                refine j_iinc (pc := 77) hC 5 (u8 + (1 : Int32)) [(5, .int (u8 + (1 : Int32))), (0, .ref (L.2.2 a0)), (1, .ref (L.2.2 a1)), (2, .int x2), (3, .int x3), (4, .int z7)] dX12_areUnlike_77 rfl rfl (by decide) rfl ?_
                refine j_goto (pc := 80) hC 27 dX12_areUnlike_80 (by decide) ?_
                obtain rfl := Option.some.inj h
                have hk : jJ X G 6 L 0 0 (jQM X G L (some (.int r)) μ 0 0) 27 [(0, .ref (L.2.2 a0)), (1, .ref (L.2.2 a1)), (2, .int x2), (3, .int x3), (4, .int z7), (5, .int (u8 + (1 : Int32)))] [] μ := hk
                exact j_lv [1, 2, 3, 4, 5, 0] rfl hk
              · rw [if_neg c17] at h
                obtain rfl := Option.some.inj h
                have hk : jJ X G 6 L 0 0 (jQM X G L (some (.int r)) μ 0 0) 75 [] [] μ := hk
                exact j_lv [] rfl hk
      · cases w18 with
        | inl w18 =>
          try dsimp only at h
          try dsimp only at h
          show jJ X G 6 L 0 0 (jQM X G L (some (.int r)) μ 0 0) 75 [] [] μ
          refine j_iconst (pc := 75) hC (1 : Int32) dX12_areUnlike_75 (by decide) ?_
          obtain rfl := Option.some.inj h
          exact j_bret (pc := 76) hC dX12_areUnlike_76 rfl rfl
        | inr w18 =>
          try dsimp only at h
          try dsimp only at h
          show jJ X G 6 L 0 0 (jQM X G L (some (.int r)) μ 0 0) 83 [] [] μ
          refine j_iconst (pc := 83) hC (0 : Int32) dX12_areUnlike_83 (by decide) ?_
          obtain rfl := Option.some.inj h
          exact j_bret (pc := 84) hC dX12_areUnlike_84 rfl rfl
  · rw [if_pos c1] at h
    refine j_iconst (pc := 4) hC (1 : Int32) dX12_areUnlike_4 (by decide) ?_
    obtain rfl := Option.some.inj h
    exact j_bret (pc := 5) hC dX12_areUnlike_5 rfl rfl
def f_X12_areUnlike : Nat → Nat → Nat → Int32 → Int32 → jM → Option (Int32)
  | 0 => fun _ _ _ _ _ => none
  | d + 1 => fb_X12_areUnlike (f_X12_areUnlike d)
theorem c_X12_areUnlike {l : Launch} {G : jG} {L : jL} (hL : jOKL L) : ∀ (d : Nat) {b0 : Nat} {b1 : Nat} {b2 : Int32} {b3 : Int32} (kb0 : jK L b0 12) (kb1 : jK L b1 13) {μ : jM} {r : Int32} (h : f_X12_areUnlike d b0 b1 b2 b3 μ = some r), jCt l G L (3 + 1 * d) yX12_areUnlike cX12_areUnlike 6 (some .boolean) [.ref (L.2.2 b0), .ref (L.2.2 b1), .int b2, .int b3] μ (some (.int r)) μ := by
  intro d
  induction d with
  | zero => intros; rename_i h; cases h
  | succ d ih =>
    intros
    rename_i h
    exact cb_X12_areUnlike hL (dA := 3 + 1 * d) (by omega) (fun k0 k1 h => ih k0 k1 h) (by assumption) (by assumption) h
theorem dX12_bears_0 : decode cX12_bears 0 = .ok (.aload_n 0, 1) := by decide +kernel
theorem dX12_bears_1 : decode cX12_bears 1 = .ok (.getfield 60, 3) := by decide +kernel
theorem dX12_bears_4 : decode cX12_bears 4 = .ok (.bipush 29, 2) := by decide +kernel
theorem dX12_bears_6 : decode cX12_bears 6 = .ok (.iconst 4, 1) := by decide +kernel
theorem dX12_bears_7 : decode cX12_bears 7 = .ok (.iload_n 2, 1) := by decide +kernel
theorem dX12_bears_8 : decode cX12_bears 8 = .ok (.imul, 1) := by decide +kernel
theorem dX12_bears_9 : decode cX12_bears 9 = .ok (.iadd, 1) := by decide +kernel
theorem dX12_bears_10 : decode cX12_bears 10 = .ok (.iaload, 1) := by decide +kernel
theorem dX12_bears_11 : decode cX12_bears 11 = .ok (.istore 5, 2) := by decide +kernel
theorem dX12_bears_13 : decode cX12_bears 13 = .ok (.aload_n 0, 1) := by decide +kernel
theorem dX12_bears_14 : decode cX12_bears 14 = .ok (.getfield 60, 3) := by decide +kernel
theorem dX12_bears_17 : decode cX12_bears 17 = .ok (.bipush 29, 2) := by decide +kernel
theorem dX12_bears_19 : decode cX12_bears 19 = .ok (.iconst 4, 1) := by decide +kernel
theorem dX12_bears_20 : decode cX12_bears 20 = .ok (.iload_n 2, 1) := by decide +kernel
theorem dX12_bears_21 : decode cX12_bears 21 = .ok (.imul, 1) := by decide +kernel
theorem dX12_bears_22 : decode cX12_bears 22 = .ok (.iadd, 1) := by decide +kernel
theorem dX12_bears_23 : decode cX12_bears 23 = .ok (.iconst 1, 1) := by decide +kernel
theorem dX12_bears_24 : decode cX12_bears 24 = .ok (.iadd, 1) := by decide +kernel
theorem dX12_bears_25 : decode cX12_bears 25 = .ok (.iaload, 1) := by decide +kernel
theorem dX12_bears_26 : decode cX12_bears 26 = .ok (.istore 6, 2) := by decide +kernel
theorem dX12_bears_28 : decode cX12_bears 28 = .ok (.aload_n 0, 1) := by decide +kernel
theorem dX12_bears_29 : decode cX12_bears 29 = .ok (.getfield 60, 3) := by decide +kernel
theorem dX12_bears_32 : decode cX12_bears 32 = .ok (.bipush 29, 2) := by decide +kernel
theorem dX12_bears_34 : decode cX12_bears 34 = .ok (.iconst 4, 1) := by decide +kernel
theorem dX12_bears_35 : decode cX12_bears 35 = .ok (.iload_n 2, 1) := by decide +kernel
theorem dX12_bears_36 : decode cX12_bears 36 = .ok (.imul, 1) := by decide +kernel
theorem dX12_bears_37 : decode cX12_bears 37 = .ok (.iadd, 1) := by decide +kernel
theorem dX12_bears_38 : decode cX12_bears 38 = .ok (.iconst 2, 1) := by decide +kernel
theorem dX12_bears_39 : decode cX12_bears 39 = .ok (.iadd, 1) := by decide +kernel
theorem dX12_bears_40 : decode cX12_bears 40 = .ok (.iaload, 1) := by decide +kernel
theorem dX12_bears_41 : decode cX12_bears 41 = .ok (.istore 7, 2) := by decide +kernel
theorem dX12_bears_43 : decode cX12_bears 43 = .ok (.aload_n 0, 1) := by decide +kernel
theorem dX12_bears_44 : decode cX12_bears 44 = .ok (.getfield 60, 3) := by decide +kernel
theorem dX12_bears_47 : decode cX12_bears 47 = .ok (.bipush 29, 2) := by decide +kernel
theorem dX12_bears_49 : decode cX12_bears 49 = .ok (.iconst 4, 1) := by decide +kernel
theorem dX12_bears_50 : decode cX12_bears 50 = .ok (.iload_n 2, 1) := by decide +kernel
theorem dX12_bears_51 : decode cX12_bears 51 = .ok (.imul, 1) := by decide +kernel
theorem dX12_bears_52 : decode cX12_bears 52 = .ok (.iadd, 1) := by decide +kernel
theorem dX12_bears_53 : decode cX12_bears 53 = .ok (.iconst 3, 1) := by decide +kernel
theorem dX12_bears_54 : decode cX12_bears 54 = .ok (.iadd, 1) := by decide +kernel
theorem dX12_bears_55 : decode cX12_bears 55 = .ok (.iaload, 1) := by decide +kernel
theorem dX12_bears_56 : decode cX12_bears 56 = .ok (.istore 8, 2) := by decide +kernel
theorem dX12_bears_58 : decode cX12_bears 58 = .ok (.iload 5, 2) := by decide +kernel
theorem dX12_bears_60 : decode cX12_bears 60 = .ok (.iconst 3, 1) := by decide +kernel
theorem dX12_bears_61 : decode cX12_bears 61 = .ok (.if_icmp .ne 36, 3) := by decide +kernel
theorem dX12_bears_64 : decode cX12_bears 64 = .ok (.iload 6, 2) := by decide +kernel
theorem dX12_bears_66 : decode cX12_bears 66 = .ok (.iload_n 3, 1) := by decide +kernel
theorem dX12_bears_67 : decode cX12_bears 67 = .ok (.invokestatic 208, 3) := by decide +kernel
theorem dX12_bears_70 : decode cX12_bears 70 = .ok (.ifCond .eq 21, 3) := by decide +kernel
theorem dX12_bears_73 : decode cX12_bears 73 = .ok (.aload_n 0, 1) := by decide +kernel
theorem dX12_bears_74 : decode cX12_bears 74 = .ok (.aload_n 1, 1) := by decide +kernel
theorem dX12_bears_75 : decode cX12_bears 75 = .ok (.iload 6, 2) := by decide +kernel
theorem dX12_bears_77 : decode cX12_bears 77 = .ok (.iconst 1, 1) := by decide +kernel
theorem dX12_bears_78 : decode cX12_bears 78 = .ok (.iload_n 3, 1) := by decide +kernel
theorem dX12_bears_79 : decode cX12_bears 79 = .ok (.ishl, 1) := by decide +kernel
theorem dX12_bears_80 : decode cX12_bears 80 = .ok (.isub, 1) := by decide +kernel
theorem dX12_bears_81 : decode cX12_bears 81 = .ok (.iconst 1, 1) := by decide +kernel
theorem dX12_bears_82 : decode cX12_bears 82 = .ok (.iload 4, 2) := by decide +kernel
theorem dX12_bears_84 : decode cX12_bears 84 = .ok (.ishl, 1) := by decide +kernel
theorem dX12_bears_85 : decode cX12_bears 85 = .ok (.invokevirtual 264, 3) := by decide +kernel
theorem dX12_bears_88 : decode cX12_bears 88 = .ok (.ifCond .eq 7, 3) := by decide +kernel
theorem dX12_bears_91 : decode cX12_bears 91 = .ok (.iconst 1, 1) := by decide +kernel
theorem dX12_bears_92 : decode cX12_bears 92 = .ok (.goto 4, 3) := by decide +kernel
theorem dX12_bears_95 : decode cX12_bears 95 = .ok (.iconst 0, 1) := by decide +kernel
theorem dX12_bears_96 : decode cX12_bears 96 = .ok (.ireturn, 1) := by decide +kernel
theorem dX12_bears_97 : decode cX12_bears 97 = .ok (.iload_n 3, 1) := by decide +kernel
theorem dX12_bears_98 : decode cX12_bears 98 = .ok (.iload 6, 2) := by decide +kernel
theorem dX12_bears_100 : decode cX12_bears 100 = .ok (.if_icmp .eq 11, 3) := by decide +kernel
theorem dX12_bears_103 : decode cX12_bears 103 = .ok (.iload_n 3, 1) := by decide +kernel
theorem dX12_bears_104 : decode cX12_bears 104 = .ok (.iload 7, 2) := by decide +kernel
theorem dX12_bears_106 : decode cX12_bears 106 = .ok (.if_icmp .eq 5, 3) := by decide +kernel
theorem dX12_bears_109 : decode cX12_bears 109 = .ok (.iconst 1, 1) := by decide +kernel
theorem dX12_bears_110 : decode cX12_bears 110 = .ok (.ireturn, 1) := by decide +kernel
theorem dX12_bears_111 : decode cX12_bears 111 = .ok (.iconst 0, 1) := by decide +kernel
theorem dX12_bears_112 : decode cX12_bears 112 = .ok (.istore 9, 2) := by decide +kernel
theorem dX12_bears_114 : decode cX12_bears 114 = .ok (.iload 9, 2) := by decide +kernel
theorem dX12_bears_116 : decode cX12_bears 116 = .ok (.bipush 6, 2) := by decide +kernel
theorem dX12_bears_118 : decode cX12_bears 118 = .ok (.if_icmp .ge 71, 3) := by decide +kernel
theorem dX12_bears_121 : decode cX12_bears 121 = .ok (.aload_n 1, 1) := by decide +kernel
theorem dX12_bears_122 : decode cX12_bears 122 = .ok (.iload_n 3, 1) := by decide +kernel
theorem dX12_bears_123 : decode cX12_bears 123 = .ok (.iload 6, 2) := by decide +kernel
theorem dX12_bears_125 : decode cX12_bears 125 = .ok (.if_icmp .ne 8, 3) := by decide +kernel
theorem dX12_bears_128 : decode cX12_bears 128 = .ok (.iload 7, 2) := by decide +kernel
theorem dX12_bears_130 : decode cX12_bears 130 = .ok (.goto 5, 3) := by decide +kernel
theorem dX12_bears_133 : decode cX12_bears 133 = .ok (.iload 6, 2) := by decide +kernel
theorem dX12_bears_135 : decode cX12_bears 135 = .ok (.iaload, 1) := by decide +kernel
theorem dX12_bears_136 : decode cX12_bears 136 = .ok (.iload 9, 2) := by decide +kernel
theorem dX12_bears_138 : decode cX12_bears 138 = .ok (.invokestatic 208, 3) := by decide +kernel
theorem dX12_bears_141 : decode cX12_bears 141 = .ok (.ifCond .eq 42, 3) := by decide +kernel
theorem dX12_bears_144 : decode cX12_bears 144 = .ok (.iload_n 3, 1) := by decide +kernel
theorem dX12_bears_145 : decode cX12_bears 145 = .ok (.iload 6, 2) := by decide +kernel
theorem dX12_bears_147 : decode cX12_bears 147 = .ok (.if_icmp .ne 20, 3) := by decide +kernel
theorem dX12_bears_150 : decode cX12_bears 150 = .ok (.iload 5, 2) := by decide +kernel
theorem dX12_bears_152 : decode cX12_bears 152 = .ok (.iload 4, 2) := by decide +kernel
theorem dX12_bears_154 : decode cX12_bears 154 = .ok (.iload 9, 2) := by decide +kernel
theorem dX12_bears_156 : decode cX12_bears 156 = .ok (.iload 8, 2) := by decide +kernel
theorem dX12_bears_158 : decode cX12_bears 158 = .ok (.invokestatic 268, 3) := by decide +kernel
theorem dX12_bears_161 : decode cX12_bears 161 = .ok (.ifCond .eq 22, 3) := by decide +kernel
theorem dX12_bears_164 : decode cX12_bears 164 = .ok (.goto 17, 3) := by decide +kernel
theorem dX12_bears_167 : decode cX12_bears 167 = .ok (.iload 5, 2) := by decide +kernel
theorem dX12_bears_169 : decode cX12_bears 169 = .ok (.iload 9, 2) := by decide +kernel
theorem dX12_bears_171 : decode cX12_bears 171 = .ok (.iload 4, 2) := by decide +kernel
theorem dX12_bears_173 : decode cX12_bears 173 = .ok (.iload 8, 2) := by decide +kernel
theorem dX12_bears_175 : decode cX12_bears 175 = .ok (.invokestatic 268, 3) := by decide +kernel
theorem dX12_bears_178 : decode cX12_bears 178 = .ok (.ifCond .eq 5, 3) := by decide +kernel
theorem dX12_bears_181 : decode cX12_bears 181 = .ok (.iconst 1, 1) := by decide +kernel
theorem dX12_bears_182 : decode cX12_bears 182 = .ok (.ireturn, 1) := by decide +kernel
theorem dX12_bears_183 : decode cX12_bears 183 = .ok (.iinc 9 1, 3) := by decide +kernel
theorem dX12_bears_186 : decode cX12_bears 186 = .ok (.goto (-72), 3) := by decide +kernel
theorem dX12_bears_189 : decode cX12_bears 189 = .ok (.iconst 0, 1) := by decide +kernel
theorem dX12_bears_190 : decode cX12_bears 190 = .ok (.ireturn, 1) := by decide +kernel
def f_X12_bears_L114 (a1 : Nat) (x3 : Int32) (x4 : Int32) (μ : jM) (v2 : Int32) (v5 : Int32) (v8 : Int32) (v11 : Int32) (u17 : Int32) : Option ((Int32) ⊕ ((Unit) ⊕ ((Unit) ⊕ (Unit)))) :=
  (if (6 : Int32) ≤ u17 then some (.inr (.inr (.inr (())))) else jrd (μ.1 a1) ((if x3 = v5 then v8 else v5)) (jlen a1) (fun v21 => (if (f_X12_has v21 u17) = (0 : Int32) then some (.inl (u17 + (1 : Int32))) else (if x3 = v5 then (if (f_X12_holds v2 x4 u17 v11) = (0 : Int32) then some (.inl (u17 + (1 : Int32))) else some (.inr (.inl (())))) else (if (f_X12_holds v2 u17 x4 v11) = (0 : Int32) then some (.inl (u17 + (1 : Int32))) else some (.inr (.inr (.inl (())))))))))
def f_X12_bears (a0 : Nat) (a1 : Nat) (x2 : Int32) (x3 : Int32) (x4 : Int32) (μ : jM) : Option (Int32) :=
  jrd (μ.1 (a0 + 3)) ((29 : Int32) + ((4 : Int32) * x2)) 2074 (fun v2 => jrd (μ.1 (a0 + 3)) (((29 : Int32) + ((4 : Int32) * x2)) + (1 : Int32)) 2074 (fun v5 => jrd (μ.1 (a0 + 3)) (((29 : Int32) + ((4 : Int32) * x2)) + (2 : Int32)) 2074 (fun v8 => jrd (μ.1 (a0 + 3)) (((29 : Int32) + ((4 : Int32) * x2)) + (3 : Int32)) 2074 (fun v11 => (if v2 = (3 : Int32) then (if (f_X12_has v5 x3) = (0 : Int32) then some (1 : Int32) else jcl (f_X12_areUnlike 8 a0 a1 (v5 - ((1 : Int32) <<< (x3 &&& 31))) ((1 : Int32) <<< (x4 &&& 31)) μ) (fun v33 => (if v33 = (0 : Int32) then some (0 : Int32) else some (1 : Int32)))) else jbd (jcl (jloop (fun (s : Int32) => f_X12_bears_L114 a1 x3 x4 μ v2 v5 v8 v11 s) jfu (0 : Int32)) (fun w27 => match w27 with | .inl w27 => some (1 : Int32) | .inr w27 => match w27 with | .inl w27 => some (1 : Int32) | .inr w27 => some (0 : Int32))) (fun k14 => (if x3 = v5 then k14 else (if x3 = v8 then k14 else some (1 : Int32)))))))))
set_option maxHeartbeats 4000000 in
set_option maxRecDepth 100000 in
theorem c_X12_bears {l : Launch} {G : jG} {L : jL} (hL : jOKL L) {a0 : Nat} {a1 : Nat} {x2 : Int32} {x3 : Int32} {x4 : Int32} (ka0 : jK L a0 12) (ka1 : jK L a1 13) {μ : jM} {r : Int32} (h : f_X12_bears a0 a1 x2 x3 x4 μ = some r) : jCt l G L 12 yX12_bears cX12_bears 10 (some .boolean) [.ref (L.2.2 a0), .ref (L.2.2 a1), .int x2, .int x3, .int x4] μ (some (.int r)) μ := by
  refine jCt_of (by decide) (Nat.le_of_ble_eq_true rfl) (fun X hC hX hR => ?_)
  subst hX
  have hC : jC X G cX12_bears 10 RX12 (some .boolean) := hC
  unfold f_X12_bears at h
  show jJ X G 10 L 0 0 (jQM X G L (some (.int r)) μ 0 0) 0 [(0, .ref (L.2.2 a0)), (1, .ref (L.2.2 a1)), (2, .int x2), (3, .int x3), (4, .int x4)] [] μ
  refine j_aload_n (pc := 0) hC 0 0 dX12_bears_0 rfl rfl ?_
  refine jgr_12 (pc := 1) hC 8 (by decide) rfl kf_X12_60 dX12_bears_1 ka0 (ly_12_8 hL ka0).1 ?_
  refine j_bipush (pc := 4) hC (29 : Int32) dX12_bears_4 (by decide) ?_
  refine j_iconst (pc := 6) hC (4 : Int32) dX12_bears_6 (by decide) ?_
  refine j_iload_n (pc := 7) hC 2 2 dX12_bears_7 rfl rfl ?_
  refine j_imul (pc := 8) hC dX12_bears_8 ?_
  refine j_iadd (pc := 9) hC dX12_bears_9 ?_
  obtain ⟨i1, v2, e3, h⟩ := jrd_some h
  refine j_iald (pc := 10) hC dX12_bears_10 (ly_12_8 hL ka0).2.1 (ly_12_8 hL ka0).2.2 i1 e3 ?_
  refine j_istore (pc := 11) hC [(5, .int v2), (0, .ref (L.2.2 a0)), (1, .ref (L.2.2 a1)), (2, .int x2), (3, .int x3), (4, .int x4)] dX12_bears_11 (by decide) rfl rfl ?_
  refine j_aload_n (pc := 13) hC 0 1 dX12_bears_13 rfl rfl ?_
  refine jgr_12 (pc := 14) hC 8 (by decide) rfl kf_X12_60 dX12_bears_14 ka0 (ly_12_8 hL ka0).1 ?_
  refine j_bipush (pc := 17) hC (29 : Int32) dX12_bears_17 (by decide) ?_
  refine j_iconst (pc := 19) hC (4 : Int32) dX12_bears_19 (by decide) ?_
  refine j_iload_n (pc := 20) hC 2 3 dX12_bears_20 rfl rfl ?_
  refine j_imul (pc := 21) hC dX12_bears_21 ?_
  refine j_iadd (pc := 22) hC dX12_bears_22 ?_
  refine j_iconst (pc := 23) hC (1 : Int32) dX12_bears_23 (by decide) ?_
  refine j_iadd (pc := 24) hC dX12_bears_24 ?_
  obtain ⟨i4, v5, e6, h⟩ := jrd_some h
  refine j_iald (pc := 25) hC dX12_bears_25 (ly_12_8 hL ka0).2.1 (ly_12_8 hL ka0).2.2 i4 e6 ?_
  refine j_istore (pc := 26) hC [(6, .int v5), (5, .int v2), (0, .ref (L.2.2 a0)), (1, .ref (L.2.2 a1)), (2, .int x2), (3, .int x3), (4, .int x4)] dX12_bears_26 (by decide) rfl rfl ?_
  refine j_aload_n (pc := 28) hC 0 2 dX12_bears_28 rfl rfl ?_
  refine jgr_12 (pc := 29) hC 8 (by decide) rfl kf_X12_60 dX12_bears_29 ka0 (ly_12_8 hL ka0).1 ?_
  refine j_bipush (pc := 32) hC (29 : Int32) dX12_bears_32 (by decide) ?_
  refine j_iconst (pc := 34) hC (4 : Int32) dX12_bears_34 (by decide) ?_
  refine j_iload_n (pc := 35) hC 2 4 dX12_bears_35 rfl rfl ?_
  refine j_imul (pc := 36) hC dX12_bears_36 ?_
  refine j_iadd (pc := 37) hC dX12_bears_37 ?_
  refine j_iconst (pc := 38) hC (2 : Int32) dX12_bears_38 (by decide) ?_
  refine j_iadd (pc := 39) hC dX12_bears_39 ?_
  obtain ⟨i7, v8, e9, h⟩ := jrd_some h
  refine j_iald (pc := 40) hC dX12_bears_40 (ly_12_8 hL ka0).2.1 (ly_12_8 hL ka0).2.2 i7 e9 ?_
  refine j_istore (pc := 41) hC [(7, .int v8), (6, .int v5), (5, .int v2), (0, .ref (L.2.2 a0)), (1, .ref (L.2.2 a1)), (2, .int x2), (3, .int x3), (4, .int x4)] dX12_bears_41 (by decide) rfl rfl ?_
  refine j_aload_n (pc := 43) hC 0 3 dX12_bears_43 rfl rfl ?_
  refine jgr_12 (pc := 44) hC 8 (by decide) rfl kf_X12_60 dX12_bears_44 ka0 (ly_12_8 hL ka0).1 ?_
  refine j_bipush (pc := 47) hC (29 : Int32) dX12_bears_47 (by decide) ?_
  refine j_iconst (pc := 49) hC (4 : Int32) dX12_bears_49 (by decide) ?_
  refine j_iload_n (pc := 50) hC 2 5 dX12_bears_50 rfl rfl ?_
  refine j_imul (pc := 51) hC dX12_bears_51 ?_
  refine j_iadd (pc := 52) hC dX12_bears_52 ?_
  refine j_iconst (pc := 53) hC (3 : Int32) dX12_bears_53 (by decide) ?_
  refine j_iadd (pc := 54) hC dX12_bears_54 ?_
  obtain ⟨i10, v11, e12, h⟩ := jrd_some h
  refine j_iald (pc := 55) hC dX12_bears_55 (ly_12_8 hL ka0).2.1 (ly_12_8 hL ka0).2.2 i10 e12 ?_
  refine j_istore (pc := 56) hC [(8, .int v11), (7, .int v8), (6, .int v5), (5, .int v2), (0, .ref (L.2.2 a0)), (1, .ref (L.2.2 a1)), (2, .int x2), (3, .int x3), (4, .int x4)] dX12_bears_56 (by decide) rfl rfl ?_
  refine j_iload (pc := 58) hC 3 dX12_bears_58 rfl ?_
  refine j_iconst (pc := 60) hC (3 : Int32) dX12_bears_60 (by decide) ?_
  refine j_icmp_ne (pc := 61) hC 97 dX12_bears_61 (by decide) (fun c13 => ?_) (fun c13 => ?_)
  · rw [if_neg c13] at h
    refine j_iload_n (pc := 97) hC 3 7 dX12_bears_97 rfl rfl ?_
    refine j_iload (pc := 98) hC 2 dX12_bears_98 rfl ?_
    obtain ⟨k14, e16, h⟩ := jbd_ex h
    have q15 : k14 = some r → jJ X G 10 L 0 0 (jQM X G L (some (.int r)) μ 0 0) 111 [(1, .ref (L.2.2 a1)), (3, .int x3), (4, .int x4), (5, .int v2), (6, .int v5), (7, .int v8), (8, .int v11)] [] μ := by
      intro h
      rw [e16] at h
      refine j_iconst (pc := 111) hC (0 : Int32) dX12_bears_111 (by decide) ?_
      refine j_istore (pc := 112) hC [(9, .int (0 : Int32)), (1, .ref (L.2.2 a1)), (3, .int x3), (4, .int x4), (5, .int v2), (6, .int v5), (7, .int v8), (8, .int v11)] dX12_bears_112 (by decide) rfl rfl ?_
      obtain ⟨w27, hw28, h⟩ := jcl_some h
      refine j_lv [1, 2, 3, 4, 5, 6, 7, 0] rfl ?_
      refine j_loop (step := (fun (s : Int32) => f_X12_bears_L114 a1 x3 x4 μ v2 v5 v8 v11 s)) (P := (fun (s : Int32) => jJ X G 10 L 0 0 (jQM X G L (some (.int r)) μ 0 0) 114 [(1, .ref (L.2.2 a1)), (3, .int x3), (4, .int x4), (5, .int v2), (6, .int v5), (7, .int v8), (8, .int v11), (9, .int s)] [] μ)) (R := (fun (e : (Unit) ⊕ ((Unit) ⊕ (Unit))) => match e with | .inl e => jJ X G 10 L 0 0 (jQM X G L (some (.int r)) μ 0 0) 164 [] [] μ | .inr e => match e with | .inl e => jJ X G 10 L 0 0 (jQM X G L (some (.int r)) μ 0 0) 181 [] [] μ | .inr e => jJ X G 10 L 0 0 (jQM X G L (some (.int r)) μ 0 0) 189 [] [] μ)) ?_ jfu (0 : Int32) w27 hw28 ?_
      · intro u17 o h hk
        change f_X12_bears_L114 a1 x3 x4 μ v2 v5 v8 v11 u17 = some o at h
        unfold f_X12_bears_L114 at h
        show jJ X G 10 L 0 0 (jQM X G L (some (.int r)) μ 0 0) 114 [(1, .ref (L.2.2 a1)), (3, .int x3), (4, .int x4), (5, .int v2), (6, .int v5), (7, .int v8), (8, .int v11), (9, .int u17)] [] μ
        refine j_iload (pc := 114) hC 7 dX12_bears_114 rfl ?_
        refine j_bipush (pc := 116) hC (6 : Int32) dX12_bears_116 (by decide) ?_
        refine j_icmp_ge (pc := 118) hC 189 dX12_bears_118 (by decide) (fun c18 => ?_) (fun c18 => ?_)
        · rw [if_pos c18] at h
          obtain rfl := Option.some.inj h
          have hk : jJ X G 10 L 0 0 (jQM X G L (some (.int r)) μ 0 0) 189 [] [] μ := hk
          exact j_lv [] rfl hk
        · rw [if_neg c18] at h
          refine j_aload_n (pc := 121) hC 1 0 dX12_bears_121 rfl rfl ?_
          refine j_iload_n (pc := 122) hC 3 1 dX12_bears_122 rfl rfl ?_
          refine j_iload (pc := 123) hC 4 dX12_bears_123 rfl ?_
          refine jmg (B := jJ X G 10 L 0 0 (jQM X G L (some (.int r)) μ 0 0) 135 [(1, .ref (L.2.2 a1)), (3, .int x3), (4, .int x4), (5, .int v2), (6, .int v5), (7, .int v8), (8, .int v11), (9, .int u17)] [.int ((if x3 = v5 then v8 else v5)), .ref (L.2.2 a1)] μ) (fun hj => ?_) ?_
          · refine j_icmp_ne (pc := 125) hC 133 dX12_bears_125 (by decide) (fun c19 => ?_) (fun c19 => ?_)
            · rw [if_neg c19] at hj
              refine j_iload (pc := 133) hC 4 dX12_bears_133 rfl ?_
              exact hj
            · rw [if_pos c19] at hj
              refine j_iload (pc := 128) hC 5 dX12_bears_128 rfl ?_
              refine j_goto (pc := 130) hC 135 dX12_bears_130 (by decide) ?_
              exact hj
          obtain ⟨i20, v21, e22, h⟩ := jrd_some h
          refine j_iald (pc := 135) hC dX12_bears_135 ka1 (jlen_ok hL _) i20 e22 ?_
          refine j_iload (pc := 136) hC 7 dX12_bears_136 rfl ?_
          refine j_si (pc := 138) hC hR [.int v21, .int u17] iy_X12_has km_X12_208 dX12_bears_138 rfl (by decide) (c_X12_has hL  rfl) (by decide) (Nat.le_of_ble_eq_true rfl) rfl ?_
          refine j_if_eq (pc := 141) hC 183 dX12_bears_141 (by decide) (fun c23 => ?_) (fun c23 => ?_)
          · rw [if_pos c23] at h
            refine j_iinc (pc := 183) hC 7 (u17 + (1 : Int32)) [(9, .int (u17 + (1 : Int32))), (1, .ref (L.2.2 a1)), (3, .int x3), (4, .int x4), (5, .int v2), (6, .int v5), (7, .int v8), (8, .int v11)] dX12_bears_183 rfl rfl (by decide) rfl ?_
            refine j_goto (pc := 186) hC 114 dX12_bears_186 (by decide) ?_
            obtain rfl := Option.some.inj h
            have hk : jJ X G 10 L 0 0 (jQM X G L (some (.int r)) μ 0 0) 114 [(1, .ref (L.2.2 a1)), (3, .int x3), (4, .int x4), (5, .int v2), (6, .int v5), (7, .int v8), (8, .int v11), (9, .int (u17 + (1 : Int32)))] [] μ := hk
            exact j_lv [1, 2, 3, 4, 5, 6, 7, 0] rfl hk
          · rw [if_neg c23] at h
            refine j_iload_n (pc := 144) hC 3 1 dX12_bears_144 rfl rfl ?_
            refine j_iload (pc := 145) hC 4 dX12_bears_145 rfl ?_
            refine j_icmp_ne (pc := 147) hC 167 dX12_bears_147 (by decide) (fun c24 => ?_) (fun c24 => ?_)
            · rw [if_neg c24] at h
              refine j_iload (pc := 167) hC 3 dX12_bears_167 rfl ?_
              refine j_iload (pc := 169) hC 7 dX12_bears_169 rfl ?_
              refine j_iload (pc := 171) hC 2 dX12_bears_171 rfl ?_
              refine j_iload (pc := 173) hC 6 dX12_bears_173 rfl ?_
              refine j_si (pc := 175) hC hR [.int v2, .int u17, .int x4, .int v11] iy_X12_holds km_X12_268 dX12_bears_175 rfl (by decide) (c_X12_holds hL  rfl) (by decide) (Nat.le_of_ble_eq_true rfl) rfl ?_
              refine j_if_eq (pc := 178) hC 183 dX12_bears_178 (by decide) (fun c25 => ?_) (fun c25 => ?_)
              · rw [if_pos c25] at h
                refine j_iinc (pc := 183) hC 7 (u17 + (1 : Int32)) [(9, .int (u17 + (1 : Int32))), (1, .ref (L.2.2 a1)), (3, .int x3), (4, .int x4), (5, .int v2), (6, .int v5), (7, .int v8), (8, .int v11)] dX12_bears_183 rfl rfl (by decide) rfl ?_
                refine j_goto (pc := 186) hC 114 dX12_bears_186 (by decide) ?_
                obtain rfl := Option.some.inj h
                have hk : jJ X G 10 L 0 0 (jQM X G L (some (.int r)) μ 0 0) 114 [(1, .ref (L.2.2 a1)), (3, .int x3), (4, .int x4), (5, .int v2), (6, .int v5), (7, .int v8), (8, .int v11), (9, .int (u17 + (1 : Int32)))] [] μ := hk
                exact j_lv [1, 2, 3, 4, 5, 6, 7, 0] rfl hk
              · rw [if_neg c25] at h
                obtain rfl := Option.some.inj h
                have hk : jJ X G 10 L 0 0 (jQM X G L (some (.int r)) μ 0 0) 181 [] [] μ := hk
                exact j_lv [] rfl hk
            · rw [if_pos c24] at h
              refine j_iload (pc := 150) hC 3 dX12_bears_150 rfl ?_
              refine j_iload (pc := 152) hC 2 dX12_bears_152 rfl ?_
              refine j_iload (pc := 154) hC 7 dX12_bears_154 rfl ?_
              refine j_iload (pc := 156) hC 6 dX12_bears_156 rfl ?_
              refine j_si (pc := 158) hC hR [.int v2, .int x4, .int u17, .int v11] iy_X12_holds km_X12_268 dX12_bears_158 rfl (by decide) (c_X12_holds hL  rfl) (by decide) (Nat.le_of_ble_eq_true rfl) rfl ?_
              refine j_if_eq (pc := 161) hC 183 dX12_bears_161 (by decide) (fun c26 => ?_) (fun c26 => ?_)
              · rw [if_pos c26] at h
                refine j_iinc (pc := 183) hC 7 (u17 + (1 : Int32)) [(9, .int (u17 + (1 : Int32))), (1, .ref (L.2.2 a1)), (3, .int x3), (4, .int x4), (5, .int v2), (6, .int v5), (7, .int v8), (8, .int v11)] dX12_bears_183 rfl rfl (by decide) rfl ?_
                refine j_goto (pc := 186) hC 114 dX12_bears_186 (by decide) ?_
                obtain rfl := Option.some.inj h
                have hk : jJ X G 10 L 0 0 (jQM X G L (some (.int r)) μ 0 0) 114 [(1, .ref (L.2.2 a1)), (3, .int x3), (4, .int x4), (5, .int v2), (6, .int v5), (7, .int v8), (8, .int v11), (9, .int (u17 + (1 : Int32)))] [] μ := hk
                exact j_lv [1, 2, 3, 4, 5, 6, 7, 0] rfl hk
              · rw [if_neg c26] at h
                obtain rfl := Option.some.inj h
                have hk : jJ X G 10 L 0 0 (jQM X G L (some (.int r)) μ 0 0) 164 [] [] μ := hk
                exact j_lv [] rfl hk
      · cases w27 with
        | inl w27 =>
          try dsimp only at h
          try dsimp only at h
          show jJ X G 10 L 0 0 (jQM X G L (some (.int r)) μ 0 0) 164 [] [] μ
          refine j_goto (pc := 164) hC 181 dX12_bears_164 (by decide) ?_
          refine j_iconst (pc := 181) hC (1 : Int32) dX12_bears_181 (by decide) ?_
          obtain rfl := Option.some.inj h
          exact j_bret (pc := 182) hC dX12_bears_182 rfl rfl
        | inr w27 =>
          try dsimp only at h
          cases w27 with
          | inl w27 =>
            try dsimp only at h
            try dsimp only at h
            show jJ X G 10 L 0 0 (jQM X G L (some (.int r)) μ 0 0) 181 [] [] μ
            refine j_iconst (pc := 181) hC (1 : Int32) dX12_bears_181 (by decide) ?_
            obtain rfl := Option.some.inj h
            exact j_bret (pc := 182) hC dX12_bears_182 rfl rfl
          | inr w27 =>
            try dsimp only at h
            try dsimp only at h
            show jJ X G 10 L 0 0 (jQM X G L (some (.int r)) μ 0 0) 189 [] [] μ
            refine j_iconst (pc := 189) hC (0 : Int32) dX12_bears_189 (by decide) ?_
            obtain rfl := Option.some.inj h
            exact j_bret (pc := 190) hC dX12_bears_190 rfl rfl
    refine j_icmp_eq (pc := 100) hC 111 dX12_bears_100 (by decide) (fun c30 => ?_) (fun c30 => ?_)
    · rw [if_pos c30] at h
      exact j_lv [5, 7, 8, 3, 2, 1, 0] rfl (q15 h)
    · rw [if_neg c30] at h
      refine j_iload_n (pc := 103) hC 3 7 dX12_bears_103 rfl rfl ?_
      refine j_iload (pc := 104) hC 1 dX12_bears_104 rfl ?_
      refine j_icmp_eq (pc := 106) hC 111 dX12_bears_106 (by decide) (fun c31 => ?_) (fun c31 => ?_)
      · rw [if_pos c31] at h
        exact j_lv [5, 7, 8, 3, 2, 1, 0] rfl (q15 h)
      · rw [if_neg c31] at h
        refine j_iconst (pc := 109) hC (1 : Int32) dX12_bears_109 (by decide) ?_
        obtain rfl := Option.some.inj h
        exact j_bret (pc := 110) hC dX12_bears_110 rfl rfl
  · rw [if_pos c13] at h
    refine j_iload (pc := 64) hC 2 dX12_bears_64 rfl ?_
    refine j_iload_n (pc := 66) hC 3 7 dX12_bears_66 rfl rfl ?_
    refine j_si (pc := 67) hC hR [.int v5, .int x3] iy_X12_has km_X12_208 dX12_bears_67 rfl (by decide) (c_X12_has hL  rfl) (by decide) (Nat.le_of_ble_eq_true rfl) rfl ?_
    refine j_if_eq (pc := 70) hC 91 dX12_bears_70 (by decide) (fun c32 => ?_) (fun c32 => ?_)
    · rw [if_pos c32] at h
      refine j_iconst (pc := 91) hC (1 : Int32) dX12_bears_91 (by decide) ?_
      refine j_goto (pc := 92) hC 96 dX12_bears_92 (by decide) ?_
      obtain rfl := Option.some.inj h
      exact j_bret (pc := 96) hC dX12_bears_96 rfl rfl
    · rw [if_neg c32] at h
      refine j_aload_n (pc := 73) hC 0 4 dX12_bears_73 rfl rfl ?_
      refine j_aload_n (pc := 74) hC 1 5 dX12_bears_74 rfl rfl ?_
      refine j_iload (pc := 75) hC 2 dX12_bears_75 rfl ?_
      refine j_iconst (pc := 77) hC (1 : Int32) dX12_bears_77 (by decide) ?_
      refine j_iload_n (pc := 78) hC 3 7 dX12_bears_78 rfl rfl ?_
      refine j_ishl (pc := 79) hC dX12_bears_79 ?_
      refine j_isub (pc := 80) hC dX12_bears_80 ?_
      refine j_iconst (pc := 81) hC (1 : Int32) dX12_bears_81 (by decide) ?_
      refine j_iload (pc := 82) hC 8 dX12_bears_82 rfl ?_
      refine j_ishl (pc := 84) hC dX12_bears_84 ?_
      obtain ⟨v33, e34, h⟩ := jcl_some h
      refine j_vi (pc := 85) hC hR [.ref (L.2.2 a1), .int (v5 - ((1 : Int32) <<< (x3 &&& 31))), .int ((1 : Int32) <<< (x4 &&& 31))] iy_X12_areUnlike (q := (RX12, TX12, 40)) (ci := 12) rfl rfl (by decide) km_X12_264 dX12_bears_85 rfl (by decide) ka0 (c_X12_areUnlike hL 8 ka0 ka1 e34) (by decide) (Nat.le_of_ble_eq_true rfl) rfl ?_
      refine j_if_eq (pc := 88) hC 95 dX12_bears_88 (by decide) (fun c35 => ?_) (fun c35 => ?_)
      · rw [if_pos c35] at h
        refine j_iconst (pc := 95) hC (0 : Int32) dX12_bears_95 (by decide) ?_
        obtain rfl := Option.some.inj h
        exact j_bret (pc := 96) hC dX12_bears_96 rfl rfl
      · rw [if_neg c35] at h
        refine j_iconst (pc := 91) hC (1 : Int32) dX12_bears_91 (by decide) ?_
        refine j_goto (pc := 92) hC 96 dX12_bears_92 (by decide) ?_
        obtain rfl := Option.some.inj h
        exact j_bret (pc := 96) hC dX12_bears_96 rfl rfl
