theorem dX12_isEnd_0 : decode cX12_isEnd 0 = .ok (.aload_n 0, 1) := by decide +kernel
theorem dX12_isEnd_1 : decode cX12_isEnd 1 = .ok (.getfield 28, 3) := by decide +kernel
theorem dX12_isEnd_4 : decode cX12_isEnd 4 = .ok (.aload_n 0, 1) := by decide +kernel
theorem dX12_isEnd_5 : decode cX12_isEnd 5 = .ok (.getfield 25, 3) := by decide +kernel
theorem dX12_isEnd_8 : decode cX12_isEnd 8 = .ok (.if_icmp .eq 66, 3) := by decide +kernel
theorem dX12_isEnd_11 : decode cX12_isEnd 11 = .ok (.aload_n 0, 1) := by decide +kernel
theorem dX12_isEnd_12 : decode cX12_isEnd 12 = .ok (.getfield 31, 3) := by decide +kernel
theorem dX12_isEnd_15 : decode cX12_isEnd 15 = .ok (.ifCond .le 63, 3) := by decide +kernel
theorem dX12_isEnd_18 : decode cX12_isEnd 18 = .ok (.aload_n 0, 1) := by decide +kernel
theorem dX12_isEnd_19 : decode cX12_isEnd 19 = .ok (.getfield 17, 3) := by decide +kernel
theorem dX12_isEnd_22 : decode cX12_isEnd 22 = .ok (.aload_n 0, 1) := by decide +kernel
theorem dX12_isEnd_23 : decode cX12_isEnd 23 = .ok (.getfield 28, 3) := by decide +kernel
theorem dX12_isEnd_26 : decode cX12_isEnd 26 = .ok (.iaload, 1) := by decide +kernel
theorem dX12_isEnd_27 : decode cX12_isEnd 27 = .ok (.bipush 41, 2) := by decide +kernel
theorem dX12_isEnd_29 : decode cX12_isEnd 29 = .ok (.if_icmp .eq 45, 3) := by decide +kernel
theorem dX12_isEnd_32 : decode cX12_isEnd 32 = .ok (.aload_n 0, 1) := by decide +kernel
theorem dX12_isEnd_33 : decode cX12_isEnd 33 = .ok (.getfield 17, 3) := by decide +kernel
theorem dX12_isEnd_36 : decode cX12_isEnd 36 = .ok (.aload_n 0, 1) := by decide +kernel
theorem dX12_isEnd_37 : decode cX12_isEnd 37 = .ok (.getfield 28, 3) := by decide +kernel
theorem dX12_isEnd_40 : decode cX12_isEnd 40 = .ok (.iaload, 1) := by decide +kernel
theorem dX12_isEnd_41 : decode cX12_isEnd 41 = .ok (.bipush 93, 2) := by decide +kernel
theorem dX12_isEnd_43 : decode cX12_isEnd 43 = .ok (.if_icmp .eq 31, 3) := by decide +kernel
theorem dX12_isEnd_46 : decode cX12_isEnd 46 = .ok (.aload_n 0, 1) := by decide +kernel
theorem dX12_isEnd_47 : decode cX12_isEnd 47 = .ok (.getfield 17, 3) := by decide +kernel
theorem dX12_isEnd_50 : decode cX12_isEnd 50 = .ok (.aload_n 0, 1) := by decide +kernel
theorem dX12_isEnd_51 : decode cX12_isEnd 51 = .ok (.getfield 28, 3) := by decide +kernel
theorem dX12_isEnd_54 : decode cX12_isEnd 54 = .ok (.iaload, 1) := by decide +kernel
theorem dX12_isEnd_55 : decode cX12_isEnd 55 = .ok (.bipush 125, 2) := by decide +kernel
theorem dX12_isEnd_57 : decode cX12_isEnd 57 = .ok (.if_icmp .eq 17, 3) := by decide +kernel
theorem dX12_isEnd_60 : decode cX12_isEnd 60 = .ok (.aload_n 0, 1) := by decide +kernel
theorem dX12_isEnd_61 : decode cX12_isEnd 61 = .ok (.getfield 17, 3) := by decide +kernel
theorem dX12_isEnd_64 : decode cX12_isEnd 64 = .ok (.aload_n 0, 1) := by decide +kernel
theorem dX12_isEnd_65 : decode cX12_isEnd 65 = .ok (.getfield 28, 3) := by decide +kernel
theorem dX12_isEnd_68 : decode cX12_isEnd 68 = .ok (.iaload, 1) := by decide +kernel
theorem dX12_isEnd_69 : decode cX12_isEnd 69 = .ok (.bipush 124, 2) := by decide +kernel
theorem dX12_isEnd_71 : decode cX12_isEnd 71 = .ok (.if_icmp .ne 7, 3) := by decide +kernel
theorem dX12_isEnd_74 : decode cX12_isEnd 74 = .ok (.iconst 1, 1) := by decide +kernel
theorem dX12_isEnd_75 : decode cX12_isEnd 75 = .ok (.goto 4, 3) := by decide +kernel
theorem dX12_isEnd_78 : decode cX12_isEnd 78 = .ok (.iconst 0, 1) := by decide +kernel
theorem dX12_isEnd_79 : decode cX12_isEnd 79 = .ok (.ireturn, 1) := by decide +kernel
def f_X12_isEnd (a0 : Nat) (μ : jM) : Option (Int32) :=
  (if (μ.1 a0 5) = (μ.1 a0 6) then some (1 : Int32) else (if (μ.1 a0 7) ≤ (0 : Int32) then some (0 : Int32) else jrd (μ.1 (a0 + 2)) (μ.1 a0 5) 80 (fun v4 => (if v4 = (41 : Int32) then some (1 : Int32) else jrd (μ.1 (a0 + 2)) (μ.1 a0 5) 80 (fun v8 => (if v8 = (93 : Int32) then some (1 : Int32) else jrd (μ.1 (a0 + 2)) (μ.1 a0 5) 80 (fun v12 => (if v12 = (125 : Int32) then some (1 : Int32) else jrd (μ.1 (a0 + 2)) (μ.1 a0 5) 80 (fun v16 => (if v16 = (124 : Int32) then some (1 : Int32) else some (0 : Int32)))))))))))
set_option maxHeartbeats 4000000 in
set_option maxRecDepth 100000 in
theorem c_X12_isEnd {l : Launch} {G : jG} {L : jL} (hL : jOKL L) {a0 : Nat} (ka0 : jK L a0 12) {μ : jM} {r : Int32} (h : f_X12_isEnd a0 μ = some r) : jCt l G L 3 yX12_isEnd cX12_isEnd 1 (some .boolean) [.ref (L.2.2 a0)] μ (some (.int r)) μ := by
  refine jCt_of (by decide) (Nat.le_of_ble_eq_true rfl) (fun X hC hX hR => ?_)
  subst hX
  have hC : jC X G cX12_isEnd 1 RX12 (some .boolean) := hC
  unfold f_X12_isEnd at h
  show jJ X G 1 L 0 0 (jQM X G L (some (.int r)) μ 0 0) 0 [(0, .ref (L.2.2 a0))] [] μ
  refine j_aload_n (pc := 0) hC 0 0 dX12_isEnd_0 rfl rfl ?_
  refine jgi_12 (pc := 1) hC 5 (by decide) rfl kf_X12_28 dX12_isEnd_1 ka0 ?_
  refine j_aload_n (pc := 4) hC 0 0 dX12_isEnd_4 rfl rfl ?_
  refine jgi_12 (pc := 5) hC 6 (by decide) rfl kf_X12_25 dX12_isEnd_5 ka0 ?_
  refine j_icmp_eq (pc := 8) hC 74 dX12_isEnd_8 (by decide) (fun c1 => ?_) (fun c1 => ?_)
  · rw [if_pos c1] at h
    refine j_iconst (pc := 74) hC (1 : Int32) dX12_isEnd_74 (by decide) ?_
    refine j_goto (pc := 75) hC 79 dX12_isEnd_75 (by decide) ?_
    obtain rfl := Option.some.inj h
    exact j_bret (pc := 79) hC dX12_isEnd_79 rfl rfl
  · rw [if_neg c1] at h
    refine j_aload_n (pc := 11) hC 0 0 dX12_isEnd_11 rfl rfl ?_
    refine jgi_12 (pc := 12) hC 7 (by decide) rfl kf_X12_31 dX12_isEnd_12 ka0 ?_
    refine j_if_le (pc := 15) hC 78 dX12_isEnd_15 (by decide) (fun c2 => ?_) (fun c2 => ?_)
    · rw [if_pos c2] at h
      refine j_iconst (pc := 78) hC (0 : Int32) dX12_isEnd_78 (by decide) ?_
      obtain rfl := Option.some.inj h
      exact j_bret (pc := 79) hC dX12_isEnd_79 rfl rfl
    · rw [if_neg c2] at h
      refine j_aload_n (pc := 18) hC 0 0 dX12_isEnd_18 rfl rfl ?_
      refine jgr_12 (pc := 19) hC 3 (by decide) rfl kf_X12_17 dX12_isEnd_19 ka0 (ly_12_3 hL ka0).1 ?_
      refine j_aload_n (pc := 22) hC 0 0 dX12_isEnd_22 rfl rfl ?_
      refine jgi_12 (pc := 23) hC 5 (by decide) rfl kf_X12_28 dX12_isEnd_23 ka0 ?_
      obtain ⟨i3, v4, e5, h⟩ := jrd_some h
      refine j_iald (pc := 26) hC dX12_isEnd_26 (ly_12_3 hL ka0).2.1 (ly_12_3 hL ka0).2.2 i3 e5 ?_
      refine j_bipush (pc := 27) hC (41 : Int32) dX12_isEnd_27 (by decide) ?_
      refine j_icmp_eq (pc := 29) hC 74 dX12_isEnd_29 (by decide) (fun c6 => ?_) (fun c6 => ?_)
      · rw [if_pos c6] at h
        refine j_iconst (pc := 74) hC (1 : Int32) dX12_isEnd_74 (by decide) ?_
        refine j_goto (pc := 75) hC 79 dX12_isEnd_75 (by decide) ?_
        obtain rfl := Option.some.inj h
        exact j_bret (pc := 79) hC dX12_isEnd_79 rfl rfl
      · rw [if_neg c6] at h
        refine j_aload_n (pc := 32) hC 0 0 dX12_isEnd_32 rfl rfl ?_
        refine jgr_12 (pc := 33) hC 3 (by decide) rfl kf_X12_17 dX12_isEnd_33 ka0 (ly_12_3 hL ka0).1 ?_
        refine j_aload_n (pc := 36) hC 0 0 dX12_isEnd_36 rfl rfl ?_
        refine jgi_12 (pc := 37) hC 5 (by decide) rfl kf_X12_28 dX12_isEnd_37 ka0 ?_
        obtain ⟨i7, v8, e9, h⟩ := jrd_some h
        refine j_iald (pc := 40) hC dX12_isEnd_40 (ly_12_3 hL ka0).2.1 (ly_12_3 hL ka0).2.2 i7 e9 ?_
        refine j_bipush (pc := 41) hC (93 : Int32) dX12_isEnd_41 (by decide) ?_
        refine j_icmp_eq (pc := 43) hC 74 dX12_isEnd_43 (by decide) (fun c10 => ?_) (fun c10 => ?_)
        · rw [if_pos c10] at h
          refine j_iconst (pc := 74) hC (1 : Int32) dX12_isEnd_74 (by decide) ?_
          refine j_goto (pc := 75) hC 79 dX12_isEnd_75 (by decide) ?_
          obtain rfl := Option.some.inj h
          exact j_bret (pc := 79) hC dX12_isEnd_79 rfl rfl
        · rw [if_neg c10] at h
          refine j_aload_n (pc := 46) hC 0 0 dX12_isEnd_46 rfl rfl ?_
          refine jgr_12 (pc := 47) hC 3 (by decide) rfl kf_X12_17 dX12_isEnd_47 ka0 (ly_12_3 hL ka0).1 ?_
          refine j_aload_n (pc := 50) hC 0 0 dX12_isEnd_50 rfl rfl ?_
          refine jgi_12 (pc := 51) hC 5 (by decide) rfl kf_X12_28 dX12_isEnd_51 ka0 ?_
          obtain ⟨i11, v12, e13, h⟩ := jrd_some h
          refine j_iald (pc := 54) hC dX12_isEnd_54 (ly_12_3 hL ka0).2.1 (ly_12_3 hL ka0).2.2 i11 e13 ?_
          refine j_bipush (pc := 55) hC (125 : Int32) dX12_isEnd_55 (by decide) ?_
          refine j_icmp_eq (pc := 57) hC 74 dX12_isEnd_57 (by decide) (fun c14 => ?_) (fun c14 => ?_)
          · rw [if_pos c14] at h
            refine j_iconst (pc := 74) hC (1 : Int32) dX12_isEnd_74 (by decide) ?_
            refine j_goto (pc := 75) hC 79 dX12_isEnd_75 (by decide) ?_
            obtain rfl := Option.some.inj h
            exact j_bret (pc := 79) hC dX12_isEnd_79 rfl rfl
          · rw [if_neg c14] at h
            refine j_aload_n (pc := 60) hC 0 0 dX12_isEnd_60 rfl rfl ?_
            refine jgr_12 (pc := 61) hC 3 (by decide) rfl kf_X12_17 dX12_isEnd_61 ka0 (ly_12_3 hL ka0).1 ?_
            refine j_aload_n (pc := 64) hC 0 0 dX12_isEnd_64 rfl rfl ?_
            refine jgi_12 (pc := 65) hC 5 (by decide) rfl kf_X12_28 dX12_isEnd_65 ka0 ?_
            obtain ⟨i15, v16, e17, h⟩ := jrd_some h
            refine j_iald (pc := 68) hC dX12_isEnd_68 (ly_12_3 hL ka0).2.1 (ly_12_3 hL ka0).2.2 i15 e17 ?_
            refine j_bipush (pc := 69) hC (124 : Int32) dX12_isEnd_69 (by decide) ?_
            refine j_icmp_ne (pc := 71) hC 78 dX12_isEnd_71 (by decide) (fun c18 => ?_) (fun c18 => ?_)
            · rw [if_neg c18] at h
              refine j_iconst (pc := 78) hC (0 : Int32) dX12_isEnd_78 (by decide) ?_
              obtain rfl := Option.some.inj h
              exact j_bret (pc := 79) hC dX12_isEnd_79 rfl rfl
            · rw [if_pos c18] at h
              refine j_iconst (pc := 74) hC (1 : Int32) dX12_isEnd_74 (by decide) ?_
              refine j_goto (pc := 75) hC 79 dX12_isEnd_75 (by decide) ?_
              obtain rfl := Option.some.inj h
              exact j_bret (pc := 79) hC dX12_isEnd_79 rfl rfl
theorem dX12_readsBlock_0 : decode cX12_readsBlock 0 = .ok (.aload_n 0, 1) := by decide +kernel
theorem dX12_readsBlock_1 : decode cX12_readsBlock 1 = .ok (.getfield 28, 3) := by decide +kernel
theorem dX12_readsBlock_4 : decode cX12_readsBlock 4 = .ok (.istore_n 1, 1) := by decide +kernel
theorem dX12_readsBlock_5 : decode cX12_readsBlock 5 = .ok (.aload_n 0, 1) := by decide +kernel
theorem dX12_readsBlock_6 : decode cX12_readsBlock 6 = .ok (.getfield 31, 3) := by decide +kernel
theorem dX12_readsBlock_9 : decode cX12_readsBlock 9 = .ok (.iconst 4, 1) := by decide +kernel
theorem dX12_readsBlock_10 : decode cX12_readsBlock 10 = .ok (.if_icmp .ne 5, 3) := by decide +kernel
theorem dX12_readsBlock_13 : decode cX12_readsBlock 13 = .ok (.iconst 0, 1) := by decide +kernel
theorem dX12_readsBlock_14 : decode cX12_readsBlock 14 = .ok (.ireturn, 1) := by decide +kernel
theorem dX12_readsBlock_15 : decode cX12_readsBlock 15 = .ok (.aload_n 0, 1) := by decide +kernel
theorem dX12_readsBlock_16 : decode cX12_readsBlock 16 = .ok (.ldc_w 315, 3) := by decide +kernel
theorem dX12_readsBlock_19 : decode cX12_readsBlock 19 = .ok (.invokevirtual 50, 3) := by decide +kernel
theorem dX12_readsBlock_22 : decode cX12_readsBlock 22 = .ok (.istore_n 2, 1) := by decide +kernel
theorem dX12_readsBlock_23 : decode cX12_readsBlock 23 = .ok (.iload_n 2, 1) := by decide +kernel
theorem dX12_readsBlock_24 : decode cX12_readsBlock 24 = .ok (.ifCond .ge 5, 3) := by decide +kernel
theorem dX12_readsBlock_27 : decode cX12_readsBlock 27 = .ok (.iconst 0, 1) := by decide +kernel
theorem dX12_readsBlock_28 : decode cX12_readsBlock 28 = .ok (.ireturn, 1) := by decide +kernel
theorem dX12_readsBlock_29 : decode cX12_readsBlock 29 = .ok (.aload_n 0, 1) := by decide +kernel
theorem dX12_readsBlock_30 : decode cX12_readsBlock 30 = .ok (.dup, 1) := by decide +kernel
theorem dX12_readsBlock_31 : decode cX12_readsBlock 31 = .ok (.getfield 31, 3) := by decide +kernel
theorem dX12_readsBlock_34 : decode cX12_readsBlock 34 = .ok (.iconst 1, 1) := by decide +kernel
theorem dX12_readsBlock_35 : decode cX12_readsBlock 35 = .ok (.iadd, 1) := by decide +kernel
theorem dX12_readsBlock_36 : decode cX12_readsBlock 36 = .ok (.putfield 31, 3) := by decide +kernel
theorem dX12_readsBlock_39 : decode cX12_readsBlock 39 = .ok (.aload_n 0, 1) := by decide +kernel
theorem dX12_readsBlock_40 : decode cX12_readsBlock 40 = .ok (.bipush 20, 2) := by decide +kernel
theorem dX12_readsBlock_42 : decode cX12_readsBlock 42 = .ok (.iload_n 2, 1) := by decide +kernel
theorem dX12_readsBlock_43 : decode cX12_readsBlock 43 = .ok (.iadd, 1) := by decide +kernel
theorem dX12_readsBlock_44 : decode cX12_readsBlock 44 = .ok (.iconst 0, 1) := by decide +kernel
theorem dX12_readsBlock_45 : decode cX12_readsBlock 45 = .ok (.iconst 0, 1) := by decide +kernel
theorem dX12_readsBlock_46 : decode cX12_readsBlock 46 = .ok (.iload_n 1, 1) := by decide +kernel
theorem dX12_readsBlock_47 : decode cX12_readsBlock 47 = .ok (.invokevirtual 301, 3) := by decide +kernel
theorem dX12_readsBlock_50 : decode cX12_readsBlock 50 = .ok (.istore_n 3, 1) := by decide +kernel
theorem dX12_readsBlock_51 : decode cX12_readsBlock 51 = .ok (.iconst 1, 1) := by decide +kernel
theorem dX12_readsBlock_52 : decode cX12_readsBlock 52 = .ok (.istore 4, 2) := by decide +kernel
theorem dX12_readsBlock_54 : decode cX12_readsBlock 54 = .ok (.iload 4, 2) := by decide +kernel
theorem dX12_readsBlock_56 : decode cX12_readsBlock 56 = .ok (.ifCond .eq 61, 3) := by decide +kernel
theorem dX12_readsBlock_59 : decode cX12_readsBlock 59 = .ok (.aload_n 0, 1) := by decide +kernel
theorem dX12_readsBlock_60 : decode cX12_readsBlock 60 = .ok (.bipush 30, 2) := by decide +kernel
theorem dX12_readsBlock_62 : decode cX12_readsBlock 62 = .ok (.iconst 0, 1) := by decide +kernel
theorem dX12_readsBlock_63 : decode cX12_readsBlock 63 = .ok (.iconst 0, 1) := by decide +kernel
theorem dX12_readsBlock_64 : decode cX12_readsBlock 64 = .ok (.aload_n 0, 1) := by decide +kernel
theorem dX12_readsBlock_65 : decode cX12_readsBlock 65 = .ok (.getfield 28, 3) := by decide +kernel
theorem dX12_readsBlock_68 : decode cX12_readsBlock 68 = .ok (.invokevirtual 301, 3) := by decide +kernel
theorem dX12_readsBlock_71 : decode cX12_readsBlock 71 = .ok (.istore 5, 2) := by decide +kernel
theorem dX12_readsBlock_73 : decode cX12_readsBlock 73 = .ok (.aload_n 0, 1) := by decide +kernel
theorem dX12_readsBlock_74 : decode cX12_readsBlock 74 = .ok (.invokevirtual 317, 3) := by decide +kernel
theorem dX12_readsBlock_77 : decode cX12_readsBlock 77 = .ok (.ifCond .ne 5, 3) := by decide +kernel
theorem dX12_readsBlock_80 : decode cX12_readsBlock 80 = .ok (.iconst 0, 1) := by decide +kernel
theorem dX12_readsBlock_81 : decode cX12_readsBlock 81 = .ok (.ireturn, 1) := by decide +kernel
theorem dX12_readsBlock_82 : decode cX12_readsBlock 82 = .ok (.aload_n 0, 1) := by decide +kernel
theorem dX12_readsBlock_83 : decode cX12_readsBlock 83 = .ok (.getfield 93, 3) := by decide +kernel
theorem dX12_readsBlock_86 : decode cX12_readsBlock 86 = .ok (.iload 5, 2) := by decide +kernel
theorem dX12_readsBlock_88 : decode cX12_readsBlock 88 = .ok (.aload_n 0, 1) := by decide +kernel
theorem dX12_readsBlock_89 : decode cX12_readsBlock 89 = .ok (.getfield 293, 3) := by decide +kernel
theorem dX12_readsBlock_92 : decode cX12_readsBlock 92 = .ok (.iastore, 1) := by decide +kernel
theorem dX12_readsBlock_93 : decode cX12_readsBlock 93 = .ok (.iload_n 2, 1) := by decide +kernel
theorem dX12_readsBlock_94 : decode cX12_readsBlock 94 = .ok (.iconst 2, 1) := by decide +kernel
theorem dX12_readsBlock_95 : decode cX12_readsBlock 95 = .ok (.if_icmp .ne 16, 3) := by decide +kernel
theorem dX12_readsBlock_98 : decode cX12_readsBlock 98 = .ok (.aload_n 0, 1) := by decide +kernel
theorem dX12_readsBlock_99 : decode cX12_readsBlock 99 = .ok (.bipush 124, 2) := by decide +kernel
theorem dX12_readsBlock_101 : decode cX12_readsBlock 101 = .ok (.invokevirtual 247, 3) := by decide +kernel
theorem dX12_readsBlock_104 : decode cX12_readsBlock 104 = .ok (.ifCond .eq 7, 3) := by decide +kernel
theorem dX12_readsBlock_107 : decode cX12_readsBlock 107 = .ok (.iconst 1, 1) := by decide +kernel
theorem dX12_readsBlock_108 : decode cX12_readsBlock 108 = .ok (.goto 4, 3) := by decide +kernel
theorem dX12_readsBlock_111 : decode cX12_readsBlock 111 = .ok (.iconst 0, 1) := by decide +kernel
theorem dX12_readsBlock_112 : decode cX12_readsBlock 112 = .ok (.istore 4, 2) := by decide +kernel
theorem dX12_readsBlock_114 : decode cX12_readsBlock 114 = .ok (.goto (-60), 3) := by decide +kernel
theorem dX12_readsBlock_117 : decode cX12_readsBlock 117 = .ok (.aload_n 0, 1) := by decide +kernel
theorem dX12_readsBlock_118 : decode cX12_readsBlock 118 = .ok (.getfield 93, 3) := by decide +kernel
theorem dX12_readsBlock_121 : decode cX12_readsBlock 121 = .ok (.iload_n 3, 1) := by decide +kernel
theorem dX12_readsBlock_122 : decode cX12_readsBlock 122 = .ok (.aload_n 0, 1) := by decide +kernel
theorem dX12_readsBlock_123 : decode cX12_readsBlock 123 = .ok (.getfield 293, 3) := by decide +kernel
theorem dX12_readsBlock_126 : decode cX12_readsBlock 126 = .ok (.iastore, 1) := by decide +kernel
theorem dX12_readsBlock_127 : decode cX12_readsBlock 127 = .ok (.aload_n 0, 1) := by decide +kernel
theorem dX12_readsBlock_128 : decode cX12_readsBlock 128 = .ok (.dup, 1) := by decide +kernel
theorem dX12_readsBlock_129 : decode cX12_readsBlock 129 = .ok (.getfield 31, 3) := by decide +kernel
theorem dX12_readsBlock_132 : decode cX12_readsBlock 132 = .ok (.iconst 1, 1) := by decide +kernel
theorem dX12_readsBlock_133 : decode cX12_readsBlock 133 = .ok (.isub, 1) := by decide +kernel
theorem dX12_readsBlock_134 : decode cX12_readsBlock 134 = .ok (.putfield 31, 3) := by decide +kernel
theorem dX12_readsBlock_137 : decode cX12_readsBlock 137 = .ok (.aload_n 0, 1) := by decide +kernel
theorem dX12_readsBlock_138 : decode cX12_readsBlock 138 = .ok (.iload_n 2, 1) := by decide +kernel
theorem dX12_readsBlock_139 : decode cX12_readsBlock 139 = .ok (.ifCond .ne 8, 3) := by decide +kernel
theorem dX12_readsBlock_142 : decode cX12_readsBlock 142 = .ok (.bipush 41, 2) := by decide +kernel
theorem dX12_readsBlock_144 : decode cX12_readsBlock 144 = .ok (.goto 15, 3) := by decide +kernel
theorem dX12_readsBlock_147 : decode cX12_readsBlock 147 = .ok (.iload_n 2, 1) := by decide +kernel
theorem dX12_readsBlock_148 : decode cX12_readsBlock 148 = .ok (.iconst 1, 1) := by decide +kernel
theorem dX12_readsBlock_149 : decode cX12_readsBlock 149 = .ok (.if_icmp .ne 8, 3) := by decide +kernel
theorem dX12_readsBlock_152 : decode cX12_readsBlock 152 = .ok (.bipush 93, 2) := by decide +kernel
theorem dX12_readsBlock_154 : decode cX12_readsBlock 154 = .ok (.goto 5, 3) := by decide +kernel
theorem dX12_readsBlock_157 : decode cX12_readsBlock 157 = .ok (.bipush 125, 2) := by decide +kernel
theorem dX12_readsBlock_159 : decode cX12_readsBlock 159 = .ok (.invokevirtual 247, 3) := by decide +kernel
theorem dX12_readsBlock_162 : decode cX12_readsBlock 162 = .ok (.ireturn, 1) := by decide +kernel
def f_X12_readsBlock_L54 (a0 : Nat) (rA : Nat → jM → Option (Int32 × jM)) (v2 : Int32) (u11 : Int32) (m12 : jM) : Option ((Int32 × jM) ⊕ ((jM) ⊕ (jM))) :=
  (if u11 = (0 : Int32) then some (.inr (.inr (m12))) else jcl2 (f_X12_comes a0 (30 : Int32) (0 : Int32) (0 : Int32) (m12.1 a0 5) m12) (fun v14 m15 => jcl2 (rA a0 m15) (fun v17 m18 => (if v17 = (0 : Int32) then some (.inr (.inl m18)) else jin v14 168 (jbd (jsi m18 (a0 + 14) v14.toNatClampNeg (m18.1 a0 24)) (fun m22 => (if v2 = (2 : Int32) then jcl2 (f_X12_takes a0 (124 : Int32) m22) (fun v25 m26 => (if v25 = (0 : Int32) then some (.inl (((0 : Int32), m26))) else some (.inl (((1 : Int32), m26))))) else some (.inl (((0 : Int32), m22))))))))))
def fb_X12_readsBlock (rA : Nat → jM → Option (Int32 × jM)) (a0 : Nat) (μ : jM) : Option (Int32 × jM) :=
  (if (μ.1 a0 7) = (4 : Int32) then some (((0 : Int32), μ)) else jcl2 (f_X12_takesOf a0 25 μ) (fun v2 m3 => (if (0 : Int32) ≤ v2 then jbd (jsi m3 a0 7 ((m3.1 a0 7) + (1 : Int32))) (fun m6 => jcl2 (f_X12_comes a0 ((20 : Int32) + v2) (0 : Int32) (0 : Int32) (μ.1 a0 5) m6) (fun v8 m9 => jcl (jloop (fun (s : Int32 × jM) => f_X12_readsBlock_L54 a0 rA v2 s.1 s.2) jfu (((1 : Int32), m9))) (fun w29 => match w29 with | .inl w29 => some (((0 : Int32), w29)) | .inr w29 => jin v8 168 (jbd (jsi w29 (a0 + 14) v8.toNatClampNeg (w29.1 a0 24)) (fun m35 => jbd (jsi m35 a0 7 ((m35.1 a0 7) - (1 : Int32))) (fun m37 => (if v2 = (0 : Int32) then jcl2 (f_X12_takes a0 (41 : Int32) m37) (fun v47 m48 => some ((v47 &&& 1, m48))) else (if v2 = (1 : Int32) then jcl2 (f_X12_takes a0 (93 : Int32) m37) (fun v44 m45 => some ((v44 &&& 1, m45))) else jcl2 (f_X12_takes a0 (125 : Int32) m37) (fun v41 m42 => some ((v41 &&& 1, m42))))))))))) else some (((0 : Int32), m3)))))
set_option maxHeartbeats 4000000 in
set_option maxRecDepth 100000 in
theorem cb_X12_readsBlock {l : Launch} {G : jG} {L : jL} (hL : jOKL L) {dA : Nat} (hD : 9 ≤ dA) {rA : Nat → jM → Option (Int32 × jM)} (hA : ∀ {b0 : Nat} {μ1 μ2 : jM} {r : Int32}, jK L b0 12 → rA b0 μ1 = some (r, μ2) → jCt l G L dA yX12_readsRun cX12_readsRun 5 (some .boolean) [.ref (L.2.2 b0)] μ1 (some (.int r)) μ2) {a0 : Nat} (ka0 : jK L a0 12) {μ μ' : jM} {r : Int32} (h : fb_X12_readsBlock rA a0 μ = some ((r, μ'))) : jCt l G L (dA + 1) yX12_readsBlock cX12_readsBlock 6 (some .boolean) [.ref (L.2.2 a0)] μ (some (.int r)) μ' := by
  refine jCt_of (by decide) (Nat.le_of_ble_eq_true rfl) (fun X hC hX hR => ?_)
  subst hX
  have hC : jC X G cX12_readsBlock 6 RX12 (some .boolean) := hC
  unfold fb_X12_readsBlock at h
  show jJ X G 6 L 0 0 (jQM X G L (some (.int r)) μ' 0 0) 0 [(0, .ref (L.2.2 a0))] [] μ
  refine j_aload_n (pc := 0) hC 0 0 dX12_readsBlock_0 rfl rfl ?_
  refine jgi_12 (pc := 1) hC 5 (by decide) rfl kf_X12_28 dX12_readsBlock_1 ka0 ?_
  refine j_istore_n (pc := 4) hC 1 [(1, .int (μ.1 a0 5)), (0, .ref (L.2.2 a0))] dX12_readsBlock_4 rfl (by decide) rfl rfl ?_
  refine j_aload_n (pc := 5) hC 0 1 dX12_readsBlock_5 rfl rfl ?_
  refine jgi_12 (pc := 6) hC 7 (by decide) rfl kf_X12_31 dX12_readsBlock_6 ka0 ?_
  refine j_iconst (pc := 9) hC (4 : Int32) dX12_readsBlock_9 (by decide) ?_
  refine j_icmp_ne (pc := 10) hC 15 dX12_readsBlock_10 (by decide) (fun c1 => ?_) (fun c1 => ?_)
  · rw [if_neg c1] at h
    refine j_aload_n (pc := 15) hC 0 1 dX12_readsBlock_15 rfl rfl ?_
    refine j_ldcSw (pc := 16) hC 25 ks_X12_315 dX12_readsBlock_16 ?_
    obtain ⟨v2, m3, e4, h⟩ := jcl2_some h
    refine j_vi (pc := 19) hC hR [.ref (G.2.2.2.1 25)] iy_X12_takesOf (q := (RX12, TX12, 40)) (ci := 12) rfl rfl (by decide) km_X12_50 dX12_readsBlock_19 rfl (by decide) ka0 (c_X12_takesOf hL ka0 (by decide) e4) (by omega) (Nat.le_of_ble_eq_true rfl) rfl ?_
    refine j_istore_n (pc := 22) hC 2 [(2, .int v2), (1, .int (μ.1 a0 5)), (0, .ref (L.2.2 a0))] dX12_readsBlock_22 rfl (by decide) rfl rfl ?_
    refine j_iload_n (pc := 23) hC 2 0 dX12_readsBlock_23 rfl rfl ?_
    refine j_if_ge (pc := 24) hC 29 dX12_readsBlock_24 (by decide) (fun c5 => ?_) (fun c5 => ?_)
    · rw [if_pos c5] at h
      refine j_aload_n (pc := 29) hC 0 2 dX12_readsBlock_29 rfl rfl ?_
      refine j_dup (pc := 30) hC dX12_readsBlock_30 rfl ?_
      refine jgi_12 (pc := 31) hC 7 (by decide) rfl kf_X12_31 dX12_readsBlock_31 ka0 ?_
      refine j_iconst (pc := 34) hC (1 : Int32) dX12_readsBlock_34 (by decide) ?_
      refine j_iadd (pc := 35) hC dX12_readsBlock_35 ?_
      obtain ⟨m6, e7, h⟩ := jbd_ex h
      refine jpi_12 (pc := 36) hC 7 (by decide) rfl kf_X12_31 dX12_readsBlock_36 rfl (by decide) ka0 e7 ?_
      refine j_aload_n (pc := 39) hC 0 2 dX12_readsBlock_39 rfl rfl ?_
      refine j_bipush (pc := 40) hC (20 : Int32) dX12_readsBlock_40 (by decide) ?_
      refine j_iload_n (pc := 42) hC 2 0 dX12_readsBlock_42 rfl rfl ?_
      refine j_iadd (pc := 43) hC dX12_readsBlock_43 ?_
      refine j_iconst (pc := 44) hC (0 : Int32) dX12_readsBlock_44 (by decide) ?_
      refine j_iconst (pc := 45) hC (0 : Int32) dX12_readsBlock_45 (by decide) ?_
      refine j_iload_n (pc := 46) hC 1 1 dX12_readsBlock_46 rfl rfl ?_
      obtain ⟨v8, m9, e10, h⟩ := jcl2_some h
      refine j_vi (pc := 47) hC hR [.int ((20 : Int32) + v2), .int (0 : Int32), .int (0 : Int32), .int (μ.1 a0 5)] iy_X12_comes (q := (RX12, TX12, 40)) (ci := 12) rfl rfl (by decide) km_X12_301 dX12_readsBlock_47 rfl (by decide) ka0 (c_X12_comes hL ka0 e10) (by omega) (Nat.le_of_ble_eq_true rfl) rfl ?_
      refine j_istore_n (pc := 50) hC 3 [(3, .int v8), (2, .int v2), (1, .int (μ.1 a0 5)), (0, .ref (L.2.2 a0))] dX12_readsBlock_50 rfl (by decide) rfl rfl ?_
      refine j_iconst (pc := 51) hC (1 : Int32) dX12_readsBlock_51 (by decide) ?_
      refine j_istore (pc := 52) hC [(4, .int (1 : Int32)), (3, .int v8), (2, .int v2), (1, .int (μ.1 a0 5)), (0, .ref (L.2.2 a0))] dX12_readsBlock_52 (by decide) rfl rfl ?_
      obtain ⟨w29, hw30, h⟩ := jcl_some h
      refine j_lv [4, 2, 1, 0] rfl ?_
      refine j_loop (step := (fun (s : Int32 × jM) => f_X12_readsBlock_L54 a0 rA v2 s.1 s.2)) (P := (fun (s : Int32 × jM) => jJ X G 6 L 0 0 (jQM X G L (some (.int r)) μ' 0 0) 54 [(0, .ref (L.2.2 a0)), (2, .int v2), (3, .int v8), (4, .int s.1)] [] s.2)) (R := (fun (e : (jM) ⊕ (jM)) => match e with | .inl e => jJ X G 6 L 0 0 (jQM X G L (some (.int r)) μ' 0 0) 80 [] [] e | .inr e => jJ X G 6 L 0 0 (jQM X G L (some (.int r)) μ' 0 0) 117 [(0, .ref (L.2.2 a0)), (2, .int v2), (3, .int v8)] [] e)) ?_ jfu (((1 : Int32), m9)) w29 hw30 ?_
      · intro s31 o h hk
        obtain ⟨u11, m12⟩ := s31
        change f_X12_readsBlock_L54 a0 rA v2 u11 m12 = some o at h
        unfold f_X12_readsBlock_L54 at h
        show jJ X G 6 L 0 0 (jQM X G L (some (.int r)) μ' 0 0) 54 [(0, .ref (L.2.2 a0)), (2, .int v2), (3, .int v8), (4, .int u11)] [] m12
        refine j_iload (pc := 54) hC 3 dX12_readsBlock_54 rfl ?_
        refine j_if_eq (pc := 56) hC 117 dX12_readsBlock_56 (by decide) (fun c13 => ?_) (fun c13 => ?_)
        · rw [if_pos c13] at h
          obtain rfl := Option.some.inj h
          have hk : jJ X G 6 L 0 0 (jQM X G L (some (.int r)) μ' 0 0) 117 [(0, .ref (L.2.2 a0)), (2, .int v2), (3, .int v8)] [] m12 := hk
          exact j_lv [0, 1, 2] rfl hk
        · rw [if_neg c13] at h
          refine j_aload_n (pc := 59) hC 0 0 dX12_readsBlock_59 rfl rfl ?_
          refine j_bipush (pc := 60) hC (30 : Int32) dX12_readsBlock_60 (by decide) ?_
          refine j_iconst (pc := 62) hC (0 : Int32) dX12_readsBlock_62 (by decide) ?_
          refine j_iconst (pc := 63) hC (0 : Int32) dX12_readsBlock_63 (by decide) ?_
          refine j_aload_n (pc := 64) hC 0 0 dX12_readsBlock_64 rfl rfl ?_
          refine jgi_12 (pc := 65) hC 5 (by decide) rfl kf_X12_28 dX12_readsBlock_65 ka0 ?_
          obtain ⟨v14, m15, e16, h⟩ := jcl2_some h
          refine j_vi (pc := 68) hC hR [.int (30 : Int32), .int (0 : Int32), .int (0 : Int32), .int (m12.1 a0 5)] iy_X12_comes (q := (RX12, TX12, 40)) (ci := 12) rfl rfl (by decide) km_X12_301 dX12_readsBlock_68 rfl (by decide) ka0 (c_X12_comes hL ka0 e16) (by omega) (Nat.le_of_ble_eq_true rfl) rfl ?_
          refine j_istore (pc := 71) hC [(5, .int v14), (0, .ref (L.2.2 a0)), (2, .int v2), (3, .int v8), (4, .int u11)] dX12_readsBlock_71 (by decide) rfl rfl ?_
          refine j_aload_n (pc := 73) hC 0 1 dX12_readsBlock_73 rfl rfl ?_
          obtain ⟨v17, m18, e19, h⟩ := jcl2_some h
          refine j_vi (pc := 74) hC hR [] iy_X12_readsRun (q := (RX12, TX12, 40)) (ci := 12) rfl rfl (by decide) km_X12_317 dX12_readsBlock_74 rfl (by decide) ka0 (hA ka0 e19) (by omega) (Nat.le_of_ble_eq_true rfl) rfl ?_
          refine j_if_ne (pc := 77) hC 82 dX12_readsBlock_77 (by decide) (fun c20 => ?_) (fun c20 => ?_)
          · rw [if_neg c20] at h
            refine j_aload_n (pc := 82) hC 0 1 dX12_readsBlock_82 rfl rfl ?_
            refine jgr_12 (pc := 83) hC 23 (by decide) rfl kf_X12_93 dX12_readsBlock_83 ka0 (ly_12_23 hL ka0).1 ?_
            refine j_iload (pc := 86) hC 0 dX12_readsBlock_86 rfl ?_
            refine j_aload_n (pc := 88) hC 0 1 dX12_readsBlock_88 rfl rfl ?_
            refine jgi_12 (pc := 89) hC 24 (by decide) rfl kf_X12_293 dX12_readsBlock_89 ka0 ?_
            obtain ⟨i21, h⟩ := jin_some h
            obtain ⟨m22, e23, h⟩ := jbd_ex h
            refine j_iast (pc := 92) hC dX12_readsBlock_92 (ly_12_23 hL ka0).2.1 (ly_12_23 hL ka0).2.2 i21 e23 ?_
            refine j_iload_n (pc := 93) hC 2 2 dX12_readsBlock_93 rfl rfl ?_
            refine j_iconst (pc := 94) hC (2 : Int32) dX12_readsBlock_94 (by decide) ?_
            refine j_icmp_ne (pc := 95) hC 111 dX12_readsBlock_95 (by decide) (fun c24 => ?_) (fun c24 => ?_)
            · rw [if_neg c24] at h
              refine j_iconst (pc := 111) hC (0 : Int32) dX12_readsBlock_111 (by decide) ?_
              refine j_istore (pc := 112) hC [(4, .int (0 : Int32)), (5, .int v14), (0, .ref (L.2.2 a0)), (2, .int v2), (3, .int v8)] dX12_readsBlock_112 (by decide) rfl rfl ?_
              refine j_goto (pc := 114) hC 54 dX12_readsBlock_114 (by decide) ?_
              obtain rfl := Option.some.inj h
              have hk : jJ X G 6 L 0 0 (jQM X G L (some (.int r)) μ' 0 0) 54 [(0, .ref (L.2.2 a0)), (2, .int v2), (3, .int v8), (4, .int (0 : Int32))] [] m22 := hk
              exact j_lv [2, 3, 4, 0] rfl hk
            · rw [if_pos c24] at h
              refine j_aload_n (pc := 98) hC 0 1 dX12_readsBlock_98 rfl rfl ?_
              refine j_bipush (pc := 99) hC (124 : Int32) dX12_readsBlock_99 (by decide) ?_
              obtain ⟨v25, m26, e27, h⟩ := jcl2_some h
              refine j_vi (pc := 101) hC hR [.int (124 : Int32)] iy_X12_takes (q := (RX12, TX12, 40)) (ci := 12) rfl rfl (by decide) km_X12_247 dX12_readsBlock_101 rfl (by decide) ka0 (c_X12_takes hL ka0 e27) (by omega) (Nat.le_of_ble_eq_true rfl) rfl ?_
              refine j_if_eq (pc := 104) hC 111 dX12_readsBlock_104 (by decide) (fun c28 => ?_) (fun c28 => ?_)
              · rw [if_pos c28] at h
                refine j_iconst (pc := 111) hC (0 : Int32) dX12_readsBlock_111 (by decide) ?_
                refine j_istore (pc := 112) hC [(4, .int (0 : Int32)), (5, .int v14), (0, .ref (L.2.2 a0)), (2, .int v2), (3, .int v8)] dX12_readsBlock_112 (by decide) rfl rfl ?_
                refine j_goto (pc := 114) hC 54 dX12_readsBlock_114 (by decide) ?_
                obtain rfl := Option.some.inj h
                have hk : jJ X G 6 L 0 0 (jQM X G L (some (.int r)) μ' 0 0) 54 [(0, .ref (L.2.2 a0)), (2, .int v2), (3, .int v8), (4, .int (0 : Int32))] [] m26 := hk
                exact j_lv [2, 3, 4, 0] rfl hk
              · rw [if_neg c28] at h
                refine j_iconst (pc := 107) hC (1 : Int32) dX12_readsBlock_107 (by decide) ?_
                refine j_goto (pc := 108) hC 112 dX12_readsBlock_108 (by decide) ?_
                refine j_istore (pc := 112) hC [(4, .int (1 : Int32)), (5, .int v14), (0, .ref (L.2.2 a0)), (2, .int v2), (3, .int v8)] dX12_readsBlock_112 (by decide) rfl rfl ?_
                refine j_goto (pc := 114) hC 54 dX12_readsBlock_114 (by decide) ?_
                obtain rfl := Option.some.inj h
                have hk : jJ X G 6 L 0 0 (jQM X G L (some (.int r)) μ' 0 0) 54 [(0, .ref (L.2.2 a0)), (2, .int v2), (3, .int v8), (4, .int (1 : Int32))] [] m26 := hk
                exact j_lv [2, 3, 4, 0] rfl hk
          · rw [if_pos c20] at h
            obtain rfl := Option.some.inj h
            have hk : jJ X G 6 L 0 0 (jQM X G L (some (.int r)) μ' 0 0) 80 [] [] m18 := hk
            exact j_lv [] rfl hk
      · cases w29 with
        | inl w29 =>
          try dsimp only at h
          obtain ⟨m32, rfl⟩ : ∃ y, y = w29 := ⟨_, rfl⟩
          try dsimp only at h
          show jJ X G 6 L 0 0 (jQM X G L (some (.int r)) μ' 0 0) 80 [] [] m32
          refine j_iconst (pc := 80) hC (0 : Int32) dX12_readsBlock_80 (by decide) ?_
          obtain ⟨rfl, rfl⟩ := Prod.mk.inj (Option.some.inj h)
          exact j_bret (pc := 81) hC dX12_readsBlock_81 rfl rfl
        | inr w29 =>
          try dsimp only at h
          obtain ⟨m33, rfl⟩ : ∃ y, y = w29 := ⟨_, rfl⟩
          try dsimp only at h
          show jJ X G 6 L 0 0 (jQM X G L (some (.int r)) μ' 0 0) 117 [(0, .ref (L.2.2 a0)), (2, .int v2), (3, .int v8)] [] m33
          refine j_aload_n (pc := 117) hC 0 0 dX12_readsBlock_117 rfl rfl ?_
          refine jgr_12 (pc := 118) hC 23 (by decide) rfl kf_X12_93 dX12_readsBlock_118 ka0 (ly_12_23 hL ka0).1 ?_
          refine j_iload_n (pc := 121) hC 3 2 dX12_readsBlock_121 rfl rfl ?_
          refine j_aload_n (pc := 122) hC 0 0 dX12_readsBlock_122 rfl rfl ?_
          refine jgi_12 (pc := 123) hC 24 (by decide) rfl kf_X12_293 dX12_readsBlock_123 ka0 ?_
          obtain ⟨i34, h⟩ := jin_some h
          obtain ⟨m35, e36, h⟩ := jbd_ex h
          refine j_iast (pc := 126) hC dX12_readsBlock_126 (ly_12_23 hL ka0).2.1 (ly_12_23 hL ka0).2.2 i34 e36 ?_
          refine j_aload_n (pc := 127) hC 0 0 dX12_readsBlock_127 rfl rfl ?_
          refine j_dup (pc := 128) hC dX12_readsBlock_128 rfl ?_
          refine jgi_12 (pc := 129) hC 7 (by decide) rfl kf_X12_31 dX12_readsBlock_129 ka0 ?_
          refine j_iconst (pc := 132) hC (1 : Int32) dX12_readsBlock_132 (by decide) ?_
          refine j_isub (pc := 133) hC dX12_readsBlock_133 ?_
          obtain ⟨m37, e38, h⟩ := jbd_ex h
          refine jpi_12 (pc := 134) hC 7 (by decide) rfl kf_X12_31 dX12_readsBlock_134 rfl (by decide) ka0 e38 ?_
          refine j_aload_n (pc := 137) hC 0 0 dX12_readsBlock_137 rfl rfl ?_
          refine j_iload_n (pc := 138) hC 2 1 dX12_readsBlock_138 rfl rfl ?_
          refine j_if_ne (pc := 139) hC 147 dX12_readsBlock_139 (by decide) (fun c39 => ?_) (fun c39 => ?_)
          · rw [if_neg c39] at h
            refine j_iload_n (pc := 147) hC 2 1 dX12_readsBlock_147 rfl rfl ?_
            refine j_iconst (pc := 148) hC (1 : Int32) dX12_readsBlock_148 (by decide) ?_
            refine j_icmp_ne (pc := 149) hC 157 dX12_readsBlock_149 (by decide) (fun c40 => ?_) (fun c40 => ?_)
            · rw [if_neg c40] at h
              refine j_bipush (pc := 157) hC (125 : Int32) dX12_readsBlock_157 (by decide) ?_
              obtain ⟨v41, m42, e43, h⟩ := jcl2_some h
              refine j_vi (pc := 159) hC hR [.int (125 : Int32)] iy_X12_takes (q := (RX12, TX12, 40)) (ci := 12) rfl rfl (by decide) km_X12_247 dX12_readsBlock_159 rfl (by decide) ka0 (c_X12_takes hL ka0 e43) (by omega) (Nat.le_of_ble_eq_true rfl) rfl ?_
              obtain ⟨rfl, rfl⟩ := Prod.mk.inj (Option.some.inj h)
              exact j_bret (pc := 162) hC dX12_readsBlock_162 rfl (j_nz _)
            · rw [if_pos c40] at h
              refine j_bipush (pc := 152) hC (93 : Int32) dX12_readsBlock_152 (by decide) ?_
              refine j_goto (pc := 154) hC 159 dX12_readsBlock_154 (by decide) ?_
              obtain ⟨v44, m45, e46, h⟩ := jcl2_some h
              refine j_vi (pc := 159) hC hR [.int (93 : Int32)] iy_X12_takes (q := (RX12, TX12, 40)) (ci := 12) rfl rfl (by decide) km_X12_247 dX12_readsBlock_159 rfl (by decide) ka0 (c_X12_takes hL ka0 e46) (by omega) (Nat.le_of_ble_eq_true rfl) rfl ?_
              obtain ⟨rfl, rfl⟩ := Prod.mk.inj (Option.some.inj h)
              exact j_bret (pc := 162) hC dX12_readsBlock_162 rfl (j_nz _)
          · rw [if_pos c39] at h
            refine j_bipush (pc := 142) hC (41 : Int32) dX12_readsBlock_142 (by decide) ?_
            refine j_goto (pc := 144) hC 159 dX12_readsBlock_144 (by decide) ?_
            obtain ⟨v47, m48, e49, h⟩ := jcl2_some h
            refine j_vi (pc := 159) hC hR [.int (41 : Int32)] iy_X12_takes (q := (RX12, TX12, 40)) (ci := 12) rfl rfl (by decide) km_X12_247 dX12_readsBlock_159 rfl (by decide) ka0 (c_X12_takes hL ka0 e49) (by omega) (Nat.le_of_ble_eq_true rfl) rfl ?_
            obtain ⟨rfl, rfl⟩ := Prod.mk.inj (Option.some.inj h)
            exact j_bret (pc := 162) hC dX12_readsBlock_162 rfl (j_nz _)
    · rw [if_neg c5] at h
      refine j_iconst (pc := 27) hC (0 : Int32) dX12_readsBlock_27 (by decide) ?_
      obtain ⟨rfl, rfl⟩ := Prod.mk.inj (Option.some.inj h)
      exact j_bret (pc := 28) hC dX12_readsBlock_28 rfl rfl
  · rw [if_pos c1] at h
    refine j_iconst (pc := 13) hC (0 : Int32) dX12_readsBlock_13 (by decide) ?_
    obtain ⟨rfl, rfl⟩ := Prod.mk.inj (Option.some.inj h)
    exact j_bret (pc := 14) hC dX12_readsBlock_14 rfl rfl
theorem dX12_readsRun_0 : decode cX12_readsRun 0 = .ok (.aload_n 0, 1) := by decide +kernel
theorem dX12_readsRun_1 : decode cX12_readsRun 1 = .ok (.invokevirtual 320, 3) := by decide +kernel
theorem dX12_readsRun_4 : decode cX12_readsRun 4 = .ok (.ifCond .ne 140, 3) := by decide +kernel
theorem dX12_readsRun_7 : decode cX12_readsRun 7 = .ok (.aload_n 0, 1) := by decide +kernel
theorem dX12_readsRun_8 : decode cX12_readsRun 8 = .ok (.getfield 28, 3) := by decide +kernel
theorem dX12_readsRun_11 : decode cX12_readsRun 11 = .ok (.istore_n 1, 1) := by decide +kernel
theorem dX12_readsRun_12 : decode cX12_readsRun 12 = .ok (.aload_n 0, 1) := by decide +kernel
theorem dX12_readsRun_13 : decode cX12_readsRun 13 = .ok (.ldc_w 311, 3) := by decide +kernel
theorem dX12_readsRun_16 : decode cX12_readsRun 16 = .ok (.invokevirtual 50, 3) := by decide +kernel
theorem dX12_readsRun_19 : decode cX12_readsRun 19 = .ok (.istore_n 2, 1) := by decide +kernel
theorem dX12_readsRun_20 : decode cX12_readsRun 20 = .ok (.iload_n 2, 1) := by decide +kernel
theorem dX12_readsRun_21 : decode cX12_readsRun 21 = .ok (.ifCond .lt 7, 3) := by decide +kernel
theorem dX12_readsRun_24 : decode cX12_readsRun 24 = .ok (.iconst (-1), 1) := by decide +kernel
theorem dX12_readsRun_25 : decode cX12_readsRun 25 = .ok (.goto 9, 3) := by decide +kernel
theorem dX12_readsRun_28 : decode cX12_readsRun 28 = .ok (.aload_n 0, 1) := by decide +kernel
theorem dX12_readsRun_29 : decode cX12_readsRun 29 = .ok (.ldc 241, 2) := by decide +kernel
theorem dX12_readsRun_31 : decode cX12_readsRun 31 = .ok (.invokevirtual 50, 3) := by decide +kernel
theorem dX12_readsRun_34 : decode cX12_readsRun 34 = .ok (.istore_n 3, 1) := by decide +kernel
theorem dX12_readsRun_35 : decode cX12_readsRun 35 = .ok (.iload_n 2, 1) := by decide +kernel
theorem dX12_readsRun_36 : decode cX12_readsRun 36 = .ok (.ifCond .lt 14, 3) := by decide +kernel
theorem dX12_readsRun_39 : decode cX12_readsRun 39 = .ok (.aload_n 0, 1) := by decide +kernel
theorem dX12_readsRun_40 : decode cX12_readsRun 40 = .ok (.iload_n 2, 1) := by decide +kernel
theorem dX12_readsRun_41 : decode cX12_readsRun 41 = .ok (.iload_n 1, 1) := by decide +kernel
theorem dX12_readsRun_42 : decode cX12_readsRun 42 = .ok (.invokevirtual 323, 3) := by decide +kernel
theorem dX12_readsRun_45 : decode cX12_readsRun 45 = .ok (.istore 4, 2) := by decide +kernel
theorem dX12_readsRun_47 : decode cX12_readsRun 47 = .ok (.goto 87, 3) := by decide +kernel
theorem dX12_readsRun_50 : decode cX12_readsRun 50 = .ok (.iload_n 3, 1) := by decide +kernel
theorem dX12_readsRun_51 : decode cX12_readsRun 51 = .ok (.ifCond .lt 14, 3) := by decide +kernel
theorem dX12_readsRun_54 : decode cX12_readsRun 54 = .ok (.aload_n 0, 1) := by decide +kernel
theorem dX12_readsRun_55 : decode cX12_readsRun 55 = .ok (.iload_n 3, 1) := by decide +kernel
theorem dX12_readsRun_56 : decode cX12_readsRun 56 = .ok (.iload_n 1, 1) := by decide +kernel
theorem dX12_readsRun_57 : decode cX12_readsRun 57 = .ok (.invokevirtual 326, 3) := by decide +kernel
theorem dX12_readsRun_60 : decode cX12_readsRun 60 = .ok (.istore 4, 2) := by decide +kernel
theorem dX12_readsRun_62 : decode cX12_readsRun 62 = .ok (.goto 72, 3) := by decide +kernel
theorem dX12_readsRun_65 : decode cX12_readsRun 65 = .ok (.aload_n 0, 1) := by decide +kernel
theorem dX12_readsRun_66 : decode cX12_readsRun 66 = .ok (.bipush 107, 2) := by decide +kernel
theorem dX12_readsRun_68 : decode cX12_readsRun 68 = .ok (.invokevirtual 247, 3) := by decide +kernel
theorem dX12_readsRun_71 : decode cX12_readsRun 71 = .ok (.ifCond .eq 13, 3) := by decide +kernel
theorem dX12_readsRun_74 : decode cX12_readsRun 74 = .ok (.aload_n 0, 1) := by decide +kernel
theorem dX12_readsRun_75 : decode cX12_readsRun 75 = .ok (.iload_n 1, 1) := by decide +kernel
theorem dX12_readsRun_76 : decode cX12_readsRun 76 = .ok (.invokevirtual 329, 3) := by decide +kernel
theorem dX12_readsRun_79 : decode cX12_readsRun 79 = .ok (.istore 4, 2) := by decide +kernel
theorem dX12_readsRun_81 : decode cX12_readsRun 81 = .ok (.goto 53, 3) := by decide +kernel
theorem dX12_readsRun_84 : decode cX12_readsRun 84 = .ok (.aload_n 0, 1) := by decide +kernel
theorem dX12_readsRun_85 : decode cX12_readsRun 85 = .ok (.bipush 63, 2) := by decide +kernel
theorem dX12_readsRun_87 : decode cX12_readsRun 87 = .ok (.invokevirtual 247, 3) := by decide +kernel
theorem dX12_readsRun_90 : decode cX12_readsRun 90 = .ok (.ifCond .eq 13, 3) := by decide +kernel
theorem dX12_readsRun_93 : decode cX12_readsRun 93 = .ok (.aload_n 0, 1) := by decide +kernel
theorem dX12_readsRun_94 : decode cX12_readsRun 94 = .ok (.iload_n 1, 1) := by decide +kernel
theorem dX12_readsRun_95 : decode cX12_readsRun 95 = .ok (.invokevirtual 332, 3) := by decide +kernel
theorem dX12_readsRun_98 : decode cX12_readsRun 98 = .ok (.istore 4, 2) := by decide +kernel
theorem dX12_readsRun_100 : decode cX12_readsRun 100 = .ok (.goto 34, 3) := by decide +kernel
theorem dX12_readsRun_103 : decode cX12_readsRun 103 = .ok (.aload_n 0, 1) := by decide +kernel
theorem dX12_readsRun_104 : decode cX12_readsRun 104 = .ok (.bipush 112, 2) := by decide +kernel
theorem dX12_readsRun_106 : decode cX12_readsRun 106 = .ok (.invokevirtual 247, 3) := by decide +kernel
theorem dX12_readsRun_109 : decode cX12_readsRun 109 = .ok (.ifCond .eq 19, 3) := by decide +kernel
theorem dX12_readsRun_112 : decode cX12_readsRun 112 = .ok (.aload_n 0, 1) := by decide +kernel
theorem dX12_readsRun_113 : decode cX12_readsRun 113 = .ok (.bipush 8, 2) := by decide +kernel
theorem dX12_readsRun_115 : decode cX12_readsRun 115 = .ok (.iconst 0, 1) := by decide +kernel
theorem dX12_readsRun_116 : decode cX12_readsRun 116 = .ok (.iconst 0, 1) := by decide +kernel
theorem dX12_readsRun_117 : decode cX12_readsRun 117 = .ok (.iload_n 1, 1) := by decide +kernel
theorem dX12_readsRun_118 : decode cX12_readsRun 118 = .ok (.invokevirtual 301, 3) := by decide +kernel
theorem dX12_readsRun_121 : decode cX12_readsRun 121 = .ok (.pop, 1) := by decide +kernel
theorem dX12_readsRun_122 : decode cX12_readsRun 122 = .ok (.iconst 1, 1) := by decide +kernel
theorem dX12_readsRun_123 : decode cX12_readsRun 123 = .ok (.istore 4, 2) := by decide +kernel
theorem dX12_readsRun_125 : decode cX12_readsRun 125 = .ok (.goto 9, 3) := by decide +kernel
theorem dX12_readsRun_128 : decode cX12_readsRun 128 = .ok (.aload_n 0, 1) := by decide +kernel
theorem dX12_readsRun_129 : decode cX12_readsRun 129 = .ok (.invokevirtual 335, 3) := by decide +kernel
theorem dX12_readsRun_132 : decode cX12_readsRun 132 = .ok (.istore 4, 2) := by decide +kernel
theorem dX12_readsRun_134 : decode cX12_readsRun 134 = .ok (.iload 4, 2) := by decide +kernel
theorem dX12_readsRun_136 : decode cX12_readsRun 136 = .ok (.ifCond .ne 5, 3) := by decide +kernel
theorem dX12_readsRun_139 : decode cX12_readsRun 139 = .ok (.iconst 0, 1) := by decide +kernel
theorem dX12_readsRun_140 : decode cX12_readsRun 140 = .ok (.ireturn, 1) := by decide +kernel
theorem dX12_readsRun_141 : decode cX12_readsRun 141 = .ok (.goto (-141), 3) := by decide +kernel
theorem dX12_readsRun_144 : decode cX12_readsRun 144 = .ok (.iconst 1, 1) := by decide +kernel
theorem dX12_readsRun_145 : decode cX12_readsRun 145 = .ok (.ireturn, 1) := by decide +kernel
def f_X12_readsRun_L0 (a0 : Nat) (rA : Nat → jM → Option (Int32 × jM)) (m1 : jM) : Option ((jM) ⊕ ((jM) ⊕ (jM))) :=
  jcl (f_X12_isEnd a0 m1) (fun v2 => (if v2 = (0 : Int32) then jcl2 (f_X12_takesOf a0 23 m1) (fun v5 m6 => jbd (fun (t8 : Int32) (m9 : jM) => jbd (fun (t13 : Int32) (m14 : jM) => (if t13 = (0 : Int32) then some (.inr (.inl m14)) else some (.inl m14))) (fun k15 => (if v5 < (0 : Int32) then (if t8 < (0 : Int32) then jcl2 (f_X12_takes a0 (107 : Int32) m9) (fun v21 m22 => (if v21 = (0 : Int32) then jcl2 (f_X12_takes a0 (63 : Int32) m22) (fun v25 m26 => (if v25 = (0 : Int32) then jcl2 (f_X12_takes a0 (112 : Int32) m26) (fun v29 m30 => (if v29 = (0 : Int32) then jcl2 (fb_X12_readsBlock rA a0 m30) (fun v33 m34 => k15 v33 m34) else jcl2 (f_X12_comes a0 (8 : Int32) (0 : Int32) (0 : Int32) (m1.1 a0 5) m30) (fun v36 m37 => k15 (1 : Int32) m37))) else jcl2 (f_X12_readsAsked a0 (m1.1 a0 5) m26) (fun v39 m40 => k15 v39 m40))) else jcl2 (f_X12_readsKey a0 (m1.1 a0 5) m22) (fun v42 m43 => k15 v42 m43))) else jcl2 (f_X12_readsVar a0 t8 (m1.1 a0 5) m9) (fun v45 m46 => k15 v45 m46)) else jcl2 (f_X12_readsCell a0 v5 (m1.1 a0 5) m9) (fun v48 m49 => k15 v48 m49)))) (fun k10 => (if v5 < (0 : Int32) then jcl2 (f_X12_takesOf a0 16 m6) (fun v52 m53 => k10 v52 m53) else k10 (-1 : Int32) m6))) else some (.inr (.inr (m1)))))
def fb_X12_readsRun (rA : Nat → jM → Option (Int32 × jM)) (a0 : Nat) (μ : jM) : Option (Int32 × jM) :=
  jcl (jloop (fun (s : jM) => f_X12_readsRun_L0 a0 rA s) jfu μ) (fun w55 => match w55 with | .inl w55 => some (((0 : Int32), w55)) | .inr w55 => some (((1 : Int32), w55)))
set_option maxHeartbeats 4000000 in
set_option maxRecDepth 100000 in
theorem cb_X12_readsRun {l : Launch} {G : jG} {L : jL} (hL : jOKL L) {dA : Nat} (hD : 9 ≤ dA) {rA : Nat → jM → Option (Int32 × jM)} (hA : ∀ {b0 : Nat} {μ1 μ2 : jM} {r : Int32}, jK L b0 12 → rA b0 μ1 = some (r, μ2) → jCt l G L dA yX12_readsRun cX12_readsRun 5 (some .boolean) [.ref (L.2.2 b0)] μ1 (some (.int r)) μ2) {a0 : Nat} (ka0 : jK L a0 12) {μ μ' : jM} {r : Int32} (h : fb_X12_readsRun rA a0 μ = some ((r, μ'))) : jCt l G L (dA + 2) yX12_readsRun cX12_readsRun 5 (some .boolean) [.ref (L.2.2 a0)] μ (some (.int r)) μ' := by
  refine jCt_of (by decide) (Nat.le_of_ble_eq_true rfl) (fun X hC hX hR => ?_)
  subst hX
  have hC : jC X G cX12_readsRun 5 RX12 (some .boolean) := hC
  unfold fb_X12_readsRun at h
  show jJ X G 5 L 0 0 (jQM X G L (some (.int r)) μ' 0 0) 0 [(0, .ref (L.2.2 a0))] [] μ
  obtain ⟨w55, hw56, h⟩ := jcl_some h
  refine j_lv [0] rfl ?_
  refine j_loop (step := (fun (s : jM) => f_X12_readsRun_L0 a0 rA s)) (P := (fun (s : jM) => jJ X G 5 L 0 0 (jQM X G L (some (.int r)) μ' 0 0) 0 [(0, .ref (L.2.2 a0))] [] s)) (R := (fun (e : (jM) ⊕ (jM)) => match e with | .inl e => jJ X G 5 L 0 0 (jQM X G L (some (.int r)) μ' 0 0) 139 [] [] e | .inr e => jJ X G 5 L 0 0 (jQM X G L (some (.int r)) μ' 0 0) 144 [] [] e)) ?_ jfu μ w55 hw56 ?_
  · intro m1 o h hk
    change f_X12_readsRun_L0 a0 rA m1 = some o at h
    unfold f_X12_readsRun_L0 at h
    show jJ X G 5 L 0 0 (jQM X G L (some (.int r)) μ' 0 0) 0 [(0, .ref (L.2.2 a0))] [] m1
    refine j_aload_n (pc := 0) hC 0 0 dX12_readsRun_0 rfl rfl ?_
    obtain ⟨v2, e3, h⟩ := jcl_some h
    refine j_vi (pc := 1) hC hR [] iy_X12_isEnd (q := (RX12, TX12, 40)) (ci := 12) rfl rfl (by decide) km_X12_320 dX12_readsRun_1 rfl (by decide) ka0 (c_X12_isEnd hL ka0 e3) (by omega) (Nat.le_of_ble_eq_true rfl) rfl ?_
    refine j_if_ne (pc := 4) hC 144 dX12_readsRun_4 (by decide) (fun c4 => ?_) (fun c4 => ?_)
    · rw [if_neg c4] at h
      obtain rfl := Option.some.inj h
      have hk : jJ X G 5 L 0 0 (jQM X G L (some (.int r)) μ' 0 0) 144 [] [] m1 := hk
      exact j_lv [] rfl hk
    · rw [if_pos c4] at h
      refine j_aload_n (pc := 7) hC 0 0 dX12_readsRun_7 rfl rfl ?_
      refine jgi_12 (pc := 8) hC 5 (by decide) rfl kf_X12_28 dX12_readsRun_8 ka0 ?_
      refine j_istore_n (pc := 11) hC 1 [(1, .int (m1.1 a0 5)), (0, .ref (L.2.2 a0))] dX12_readsRun_11 rfl (by decide) rfl rfl ?_
      refine j_aload_n (pc := 12) hC 0 1 dX12_readsRun_12 rfl rfl ?_
      refine j_ldcSw (pc := 13) hC 23 ks_X12_311 dX12_readsRun_13 ?_
      obtain ⟨v5, m6, e7, h⟩ := jcl2_some h
      refine j_vi (pc := 16) hC hR [.ref (G.2.2.2.1 23)] iy_X12_takesOf (q := (RX12, TX12, 40)) (ci := 12) rfl rfl (by decide) km_X12_50 dX12_readsRun_16 rfl (by decide) ka0 (c_X12_takesOf hL ka0 (by decide) e7) (by omega) (Nat.le_of_ble_eq_true rfl) rfl ?_
      refine j_istore_n (pc := 19) hC 2 [(2, .int v5), (1, .int (m1.1 a0 5)), (0, .ref (L.2.2 a0))] dX12_readsRun_19 rfl (by decide) rfl rfl ?_
      refine j_iload_n (pc := 20) hC 2 0 dX12_readsRun_20 rfl rfl ?_
      obtain ⟨k10, e12, h⟩ := jbd_ex h
      have q11 : ∀ (t8 : Int32) (m9 : jM), k10 t8 m9 = some o → jJ X G 5 L 0 0 (jQM X G L (some (.int r)) μ' 0 0) 34 [(0, .ref (L.2.2 a0)), (1, .int (m1.1 a0 5)), (2, .int v5)] [.int t8] m9 := by
        intro t8 m9 h
        rw [e12] at h
        try dsimp only at h
        refine j_istore_n (pc := 34) hC 3 [(3, .int t8), (0, .ref (L.2.2 a0)), (1, .int (m1.1 a0 5)), (2, .int v5)] dX12_readsRun_34 rfl (by decide) rfl rfl ?_
        refine j_iload_n (pc := 35) hC 2 3 dX12_readsRun_35 rfl rfl ?_
        obtain ⟨k15, e17, h⟩ := jbd_ex h
        have q16 : ∀ (t13 : Int32) (m14 : jM), k15 t13 m14 = some o → jJ X G 5 L 0 0 (jQM X G L (some (.int r)) μ' 0 0) 134 [(0, .ref (L.2.2 a0)), (4, .int t13)] [] m14 := by
          intro t13 m14 h
          rw [e17] at h
          try dsimp only at h
          refine j_iload (pc := 134) hC 1 dX12_readsRun_134 rfl ?_
          refine j_if_ne (pc := 136) hC 141 dX12_readsRun_136 (by decide) (fun c18 => ?_) (fun c18 => ?_)
          · rw [if_neg c18] at h
            refine j_goto (pc := 141) hC 0 dX12_readsRun_141 (by decide) ?_
            obtain rfl := Option.some.inj h
            have hk : jJ X G 5 L 0 0 (jQM X G L (some (.int r)) μ' 0 0) 0 [(0, .ref (L.2.2 a0))] [] m14 := hk
            exact j_lv [0] rfl hk
          · rw [if_pos c18] at h
            obtain rfl := Option.some.inj h
            have hk : jJ X G 5 L 0 0 (jQM X G L (some (.int r)) μ' 0 0) 139 [] [] m14 := hk
            exact j_lv [] rfl hk
        refine j_if_lt (pc := 36) hC 50 dX12_readsRun_36 (by decide) (fun c19 => ?_) (fun c19 => ?_)
        · rw [if_pos c19] at h
          refine j_iload_n (pc := 50) hC 3 0 dX12_readsRun_50 rfl rfl ?_
          refine j_if_lt (pc := 51) hC 65 dX12_readsRun_51 (by decide) (fun c20 => ?_) (fun c20 => ?_)
          · rw [if_pos c20] at h
            refine j_aload_n (pc := 65) hC 0 1 dX12_readsRun_65 rfl rfl ?_
            refine j_bipush (pc := 66) hC (107 : Int32) dX12_readsRun_66 (by decide) ?_
            obtain ⟨v21, m22, e23, h⟩ := jcl2_some h
            refine j_vi (pc := 68) hC hR [.int (107 : Int32)] iy_X12_takes (q := (RX12, TX12, 40)) (ci := 12) rfl rfl (by decide) km_X12_247 dX12_readsRun_68 rfl (by decide) ka0 (c_X12_takes hL ka0 e23) (by omega) (Nat.le_of_ble_eq_true rfl) rfl ?_
            refine j_if_eq (pc := 71) hC 84 dX12_readsRun_71 (by decide) (fun c24 => ?_) (fun c24 => ?_)
            · rw [if_pos c24] at h
              refine j_aload_n (pc := 84) hC 0 1 dX12_readsRun_84 rfl rfl ?_
              refine j_bipush (pc := 85) hC (63 : Int32) dX12_readsRun_85 (by decide) ?_
              obtain ⟨v25, m26, e27, h⟩ := jcl2_some h
              refine j_vi (pc := 87) hC hR [.int (63 : Int32)] iy_X12_takes (q := (RX12, TX12, 40)) (ci := 12) rfl rfl (by decide) km_X12_247 dX12_readsRun_87 rfl (by decide) ka0 (c_X12_takes hL ka0 e27) (by omega) (Nat.le_of_ble_eq_true rfl) rfl ?_
              refine j_if_eq (pc := 90) hC 103 dX12_readsRun_90 (by decide) (fun c28 => ?_) (fun c28 => ?_)
              · rw [if_pos c28] at h
                refine j_aload_n (pc := 103) hC 0 1 dX12_readsRun_103 rfl rfl ?_
                refine j_bipush (pc := 104) hC (112 : Int32) dX12_readsRun_104 (by decide) ?_
                obtain ⟨v29, m30, e31, h⟩ := jcl2_some h
                refine j_vi (pc := 106) hC hR [.int (112 : Int32)] iy_X12_takes (q := (RX12, TX12, 40)) (ci := 12) rfl rfl (by decide) km_X12_247 dX12_readsRun_106 rfl (by decide) ka0 (c_X12_takes hL ka0 e31) (by omega) (Nat.le_of_ble_eq_true rfl) rfl ?_
                refine j_if_eq (pc := 109) hC 128 dX12_readsRun_109 (by decide) (fun c32 => ?_) (fun c32 => ?_)
                · rw [if_pos c32] at h
                  refine j_aload_n (pc := 128) hC 0 1 dX12_readsRun_128 rfl rfl ?_
                  obtain ⟨v33, m34, e35, h⟩ := jcl2_some h
                  refine j_vi (pc := 129) hC hR [] iy_X12_readsBlock (q := (RX12, TX12, 40)) (ci := 12) rfl rfl (by decide) km_X12_335 dX12_readsRun_129 rfl (by decide) ka0 (cb_X12_readsBlock hL hD hA ka0 e35) (by omega) (Nat.le_of_ble_eq_true rfl) rfl ?_
                  refine j_istore (pc := 132) hC [(4, .int v33), (3, .int t8), (0, .ref (L.2.2 a0)), (1, .int (m1.1 a0 5)), (2, .int v5)] dX12_readsRun_132 (by decide) rfl rfl ?_
                  exact j_lv [2, 0] rfl (q16 _ _ h)
                · rw [if_neg c32] at h
                  refine j_aload_n (pc := 112) hC 0 1 dX12_readsRun_112 rfl rfl ?_
                  refine j_bipush (pc := 113) hC (8 : Int32) dX12_readsRun_113 (by decide) ?_
                  refine j_iconst (pc := 115) hC (0 : Int32) dX12_readsRun_115 (by decide) ?_
                  refine j_iconst (pc := 116) hC (0 : Int32) dX12_readsRun_116 (by decide) ?_
                  refine j_iload_n (pc := 117) hC 1 2 dX12_readsRun_117 rfl rfl ?_
                  obtain ⟨v36, m37, e38, h⟩ := jcl2_some h
                  refine j_vi (pc := 118) hC hR [.int (8 : Int32), .int (0 : Int32), .int (0 : Int32), .int (m1.1 a0 5)] iy_X12_comes (q := (RX12, TX12, 40)) (ci := 12) rfl rfl (by decide) km_X12_301 dX12_readsRun_118 rfl (by decide) ka0 (c_X12_comes hL ka0 e38) (by omega) (Nat.le_of_ble_eq_true rfl) rfl ?_
                  refine j_pop (pc := 121) hC dX12_readsRun_121 rfl ?_
                  refine j_iconst (pc := 122) hC (1 : Int32) dX12_readsRun_122 (by decide) ?_
                  refine j_istore (pc := 123) hC [(4, .int (1 : Int32)), (3, .int t8), (0, .ref (L.2.2 a0)), (1, .int (m1.1 a0 5)), (2, .int v5)] dX12_readsRun_123 (by decide) rfl rfl ?_
                  refine j_goto (pc := 125) hC 134 dX12_readsRun_125 (by decide) ?_
                  exact j_lv [2, 0] rfl (q16 _ _ h)
              · rw [if_neg c28] at h
                refine j_aload_n (pc := 93) hC 0 1 dX12_readsRun_93 rfl rfl ?_
                refine j_iload_n (pc := 94) hC 1 2 dX12_readsRun_94 rfl rfl ?_
                obtain ⟨v39, m40, e41, h⟩ := jcl2_some h
                refine j_vi (pc := 95) hC hR [.int (m1.1 a0 5)] iy_X12_readsAsked (q := (RX12, TX12, 40)) (ci := 12) rfl rfl (by decide) km_X12_332 dX12_readsRun_95 rfl (by decide) ka0 (c_X12_readsAsked hL ka0 e41) (by omega) (Nat.le_of_ble_eq_true rfl) rfl ?_
                refine j_istore (pc := 98) hC [(4, .int v39), (3, .int t8), (0, .ref (L.2.2 a0)), (1, .int (m1.1 a0 5)), (2, .int v5)] dX12_readsRun_98 (by decide) rfl rfl ?_
                refine j_goto (pc := 100) hC 134 dX12_readsRun_100 (by decide) ?_
                exact j_lv [2, 0] rfl (q16 _ _ h)
            · rw [if_neg c24] at h
              refine j_aload_n (pc := 74) hC 0 1 dX12_readsRun_74 rfl rfl ?_
              refine j_iload_n (pc := 75) hC 1 2 dX12_readsRun_75 rfl rfl ?_
              obtain ⟨v42, m43, e44, h⟩ := jcl2_some h
              refine j_vi (pc := 76) hC hR [.int (m1.1 a0 5)] iy_X12_readsKey (q := (RX12, TX12, 40)) (ci := 12) rfl rfl (by decide) km_X12_329 dX12_readsRun_76 rfl (by decide) ka0 (c_X12_readsKey hL ka0 e44) (by omega) (Nat.le_of_ble_eq_true rfl) rfl ?_
              refine j_istore (pc := 79) hC [(4, .int v42), (3, .int t8), (0, .ref (L.2.2 a0)), (1, .int (m1.1 a0 5)), (2, .int v5)] dX12_readsRun_79 (by decide) rfl rfl ?_
              refine j_goto (pc := 81) hC 134 dX12_readsRun_81 (by decide) ?_
              exact j_lv [2, 0] rfl (q16 _ _ h)
          · rw [if_neg c20] at h
            refine j_aload_n (pc := 54) hC 0 1 dX12_readsRun_54 rfl rfl ?_
            refine j_iload_n (pc := 55) hC 3 0 dX12_readsRun_55 rfl rfl ?_
            refine j_iload_n (pc := 56) hC 1 2 dX12_readsRun_56 rfl rfl ?_
            obtain ⟨v45, m46, e47, h⟩ := jcl2_some h
            refine j_vi (pc := 57) hC hR [.int t8, .int (m1.1 a0 5)] iy_X12_readsVar (q := (RX12, TX12, 40)) (ci := 12) rfl rfl (by decide) km_X12_326 dX12_readsRun_57 rfl (by decide) ka0 (c_X12_readsVar hL ka0 e47) (by omega) (Nat.le_of_ble_eq_true rfl) rfl ?_
            refine j_istore (pc := 60) hC [(4, .int v45), (3, .int t8), (0, .ref (L.2.2 a0)), (1, .int (m1.1 a0 5)), (2, .int v5)] dX12_readsRun_60 (by decide) rfl rfl ?_
            refine j_goto (pc := 62) hC 134 dX12_readsRun_62 (by decide) ?_
            exact j_lv [2, 0] rfl (q16 _ _ h)
        · rw [if_neg c19] at h
          refine j_aload_n (pc := 39) hC 0 1 dX12_readsRun_39 rfl rfl ?_
          refine j_iload_n (pc := 40) hC 2 3 dX12_readsRun_40 rfl rfl ?_
          refine j_iload_n (pc := 41) hC 1 2 dX12_readsRun_41 rfl rfl ?_
          obtain ⟨v48, m49, e50, h⟩ := jcl2_some h
          refine j_vi (pc := 42) hC hR [.int v5, .int (m1.1 a0 5)] iy_X12_readsCell (q := (RX12, TX12, 40)) (ci := 12) rfl rfl (by decide) km_X12_323 dX12_readsRun_42 rfl (by decide) ka0 (c_X12_readsCell hL ka0 e50) (by omega) (Nat.le_of_ble_eq_true rfl) rfl ?_
          refine j_istore (pc := 45) hC [(4, .int v48), (3, .int t8), (0, .ref (L.2.2 a0)), (1, .int (m1.1 a0 5)), (2, .int v5)] dX12_readsRun_45 (by decide) rfl rfl ?_
          refine j_goto (pc := 47) hC 134 dX12_readsRun_47 (by decide) ?_
          exact j_lv [2, 0] rfl (q16 _ _ h)
      refine j_if_lt (pc := 21) hC 28 dX12_readsRun_21 (by decide) (fun c51 => ?_) (fun c51 => ?_)
      · rw [if_pos c51] at h
        refine j_aload_n (pc := 28) hC 0 2 dX12_readsRun_28 rfl rfl ?_
        refine j_ldcS (pc := 29) hC 16 ks_X12_241 dX12_readsRun_29 ?_
        obtain ⟨v52, m53, e54, h⟩ := jcl2_some h
        refine j_vi (pc := 31) hC hR [.ref (G.2.2.2.1 16)] iy_X12_takesOf (q := (RX12, TX12, 40)) (ci := 12) rfl rfl (by decide) km_X12_50 dX12_readsRun_31 rfl (by decide) ka0 (c_X12_takesOf hL ka0 (by decide) e54) (by omega) (Nat.le_of_ble_eq_true rfl) rfl ?_
        exact j_lv [2, 1, 0] rfl (q11 _ _ h)
      · rw [if_neg c51] at h
        refine j_iconst (pc := 24) hC (-1 : Int32) dX12_readsRun_24 (by decide) ?_
        refine j_goto (pc := 25) hC 34 dX12_readsRun_25 (by decide) ?_
        exact j_lv [2, 1, 0] rfl (q11 _ _ h)
  · cases w55 with
    | inl w55 =>
      try dsimp only at h
      obtain ⟨m58, rfl⟩ : ∃ y, y = w55 := ⟨_, rfl⟩
      try dsimp only at h
      show jJ X G 5 L 0 0 (jQM X G L (some (.int r)) μ' 0 0) 139 [] [] m58
      refine j_iconst (pc := 139) hC (0 : Int32) dX12_readsRun_139 (by decide) ?_
      obtain ⟨rfl, rfl⟩ := Prod.mk.inj (Option.some.inj h)
      exact j_bret (pc := 140) hC dX12_readsRun_140 rfl rfl
    | inr w55 =>
      try dsimp only at h
      obtain ⟨m59, rfl⟩ : ∃ y, y = w55 := ⟨_, rfl⟩
      try dsimp only at h
      show jJ X G 5 L 0 0 (jQM X G L (some (.int r)) μ' 0 0) 144 [] [] m59
      refine j_iconst (pc := 144) hC (1 : Int32) dX12_readsRun_144 (by decide) ?_
      obtain ⟨rfl, rfl⟩ := Prod.mk.inj (Option.some.inj h)
      exact j_bret (pc := 145) hC dX12_readsRun_145 rfl rfl
def f_X12_readsRun : Nat → Nat → jM → Option (Int32 × jM)
  | 0 => fun _ _ => none
  | d + 1 => fb_X12_readsRun (f_X12_readsRun d)
theorem c_X12_readsRun {l : Launch} {G : jG} {L : jL} (hL : jOKL L) : ∀ (d : Nat) {b0 : Nat} (kb0 : jK L b0 12) {μ μ' : jM} {r : Int32} (h : f_X12_readsRun d b0 μ = some (r, μ')), jCt l G L (9 + 2 * d) yX12_readsRun cX12_readsRun 5 (some .boolean) [.ref (L.2.2 b0)] μ (some (.int r)) μ' := by
  intro d
  induction d with
  | zero => intros; rename_i h; cases h
  | succ d ih =>
    intros
    rename_i h
    exact cb_X12_readsRun hL (dA := 9 + 2 * d) (by omega) (fun k0 h => ih k0 h) (by assumption) h
theorem dX12_doesAct_0 : decode cX12_doesAct 0 = .ok (.aload_n 0, 1) := by decide +kernel
theorem dX12_doesAct_1 : decode cX12_doesAct 1 = .ok (.getfield 84, 3) := by decide +kernel
theorem dX12_doesAct_4 : decode cX12_doesAct 4 = .ok (.iload_n 1, 1) := by decide +kernel
theorem dX12_doesAct_5 : decode cX12_doesAct 5 = .ok (.iaload, 1) := by decide +kernel
theorem dX12_doesAct_6 : decode cX12_doesAct 6 = .ok (.istore_n 2, 1) := by decide +kernel
theorem dX12_doesAct_7 : decode cX12_doesAct 7 = .ok (.aload_n 0, 1) := by decide +kernel
theorem dX12_doesAct_8 : decode cX12_doesAct 8 = .ok (.getfield 87, 3) := by decide +kernel
theorem dX12_doesAct_11 : decode cX12_doesAct 11 = .ok (.iload_n 1, 1) := by decide +kernel
theorem dX12_doesAct_12 : decode cX12_doesAct 12 = .ok (.iaload, 1) := by decide +kernel
theorem dX12_doesAct_13 : decode cX12_doesAct 13 = .ok (.istore_n 3, 1) := by decide +kernel
theorem dX12_doesAct_14 : decode cX12_doesAct 14 = .ok (.aload_n 0, 1) := by decide +kernel
theorem dX12_doesAct_15 : decode cX12_doesAct 15 = .ok (.getfield 81, 3) := by decide +kernel
theorem dX12_doesAct_18 : decode cX12_doesAct 18 = .ok (.iload_n 1, 1) := by decide +kernel
theorem dX12_doesAct_19 : decode cX12_doesAct 19 = .ok (.iaload, 1) := by decide +kernel
theorem dX12_doesAct_20 : decode cX12_doesAct 20 = .ok (.tableswitch 200 0 12 #[68, 75, 82, 89, 96, 104, 112, 119, 125, 130, 146, 162, 178], 68) := by decide +kernel
theorem dX12_doesAct_88 : decode cX12_doesAct 88 = .ok (.aload_n 0, 1) := by decide +kernel
theorem dX12_doesAct_89 : decode cX12_doesAct 89 = .ok (.iload_n 2, 1) := by decide +kernel
theorem dX12_doesAct_90 : decode cX12_doesAct 90 = .ok (.iload_n 3, 1) := by decide +kernel
theorem dX12_doesAct_91 : decode cX12_doesAct 91 = .ok (.invokevirtual 216, 3) := by decide +kernel
theorem dX12_doesAct_94 : decode cX12_doesAct 94 = .ok (.ireturn, 1) := by decide +kernel
theorem dX12_doesAct_95 : decode cX12_doesAct 95 = .ok (.aload_n 0, 1) := by decide +kernel
theorem dX12_doesAct_96 : decode cX12_doesAct 96 = .ok (.iload_n 2, 1) := by decide +kernel
theorem dX12_doesAct_97 : decode cX12_doesAct 97 = .ok (.iload_n 3, 1) := by decide +kernel
theorem dX12_doesAct_98 : decode cX12_doesAct 98 = .ok (.invokevirtual 219, 3) := by decide +kernel
theorem dX12_doesAct_101 : decode cX12_doesAct 101 = .ok (.ireturn, 1) := by decide +kernel
theorem dX12_doesAct_102 : decode cX12_doesAct 102 = .ok (.aload_n 0, 1) := by decide +kernel
theorem dX12_doesAct_103 : decode cX12_doesAct 103 = .ok (.iload_n 2, 1) := by decide +kernel
theorem dX12_doesAct_104 : decode cX12_doesAct 104 = .ok (.iload_n 3, 1) := by decide +kernel
theorem dX12_doesAct_105 : decode cX12_doesAct 105 = .ok (.invokevirtual 222, 3) := by decide +kernel
theorem dX12_doesAct_108 : decode cX12_doesAct 108 = .ok (.ireturn, 1) := by decide +kernel
theorem dX12_doesAct_109 : decode cX12_doesAct 109 = .ok (.aload_n 0, 1) := by decide +kernel
theorem dX12_doesAct_110 : decode cX12_doesAct 110 = .ok (.iload_n 2, 1) := by decide +kernel
theorem dX12_doesAct_111 : decode cX12_doesAct 111 = .ok (.iload_n 3, 1) := by decide +kernel
theorem dX12_doesAct_112 : decode cX12_doesAct 112 = .ok (.invokevirtual 225, 3) := by decide +kernel
theorem dX12_doesAct_115 : decode cX12_doesAct 115 = .ok (.ireturn, 1) := by decide +kernel
theorem dX12_doesAct_116 : decode cX12_doesAct 116 = .ok (.aload_n 0, 1) := by decide +kernel
theorem dX12_doesAct_117 : decode cX12_doesAct 117 = .ok (.iload_n 2, 1) := by decide +kernel
theorem dX12_doesAct_118 : decode cX12_doesAct 118 = .ok (.iconst 0, 1) := by decide +kernel
theorem dX12_doesAct_119 : decode cX12_doesAct 119 = .ok (.iload_n 3, 1) := by decide +kernel
theorem dX12_doesAct_120 : decode cX12_doesAct 120 = .ok (.invokevirtual 228, 3) := by decide +kernel
theorem dX12_doesAct_123 : decode cX12_doesAct 123 = .ok (.ireturn, 1) := by decide +kernel
theorem dX12_doesAct_124 : decode cX12_doesAct 124 = .ok (.aload_n 0, 1) := by decide +kernel
theorem dX12_doesAct_125 : decode cX12_doesAct 125 = .ok (.iload_n 2, 1) := by decide +kernel
theorem dX12_doesAct_126 : decode cX12_doesAct 126 = .ok (.iload_n 3, 1) := by decide +kernel
theorem dX12_doesAct_127 : decode cX12_doesAct 127 = .ok (.iconst 5, 1) := by decide +kernel
theorem dX12_doesAct_128 : decode cX12_doesAct 128 = .ok (.invokevirtual 228, 3) := by decide +kernel
theorem dX12_doesAct_131 : decode cX12_doesAct 131 = .ok (.ireturn, 1) := by decide +kernel
theorem dX12_doesAct_132 : decode cX12_doesAct 132 = .ok (.aload_n 0, 1) := by decide +kernel
theorem dX12_doesAct_133 : decode cX12_doesAct 133 = .ok (.iload_n 2, 1) := by decide +kernel
theorem dX12_doesAct_134 : decode cX12_doesAct 134 = .ok (.iload_n 3, 1) := by decide +kernel
theorem dX12_doesAct_135 : decode cX12_doesAct 135 = .ok (.invokevirtual 232, 3) := by decide +kernel
theorem dX12_doesAct_138 : decode cX12_doesAct 138 = .ok (.ireturn, 1) := by decide +kernel
theorem dX12_doesAct_139 : decode cX12_doesAct 139 = .ok (.aload_n 0, 1) := by decide +kernel
theorem dX12_doesAct_140 : decode cX12_doesAct 140 = .ok (.iload_n 2, 1) := by decide +kernel
theorem dX12_doesAct_141 : decode cX12_doesAct 141 = .ok (.invokevirtual 235, 3) := by decide +kernel
theorem dX12_doesAct_144 : decode cX12_doesAct 144 = .ok (.ireturn, 1) := by decide +kernel
theorem dX12_doesAct_145 : decode cX12_doesAct 145 = .ok (.aload_n 0, 1) := by decide +kernel
theorem dX12_doesAct_146 : decode cX12_doesAct 146 = .ok (.invokevirtual 290, 3) := by decide +kernel
theorem dX12_doesAct_149 : decode cX12_doesAct 149 = .ok (.ireturn, 1) := by decide +kernel
theorem dX12_doesAct_150 : decode cX12_doesAct 150 = .ok (.aload_n 0, 1) := by decide +kernel
theorem dX12_doesAct_151 : decode cX12_doesAct 151 = .ok (.getfield 60, 3) := by decide +kernel
theorem dX12_doesAct_154 : decode cX12_doesAct 154 = .ok (.iload_n 2, 1) := by decide +kernel
theorem dX12_doesAct_155 : decode cX12_doesAct 155 = .ok (.iaload, 1) := by decide +kernel
theorem dX12_doesAct_156 : decode cX12_doesAct 156 = .ok (.iload_n 3, 1) := by decide +kernel
theorem dX12_doesAct_157 : decode cX12_doesAct 157 = .ok (.if_icmp .ge 7, 3) := by decide +kernel
theorem dX12_doesAct_160 : decode cX12_doesAct 160 = .ok (.iconst 0, 1) := by decide +kernel
theorem dX12_doesAct_161 : decode cX12_doesAct 161 = .ok (.goto 4, 3) := by decide +kernel
theorem dX12_doesAct_164 : decode cX12_doesAct 164 = .ok (.iconst (-1), 1) := by decide +kernel
theorem dX12_doesAct_165 : decode cX12_doesAct 165 = .ok (.ireturn, 1) := by decide +kernel
theorem dX12_doesAct_166 : decode cX12_doesAct 166 = .ok (.aload_n 0, 1) := by decide +kernel
theorem dX12_doesAct_167 : decode cX12_doesAct 167 = .ok (.getfield 60, 3) := by decide +kernel
theorem dX12_doesAct_170 : decode cX12_doesAct 170 = .ok (.iload_n 2, 1) := by decide +kernel
theorem dX12_doesAct_171 : decode cX12_doesAct 171 = .ok (.iaload, 1) := by decide +kernel
theorem dX12_doesAct_172 : decode cX12_doesAct 172 = .ok (.iload_n 3, 1) := by decide +kernel
theorem dX12_doesAct_173 : decode cX12_doesAct 173 = .ok (.if_icmp .ne 7, 3) := by decide +kernel
theorem dX12_doesAct_176 : decode cX12_doesAct 176 = .ok (.iconst 0, 1) := by decide +kernel
theorem dX12_doesAct_177 : decode cX12_doesAct 177 = .ok (.goto 4, 3) := by decide +kernel
theorem dX12_doesAct_180 : decode cX12_doesAct 180 = .ok (.iconst (-1), 1) := by decide +kernel
theorem dX12_doesAct_181 : decode cX12_doesAct 181 = .ok (.ireturn, 1) := by decide +kernel
theorem dX12_doesAct_182 : decode cX12_doesAct 182 = .ok (.aload_n 0, 1) := by decide +kernel
theorem dX12_doesAct_183 : decode cX12_doesAct 183 = .ok (.getfield 60, 3) := by decide +kernel
theorem dX12_doesAct_186 : decode cX12_doesAct 186 = .ok (.iload_n 2, 1) := by decide +kernel
theorem dX12_doesAct_187 : decode cX12_doesAct 187 = .ok (.iaload, 1) := by decide +kernel
theorem dX12_doesAct_188 : decode cX12_doesAct 188 = .ok (.iload_n 3, 1) := by decide +kernel
theorem dX12_doesAct_189 : decode cX12_doesAct 189 = .ok (.if_icmp .le 7, 3) := by decide +kernel
theorem dX12_doesAct_192 : decode cX12_doesAct 192 = .ok (.iconst 0, 1) := by decide +kernel
theorem dX12_doesAct_193 : decode cX12_doesAct 193 = .ok (.goto 4, 3) := by decide +kernel
theorem dX12_doesAct_196 : decode cX12_doesAct 196 = .ok (.iconst (-1), 1) := by decide +kernel
theorem dX12_doesAct_197 : decode cX12_doesAct 197 = .ok (.ireturn, 1) := by decide +kernel
theorem dX12_doesAct_198 : decode cX12_doesAct 198 = .ok (.aload_n 0, 1) := by decide +kernel
theorem dX12_doesAct_199 : decode cX12_doesAct 199 = .ok (.getfield 60, 3) := by decide +kernel
theorem dX12_doesAct_202 : decode cX12_doesAct 202 = .ok (.bipush 6, 2) := by decide +kernel
theorem dX12_doesAct_204 : decode cX12_doesAct 204 = .ok (.iload_n 2, 1) := by decide +kernel
theorem dX12_doesAct_205 : decode cX12_doesAct 205 = .ok (.iadd, 1) := by decide +kernel
theorem dX12_doesAct_206 : decode cX12_doesAct 206 = .ok (.iaload, 1) := by decide +kernel
theorem dX12_doesAct_207 : decode cX12_doesAct 207 = .ok (.iload_n 3, 1) := by decide +kernel
theorem dX12_doesAct_208 : decode cX12_doesAct 208 = .ok (.invokestatic 208, 3) := by decide +kernel
theorem dX12_doesAct_211 : decode cX12_doesAct 211 = .ok (.ifCond .eq 7, 3) := by decide +kernel
theorem dX12_doesAct_214 : decode cX12_doesAct 214 = .ok (.iconst 0, 1) := by decide +kernel
theorem dX12_doesAct_215 : decode cX12_doesAct 215 = .ok (.goto 4, 3) := by decide +kernel
theorem dX12_doesAct_218 : decode cX12_doesAct 218 = .ok (.iconst (-1), 1) := by decide +kernel
theorem dX12_doesAct_219 : decode cX12_doesAct 219 = .ok (.ireturn, 1) := by decide +kernel
theorem dX12_doesAct_220 : decode cX12_doesAct 220 = .ok (.aload_n 0, 1) := by decide +kernel
theorem dX12_doesAct_221 : decode cX12_doesAct 221 = .ok (.iconst 0, 1) := by decide +kernel
theorem dX12_doesAct_222 : decode cX12_doesAct 222 = .ok (.iload_n 3, 1) := by decide +kernel
theorem dX12_doesAct_223 : decode cX12_doesAct 223 = .ok (.invokevirtual 135, 3) := by decide +kernel
theorem dX12_doesAct_226 : decode cX12_doesAct 226 = .ok (.ifCond .ge 7, 3) := by decide +kernel
theorem dX12_doesAct_229 : decode cX12_doesAct 229 = .ok (.iconst (-1), 1) := by decide +kernel
theorem dX12_doesAct_230 : decode cX12_doesAct 230 = .ok (.goto 4, 3) := by decide +kernel
theorem dX12_doesAct_233 : decode cX12_doesAct 233 = .ok (.iconst 0, 1) := by decide +kernel
theorem dX12_doesAct_234 : decode cX12_doesAct 234 = .ok (.ireturn, 1) := by decide +kernel
def f_X12_doesAct (a0 : Nat) (x1 : Int32) (μ : jM) : Option (Int32 × jM) :=
  jrd (μ.1 (a0 + 11)) x1 168 (fun v2 => jrd (μ.1 (a0 + 12)) x1 168 (fun v5 => jrd (μ.1 (a0 + 10)) x1 168 (fun v8 => (if v8 = (0 : Int32) then jcl2 (f_X12_setsOne a0 v2 v5 μ) (fun v11 m12 => some ((v11, m12))) else (if v8 = (1 : Int32) then jcl2 (f_X12_addsOne a0 v2 v5 μ) (fun v15 m16 => some ((v15, m16))) else (if v8 = (2 : Int32) then jcl2 (f_X12_removesOne a0 v2 v5 μ) (fun v19 m20 => some ((v19, m20))) else (if v8 = (3 : Int32) then jcl2 (f_X12_fixesOne a0 v2 v5 μ) (fun v23 m24 => some ((v23, m24))) else (if v8 = (4 : Int32) then jcl2 (f_X12_limitsOne a0 v2 (0 : Int32) v5 μ) (fun v27 m28 => some ((v27, m28))) else (if v8 = (5 : Int32) then jcl2 (f_X12_limitsOne a0 v2 v5 (5 : Int32) μ) (fun v31 m32 => some ((v31, m32))) else (if v8 = (6 : Int32) then jcl2 (f_X12_putsOne a0 v2 v5 μ) (fun v35 m36 => some ((v35, m36))) else (if v8 = (7 : Int32) then jcl2 (f_X12_dropsOne a0 v2 μ) (fun v39 m40 => some ((v39, m40))) else (if v8 = (8 : Int32) then jcl2 (f_X12_spreadsOne a0 μ) (fun v43 m44 => some ((v43, m44))) else (if v8 = (9 : Int32) then jrd (μ.1 (a0 + 3)) v2 2074 (fun v48 => some (((if v5 ≤ v48 then (-1 : Int32) else (0 : Int32)), μ))) else (if v8 = (10 : Int32) then jrd (μ.1 (a0 + 3)) v2 2074 (fun v53 => some (((if v53 = v5 then (0 : Int32) else (-1 : Int32)), μ))) else (if v8 = (11 : Int32) then jrd (μ.1 (a0 + 3)) v2 2074 (fun v58 => some (((if v58 ≤ v5 then (-1 : Int32) else (0 : Int32)), μ))) else (if v8 = (12 : Int32) then jrd (μ.1 (a0 + 3)) ((6 : Int32) + v2) 2074 (fun v63 => some (((if (f_X12_has v63 v5) = (0 : Int32) then (-1 : Int32) else (0 : Int32)), μ))) else jcl (f_X12_placeOf a0 (0 : Int32) v5 μ) (fun v66 => some (((if (0 : Int32) ≤ v66 then (0 : Int32) else (-1 : Int32)), μ)))))))))))))))))))
set_option maxHeartbeats 4000000 in
set_option maxRecDepth 100000 in
theorem c_X12_doesAct {l : Launch} {G : jG} {L : jL} (hL : jOKL L) {a0 : Nat} {x1 : Int32} (ka0 : jK L a0 12) {μ μ' : jM} {r : Int32} (h : f_X12_doesAct a0 x1 μ = some ((r, μ'))) : jCt l G L 15 yX12_doesAct cX12_doesAct 4 (some .int) [.ref (L.2.2 a0), .int x1] μ (some (.int r)) μ' := by
  refine jCt_of (by decide) (Nat.le_of_ble_eq_true rfl) (fun X hC hX hR => ?_)
  subst hX
  have hC : jC X G cX12_doesAct 4 RX12 (some .int) := hC
  unfold f_X12_doesAct at h
  show jJ X G 4 L 0 0 (jQM X G L (some (.int r)) μ' 0 0) 0 [(0, .ref (L.2.2 a0)), (1, .int x1)] [] μ
  refine j_aload_n (pc := 0) hC 0 0 dX12_doesAct_0 rfl rfl ?_
  refine jgr_12 (pc := 1) hC 20 (by decide) rfl kf_X12_84 dX12_doesAct_1 ka0 (ly_12_20 hL ka0).1 ?_
  refine j_iload_n (pc := 4) hC 1 1 dX12_doesAct_4 rfl rfl ?_
  obtain ⟨i1, v2, e3, h⟩ := jrd_some h
  refine j_iald (pc := 5) hC dX12_doesAct_5 (ly_12_20 hL ka0).2.1 (ly_12_20 hL ka0).2.2 i1 e3 ?_
  refine j_istore_n (pc := 6) hC 2 [(2, .int v2), (0, .ref (L.2.2 a0)), (1, .int x1)] dX12_doesAct_6 rfl (by decide) rfl rfl ?_
  refine j_aload_n (pc := 7) hC 0 1 dX12_doesAct_7 rfl rfl ?_
  refine jgr_12 (pc := 8) hC 21 (by decide) rfl kf_X12_87 dX12_doesAct_8 ka0 (ly_12_21 hL ka0).1 ?_
  refine j_iload_n (pc := 11) hC 1 2 dX12_doesAct_11 rfl rfl ?_
  obtain ⟨i4, v5, e6, h⟩ := jrd_some h
  refine j_iald (pc := 12) hC dX12_doesAct_12 (ly_12_21 hL ka0).2.1 (ly_12_21 hL ka0).2.2 i4 e6 ?_
  refine j_istore_n (pc := 13) hC 3 [(3, .int v5), (2, .int v2), (0, .ref (L.2.2 a0)), (1, .int x1)] dX12_doesAct_13 rfl (by decide) rfl rfl ?_
  refine j_aload_n (pc := 14) hC 0 2 dX12_doesAct_14 rfl rfl ?_
  refine jgr_12 (pc := 15) hC 19 (by decide) rfl kf_X12_81 dX12_doesAct_15 ka0 (ly_12_19 hL ka0).1 ?_
  refine j_iload_n (pc := 18) hC 1 3 dX12_doesAct_18 rfl rfl ?_
  obtain ⟨i7, v8, e9, h⟩ := jrd_some h
  refine j_iald (pc := 19) hC dX12_doesAct_19 (ly_12_19 hL ka0).2.1 (ly_12_19 hL ka0).2.2 i7 e9 ?_
  by_cases c10 : v8 = (0 : Int32)
  · rw [if_pos c10] at h
    refine j_tableIn (pc := 20) hC 88 dX12_doesAct_20 (by rw [c10]; decide) (by rw [c10]; decide) (by rw [c10]; rfl) (by decide) ?_
    refine j_aload_n (pc := 88) hC 0 2 dX12_doesAct_88 rfl rfl ?_
    refine j_iload_n (pc := 89) hC 2 1 dX12_doesAct_89 rfl rfl ?_
    refine j_iload_n (pc := 90) hC 3 0 dX12_doesAct_90 rfl rfl ?_
    obtain ⟨v11, m12, e13, h⟩ := jcl2_some h
    refine j_vi (pc := 91) hC hR [.int v2, .int v5] iy_X12_setsOne (q := (RX12, TX12, 40)) (ci := 12) rfl rfl (by decide) km_X12_216 dX12_doesAct_91 rfl (by decide) ka0 (c_X12_setsOne hL ka0 e13) (by decide) (Nat.le_of_ble_eq_true rfl) rfl ?_
    obtain ⟨rfl, rfl⟩ := Prod.mk.inj (Option.some.inj h)
    exact j_iret (pc := 94) hC dX12_doesAct_94 rfl
  · rw [if_neg c10] at h
    by_cases c14 : v8 = (1 : Int32)
    · rw [if_pos c14] at h
      refine j_tableIn (pc := 20) hC 95 dX12_doesAct_20 (by rw [c14]; decide) (by rw [c14]; decide) (by rw [c14]; rfl) (by decide) ?_
      refine j_aload_n (pc := 95) hC 0 2 dX12_doesAct_95 rfl rfl ?_
      refine j_iload_n (pc := 96) hC 2 1 dX12_doesAct_96 rfl rfl ?_
      refine j_iload_n (pc := 97) hC 3 0 dX12_doesAct_97 rfl rfl ?_
      obtain ⟨v15, m16, e17, h⟩ := jcl2_some h
      refine j_vi (pc := 98) hC hR [.int v2, .int v5] iy_X12_addsOne (q := (RX12, TX12, 40)) (ci := 12) rfl rfl (by decide) km_X12_219 dX12_doesAct_98 rfl (by decide) ka0 (c_X12_addsOne hL ka0 e17) (by decide) (Nat.le_of_ble_eq_true rfl) rfl ?_
      obtain ⟨rfl, rfl⟩ := Prod.mk.inj (Option.some.inj h)
      exact j_iret (pc := 101) hC dX12_doesAct_101 rfl
    · rw [if_neg c14] at h
      by_cases c18 : v8 = (2 : Int32)
      · rw [if_pos c18] at h
        refine j_tableIn (pc := 20) hC 102 dX12_doesAct_20 (by rw [c18]; decide) (by rw [c18]; decide) (by rw [c18]; rfl) (by decide) ?_
        refine j_aload_n (pc := 102) hC 0 2 dX12_doesAct_102 rfl rfl ?_
        refine j_iload_n (pc := 103) hC 2 1 dX12_doesAct_103 rfl rfl ?_
        refine j_iload_n (pc := 104) hC 3 0 dX12_doesAct_104 rfl rfl ?_
        obtain ⟨v19, m20, e21, h⟩ := jcl2_some h
        refine j_vi (pc := 105) hC hR [.int v2, .int v5] iy_X12_removesOne (q := (RX12, TX12, 40)) (ci := 12) rfl rfl (by decide) km_X12_222 dX12_doesAct_105 rfl (by decide) ka0 (c_X12_removesOne hL ka0 e21) (by decide) (Nat.le_of_ble_eq_true rfl) rfl ?_
        obtain ⟨rfl, rfl⟩ := Prod.mk.inj (Option.some.inj h)
        exact j_iret (pc := 108) hC dX12_doesAct_108 rfl
      · rw [if_neg c18] at h
        by_cases c22 : v8 = (3 : Int32)
        · rw [if_pos c22] at h
          refine j_tableIn (pc := 20) hC 109 dX12_doesAct_20 (by rw [c22]; decide) (by rw [c22]; decide) (by rw [c22]; rfl) (by decide) ?_
          refine j_aload_n (pc := 109) hC 0 2 dX12_doesAct_109 rfl rfl ?_
          refine j_iload_n (pc := 110) hC 2 1 dX12_doesAct_110 rfl rfl ?_
          refine j_iload_n (pc := 111) hC 3 0 dX12_doesAct_111 rfl rfl ?_
          obtain ⟨v23, m24, e25, h⟩ := jcl2_some h
          refine j_vi (pc := 112) hC hR [.int v2, .int v5] iy_X12_fixesOne (q := (RX12, TX12, 40)) (ci := 12) rfl rfl (by decide) km_X12_225 dX12_doesAct_112 rfl (by decide) ka0 (c_X12_fixesOne hL ka0 e25) (by decide) (Nat.le_of_ble_eq_true rfl) rfl ?_
          obtain ⟨rfl, rfl⟩ := Prod.mk.inj (Option.some.inj h)
          exact j_iret (pc := 115) hC dX12_doesAct_115 rfl
        · rw [if_neg c22] at h
          by_cases c26 : v8 = (4 : Int32)
          · rw [if_pos c26] at h
            refine j_tableIn (pc := 20) hC 116 dX12_doesAct_20 (by rw [c26]; decide) (by rw [c26]; decide) (by rw [c26]; rfl) (by decide) ?_
            refine j_aload_n (pc := 116) hC 0 2 dX12_doesAct_116 rfl rfl ?_
            refine j_iload_n (pc := 117) hC 2 1 dX12_doesAct_117 rfl rfl ?_
            refine j_iconst (pc := 118) hC (0 : Int32) dX12_doesAct_118 (by decide) ?_
            refine j_iload_n (pc := 119) hC 3 0 dX12_doesAct_119 rfl rfl ?_
            obtain ⟨v27, m28, e29, h⟩ := jcl2_some h
            refine j_vi (pc := 120) hC hR [.int v2, .int (0 : Int32), .int v5] iy_X12_limitsOne (q := (RX12, TX12, 40)) (ci := 12) rfl rfl (by decide) km_X12_228 dX12_doesAct_120 rfl (by decide) ka0 (c_X12_limitsOne hL ka0 e29) (by decide) (Nat.le_of_ble_eq_true rfl) rfl ?_
            obtain ⟨rfl, rfl⟩ := Prod.mk.inj (Option.some.inj h)
            exact j_iret (pc := 123) hC dX12_doesAct_123 rfl
          · rw [if_neg c26] at h
            by_cases c30 : v8 = (5 : Int32)
            · rw [if_pos c30] at h
              refine j_tableIn (pc := 20) hC 124 dX12_doesAct_20 (by rw [c30]; decide) (by rw [c30]; decide) (by rw [c30]; rfl) (by decide) ?_
              refine j_aload_n (pc := 124) hC 0 2 dX12_doesAct_124 rfl rfl ?_
              refine j_iload_n (pc := 125) hC 2 1 dX12_doesAct_125 rfl rfl ?_
              refine j_iload_n (pc := 126) hC 3 0 dX12_doesAct_126 rfl rfl ?_
              refine j_iconst (pc := 127) hC (5 : Int32) dX12_doesAct_127 (by decide) ?_
              obtain ⟨v31, m32, e33, h⟩ := jcl2_some h
              refine j_vi (pc := 128) hC hR [.int v2, .int v5, .int (5 : Int32)] iy_X12_limitsOne (q := (RX12, TX12, 40)) (ci := 12) rfl rfl (by decide) km_X12_228 dX12_doesAct_128 rfl (by decide) ka0 (c_X12_limitsOne hL ka0 e33) (by decide) (Nat.le_of_ble_eq_true rfl) rfl ?_
              obtain ⟨rfl, rfl⟩ := Prod.mk.inj (Option.some.inj h)
              exact j_iret (pc := 131) hC dX12_doesAct_131 rfl
            · rw [if_neg c30] at h
              by_cases c34 : v8 = (6 : Int32)
              · rw [if_pos c34] at h
                refine j_tableIn (pc := 20) hC 132 dX12_doesAct_20 (by rw [c34]; decide) (by rw [c34]; decide) (by rw [c34]; rfl) (by decide) ?_
                refine j_aload_n (pc := 132) hC 0 2 dX12_doesAct_132 rfl rfl ?_
                refine j_iload_n (pc := 133) hC 2 1 dX12_doesAct_133 rfl rfl ?_
                refine j_iload_n (pc := 134) hC 3 0 dX12_doesAct_134 rfl rfl ?_
                obtain ⟨v35, m36, e37, h⟩ := jcl2_some h
                refine j_vi (pc := 135) hC hR [.int v2, .int v5] iy_X12_putsOne (q := (RX12, TX12, 40)) (ci := 12) rfl rfl (by decide) km_X12_232 dX12_doesAct_135 rfl (by decide) ka0 (c_X12_putsOne hL ka0 e37) (by decide) (Nat.le_of_ble_eq_true rfl) rfl ?_
                obtain ⟨rfl, rfl⟩ := Prod.mk.inj (Option.some.inj h)
                exact j_iret (pc := 138) hC dX12_doesAct_138 rfl
              · rw [if_neg c34] at h
                by_cases c38 : v8 = (7 : Int32)
                · rw [if_pos c38] at h
                  refine j_tableIn (pc := 20) hC 139 dX12_doesAct_20 (by rw [c38]; decide) (by rw [c38]; decide) (by rw [c38]; rfl) (by decide) ?_
                  refine j_aload_n (pc := 139) hC 0 2 dX12_doesAct_139 rfl rfl ?_
                  refine j_iload_n (pc := 140) hC 2 1 dX12_doesAct_140 rfl rfl ?_
                  obtain ⟨v39, m40, e41, h⟩ := jcl2_some h
                  refine j_vi (pc := 141) hC hR [.int v2] iy_X12_dropsOne (q := (RX12, TX12, 40)) (ci := 12) rfl rfl (by decide) km_X12_235 dX12_doesAct_141 rfl (by decide) ka0 (c_X12_dropsOne hL ka0 e41) (by decide) (Nat.le_of_ble_eq_true rfl) rfl ?_
                  obtain ⟨rfl, rfl⟩ := Prod.mk.inj (Option.some.inj h)
                  exact j_iret (pc := 144) hC dX12_doesAct_144 rfl
                · rw [if_neg c38] at h
                  by_cases c42 : v8 = (8 : Int32)
                  · rw [if_pos c42] at h
                    refine j_tableIn (pc := 20) hC 145 dX12_doesAct_20 (by rw [c42]; decide) (by rw [c42]; decide) (by rw [c42]; rfl) (by decide) ?_
                    refine j_aload_n (pc := 145) hC 0 2 dX12_doesAct_145 rfl rfl ?_
                    obtain ⟨v43, m44, e45, h⟩ := jcl2_some h
                    refine j_vi (pc := 146) hC hR [] iy_X12_spreadsOne (q := (RX12, TX12, 40)) (ci := 12) rfl rfl (by decide) km_X12_290 dX12_doesAct_146 rfl (by decide) ka0 (c_X12_spreadsOne hL ka0 e45) (by decide) (Nat.le_of_ble_eq_true rfl) rfl ?_
                    obtain ⟨rfl, rfl⟩ := Prod.mk.inj (Option.some.inj h)
                    exact j_iret (pc := 149) hC dX12_doesAct_149 rfl
                  · rw [if_neg c42] at h
                    by_cases c46 : v8 = (9 : Int32)
                    · rw [if_pos c46] at h
                      refine j_tableIn (pc := 20) hC 150 dX12_doesAct_20 (by rw [c46]; decide) (by rw [c46]; decide) (by rw [c46]; rfl) (by decide) ?_
                      refine j_aload_n (pc := 150) hC 0 2 dX12_doesAct_150 rfl rfl ?_
                      refine jgr_12 (pc := 151) hC 8 (by decide) rfl kf_X12_60 dX12_doesAct_151 ka0 (ly_12_8 hL ka0).1 ?_
                      refine j_iload_n (pc := 154) hC 2 1 dX12_doesAct_154 rfl rfl ?_
                      obtain ⟨i47, v48, e49, h⟩ := jrd_some h
                      refine j_iald (pc := 155) hC dX12_doesAct_155 (ly_12_8 hL ka0).2.1 (ly_12_8 hL ka0).2.2 i47 e49 ?_
                      refine j_iload_n (pc := 156) hC 3 0 dX12_doesAct_156 rfl rfl ?_
                      refine jmg (B := jJ X G 4 L 0 0 (jQM X G L (some (.int r)) μ' 0 0) 165 [(3, .int v5), (2, .int v2), (0, .ref (L.2.2 a0)), (1, .int x1)] [.int ((if v5 ≤ v48 then (-1 : Int32) else (0 : Int32)))] μ) (fun hj => ?_) ?_
                      · refine j_icmp_ge (pc := 157) hC 164 dX12_doesAct_157 (by decide) (fun c50 => ?_) (fun c50 => ?_)
                        · rw [if_pos c50] at hj
                          refine j_iconst (pc := 164) hC (-1 : Int32) dX12_doesAct_164 (by decide) ?_
                          exact hj
                        · rw [if_neg c50] at hj
                          refine j_iconst (pc := 160) hC (0 : Int32) dX12_doesAct_160 (by decide) ?_
                          refine j_goto (pc := 161) hC 165 dX12_doesAct_161 (by decide) ?_
                          exact hj
                      obtain ⟨rfl, rfl⟩ := Prod.mk.inj (Option.some.inj h)
                      exact j_iret (pc := 165) hC dX12_doesAct_165 rfl
                    · rw [if_neg c46] at h
                      by_cases c51 : v8 = (10 : Int32)
                      · rw [if_pos c51] at h
                        refine j_tableIn (pc := 20) hC 166 dX12_doesAct_20 (by rw [c51]; decide) (by rw [c51]; decide) (by rw [c51]; rfl) (by decide) ?_
                        refine j_aload_n (pc := 166) hC 0 2 dX12_doesAct_166 rfl rfl ?_
                        refine jgr_12 (pc := 167) hC 8 (by decide) rfl kf_X12_60 dX12_doesAct_167 ka0 (ly_12_8 hL ka0).1 ?_
                        refine j_iload_n (pc := 170) hC 2 1 dX12_doesAct_170 rfl rfl ?_
                        obtain ⟨i52, v53, e54, h⟩ := jrd_some h
                        refine j_iald (pc := 171) hC dX12_doesAct_171 (ly_12_8 hL ka0).2.1 (ly_12_8 hL ka0).2.2 i52 e54 ?_
                        refine j_iload_n (pc := 172) hC 3 0 dX12_doesAct_172 rfl rfl ?_
                        refine jmg (B := jJ X G 4 L 0 0 (jQM X G L (some (.int r)) μ' 0 0) 181 [(3, .int v5), (2, .int v2), (0, .ref (L.2.2 a0)), (1, .int x1)] [.int ((if v53 = v5 then (0 : Int32) else (-1 : Int32)))] μ) (fun hj => ?_) ?_
                        · refine j_icmp_ne (pc := 173) hC 180 dX12_doesAct_173 (by decide) (fun c55 => ?_) (fun c55 => ?_)
                          · rw [if_neg c55] at hj
                            refine j_iconst (pc := 180) hC (-1 : Int32) dX12_doesAct_180 (by decide) ?_
                            exact hj
                          · rw [if_pos c55] at hj
                            refine j_iconst (pc := 176) hC (0 : Int32) dX12_doesAct_176 (by decide) ?_
                            refine j_goto (pc := 177) hC 181 dX12_doesAct_177 (by decide) ?_
                            exact hj
                        obtain ⟨rfl, rfl⟩ := Prod.mk.inj (Option.some.inj h)
                        exact j_iret (pc := 181) hC dX12_doesAct_181 rfl
                      · rw [if_neg c51] at h
                        by_cases c56 : v8 = (11 : Int32)
                        · rw [if_pos c56] at h
                          refine j_tableIn (pc := 20) hC 182 dX12_doesAct_20 (by rw [c56]; decide) (by rw [c56]; decide) (by rw [c56]; rfl) (by decide) ?_
                          refine j_aload_n (pc := 182) hC 0 2 dX12_doesAct_182 rfl rfl ?_
                          refine jgr_12 (pc := 183) hC 8 (by decide) rfl kf_X12_60 dX12_doesAct_183 ka0 (ly_12_8 hL ka0).1 ?_
                          refine j_iload_n (pc := 186) hC 2 1 dX12_doesAct_186 rfl rfl ?_
                          obtain ⟨i57, v58, e59, h⟩ := jrd_some h
                          refine j_iald (pc := 187) hC dX12_doesAct_187 (ly_12_8 hL ka0).2.1 (ly_12_8 hL ka0).2.2 i57 e59 ?_
                          refine j_iload_n (pc := 188) hC 3 0 dX12_doesAct_188 rfl rfl ?_
                          refine jmg (B := jJ X G 4 L 0 0 (jQM X G L (some (.int r)) μ' 0 0) 197 [(3, .int v5), (2, .int v2), (0, .ref (L.2.2 a0)), (1, .int x1)] [.int ((if v58 ≤ v5 then (-1 : Int32) else (0 : Int32)))] μ) (fun hj => ?_) ?_
                          · refine j_icmp_le (pc := 189) hC 196 dX12_doesAct_189 (by decide) (fun c60 => ?_) (fun c60 => ?_)
                            · rw [if_pos c60] at hj
                              refine j_iconst (pc := 196) hC (-1 : Int32) dX12_doesAct_196 (by decide) ?_
                              exact hj
                            · rw [if_neg c60] at hj
                              refine j_iconst (pc := 192) hC (0 : Int32) dX12_doesAct_192 (by decide) ?_
                              refine j_goto (pc := 193) hC 197 dX12_doesAct_193 (by decide) ?_
                              exact hj
                          obtain ⟨rfl, rfl⟩ := Prod.mk.inj (Option.some.inj h)
                          exact j_iret (pc := 197) hC dX12_doesAct_197 rfl
                        · rw [if_neg c56] at h
                          by_cases c61 : v8 = (12 : Int32)
                          · rw [if_pos c61] at h
                            refine j_tableIn (pc := 20) hC 198 dX12_doesAct_20 (by rw [c61]; decide) (by rw [c61]; decide) (by rw [c61]; rfl) (by decide) ?_
                            refine j_aload_n (pc := 198) hC 0 2 dX12_doesAct_198 rfl rfl ?_
                            refine jgr_12 (pc := 199) hC 8 (by decide) rfl kf_X12_60 dX12_doesAct_199 ka0 (ly_12_8 hL ka0).1 ?_
                            refine j_bipush (pc := 202) hC (6 : Int32) dX12_doesAct_202 (by decide) ?_
                            refine j_iload_n (pc := 204) hC 2 1 dX12_doesAct_204 rfl rfl ?_
                            refine j_iadd (pc := 205) hC dX12_doesAct_205 ?_
                            obtain ⟨i62, v63, e64, h⟩ := jrd_some h
                            refine j_iald (pc := 206) hC dX12_doesAct_206 (ly_12_8 hL ka0).2.1 (ly_12_8 hL ka0).2.2 i62 e64 ?_
                            refine j_iload_n (pc := 207) hC 3 0 dX12_doesAct_207 rfl rfl ?_
                            refine j_si (pc := 208) hC hR [.int v63, .int v5] iy_X12_has km_X12_208 dX12_doesAct_208 rfl (by decide) (c_X12_has hL  rfl) (by decide) (Nat.le_of_ble_eq_true rfl) rfl ?_
                            refine jmg (B := jJ X G 4 L 0 0 (jQM X G L (some (.int r)) μ' 0 0) 219 [(3, .int v5), (2, .int v2), (0, .ref (L.2.2 a0)), (1, .int x1)] [.int ((if (f_X12_has v63 v5) = (0 : Int32) then (-1 : Int32) else (0 : Int32)))] μ) (fun hj => ?_) ?_
                            · refine j_if_eq (pc := 211) hC 218 dX12_doesAct_211 (by decide) (fun c65 => ?_) (fun c65 => ?_)
                              · rw [if_pos c65] at hj
                                refine j_iconst (pc := 218) hC (-1 : Int32) dX12_doesAct_218 (by decide) ?_
                                exact hj
                              · rw [if_neg c65] at hj
                                refine j_iconst (pc := 214) hC (0 : Int32) dX12_doesAct_214 (by decide) ?_
                                refine j_goto (pc := 215) hC 219 dX12_doesAct_215 (by decide) ?_
                                exact hj
                            obtain ⟨rfl, rfl⟩ := Prod.mk.inj (Option.some.inj h)
                            exact j_iret (pc := 219) hC dX12_doesAct_219 rfl
                          · rw [if_neg c61] at h
                            refine j_tableOut (pc := 20) hC 220 dX12_doesAct_20 (by have := lv_neT c10 (show (0 : Int32).toInt = 0 by decide); have := lv_neT c14 (show (1 : Int32).toInt = 1 by decide); have := lv_neT c18 (show (2 : Int32).toInt = 2 by decide); have := lv_neT c22 (show (3 : Int32).toInt = 3 by decide); have := lv_neT c26 (show (4 : Int32).toInt = 4 by decide); have := lv_neT c30 (show (5 : Int32).toInt = 5 by decide); have := lv_neT c34 (show (6 : Int32).toInt = 6 by decide); have := lv_neT c38 (show (7 : Int32).toInt = 7 by decide); have := lv_neT c42 (show (8 : Int32).toInt = 8 by decide); have := lv_neT c46 (show (9 : Int32).toInt = 9 by decide); have := lv_neT c51 (show (10 : Int32).toInt = 10 by decide); have := lv_neT c56 (show (11 : Int32).toInt = 11 by decide); have := lv_neT c61 (show (12 : Int32).toInt = 12 by decide); omega) (by decide) ?_
                            refine j_aload_n (pc := 220) hC 0 2 dX12_doesAct_220 rfl rfl ?_
                            refine j_iconst (pc := 221) hC (0 : Int32) dX12_doesAct_221 (by decide) ?_
                            refine j_iload_n (pc := 222) hC 3 0 dX12_doesAct_222 rfl rfl ?_
                            obtain ⟨v66, e67, h⟩ := jcl_some h
                            refine j_vi (pc := 223) hC hR [.int (0 : Int32), .int v5] iy_X12_placeOf (q := (RX12, TX12, 40)) (ci := 12) rfl rfl (by decide) km_X12_135 dX12_doesAct_223 rfl (by decide) ka0 (c_X12_placeOf hL ka0 e67) (by decide) (Nat.le_of_ble_eq_true rfl) rfl ?_
                            refine jmg (B := jJ X G 4 L 0 0 (jQM X G L (some (.int r)) μ' 0 0) 234 [(3, .int v5), (2, .int v2), (0, .ref (L.2.2 a0)), (1, .int x1)] [.int ((if (0 : Int32) ≤ v66 then (0 : Int32) else (-1 : Int32)))] μ) (fun hj => ?_) ?_
                            · refine j_if_ge (pc := 226) hC 233 dX12_doesAct_226 (by decide) (fun c68 => ?_) (fun c68 => ?_)
                              · rw [if_pos c68] at hj
                                refine j_iconst (pc := 233) hC (0 : Int32) dX12_doesAct_233 (by decide) ?_
                                exact hj
                              · rw [if_neg c68] at hj
                                refine j_iconst (pc := 229) hC (-1 : Int32) dX12_doesAct_229 (by decide) ?_
                                refine j_goto (pc := 230) hC 234 dX12_doesAct_230 (by decide) ?_
                                exact hj
                            obtain ⟨rfl, rfl⟩ := Prod.mk.inj (Option.some.inj h)
                            exact j_iret (pc := 234) hC dX12_doesAct_234 rfl
theorem dX12_doesBlock_0 : decode cX12_doesBlock 0 = .ok (.aload_n 0, 1) := by decide +kernel
theorem dX12_doesBlock_1 : decode cX12_doesBlock 1 = .ok (.getfield 158, 3) := by decide +kernel
theorem dX12_doesBlock_4 : decode cX12_doesBlock 4 = .ok (.bipush 9, 2) := by decide +kernel
theorem dX12_doesBlock_6 : decode cX12_doesBlock 6 = .ok (.if_icmp .ne 5, 3) := by decide +kernel
theorem dX12_doesBlock_9 : decode cX12_doesBlock 9 = .ok (.iconst 0, 1) := by decide +kernel
theorem dX12_doesBlock_10 : decode cX12_doesBlock 10 = .ok (.ireturn, 1) := by decide +kernel
theorem dX12_doesBlock_11 : decode cX12_doesBlock 11 = .ok (.iload_n 1, 1) := by decide +kernel
theorem dX12_doesBlock_12 : decode cX12_doesBlock 12 = .ok (.iconst 1, 1) := by decide +kernel
theorem dX12_doesBlock_13 : decode cX12_doesBlock 13 = .ok (.iadd, 1) := by decide +kernel
theorem dX12_doesBlock_14 : decode cX12_doesBlock 14 = .ok (.istore_n 2, 1) := by decide +kernel
theorem dX12_doesBlock_15 : decode cX12_doesBlock 15 = .ok (.iload_n 2, 1) := by decide +kernel
theorem dX12_doesBlock_16 : decode cX12_doesBlock 16 = .ok (.aload_n 0, 1) := by decide +kernel
theorem dX12_doesBlock_17 : decode cX12_doesBlock 17 = .ok (.getfield 93, 3) := by decide +kernel
theorem dX12_doesBlock_20 : decode cX12_doesBlock 20 = .ok (.iload_n 1, 1) := by decide +kernel
theorem dX12_doesBlock_21 : decode cX12_doesBlock 21 = .ok (.iaload, 1) := by decide +kernel
theorem dX12_doesBlock_22 : decode cX12_doesBlock 22 = .ok (.if_icmp .ge 112, 3) := by decide +kernel
theorem dX12_doesBlock_25 : decode cX12_doesBlock 25 = .ok (.aload_n 0, 1) := by decide +kernel
theorem dX12_doesBlock_26 : decode cX12_doesBlock 26 = .ok (.getfield 341, 3) := by decide +kernel
theorem dX12_doesBlock_29 : decode cX12_doesBlock 29 = .ok (.istore_n 3, 1) := by decide +kernel
theorem dX12_doesBlock_30 : decode cX12_doesBlock 30 = .ok (.aload_n 0, 1) := by decide +kernel
theorem dX12_doesBlock_31 : decode cX12_doesBlock 31 = .ok (.invokevirtual 167, 3) := by decide +kernel
theorem dX12_doesBlock_34 : decode cX12_doesBlock 34 = .ok (.pop, 1) := by decide +kernel
theorem dX12_doesBlock_35 : decode cX12_doesBlock 35 = .ok (.aload_n 0, 1) := by decide +kernel
theorem dX12_doesBlock_36 : decode cX12_doesBlock 36 = .ok (.iload_n 2, 1) := by decide +kernel
theorem dX12_doesBlock_37 : decode cX12_doesBlock 37 = .ok (.iconst 1, 1) := by decide +kernel
theorem dX12_doesBlock_38 : decode cX12_doesBlock 38 = .ok (.iadd, 1) := by decide +kernel
theorem dX12_doesBlock_39 : decode cX12_doesBlock 39 = .ok (.aload_n 0, 1) := by decide +kernel
theorem dX12_doesBlock_40 : decode cX12_doesBlock 40 = .ok (.getfield 93, 3) := by decide +kernel
theorem dX12_doesBlock_43 : decode cX12_doesBlock 43 = .ok (.iload_n 2, 1) := by decide +kernel
theorem dX12_doesBlock_44 : decode cX12_doesBlock 44 = .ok (.iaload, 1) := by decide +kernel
theorem dX12_doesBlock_45 : decode cX12_doesBlock 45 = .ok (.invokevirtual 347, 3) := by decide +kernel
theorem dX12_doesBlock_48 : decode cX12_doesBlock 48 = .ok (.ifCond .ge 7, 3) := by decide +kernel
theorem dX12_doesBlock_51 : decode cX12_doesBlock 51 = .ok (.iconst 1, 1) := by decide +kernel
theorem dX12_doesBlock_52 : decode cX12_doesBlock 52 = .ok (.goto 4, 3) := by decide +kernel
theorem dX12_doesBlock_55 : decode cX12_doesBlock 55 = .ok (.iconst 0, 1) := by decide +kernel
theorem dX12_doesBlock_56 : decode cX12_doesBlock 56 = .ok (.istore 4, 2) := by decide +kernel
theorem dX12_doesBlock_58 : decode cX12_doesBlock 58 = .ok (.iload 4, 2) := by decide +kernel
theorem dX12_doesBlock_60 : decode cX12_doesBlock 60 = .ok (.ifCond .eq 21, 3) := by decide +kernel
theorem dX12_doesBlock_63 : decode cX12_doesBlock 63 = .ok (.aload_n 0, 1) := by decide +kernel
theorem dX12_doesBlock_64 : decode cX12_doesBlock 64 = .ok (.getfield 81, 3) := by decide +kernel
theorem dX12_doesBlock_67 : decode cX12_doesBlock 67 = .ok (.iload_n 1, 1) := by decide +kernel
theorem dX12_doesBlock_68 : decode cX12_doesBlock 68 = .ok (.iaload, 1) := by decide +kernel
theorem dX12_doesBlock_69 : decode cX12_doesBlock 69 = .ok (.bipush 21, 2) := by decide +kernel
theorem dX12_doesBlock_71 : decode cX12_doesBlock 71 = .ok (.if_icmp .eq 10, 3) := by decide +kernel
theorem dX12_doesBlock_74 : decode cX12_doesBlock 74 = .ok (.aload_n 0, 1) := by decide +kernel
theorem dX12_doesBlock_75 : decode cX12_doesBlock 75 = .ok (.invokevirtual 179, 3) := by decide +kernel
theorem dX12_doesBlock_78 : decode cX12_doesBlock 78 = .ok (.pop, 1) := by decide +kernel
theorem dX12_doesBlock_79 : decode cX12_doesBlock 79 = .ok (.iconst 1, 1) := by decide +kernel
theorem dX12_doesBlock_80 : decode cX12_doesBlock 80 = .ok (.ireturn, 1) := by decide +kernel
theorem dX12_doesBlock_81 : decode cX12_doesBlock 81 = .ok (.aload_n 0, 1) := by decide +kernel
theorem dX12_doesBlock_82 : decode cX12_doesBlock 82 = .ok (.invokevirtual 173, 3) := by decide +kernel
theorem dX12_doesBlock_85 : decode cX12_doesBlock 85 = .ok (.pop, 1) := by decide +kernel
theorem dX12_doesBlock_86 : decode cX12_doesBlock 86 = .ok (.aload_n 0, 1) := by decide +kernel
theorem dX12_doesBlock_87 : decode cX12_doesBlock 87 = .ok (.iload_n 3, 1) := by decide +kernel
theorem dX12_doesBlock_88 : decode cX12_doesBlock 88 = .ok (.putfield 341, 3) := by decide +kernel
theorem dX12_doesBlock_91 : decode cX12_doesBlock 91 = .ok (.aload_n 0, 1) := by decide +kernel
theorem dX12_doesBlock_92 : decode cX12_doesBlock 92 = .ok (.getfield 81, 3) := by decide +kernel
theorem dX12_doesBlock_95 : decode cX12_doesBlock 95 = .ok (.iload_n 1, 1) := by decide +kernel
theorem dX12_doesBlock_96 : decode cX12_doesBlock 96 = .ok (.iaload, 1) := by decide +kernel
theorem dX12_doesBlock_97 : decode cX12_doesBlock 97 = .ok (.bipush 22, 2) := by decide +kernel
theorem dX12_doesBlock_99 : decode cX12_doesBlock 99 = .ok (.if_icmp .eq 25, 3) := by decide +kernel
theorem dX12_doesBlock_102 : decode cX12_doesBlock 102 = .ok (.iload 4, 2) := by decide +kernel
theorem dX12_doesBlock_104 : decode cX12_doesBlock 104 = .ok (.ifCond .ne 14, 3) := by decide +kernel
theorem dX12_doesBlock_107 : decode cX12_doesBlock 107 = .ok (.aload_n 0, 1) := by decide +kernel
theorem dX12_doesBlock_108 : decode cX12_doesBlock 108 = .ok (.getfield 81, 3) := by decide +kernel
theorem dX12_doesBlock_111 : decode cX12_doesBlock 111 = .ok (.iload_n 1, 1) := by decide +kernel
theorem dX12_doesBlock_112 : decode cX12_doesBlock 112 = .ok (.iaload, 1) := by decide +kernel
theorem dX12_doesBlock_113 : decode cX12_doesBlock 113 = .ok (.bipush 20, 2) := by decide +kernel
theorem dX12_doesBlock_115 : decode cX12_doesBlock 115 = .ok (.if_icmp .ne 7, 3) := by decide +kernel
theorem dX12_doesBlock_118 : decode cX12_doesBlock 118 = .ok (.iconst 1, 1) := by decide +kernel
theorem dX12_doesBlock_119 : decode cX12_doesBlock 119 = .ok (.goto 4, 3) := by decide +kernel
theorem dX12_doesBlock_122 : decode cX12_doesBlock 122 = .ok (.iconst 0, 1) := by decide +kernel
theorem dX12_doesBlock_123 : decode cX12_doesBlock 123 = .ok (.ireturn, 1) := by decide +kernel
theorem dX12_doesBlock_124 : decode cX12_doesBlock 124 = .ok (.aload_n 0, 1) := by decide +kernel
theorem dX12_doesBlock_125 : decode cX12_doesBlock 125 = .ok (.getfield 93, 3) := by decide +kernel
theorem dX12_doesBlock_128 : decode cX12_doesBlock 128 = .ok (.iload_n 2, 1) := by decide +kernel
theorem dX12_doesBlock_129 : decode cX12_doesBlock 129 = .ok (.iaload, 1) := by decide +kernel
theorem dX12_doesBlock_130 : decode cX12_doesBlock 130 = .ok (.istore_n 2, 1) := by decide +kernel
theorem dX12_doesBlock_131 : decode cX12_doesBlock 131 = .ok (.goto (-116), 3) := by decide +kernel
theorem dX12_doesBlock_134 : decode cX12_doesBlock 134 = .ok (.iconst 0, 1) := by decide +kernel
theorem dX12_doesBlock_135 : decode cX12_doesBlock 135 = .ok (.ireturn, 1) := by decide +kernel
def f_X12_doesBlock_L15 (a0 : Nat) (x1 : Int32) (rA : Nat → Int32 → Int32 → jM → Option (Int32 × jM)) (u2 : Int32) (m3 : jM) : Option ((Int32 × jM) ⊕ ((jM) ⊕ ((Int32 × jM) ⊕ (jM)))) :=
  jrd (m3.1 (a0 + 14)) x1 168 (fun v5 => (if v5 ≤ u2 then some (.inr (.inr (.inr (m3)))) else jcl2 (f_X12_opensOne a0 m3) (fun v8 m9 => jrd (m9.1 (a0 + 14)) u2 168 (fun v12 => jcl2 (rA a0 (u2 + (1 : Int32)) v12 m9) (fun v14 m15 => jbd ((if (0 : Int32) ≤ v14 then (0 : Int32) else (1 : Int32)) : Int32) (fun v18 => jbd (jcl2 (f_X12_closesOne a0 m15) (fun v23 m24 => jbd (jsi m24 a0 25 (m3.1 a0 25)) (fun m26 => jrd (m26.1 (a0 + 10)) x1 168 (fun v29 => (if v29 = (22 : Int32) then jrd (m26.1 (a0 + 14)) u2 168 (fun v33 => some (.inl ((v33, m26)))) else some (.inr (.inr (.inl ((v18, m26)))))))))) (fun k20 => (if v18 = (0 : Int32) then k20 else jrd (m15.1 (a0 + 10)) x1 168 (fun v37 => (if v37 = (21 : Int32) then k20 else some (.inr (.inl m15))))))))))))
def fb_X12_doesBlock (rA : Nat → Int32 → Int32 → jM → Option (Int32 × jM)) (a0 : Nat) (x1 : Int32) (μ : jM) : Option (Int32 × jM) :=
  (if (μ.1 a0 9) = (9 : Int32) then some (((0 : Int32), μ)) else jcl (jloop (fun (s : Int32 × jM) => f_X12_doesBlock_L15 a0 x1 rA s.1 s.2) jfu ((x1 + (1 : Int32), μ))) (fun w40 => match w40 with | .inl w40 => jcl2 (f_X12_commitsOne a0 w40) (fun v44 m45 => some (((1 : Int32), m45))) | .inr w40 => match w40 with | .inl w40 => (if w40.1 = (0 : Int32) then jrd (w40.2.1 (a0 + 10)) x1 168 (fun v51 => (if v51 = (20 : Int32) then some (((1 : Int32), w40.2)) else some (((0 : Int32), w40.2)))) else some (((1 : Int32), w40.2))) | .inr w40 => some (((0 : Int32), w40))))
set_option maxHeartbeats 4000000 in
set_option maxRecDepth 100000 in
theorem cb_X12_doesBlock {l : Launch} {G : jG} {L : jL} (hL : jOKL L) {dA : Nat} (hD : 15 ≤ dA) {rA : Nat → Int32 → Int32 → jM → Option (Int32 × jM)} (hA : ∀ {b0 : Nat} {b1 : Int32} {b2 : Int32} {μ1 μ2 : jM} {r : Int32}, jK L b0 12 → rA b0 b1 b2 μ1 = some (r, μ2) → jCt l G L dA yX12_does cX12_does 6 (some .int) [.ref (L.2.2 b0), .int b1, .int b2] μ1 (some (.int r)) μ2) {a0 : Nat} {x1 : Int32} (ka0 : jK L a0 12) {μ μ' : jM} {r : Int32} (h : fb_X12_doesBlock rA a0 x1 μ = some ((r, μ'))) : jCt l G L (dA + 1) yX12_doesBlock cX12_doesBlock 5 (some .boolean) [.ref (L.2.2 a0), .int x1] μ (some (.int r)) μ' := by
  refine jCt_of (by decide) (Nat.le_of_ble_eq_true rfl) (fun X hC hX hR => ?_)
  subst hX
  have hC : jC X G cX12_doesBlock 5 RX12 (some .boolean) := hC
  unfold fb_X12_doesBlock at h
  show jJ X G 5 L 0 0 (jQM X G L (some (.int r)) μ' 0 0) 0 [(0, .ref (L.2.2 a0)), (1, .int x1)] [] μ
  refine j_aload_n (pc := 0) hC 0 0 dX12_doesBlock_0 rfl rfl ?_
  refine jgi_12 (pc := 1) hC 9 (by decide) rfl kf_X12_158 dX12_doesBlock_1 ka0 ?_
  refine j_bipush (pc := 4) hC (9 : Int32) dX12_doesBlock_4 (by decide) ?_
  refine j_icmp_ne (pc := 6) hC 11 dX12_doesBlock_6 (by decide) (fun c1 => ?_) (fun c1 => ?_)
  · rw [if_neg c1] at h
    refine j_iload_n (pc := 11) hC 1 1 dX12_doesBlock_11 rfl rfl ?_
    refine j_iconst (pc := 12) hC (1 : Int32) dX12_doesBlock_12 (by decide) ?_
    refine j_iadd (pc := 13) hC dX12_doesBlock_13 ?_
    refine j_istore_n (pc := 14) hC 2 [(2, .int (x1 + (1 : Int32))), (0, .ref (L.2.2 a0)), (1, .int x1)] dX12_doesBlock_14 rfl (by decide) rfl rfl ?_
    obtain ⟨w40, hw41, h⟩ := jcl_some h
    refine j_lv [1, 2, 0] rfl ?_
    refine j_loop (step := (fun (s : Int32 × jM) => f_X12_doesBlock_L15 a0 x1 rA s.1 s.2)) (P := (fun (s : Int32 × jM) => jJ X G 5 L 0 0 (jQM X G L (some (.int r)) μ' 0 0) 15 [(0, .ref (L.2.2 a0)), (1, .int x1), (2, .int s.1)] [] s.2)) (R := (fun (e : (jM) ⊕ ((Int32 × jM) ⊕ (jM))) => match e with | .inl e => jJ X G 5 L 0 0 (jQM X G L (some (.int r)) μ' 0 0) 74 [(0, .ref (L.2.2 a0))] [] e | .inr e => match e with | .inl e => jJ X G 5 L 0 0 (jQM X G L (some (.int r)) μ' 0 0) 102 [(0, .ref (L.2.2 a0)), (1, .int x1), (4, .int e.1)] [] e.2 | .inr e => jJ X G 5 L 0 0 (jQM X G L (some (.int r)) μ' 0 0) 134 [] [] e)) ?_ jfu ((x1 + (1 : Int32), μ)) w40 hw41 ?_
    · intro s42 o h hk
      obtain ⟨u2, m3⟩ := s42
      change f_X12_doesBlock_L15 a0 x1 rA u2 m3 = some o at h
      unfold f_X12_doesBlock_L15 at h
      show jJ X G 5 L 0 0 (jQM X G L (some (.int r)) μ' 0 0) 15 [(0, .ref (L.2.2 a0)), (1, .int x1), (2, .int u2)] [] m3
      refine j_iload_n (pc := 15) hC 2 2 dX12_doesBlock_15 rfl rfl ?_
      refine j_aload_n (pc := 16) hC 0 0 dX12_doesBlock_16 rfl rfl ?_
      refine jgr_12 (pc := 17) hC 23 (by decide) rfl kf_X12_93 dX12_doesBlock_17 ka0 (ly_12_23 hL ka0).1 ?_
      refine j_iload_n (pc := 20) hC 1 1 dX12_doesBlock_20 rfl rfl ?_
      obtain ⟨i4, v5, e6, h⟩ := jrd_some h
      refine j_iald (pc := 21) hC dX12_doesBlock_21 (ly_12_23 hL ka0).2.1 (ly_12_23 hL ka0).2.2 i4 e6 ?_
      refine j_icmp_ge (pc := 22) hC 134 dX12_doesBlock_22 (by decide) (fun c7 => ?_) (fun c7 => ?_)
      · rw [if_pos c7] at h
        obtain rfl := Option.some.inj h
        have hk : jJ X G 5 L 0 0 (jQM X G L (some (.int r)) μ' 0 0) 134 [] [] m3 := hk
        exact j_lv [] rfl hk
      · rw [if_neg c7] at h
        refine j_aload_n (pc := 25) hC 0 0 dX12_doesBlock_25 rfl rfl ?_
        refine jgi_12 (pc := 26) hC 25 (by decide) rfl kf_X12_341 dX12_doesBlock_26 ka0 ?_
        refine j_istore_n (pc := 29) hC 3 [(3, .int (m3.1 a0 25)), (0, .ref (L.2.2 a0)), (1, .int x1), (2, .int u2)] dX12_doesBlock_29 rfl (by decide) rfl rfl ?_
        refine j_aload_n (pc := 30) hC 0 1 dX12_doesBlock_30 rfl rfl ?_
        obtain ⟨v8, m9, e10, h⟩ := jcl2_some h
        refine j_vi (pc := 31) hC hR [] iy_X12_opensOne (q := (RX12, TX12, 40)) (ci := 12) rfl rfl (by decide) km_X12_167 dX12_doesBlock_31 rfl (by decide) ka0 (c_X12_opensOne hL ka0 e10) (by omega) (Nat.le_of_ble_eq_true rfl) rfl ?_
        refine j_pop (pc := 34) hC dX12_doesBlock_34 rfl ?_
        refine j_aload_n (pc := 35) hC 0 1 dX12_doesBlock_35 rfl rfl ?_
        refine j_iload_n (pc := 36) hC 2 3 dX12_doesBlock_36 rfl rfl ?_
        refine j_iconst (pc := 37) hC (1 : Int32) dX12_doesBlock_37 (by decide) ?_
        refine j_iadd (pc := 38) hC dX12_doesBlock_38 ?_
        refine j_aload_n (pc := 39) hC 0 1 dX12_doesBlock_39 rfl rfl ?_
        refine jgr_12 (pc := 40) hC 23 (by decide) rfl kf_X12_93 dX12_doesBlock_40 ka0 (ly_12_23 hL ka0).1 ?_
        refine j_iload_n (pc := 43) hC 2 3 dX12_doesBlock_43 rfl rfl ?_
        obtain ⟨i11, v12, e13, h⟩ := jrd_some h
        refine j_iald (pc := 44) hC dX12_doesBlock_44 (ly_12_23 hL ka0).2.1 (ly_12_23 hL ka0).2.2 i11 e13 ?_
        obtain ⟨v14, m15, e16, h⟩ := jcl2_some h
        refine j_vi (pc := 45) hC hR [.int (u2 + (1 : Int32)), .int v12] iy_X12_does (q := (RX12, TX12, 40)) (ci := 12) rfl rfl (by decide) km_X12_347 dX12_doesBlock_45 rfl (by decide) ka0 (hA ka0 e16) (by omega) (Nat.le_of_ble_eq_true rfl) rfl ?_
        refine jmg (B := jJ X G 5 L 0 0 (jQM X G L (some (.int r)) μ' 0 0) 56 [(3, .int (m3.1 a0 25)), (0, .ref (L.2.2 a0)), (1, .int x1), (2, .int u2)] [.int ((if (0 : Int32) ≤ v14 then (0 : Int32) else (1 : Int32)))] m15) (fun hj => ?_) ?_
        · refine j_if_ge (pc := 48) hC 55 dX12_doesBlock_48 (by decide) (fun c17 => ?_) (fun c17 => ?_)
          · rw [if_pos c17] at hj
            refine j_iconst (pc := 55) hC (0 : Int32) dX12_doesBlock_55 (by decide) ?_
            exact hj
          · rw [if_neg c17] at hj
            refine j_iconst (pc := 51) hC (1 : Int32) dX12_doesBlock_51 (by decide) ?_
            refine j_goto (pc := 52) hC 56 dX12_doesBlock_52 (by decide) ?_
            exact hj
        obtain ⟨v18, e19, h⟩ := jbd_ex h
        refine j_istore (pc := 56) hC [(4, .int v18), (3, .int (m3.1 a0 25)), (0, .ref (L.2.2 a0)), (1, .int x1), (2, .int u2)] dX12_doesBlock_56 (by decide) e19 rfl ?_
        refine j_iload (pc := 58) hC 0 dX12_doesBlock_58 rfl ?_
        obtain ⟨k20, e22, h⟩ := jbd_ex h
        have q21 : k20 = some o → jJ X G 5 L 0 0 (jQM X G L (some (.int r)) μ' 0 0) 81 [(0, .ref (L.2.2 a0)), (1, .int x1), (2, .int u2), (3, .int (m3.1 a0 25)), (4, .int v18)] [] m15 := by
          intro h
          rw [e22] at h
          refine j_aload_n (pc := 81) hC 0 0 dX12_doesBlock_81 rfl rfl ?_
          obtain ⟨v23, m24, e25, h⟩ := jcl2_some h
          refine j_vi (pc := 82) hC hR [] iy_X12_closesOne (q := (RX12, TX12, 40)) (ci := 12) rfl rfl (by decide) km_X12_173 dX12_doesBlock_82 rfl (by decide) ka0 (c_X12_closesOne hL ka0 e25) (by omega) (Nat.le_of_ble_eq_true rfl) rfl ?_
          refine j_pop (pc := 85) hC dX12_doesBlock_85 rfl ?_
          refine j_aload_n (pc := 86) hC 0 0 dX12_doesBlock_86 rfl rfl ?_
          refine j_iload_n (pc := 87) hC 3 3 dX12_doesBlock_87 rfl rfl ?_
          obtain ⟨m26, e27, h⟩ := jbd_ex h
          refine jpi_12 (pc := 88) hC 25 (by decide) rfl kf_X12_341 dX12_doesBlock_88 rfl (by decide) ka0 e27 ?_
          refine j_aload_n (pc := 91) hC 0 0 dX12_doesBlock_91 rfl rfl ?_
          refine jgr_12 (pc := 92) hC 19 (by decide) rfl kf_X12_81 dX12_doesBlock_92 ka0 (ly_12_19 hL ka0).1 ?_
          refine j_iload_n (pc := 95) hC 1 1 dX12_doesBlock_95 rfl rfl ?_
          obtain ⟨i28, v29, e30, h⟩ := jrd_some h
          refine j_iald (pc := 96) hC dX12_doesBlock_96 (ly_12_19 hL ka0).2.1 (ly_12_19 hL ka0).2.2 i28 e30 ?_
          refine j_bipush (pc := 97) hC (22 : Int32) dX12_doesBlock_97 (by decide) ?_
          refine j_icmp_eq (pc := 99) hC 124 dX12_doesBlock_99 (by decide) (fun c31 => ?_) (fun c31 => ?_)
          · rw [if_pos c31] at h
            refine j_aload_n (pc := 124) hC 0 0 dX12_doesBlock_124 rfl rfl ?_
            refine jgr_12 (pc := 125) hC 23 (by decide) rfl kf_X12_93 dX12_doesBlock_125 ka0 (ly_12_23 hL ka0).1 ?_
            refine j_iload_n (pc := 128) hC 2 2 dX12_doesBlock_128 rfl rfl ?_
            obtain ⟨i32, v33, e34, h⟩ := jrd_some h
            refine j_iald (pc := 129) hC dX12_doesBlock_129 (ly_12_23 hL ka0).2.1 (ly_12_23 hL ka0).2.2 i32 e34 ?_
            refine j_istore_n (pc := 130) hC 2 [(2, .int v33), (0, .ref (L.2.2 a0)), (1, .int x1), (3, .int (m3.1 a0 25)), (4, .int v18)] dX12_doesBlock_130 rfl (by decide) rfl rfl ?_
            refine j_goto (pc := 131) hC 15 dX12_doesBlock_131 (by decide) ?_
            obtain rfl := Option.some.inj h
            have hk : jJ X G 5 L 0 0 (jQM X G L (some (.int r)) μ' 0 0) 15 [(0, .ref (L.2.2 a0)), (1, .int x1), (2, .int v33)] [] m26 := hk
            exact j_lv [1, 2, 0] rfl hk
          · rw [if_neg c31] at h
            obtain rfl := Option.some.inj h
            have hk : jJ X G 5 L 0 0 (jQM X G L (some (.int r)) μ' 0 0) 102 [(0, .ref (L.2.2 a0)), (1, .int x1), (4, .int v18)] [] m26 := hk
            exact j_lv [0, 1, 4] rfl hk
        refine j_if_eq (pc := 60) hC 81 dX12_doesBlock_60 (by decide) (fun c35 => ?_) (fun c35 => ?_)
        · rw [if_pos c35] at h
          exact j_lv [2, 3, 4, 1, 0] rfl (q21 h)
        · rw [if_neg c35] at h
          refine j_aload_n (pc := 63) hC 0 2 dX12_doesBlock_63 rfl rfl ?_
          refine jgr_12 (pc := 64) hC 19 (by decide) rfl kf_X12_81 dX12_doesBlock_64 ka0 (ly_12_19 hL ka0).1 ?_
          refine j_iload_n (pc := 67) hC 1 3 dX12_doesBlock_67 rfl rfl ?_
          obtain ⟨i36, v37, e38, h⟩ := jrd_some h
          refine j_iald (pc := 68) hC dX12_doesBlock_68 (ly_12_19 hL ka0).2.1 (ly_12_19 hL ka0).2.2 i36 e38 ?_
          refine j_bipush (pc := 69) hC (21 : Int32) dX12_doesBlock_69 (by decide) ?_
          refine j_icmp_eq (pc := 71) hC 81 dX12_doesBlock_71 (by decide) (fun c39 => ?_) (fun c39 => ?_)
          · rw [if_pos c39] at h
            exact j_lv [2, 3, 4, 1, 0] rfl (q21 h)
          · rw [if_neg c39] at h
            obtain rfl := Option.some.inj h
            have hk : jJ X G 5 L 0 0 (jQM X G L (some (.int r)) μ' 0 0) 74 [(0, .ref (L.2.2 a0))] [] m15 := hk
            exact j_lv [2] rfl hk
    · cases w40 with
      | inl w40 =>
        try dsimp only at h
        obtain ⟨m43, rfl⟩ : ∃ y, y = w40 := ⟨_, rfl⟩
        try dsimp only at h
        show jJ X G 5 L 0 0 (jQM X G L (some (.int r)) μ' 0 0) 74 [(0, .ref (L.2.2 a0))] [] m43
        refine j_aload_n (pc := 74) hC 0 0 dX12_doesBlock_74 rfl rfl ?_
        obtain ⟨v44, m45, e46, h⟩ := jcl2_some h
        refine j_vi (pc := 75) hC hR [] iy_X12_commitsOne (q := (RX12, TX12, 40)) (ci := 12) rfl rfl (by decide) km_X12_179 dX12_doesBlock_75 rfl (by decide) ka0 (c_X12_commitsOne hL ka0 e46) (by omega) (Nat.le_of_ble_eq_true rfl) rfl ?_
        refine j_pop (pc := 78) hC dX12_doesBlock_78 rfl ?_
        refine j_iconst (pc := 79) hC (1 : Int32) dX12_doesBlock_79 (by decide) ?_
        obtain ⟨rfl, rfl⟩ := Prod.mk.inj (Option.some.inj h)
        exact j_bret (pc := 80) hC dX12_doesBlock_80 rfl rfl
      | inr w40 =>
        try dsimp only at h
        cases w40 with
        | inl w40 =>
          try dsimp only at h
          obtain ⟨z47, m48⟩ := w40
          try dsimp only at h
          show jJ X G 5 L 0 0 (jQM X G L (some (.int r)) μ' 0 0) 102 [(0, .ref (L.2.2 a0)), (1, .int x1), (4, .int z47)] [] m48
          refine j_iload (pc := 102) hC 2 dX12_doesBlock_102 rfl ?_
          refine j_if_ne (pc := 104) hC 118 dX12_doesBlock_104 (by decide) (fun c49 => ?_) (fun c49 => ?_)
          · rw [if_neg c49] at h
            refine j_iconst (pc := 118) hC (1 : Int32) dX12_doesBlock_118 (by decide) ?_
            refine j_goto (pc := 119) hC 123 dX12_doesBlock_119 (by decide) ?_
            obtain ⟨rfl, rfl⟩ := Prod.mk.inj (Option.some.inj h)
            exact j_bret (pc := 123) hC dX12_doesBlock_123 rfl rfl
          · rw [if_pos c49] at h
            refine j_aload_n (pc := 107) hC 0 0 dX12_doesBlock_107 rfl rfl ?_
            refine jgr_12 (pc := 108) hC 19 (by decide) rfl kf_X12_81 dX12_doesBlock_108 ka0 (ly_12_19 hL ka0).1 ?_
            refine j_iload_n (pc := 111) hC 1 1 dX12_doesBlock_111 rfl rfl ?_
            obtain ⟨i50, v51, e52, h⟩ := jrd_some h
            refine j_iald (pc := 112) hC dX12_doesBlock_112 (ly_12_19 hL ka0).2.1 (ly_12_19 hL ka0).2.2 i50 e52 ?_
            refine j_bipush (pc := 113) hC (20 : Int32) dX12_doesBlock_113 (by decide) ?_
            refine j_icmp_ne (pc := 115) hC 122 dX12_doesBlock_115 (by decide) (fun c53 => ?_) (fun c53 => ?_)
            · rw [if_neg c53] at h
              refine j_iconst (pc := 122) hC (0 : Int32) dX12_doesBlock_122 (by decide) ?_
              obtain ⟨rfl, rfl⟩ := Prod.mk.inj (Option.some.inj h)
              exact j_bret (pc := 123) hC dX12_doesBlock_123 rfl rfl
            · rw [if_pos c53] at h
              refine j_iconst (pc := 118) hC (1 : Int32) dX12_doesBlock_118 (by decide) ?_
              refine j_goto (pc := 119) hC 123 dX12_doesBlock_119 (by decide) ?_
              obtain ⟨rfl, rfl⟩ := Prod.mk.inj (Option.some.inj h)
              exact j_bret (pc := 123) hC dX12_doesBlock_123 rfl rfl
        | inr w40 =>
          try dsimp only at h
          obtain ⟨m54, rfl⟩ : ∃ y, y = w40 := ⟨_, rfl⟩
          try dsimp only at h
          show jJ X G 5 L 0 0 (jQM X G L (some (.int r)) μ' 0 0) 134 [] [] m54
          refine j_iconst (pc := 134) hC (0 : Int32) dX12_doesBlock_134 (by decide) ?_
          obtain ⟨rfl, rfl⟩ := Prod.mk.inj (Option.some.inj h)
          exact j_bret (pc := 135) hC dX12_doesBlock_135 rfl rfl
  · rw [if_pos c1] at h
    refine j_iconst (pc := 9) hC (0 : Int32) dX12_doesBlock_9 (by decide) ?_
    obtain ⟨rfl, rfl⟩ := Prod.mk.inj (Option.some.inj h)
    exact j_bret (pc := 10) hC dX12_doesBlock_10 rfl rfl
