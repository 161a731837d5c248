theorem dX12_isBroken_0 : decode cX12_isBroken 0 = .ok (.aload_n 0, 1) := by decide +kernel
theorem dX12_isBroken_1 : decode cX12_isBroken 1 = .ok (.getfield 60, 3) := by decide +kernel
theorem dX12_isBroken_4 : decode cX12_isBroken 4 = .ok (.bipush 29, 2) := by decide +kernel
theorem dX12_isBroken_6 : decode cX12_isBroken 6 = .ok (.iconst 4, 1) := by decide +kernel
theorem dX12_isBroken_7 : decode cX12_isBroken 7 = .ok (.iload_n 2, 1) := by decide +kernel
theorem dX12_isBroken_8 : decode cX12_isBroken 8 = .ok (.imul, 1) := by decide +kernel
theorem dX12_isBroken_9 : decode cX12_isBroken 9 = .ok (.iadd, 1) := by decide +kernel
theorem dX12_isBroken_10 : decode cX12_isBroken 10 = .ok (.iconst 1, 1) := by decide +kernel
theorem dX12_isBroken_11 : decode cX12_isBroken 11 = .ok (.iadd, 1) := by decide +kernel
theorem dX12_isBroken_12 : decode cX12_isBroken 12 = .ok (.iaload, 1) := by decide +kernel
theorem dX12_isBroken_13 : decode cX12_isBroken 13 = .ok (.istore_n 3, 1) := by decide +kernel
theorem dX12_isBroken_14 : decode cX12_isBroken 14 = .ok (.aload_n 0, 1) := by decide +kernel
theorem dX12_isBroken_15 : decode cX12_isBroken 15 = .ok (.getfield 60, 3) := by decide +kernel
theorem dX12_isBroken_18 : decode cX12_isBroken 18 = .ok (.bipush 29, 2) := by decide +kernel
theorem dX12_isBroken_20 : decode cX12_isBroken 20 = .ok (.iconst 4, 1) := by decide +kernel
theorem dX12_isBroken_21 : decode cX12_isBroken 21 = .ok (.iload_n 2, 1) := by decide +kernel
theorem dX12_isBroken_22 : decode cX12_isBroken 22 = .ok (.imul, 1) := by decide +kernel
theorem dX12_isBroken_23 : decode cX12_isBroken 23 = .ok (.iadd, 1) := by decide +kernel
theorem dX12_isBroken_24 : decode cX12_isBroken 24 = .ok (.iconst 2, 1) := by decide +kernel
theorem dX12_isBroken_25 : decode cX12_isBroken 25 = .ok (.iadd, 1) := by decide +kernel
theorem dX12_isBroken_26 : decode cX12_isBroken 26 = .ok (.iaload, 1) := by decide +kernel
theorem dX12_isBroken_27 : decode cX12_isBroken 27 = .ok (.istore 4, 2) := by decide +kernel
theorem dX12_isBroken_29 : decode cX12_isBroken 29 = .ok (.aload_n 0, 1) := by decide +kernel
theorem dX12_isBroken_30 : decode cX12_isBroken 30 = .ok (.getfield 60, 3) := by decide +kernel
theorem dX12_isBroken_33 : decode cX12_isBroken 33 = .ok (.bipush 29, 2) := by decide +kernel
theorem dX12_isBroken_35 : decode cX12_isBroken 35 = .ok (.iconst 4, 1) := by decide +kernel
theorem dX12_isBroken_36 : decode cX12_isBroken 36 = .ok (.iload_n 2, 1) := by decide +kernel
theorem dX12_isBroken_37 : decode cX12_isBroken 37 = .ok (.imul, 1) := by decide +kernel
theorem dX12_isBroken_38 : decode cX12_isBroken 38 = .ok (.iadd, 1) := by decide +kernel
theorem dX12_isBroken_39 : decode cX12_isBroken 39 = .ok (.iaload, 1) := by decide +kernel
theorem dX12_isBroken_40 : decode cX12_isBroken 40 = .ok (.iconst 3, 1) := by decide +kernel
theorem dX12_isBroken_41 : decode cX12_isBroken 41 = .ok (.if_icmp .ge 50, 3) := by decide +kernel
theorem dX12_isBroken_44 : decode cX12_isBroken 44 = .ok (.aload_n 0, 1) := by decide +kernel
theorem dX12_isBroken_45 : decode cX12_isBroken 45 = .ok (.getfield 60, 3) := by decide +kernel
theorem dX12_isBroken_48 : decode cX12_isBroken 48 = .ok (.bipush 29, 2) := by decide +kernel
theorem dX12_isBroken_50 : decode cX12_isBroken 50 = .ok (.iconst 4, 1) := by decide +kernel
theorem dX12_isBroken_51 : decode cX12_isBroken 51 = .ok (.iload_n 2, 1) := by decide +kernel
theorem dX12_isBroken_52 : decode cX12_isBroken 52 = .ok (.imul, 1) := by decide +kernel
theorem dX12_isBroken_53 : decode cX12_isBroken 53 = .ok (.iadd, 1) := by decide +kernel
theorem dX12_isBroken_54 : decode cX12_isBroken 54 = .ok (.iaload, 1) := by decide +kernel
theorem dX12_isBroken_55 : decode cX12_isBroken 55 = .ok (.iload_n 1, 1) := by decide +kernel
theorem dX12_isBroken_56 : decode cX12_isBroken 56 = .ok (.iload_n 3, 1) := by decide +kernel
theorem dX12_isBroken_57 : decode cX12_isBroken 57 = .ok (.invokestatic 363, 3) := by decide +kernel
theorem dX12_isBroken_60 : decode cX12_isBroken 60 = .ok (.iload_n 1, 1) := by decide +kernel
theorem dX12_isBroken_61 : decode cX12_isBroken 61 = .ok (.iload 4, 2) := by decide +kernel
theorem dX12_isBroken_63 : decode cX12_isBroken 63 = .ok (.invokestatic 363, 3) := by decide +kernel
theorem dX12_isBroken_66 : decode cX12_isBroken 66 = .ok (.aload_n 0, 1) := by decide +kernel
theorem dX12_isBroken_67 : decode cX12_isBroken 67 = .ok (.getfield 60, 3) := by decide +kernel
theorem dX12_isBroken_70 : decode cX12_isBroken 70 = .ok (.bipush 29, 2) := by decide +kernel
theorem dX12_isBroken_72 : decode cX12_isBroken 72 = .ok (.iconst 4, 1) := by decide +kernel
theorem dX12_isBroken_73 : decode cX12_isBroken 73 = .ok (.iload_n 2, 1) := by decide +kernel
theorem dX12_isBroken_74 : decode cX12_isBroken 74 = .ok (.imul, 1) := by decide +kernel
theorem dX12_isBroken_75 : decode cX12_isBroken 75 = .ok (.iadd, 1) := by decide +kernel
theorem dX12_isBroken_76 : decode cX12_isBroken 76 = .ok (.iconst 3, 1) := by decide +kernel
theorem dX12_isBroken_77 : decode cX12_isBroken 77 = .ok (.iadd, 1) := by decide +kernel
theorem dX12_isBroken_78 : decode cX12_isBroken 78 = .ok (.iaload, 1) := by decide +kernel
theorem dX12_isBroken_79 : decode cX12_isBroken 79 = .ok (.invokestatic 268, 3) := by decide +kernel
theorem dX12_isBroken_82 : decode cX12_isBroken 82 = .ok (.ifCond .ne 7, 3) := by decide +kernel
theorem dX12_isBroken_85 : decode cX12_isBroken 85 = .ok (.iconst 1, 1) := by decide +kernel
theorem dX12_isBroken_86 : decode cX12_isBroken 86 = .ok (.goto 4, 3) := by decide +kernel
theorem dX12_isBroken_89 : decode cX12_isBroken 89 = .ok (.iconst 0, 1) := by decide +kernel
theorem dX12_isBroken_90 : decode cX12_isBroken 90 = .ok (.ireturn, 1) := by decide +kernel
theorem dX12_isBroken_91 : decode cX12_isBroken 91 = .ok (.iconst 0, 1) := by decide +kernel
theorem dX12_isBroken_92 : decode cX12_isBroken 92 = .ok (.istore 5, 2) := by decide +kernel
theorem dX12_isBroken_94 : decode cX12_isBroken 94 = .ok (.iconst 0, 1) := by decide +kernel
theorem dX12_isBroken_95 : decode cX12_isBroken 95 = .ok (.istore 6, 2) := by decide +kernel
theorem dX12_isBroken_97 : decode cX12_isBroken 97 = .ok (.iload 6, 2) := by decide +kernel
theorem dX12_isBroken_99 : decode cX12_isBroken 99 = .ok (.iconst 5, 1) := by decide +kernel
theorem dX12_isBroken_100 : decode cX12_isBroken 100 = .ok (.if_icmp .ge 60, 3) := by decide +kernel
theorem dX12_isBroken_103 : decode cX12_isBroken 103 = .ok (.iload_n 1, 1) := by decide +kernel
theorem dX12_isBroken_104 : decode cX12_isBroken 104 = .ok (.iload 6, 2) := by decide +kernel
theorem dX12_isBroken_106 : decode cX12_isBroken 106 = .ok (.invokestatic 363, 3) := by decide +kernel
theorem dX12_isBroken_109 : decode cX12_isBroken 109 = .ok (.istore 7, 2) := by decide +kernel
theorem dX12_isBroken_111 : decode cX12_isBroken 111 = .ok (.iload_n 3, 1) := by decide +kernel
theorem dX12_isBroken_112 : decode cX12_isBroken 112 = .ok (.iload 6, 2) := by decide +kernel
theorem dX12_isBroken_114 : decode cX12_isBroken 114 = .ok (.invokestatic 208, 3) := by decide +kernel
theorem dX12_isBroken_117 : decode cX12_isBroken 117 = .ok (.ifCond .eq 15, 3) := by decide +kernel
theorem dX12_isBroken_120 : decode cX12_isBroken 120 = .ok (.iload 5, 2) := by decide +kernel
theorem dX12_isBroken_122 : decode cX12_isBroken 122 = .ok (.iload 7, 2) := by decide +kernel
theorem dX12_isBroken_124 : decode cX12_isBroken 124 = .ok (.invokestatic 208, 3) := by decide +kernel
theorem dX12_isBroken_127 : decode cX12_isBroken 127 = .ok (.ifCond .eq 5, 3) := by decide +kernel
theorem dX12_isBroken_130 : decode cX12_isBroken 130 = .ok (.iconst 1, 1) := by decide +kernel
theorem dX12_isBroken_131 : decode cX12_isBroken 131 = .ok (.ireturn, 1) := by decide +kernel
theorem dX12_isBroken_132 : decode cX12_isBroken 132 = .ok (.iload 5, 2) := by decide +kernel
theorem dX12_isBroken_134 : decode cX12_isBroken 134 = .ok (.iload_n 3, 1) := by decide +kernel
theorem dX12_isBroken_135 : decode cX12_isBroken 135 = .ok (.iload 6, 2) := by decide +kernel
theorem dX12_isBroken_137 : decode cX12_isBroken 137 = .ok (.invokestatic 208, 3) := by decide +kernel
theorem dX12_isBroken_140 : decode cX12_isBroken 140 = .ok (.ifCond .eq 10, 3) := by decide +kernel
theorem dX12_isBroken_143 : decode cX12_isBroken 143 = .ok (.iconst 1, 1) := by decide +kernel
theorem dX12_isBroken_144 : decode cX12_isBroken 144 = .ok (.iload 7, 2) := by decide +kernel
theorem dX12_isBroken_146 : decode cX12_isBroken 146 = .ok (.ishl, 1) := by decide +kernel
theorem dX12_isBroken_147 : decode cX12_isBroken 147 = .ok (.goto 4, 3) := by decide +kernel
theorem dX12_isBroken_150 : decode cX12_isBroken 150 = .ok (.iconst 0, 1) := by decide +kernel
theorem dX12_isBroken_151 : decode cX12_isBroken 151 = .ok (.ior, 1) := by decide +kernel
theorem dX12_isBroken_152 : decode cX12_isBroken 152 = .ok (.istore 5, 2) := by decide +kernel
theorem dX12_isBroken_154 : decode cX12_isBroken 154 = .ok (.iinc 6 1, 3) := by decide +kernel
theorem dX12_isBroken_157 : decode cX12_isBroken 157 = .ok (.goto (-60), 3) := by decide +kernel
theorem dX12_isBroken_160 : decode cX12_isBroken 160 = .ok (.iconst 0, 1) := by decide +kernel
theorem dX12_isBroken_161 : decode cX12_isBroken 161 = .ok (.ireturn, 1) := by decide +kernel
def f_X12_isBroken_L97 (x1 : Int32) (v2 : Int32) (u11 : Int32) (u12 : Int32) : Option ((Int32 × Int32) ⊕ ((Unit) ⊕ (Unit))) :=
  (if (5 : Int32) ≤ u12 then some (.inr (.inr (()))) else jcl (f_X12_valueOf x1 u12) (fun v14 => jbd (jbd (u11 ||| ((if (f_X12_has v2 u12) = (0 : Int32) then (0 : Int32) else (1 : Int32) <<< (v14 &&& 31))) : Int32) (fun v20 => some (.inl ((v20, u12 + (1 : Int32)))))) (fun k16 => (if (f_X12_has v2 u12) = (0 : Int32) then k16 else (if (f_X12_has u11 v14) = (0 : Int32) then k16 else some (.inr (.inl (()))))))))
def f_X12_isBroken (a0 : Nat) (x1 : Int32) (x2 : Int32) (μ : jM) : Option (Int32) :=
  jrd (μ.1 (a0 + 3)) (((29 : Int32) + ((4 : Int32) * x2)) + (1 : Int32)) 2074 (fun v2 => jrd (μ.1 (a0 + 3)) (((29 : Int32) + ((4 : Int32) * x2)) + (2 : Int32)) 2074 (fun v5 => jrd (μ.1 (a0 + 3)) ((29 : Int32) + ((4 : Int32) * x2)) 2074 (fun v8 => (if (3 : Int32) ≤ v8 then jcl (jloop (fun (s : Int32 × Int32) => f_X12_isBroken_L97 x1 v2 s.1 s.2) jfu (((0 : Int32), (0 : Int32)))) (fun w24 => match w24 with | .inl w24 => some (1 : Int32) | .inr w24 => some (0 : Int32)) else jrd (μ.1 (a0 + 3)) ((29 : Int32) + ((4 : Int32) * x2)) 2074 (fun v28 => jcl (f_X12_valueOf x1 v2) (fun v30 => jcl (f_X12_valueOf x1 v5) (fun v32 => jrd (μ.1 (a0 + 3)) (((29 : Int32) + ((4 : Int32) * x2)) + (3 : Int32)) 2074 (fun v35 => some (((if (f_X12_holds v28 v30 v32 v35) = (0 : Int32) then (1 : Int32) else (0 : Int32))) &&& 1)))))))))
set_option maxHeartbeats 4000000 in
set_option maxRecDepth 100000 in
theorem c_X12_isBroken {l : Launch} {G : jG} {L : jL} (hL : jOKL L) {a0 : Nat} {x1 : Int32} {x2 : Int32} (ka0 : jK L a0 12) {μ : jM} {r : Int32} (h : f_X12_isBroken a0 x1 x2 μ = some r) : jCt l G L 4 yX12_isBroken cX12_isBroken 8 (some .boolean) [.ref (L.2.2 a0), .int x1, .int x2] μ (some (.int r)) μ := by
  refine jCt_of (by decide) (Nat.le_of_ble_eq_true rfl) (fun X hC hX hR => ?_)
  subst hX
  have hC : jC X G cX12_isBroken 8 RX12 (some .boolean) := hC
  unfold f_X12_isBroken at h
  show jJ X G 8 L 0 0 (jQM X G L (some (.int r)) μ 0 0) 0 [(0, .ref (L.2.2 a0)), (1, .int x1), (2, .int x2)] [] μ
  refine j_aload_n (pc := 0) hC 0 0 dX12_isBroken_0 rfl rfl ?_
  refine jgr_12 (pc := 1) hC 8 (by decide) rfl kf_X12_60 dX12_isBroken_1 ka0 (ly_12_8 hL ka0).1 ?_
  refine j_bipush (pc := 4) hC (29 : Int32) dX12_isBroken_4 (by decide) ?_
  refine j_iconst (pc := 6) hC (4 : Int32) dX12_isBroken_6 (by decide) ?_
  refine j_iload_n (pc := 7) hC 2 2 dX12_isBroken_7 rfl rfl ?_
  refine j_imul (pc := 8) hC dX12_isBroken_8 ?_
  refine j_iadd (pc := 9) hC dX12_isBroken_9 ?_
  refine j_iconst (pc := 10) hC (1 : Int32) dX12_isBroken_10 (by decide) ?_
  refine j_iadd (pc := 11) hC dX12_isBroken_11 ?_
  obtain ⟨i1, v2, e3, h⟩ := jrd_some h
  refine j_iald (pc := 12) hC dX12_isBroken_12 (ly_12_8 hL ka0).2.1 (ly_12_8 hL ka0).2.2 i1 e3 ?_
  refine j_istore_n (pc := 13) hC 3 [(3, .int v2), (0, .ref (L.2.2 a0)), (1, .int x1), (2, .int x2)] dX12_isBroken_13 rfl (by decide) rfl rfl ?_
  refine j_aload_n (pc := 14) hC 0 1 dX12_isBroken_14 rfl rfl ?_
  refine jgr_12 (pc := 15) hC 8 (by decide) rfl kf_X12_60 dX12_isBroken_15 ka0 (ly_12_8 hL ka0).1 ?_
  refine j_bipush (pc := 18) hC (29 : Int32) dX12_isBroken_18 (by decide) ?_
  refine j_iconst (pc := 20) hC (4 : Int32) dX12_isBroken_20 (by decide) ?_
  refine j_iload_n (pc := 21) hC 2 3 dX12_isBroken_21 rfl rfl ?_
  refine j_imul (pc := 22) hC dX12_isBroken_22 ?_
  refine j_iadd (pc := 23) hC dX12_isBroken_23 ?_
  refine j_iconst (pc := 24) hC (2 : Int32) dX12_isBroken_24 (by decide) ?_
  refine j_iadd (pc := 25) hC dX12_isBroken_25 ?_
  obtain ⟨i4, v5, e6, h⟩ := jrd_some h
  refine j_iald (pc := 26) hC dX12_isBroken_26 (ly_12_8 hL ka0).2.1 (ly_12_8 hL ka0).2.2 i4 e6 ?_
  refine j_istore (pc := 27) hC [(4, .int v5), (3, .int v2), (0, .ref (L.2.2 a0)), (1, .int x1), (2, .int x2)] dX12_isBroken_27 (by decide) rfl rfl ?_
  refine j_aload_n (pc := 29) hC 0 2 dX12_isBroken_29 rfl rfl ?_
  refine jgr_12 (pc := 30) hC 8 (by decide) rfl kf_X12_60 dX12_isBroken_30 ka0 (ly_12_8 hL ka0).1 ?_
  refine j_bipush (pc := 33) hC (29 : Int32) dX12_isBroken_33 (by decide) ?_
  refine j_iconst (pc := 35) hC (4 : Int32) dX12_isBroken_35 (by decide) ?_
  refine j_iload_n (pc := 36) hC 2 4 dX12_isBroken_36 rfl rfl ?_
  refine j_imul (pc := 37) hC dX12_isBroken_37 ?_
  refine j_iadd (pc := 38) hC dX12_isBroken_38 ?_
  obtain ⟨i7, v8, e9, h⟩ := jrd_some h
  refine j_iald (pc := 39) hC dX12_isBroken_39 (ly_12_8 hL ka0).2.1 (ly_12_8 hL ka0).2.2 i7 e9 ?_
  refine j_iconst (pc := 40) hC (3 : Int32) dX12_isBroken_40 (by decide) ?_
  refine j_icmp_ge (pc := 41) hC 91 dX12_isBroken_41 (by decide) (fun c10 => ?_) (fun c10 => ?_)
  · rw [if_pos c10] at h
    refine j_iconst (pc := 91) hC (0 : Int32) dX12_isBroken_91 (by decide) ?_
    refine j_istore (pc := 92) hC [(5, .int (0 : Int32)), (4, .int v5), (3, .int v2), (0, .ref (L.2.2 a0)), (1, .int x1), (2, .int x2)] dX12_isBroken_92 (by decide) rfl rfl ?_
    refine j_iconst (pc := 94) hC (0 : Int32) dX12_isBroken_94 (by decide) ?_
    refine j_istore (pc := 95) hC [(6, .int (0 : Int32)), (5, .int (0 : Int32)), (4, .int v5), (3, .int v2), (0, .ref (L.2.2 a0)), (1, .int x1), (2, .int x2)] dX12_isBroken_95 (by decide) rfl rfl ?_
    obtain ⟨w24, hw25, h⟩ := jcl_some h
    refine j_lv [5, 3, 1, 0] rfl ?_
    refine j_loop (step := (fun (s : Int32 × Int32) => f_X12_isBroken_L97 x1 v2 s.1 s.2)) (P := (fun (s : Int32 × Int32) => jJ X G 8 L 0 0 (jQM X G L (some (.int r)) μ 0 0) 97 [(1, .int x1), (3, .int v2), (5, .int s.1), (6, .int s.2)] [] μ)) (R := (fun (e : (Unit) ⊕ (Unit)) => match e with | .inl e => jJ X G 8 L 0 0 (jQM X G L (some (.int r)) μ 0 0) 130 [] [] μ | .inr e => jJ X G 8 L 0 0 (jQM X G L (some (.int r)) μ 0 0) 160 [] [] μ)) ?_ jfu (((0 : Int32), (0 : Int32))) w24 hw25 ?_
    · intro s26 o h hk
      obtain ⟨u11, u12⟩ := s26
      change f_X12_isBroken_L97 x1 v2 u11 u12 = some o at h
      unfold f_X12_isBroken_L97 at h
      show jJ X G 8 L 0 0 (jQM X G L (some (.int r)) μ 0 0) 97 [(1, .int x1), (3, .int v2), (5, .int u11), (6, .int u12)] [] μ
      refine j_iload (pc := 97) hC 3 dX12_isBroken_97 rfl ?_
      refine j_iconst (pc := 99) hC (5 : Int32) dX12_isBroken_99 (by decide) ?_
      refine j_icmp_ge (pc := 100) hC 160 dX12_isBroken_100 (by decide) (fun c13 => ?_) (fun c13 => ?_)
      · rw [if_pos c13] at h
        obtain rfl := Option.some.inj h
        have hk : jJ X G 8 L 0 0 (jQM X G L (some (.int r)) μ 0 0) 160 [] [] μ := hk
        exact j_lv [] rfl hk
      · rw [if_neg c13] at h
        refine j_iload_n (pc := 103) hC 1 0 dX12_isBroken_103 rfl rfl ?_
        refine j_iload (pc := 104) hC 3 dX12_isBroken_104 rfl ?_
        obtain ⟨v14, e15, h⟩ := jcl_some h
        refine j_si (pc := 106) hC hR [.int x1, .int u12] iy_X12_valueOf km_X12_363 dX12_isBroken_106 rfl (by decide) (c_X12_valueOf hL  e15) (by decide) (Nat.le_of_ble_eq_true rfl) rfl ?_
        refine j_istore (pc := 109) hC [(7, .int v14), (1, .int x1), (3, .int v2), (5, .int u11), (6, .int u12)] dX12_isBroken_109 (by decide) rfl rfl ?_
        refine j_iload_n (pc := 111) hC 3 2 dX12_isBroken_111 rfl rfl ?_
        refine j_iload (pc := 112) hC 4 dX12_isBroken_112 rfl ?_
        refine j_si (pc := 114) hC hR [.int v2, .int u12] iy_X12_has km_X12_208 dX12_isBroken_114 rfl (by decide) (c_X12_has hL  rfl) (by decide) (Nat.le_of_ble_eq_true rfl) rfl ?_
        obtain ⟨k16, e18, h⟩ := jbd_ex h
        have q17 : k16 = some o → jJ X G 8 L 0 0 (jQM X G L (some (.int r)) μ 0 0) 132 [(1, .int x1), (3, .int v2), (5, .int u11), (6, .int u12), (7, .int v14)] [] μ := by
          intro h
          rw [e18] at h
          refine j_iload (pc := 132) hC 2 dX12_isBroken_132 rfl ?_
          refine j_iload_n (pc := 134) hC 3 1 dX12_isBroken_134 rfl rfl ?_
          refine j_iload (pc := 135) hC 3 dX12_isBroken_135 rfl ?_
          refine j_si (pc := 137) hC hR [.int v2, .int u12] iy_X12_has km_X12_208 dX12_isBroken_137 rfl (by decide) (c_X12_has hL  rfl) (by decide) (Nat.le_of_ble_eq_true rfl) rfl ?_
          refine jmg (B := jJ X G 8 L 0 0 (jQM X G L (some (.int r)) μ 0 0) 151 [(1, .int x1), (3, .int v2), (5, .int u11), (6, .int u12), (7, .int v14)] [.int ((if (f_X12_has v2 u12) = (0 : Int32) then (0 : Int32) else (1 : Int32) <<< (v14 &&& 31))), .int u11] μ) (fun hj => ?_) ?_
          · refine j_if_eq (pc := 140) hC 150 dX12_isBroken_140 (by decide) (fun c19 => ?_) (fun c19 => ?_)
            · rw [if_pos c19] at hj
              refine j_iconst (pc := 150) hC (0 : Int32) dX12_isBroken_150 (by decide) ?_
              exact hj
            · rw [if_neg c19] at hj
              refine j_iconst (pc := 143) hC (1 : Int32) dX12_isBroken_143 (by decide) ?_
              refine j_iload (pc := 144) hC 4 dX12_isBroken_144 rfl ?_
              refine j_ishl (pc := 146) hC dX12_isBroken_146 ?_
              refine j_goto (pc := 147) hC 151 dX12_isBroken_147 (by decide) ?_
              exact hj
          refine j_ior (pc := 151) hC dX12_isBroken_151 ?_
          obtain ⟨v20, e21, h⟩ := jbd_ex h
          refine j_istore (pc := 152) hC [(5, .int v20), (1, .int x1), (3, .int v2), (6, .int u12), (7, .int v14)] dX12_isBroken_152 (by decide) e21 rfl ?_
          refine j_iinc (pc := 154) hC 3 (u12 + (1 : Int32)) [(6, .int (u12 + (1 : Int32))), (5, .int v20), (1, .int x1), (3, .int v2), (7, .int v14)] dX12_isBroken_154 rfl rfl (by decide) rfl ?_
          refine j_goto (pc := 157) hC 97 dX12_isBroken_157 (by decide) ?_
          obtain rfl := Option.some.inj h
          have hk : jJ X G 8 L 0 0 (jQM X G L (some (.int r)) μ 0 0) 97 [(1, .int x1), (3, .int v2), (5, .int v20), (6, .int (u12 + (1 : Int32)))] [] μ := hk
          exact j_lv [2, 3, 1, 0] rfl hk
        refine j_if_eq (pc := 117) hC 132 dX12_isBroken_117 (by decide) (fun c22 => ?_) (fun c22 => ?_)
        · rw [if_pos c22] at h
          exact j_lv [1, 2, 3, 4, 0] rfl (q17 h)
        · rw [if_neg c22] at h
          refine j_iload (pc := 120) hC 3 dX12_isBroken_120 rfl ?_
          refine j_iload (pc := 122) hC 0 dX12_isBroken_122 rfl ?_
          refine j_si (pc := 124) hC hR [.int u11, .int v14] iy_X12_has km_X12_208 dX12_isBroken_124 rfl (by decide) (c_X12_has hL  rfl) (by decide) (Nat.le_of_ble_eq_true rfl) rfl ?_
          refine j_if_eq (pc := 127) hC 132 dX12_isBroken_127 (by decide) (fun c23 => ?_) (fun c23 => ?_)
          · rw [if_pos c23] at h
            exact j_lv [1, 2, 3, 4, 0] rfl (q17 h)
          · rw [if_neg c23] at h
            obtain rfl := Option.some.inj h
            have hk : jJ X G 8 L 0 0 (jQM X G L (some (.int r)) μ 0 0) 130 [] [] μ := hk
            exact j_lv [] rfl hk
    · cases w24 with
      | inl w24 =>
        try dsimp only at h
        try dsimp only at h
        show jJ X G 8 L 0 0 (jQM X G L (some (.int r)) μ 0 0) 130 [] [] μ
        refine j_iconst (pc := 130) hC (1 : Int32) dX12_isBroken_130 (by decide) ?_
        obtain rfl := Option.some.inj h
        exact j_bret (pc := 131) hC dX12_isBroken_131 rfl rfl
      | inr w24 =>
        try dsimp only at h
        try dsimp only at h
        show jJ X G 8 L 0 0 (jQM X G L (some (.int r)) μ 0 0) 160 [] [] μ
        refine j_iconst (pc := 160) hC (0 : Int32) dX12_isBroken_160 (by decide) ?_
        obtain rfl := Option.some.inj h
        exact j_bret (pc := 161) hC dX12_isBroken_161 rfl rfl
  · rw [if_neg c10] at h
    refine j_aload_n (pc := 44) hC 0 2 dX12_isBroken_44 rfl rfl ?_
    refine jgr_12 (pc := 45) hC 8 (by decide) rfl kf_X12_60 dX12_isBroken_45 ka0 (ly_12_8 hL ka0).1 ?_
    refine j_bipush (pc := 48) hC (29 : Int32) dX12_isBroken_48 (by decide) ?_
    refine j_iconst (pc := 50) hC (4 : Int32) dX12_isBroken_50 (by decide) ?_
    refine j_iload_n (pc := 51) hC 2 4 dX12_isBroken_51 rfl rfl ?_
    refine j_imul (pc := 52) hC dX12_isBroken_52 ?_
    refine j_iadd (pc := 53) hC dX12_isBroken_53 ?_
    obtain ⟨i27, v28, e29, h⟩ := jrd_some h
    refine j_iald (pc := 54) hC dX12_isBroken_54 (ly_12_8 hL ka0).2.1 (ly_12_8 hL ka0).2.2 i27 e29 ?_
    refine j_iload_n (pc := 55) hC 1 3 dX12_isBroken_55 rfl rfl ?_
    refine j_iload_n (pc := 56) hC 3 1 dX12_isBroken_56 rfl rfl ?_
    obtain ⟨v30, e31, h⟩ := jcl_some h
    refine j_si (pc := 57) hC hR [.int x1, .int v2] iy_X12_valueOf km_X12_363 dX12_isBroken_57 rfl (by decide) (c_X12_valueOf hL  e31) (by decide) (Nat.le_of_ble_eq_true rfl) rfl ?_
    refine j_iload_n (pc := 60) hC 1 3 dX12_isBroken_60 rfl rfl ?_
    refine j_iload (pc := 61) hC 0 dX12_isBroken_61 rfl ?_
    obtain ⟨v32, e33, h⟩ := jcl_some h
    refine j_si (pc := 63) hC hR [.int x1, .int v5] iy_X12_valueOf km_X12_363 dX12_isBroken_63 rfl (by decide) (c_X12_valueOf hL  e33) (by decide) (Nat.le_of_ble_eq_true rfl) rfl ?_
    refine j_aload_n (pc := 66) hC 0 2 dX12_isBroken_66 rfl rfl ?_
    refine jgr_12 (pc := 67) hC 8 (by decide) rfl kf_X12_60 dX12_isBroken_67 ka0 (ly_12_8 hL ka0).1 ?_
    refine j_bipush (pc := 70) hC (29 : Int32) dX12_isBroken_70 (by decide) ?_
    refine j_iconst (pc := 72) hC (4 : Int32) dX12_isBroken_72 (by decide) ?_
    refine j_iload_n (pc := 73) hC 2 4 dX12_isBroken_73 rfl rfl ?_
    refine j_imul (pc := 74) hC dX12_isBroken_74 ?_
    refine j_iadd (pc := 75) hC dX12_isBroken_75 ?_
    refine j_iconst (pc := 76) hC (3 : Int32) dX12_isBroken_76 (by decide) ?_
    refine j_iadd (pc := 77) hC dX12_isBroken_77 ?_
    obtain ⟨i34, v35, e36, h⟩ := jrd_some h
    refine j_iald (pc := 78) hC dX12_isBroken_78 (ly_12_8 hL ka0).2.1 (ly_12_8 hL ka0).2.2 i34 e36 ?_
    refine j_si (pc := 79) hC hR [.int v28, .int v30, .int v32, .int v35] iy_X12_holds km_X12_268 dX12_isBroken_79 rfl (by decide) (c_X12_holds hL  rfl) (by decide) (Nat.le_of_ble_eq_true rfl) rfl ?_
    refine jmg (B := jJ X G 8 L 0 0 (jQM X G L (some (.int r)) μ 0 0) 90 [(4, .int v5), (3, .int v2), (0, .ref (L.2.2 a0)), (1, .int x1), (2, .int x2)] [.int ((if (f_X12_holds v28 v30 v32 v35) = (0 : Int32) then (1 : Int32) else (0 : Int32)))] μ) (fun hj => ?_) ?_
    · refine j_if_ne (pc := 82) hC 89 dX12_isBroken_82 (by decide) (fun c37 => ?_) (fun c37 => ?_)
      · rw [if_neg c37] at hj
        refine j_iconst (pc := 89) hC (0 : Int32) dX12_isBroken_89 (by decide) ?_
        exact hj
      · rw [if_pos c37] at hj
        refine j_iconst (pc := 85) hC (1 : Int32) dX12_isBroken_85 (by decide) ?_
        refine j_goto (pc := 86) hC 90 dX12_isBroken_86 (by decide) ?_
        exact hj
    obtain rfl := Option.some.inj h
    exact j_bret (pc := 90) hC dX12_isBroken_90 rfl (j_nz _)
theorem dX12_tries_0 : decode cX12_tries 0 = .ok (.iconst 0, 1) := by decide +kernel
theorem dX12_tries_1 : decode cX12_tries 1 = .ok (.istore_n 1, 1) := by decide +kernel
theorem dX12_tries_2 : decode cX12_tries 2 = .ok (.iload_n 1, 1) := by decide +kernel
theorem dX12_tries_3 : decode cX12_tries 3 = .ok (.sipush 7776, 3) := by decide +kernel
theorem dX12_tries_6 : decode cX12_tries 6 = .ok (.if_icmp .ge 118, 3) := by decide +kernel
theorem dX12_tries_9 : decode cX12_tries 9 = .ok (.aload_n 0, 1) := by decide +kernel
theorem dX12_tries_10 : decode cX12_tries 10 = .ok (.getfield 96, 3) := by decide +kernel
theorem dX12_tries_13 : decode cX12_tries 13 = .ok (.iload_n 1, 1) := by decide +kernel
theorem dX12_tries_14 : decode cX12_tries 14 = .ok (.iconst 0, 1) := by decide +kernel
theorem dX12_tries_15 : decode cX12_tries 15 = .ok (.iastore, 1) := by decide +kernel
theorem dX12_tries_16 : decode cX12_tries 16 = .ok (.iconst 0, 1) := by decide +kernel
theorem dX12_tries_17 : decode cX12_tries 17 = .ok (.istore_n 2, 1) := by decide +kernel
theorem dX12_tries_18 : decode cX12_tries 18 = .ok (.iload_n 2, 1) := by decide +kernel
theorem dX12_tries_19 : decode cX12_tries 19 = .ok (.iconst 5, 1) := by decide +kernel
theorem dX12_tries_20 : decode cX12_tries 20 = .ok (.if_icmp .ge 45, 3) := by decide +kernel
theorem dX12_tries_23 : decode cX12_tries 23 = .ok (.aload_n 0, 1) := by decide +kernel
theorem dX12_tries_24 : decode cX12_tries 24 = .ok (.getfield 96, 3) := by decide +kernel
theorem dX12_tries_27 : decode cX12_tries 27 = .ok (.iload_n 1, 1) := by decide +kernel
theorem dX12_tries_28 : decode cX12_tries 28 = .ok (.aload_n 0, 1) := by decide +kernel
theorem dX12_tries_29 : decode cX12_tries 29 = .ok (.getfield 60, 3) := by decide +kernel
theorem dX12_tries_32 : decode cX12_tries 32 = .ok (.bipush 6, 2) := by decide +kernel
theorem dX12_tries_34 : decode cX12_tries 34 = .ok (.iload_n 2, 1) := by decide +kernel
theorem dX12_tries_35 : decode cX12_tries 35 = .ok (.iadd, 1) := by decide +kernel
theorem dX12_tries_36 : decode cX12_tries 36 = .ok (.iaload, 1) := by decide +kernel
theorem dX12_tries_37 : decode cX12_tries 37 = .ok (.iload_n 1, 1) := by decide +kernel
theorem dX12_tries_38 : decode cX12_tries 38 = .ok (.iload_n 2, 1) := by decide +kernel
theorem dX12_tries_39 : decode cX12_tries 39 = .ok (.invokestatic 363, 3) := by decide +kernel
theorem dX12_tries_42 : decode cX12_tries 42 = .ok (.invokestatic 208, 3) := by decide +kernel
theorem dX12_tries_45 : decode cX12_tries 45 = .ok (.ifCond .eq 12, 3) := by decide +kernel
theorem dX12_tries_48 : decode cX12_tries 48 = .ok (.aload_n 0, 1) := by decide +kernel
theorem dX12_tries_49 : decode cX12_tries 49 = .ok (.getfield 96, 3) := by decide +kernel
theorem dX12_tries_52 : decode cX12_tries 52 = .ok (.iload_n 1, 1) := by decide +kernel
theorem dX12_tries_53 : decode cX12_tries 53 = .ok (.iaload, 1) := by decide +kernel
theorem dX12_tries_54 : decode cX12_tries 54 = .ok (.goto 4, 3) := by decide +kernel
theorem dX12_tries_57 : decode cX12_tries 57 = .ok (.iconst (-1), 1) := by decide +kernel
theorem dX12_tries_58 : decode cX12_tries 58 = .ok (.iastore, 1) := by decide +kernel
theorem dX12_tries_59 : decode cX12_tries 59 = .ok (.iinc 2 1, 3) := by decide +kernel
theorem dX12_tries_62 : decode cX12_tries 62 = .ok (.goto (-44), 3) := by decide +kernel
theorem dX12_tries_65 : decode cX12_tries 65 = .ok (.iconst 0, 1) := by decide +kernel
theorem dX12_tries_66 : decode cX12_tries 66 = .ok (.istore_n 2, 1) := by decide +kernel
theorem dX12_tries_67 : decode cX12_tries 67 = .ok (.iload_n 2, 1) := by decide +kernel
theorem dX12_tries_68 : decode cX12_tries 68 = .ok (.aload_n 0, 1) := by decide +kernel
theorem dX12_tries_69 : decode cX12_tries 69 = .ok (.getfield 60, 3) := by decide +kernel
theorem dX12_tries_72 : decode cX12_tries 72 = .ok (.bipush 28, 2) := by decide +kernel
theorem dX12_tries_74 : decode cX12_tries 74 = .ok (.iaload, 1) := by decide +kernel
theorem dX12_tries_75 : decode cX12_tries 75 = .ok (.if_icmp .ge 43, 3) := by decide +kernel
theorem dX12_tries_78 : decode cX12_tries 78 = .ok (.aload_n 0, 1) := by decide +kernel
theorem dX12_tries_79 : decode cX12_tries 79 = .ok (.getfield 96, 3) := by decide +kernel
theorem dX12_tries_82 : decode cX12_tries 82 = .ok (.iload_n 1, 1) := by decide +kernel
theorem dX12_tries_83 : decode cX12_tries 83 = .ok (.iaload, 1) := by decide +kernel
theorem dX12_tries_84 : decode cX12_tries 84 = .ok (.ifCond .lt 34, 3) := by decide +kernel
theorem dX12_tries_87 : decode cX12_tries 87 = .ok (.aload_n 0, 1) := by decide +kernel
theorem dX12_tries_88 : decode cX12_tries 88 = .ok (.getfield 96, 3) := by decide +kernel
theorem dX12_tries_91 : decode cX12_tries 91 = .ok (.iload_n 1, 1) := by decide +kernel
theorem dX12_tries_92 : decode cX12_tries 92 = .ok (.dup2, 1) := by decide +kernel
theorem dX12_tries_93 : decode cX12_tries 93 = .ok (.iaload, 1) := by decide +kernel
theorem dX12_tries_94 : decode cX12_tries 94 = .ok (.aload_n 0, 1) := by decide +kernel
theorem dX12_tries_95 : decode cX12_tries 95 = .ok (.iload_n 1, 1) := by decide +kernel
theorem dX12_tries_96 : decode cX12_tries 96 = .ok (.iload_n 2, 1) := by decide +kernel
theorem dX12_tries_97 : decode cX12_tries 97 = .ok (.invokevirtual 366, 3) := by decide +kernel
theorem dX12_tries_100 : decode cX12_tries 100 = .ok (.ifCond .eq 9, 3) := by decide +kernel
theorem dX12_tries_103 : decode cX12_tries 103 = .ok (.iconst 1, 1) := by decide +kernel
theorem dX12_tries_104 : decode cX12_tries 104 = .ok (.iload_n 2, 1) := by decide +kernel
theorem dX12_tries_105 : decode cX12_tries 105 = .ok (.ishl, 1) := by decide +kernel
theorem dX12_tries_106 : decode cX12_tries 106 = .ok (.goto 4, 3) := by decide +kernel
theorem dX12_tries_109 : decode cX12_tries 109 = .ok (.iconst 0, 1) := by decide +kernel
theorem dX12_tries_110 : decode cX12_tries 110 = .ok (.ior, 1) := by decide +kernel
theorem dX12_tries_111 : decode cX12_tries 111 = .ok (.iastore, 1) := by decide +kernel
theorem dX12_tries_112 : decode cX12_tries 112 = .ok (.iinc 2 1, 3) := by decide +kernel
theorem dX12_tries_115 : decode cX12_tries 115 = .ok (.goto (-48), 3) := by decide +kernel
theorem dX12_tries_118 : decode cX12_tries 118 = .ok (.iinc 1 1, 3) := by decide +kernel
theorem dX12_tries_121 : decode cX12_tries 121 = .ok (.goto (-119), 3) := by decide +kernel
theorem dX12_tries_124 : decode cX12_tries 124 = .ok (.return_, 1) := by decide +kernel
def f_X12_tries_L18 (a0 : Nat) (u1 : Int32) (u7 : Int32) (m8 : jM) : Option ((Int32 × jM) ⊕ (jM)) :=
  (if (5 : Int32) ≤ u7 then some (.inr m8) else jrd (m8.1 (a0 + 3)) ((6 : Int32) + u7) 2074 (fun v11 => jcl (f_X12_valueOf u1 u7) (fun v13 => (if (f_X12_has v11 v13) = (0 : Int32) then jin u1 7776 (jbd (jsi m8 (a0 + 15) u1.toNatClampNeg (-1 : Int32)) (fun m17 => some (.inl ((u7 + (1 : Int32), m17))))) else jrd (m8.1 (a0 + 15)) u1 7776 (fun v20 => jin u1 7776 (jbd (jsi m8 (a0 + 15) u1.toNatClampNeg v20) (fun m23 => some (.inl ((u7 + (1 : Int32), m23))))))))))
def f_X12_tries_L67 (a0 : Nat) (u1 : Int32) (u29 : Int32) (m30 : jM) : Option ((Int32 × jM) ⊕ (jM)) :=
  jrd (m30.1 (a0 + 3)) (28 : Int32) 2074 (fun v32 => (if v32 ≤ u29 then some (.inr m30) else jrd (m30.1 (a0 + 15)) u1 7776 (fun v36 => (if v36 < (0 : Int32) then some (.inr m30) else jrd (m30.1 (a0 + 15)) u1 7776 (fun v40 => jcl (f_X12_isBroken a0 u1 u29 m30) (fun v42 => jin u1 7776 (jbd (jsi m30 (a0 + 15) u1.toNatClampNeg (v40 ||| ((if v42 = (0 : Int32) then (0 : Int32) else (1 : Int32) <<< (u29 &&& 31))))) (fun m46 => some (.inl ((u29 + (1 : Int32), m46)))))))))))
def f_X12_tries_L2 (a0 : Nat) (u1 : Int32) (m2 : jM) : Option ((Int32 × jM) ⊕ (jM)) :=
  (if (7776 : Int32) ≤ u1 then some (.inr m2) else jin u1 7776 (jbd (jsi m2 (a0 + 15) u1.toNatClampNeg (0 : Int32)) (fun m5 => jcl (jloop (fun (s : Int32 × jM) => f_X12_tries_L18 a0 u1 s.1 s.2) jfu (((0 : Int32), m5))) (fun w25 => jcl (jloop (fun (s : Int32 × jM) => f_X12_tries_L67 a0 u1 s.1 s.2) jfu (((0 : Int32), w25))) (fun w48 => some (.inl ((u1 + (1 : Int32), w48))))))))
def f_X12_tries (a0 : Nat) (μ : jM) : Option (jM) :=
  jcl (jloop (fun (s : Int32 × jM) => f_X12_tries_L2 a0 s.1 s.2) jfu (((0 : Int32), μ))) (fun w52 => some w52)
set_option maxHeartbeats 4000000 in
set_option maxRecDepth 100000 in
theorem c_X12_tries {l : Launch} {G : jG} {L : jL} (hL : jOKL L) {a0 : Nat} (ka0 : jK L a0 12) {μ μ' : jM} (h : f_X12_tries a0 μ = some μ') : jCt l G L 5 yX12_tries cX12_tries 3 none [.ref (L.2.2 a0)] μ none μ' := by
  refine jCt_of (by decide) (Nat.le_of_ble_eq_true rfl) (fun X hC hX hR => ?_)
  subst hX
  have hC : jC X G cX12_tries 3 RX12 none := hC
  unfold f_X12_tries at h
  show jJ X G 3 L 0 0 (jQM X G L none μ' 0 0) 0 [(0, .ref (L.2.2 a0))] [] μ
  refine j_iconst (pc := 0) hC (0 : Int32) dX12_tries_0 (by decide) ?_
  refine j_istore_n (pc := 1) hC 1 [(1, .int (0 : Int32)), (0, .ref (L.2.2 a0))] dX12_tries_1 rfl (by decide) rfl rfl ?_
  obtain ⟨w52, hw53, h⟩ := jcl_some h
  refine j_lv [1, 0] rfl ?_
  refine j_loop (step := (fun (s : Int32 × jM) => f_X12_tries_L2 a0 s.1 s.2)) (P := (fun (s : Int32 × jM) => jJ X G 3 L 0 0 (jQM X G L none μ' 0 0) 2 [(0, .ref (L.2.2 a0)), (1, .int s.1)] [] s.2)) (R := (fun (e : jM) => jJ X G 3 L 0 0 (jQM X G L none μ' 0 0) 124 [] [] e)) ?_ jfu (((0 : Int32), μ)) w52 hw53 ?_
  · intro s54 o h hk
    obtain ⟨u1, m2⟩ := s54
    change f_X12_tries_L2 a0 u1 m2 = some o at h
    unfold f_X12_tries_L2 at h
    show jJ X G 3 L 0 0 (jQM X G L none μ' 0 0) 2 [(0, .ref (L.2.2 a0)), (1, .int u1)] [] m2
    refine j_iload_n (pc := 2) hC 1 1 dX12_tries_2 rfl rfl ?_
    refine j_sipush (pc := 3) hC (7776 : Int32) dX12_tries_3 (by decide) ?_
    refine j_icmp_ge (pc := 6) hC 124 dX12_tries_6 (by decide) (fun c3 => ?_) (fun c3 => ?_)
    · rw [if_pos c3] at h
      obtain rfl := Option.some.inj h
      have hk : jJ X G 3 L 0 0 (jQM X G L none μ' 0 0) 124 [] [] m2 := hk
      exact j_lv [] rfl hk
    · rw [if_neg c3] at h
      refine j_aload_n (pc := 9) hC 0 0 dX12_tries_9 rfl rfl ?_
      refine jgr_12 (pc := 10) hC 26 (by decide) rfl kf_X12_96 dX12_tries_10 ka0 (ly_12_26 hL ka0).1 ?_
      refine j_iload_n (pc := 13) hC 1 1 dX12_tries_13 rfl rfl ?_
      refine j_iconst (pc := 14) hC (0 : Int32) dX12_tries_14 (by decide) ?_
      obtain ⟨i4, h⟩ := jin_some h
      obtain ⟨m5, e6, h⟩ := jbd_ex h
      refine j_iast (pc := 15) hC dX12_tries_15 (ly_12_26 hL ka0).2.1 (ly_12_26 hL ka0).2.2 i4 e6 ?_
      refine j_iconst (pc := 16) hC (0 : Int32) dX12_tries_16 (by decide) ?_
      refine j_istore_n (pc := 17) hC 2 [(2, .int (0 : Int32)), (0, .ref (L.2.2 a0)), (1, .int u1)] dX12_tries_17 rfl (by decide) rfl rfl ?_
      obtain ⟨w25, hw26, h⟩ := jcl_some h
      refine j_lv [1, 2, 0] rfl ?_
      refine j_loop (step := (fun (s : Int32 × jM) => f_X12_tries_L18 a0 u1 s.1 s.2)) (P := (fun (s : Int32 × jM) => jJ X G 3 L 0 0 (jQM X G L none μ' 0 0) 18 [(0, .ref (L.2.2 a0)), (1, .int u1), (2, .int s.1)] [] s.2)) (R := (fun (e : jM) => jJ X G 3 L 0 0 (jQM X G L none μ' 0 0) 65 [(0, .ref (L.2.2 a0)), (1, .int u1)] [] e)) ?_ jfu (((0 : Int32), m5)) w25 hw26 ?_
      · intro s27 o h hk
        obtain ⟨u7, m8⟩ := s27
        change f_X12_tries_L18 a0 u1 u7 m8 = some o at h
        unfold f_X12_tries_L18 at h
        show jJ X G 3 L 0 0 (jQM X G L none μ' 0 0) 18 [(0, .ref (L.2.2 a0)), (1, .int u1), (2, .int u7)] [] m8
        refine j_iload_n (pc := 18) hC 2 2 dX12_tries_18 rfl rfl ?_
        refine j_iconst (pc := 19) hC (5 : Int32) dX12_tries_19 (by decide) ?_
        refine j_icmp_ge (pc := 20) hC 65 dX12_tries_20 (by decide) (fun c9 => ?_) (fun c9 => ?_)
        · rw [if_pos c9] at h
          obtain rfl := Option.some.inj h
          have hk : jJ X G 3 L 0 0 (jQM X G L none μ' 0 0) 65 [(0, .ref (L.2.2 a0)), (1, .int u1)] [] m8 := hk
          exact j_lv [0, 1] rfl hk
        · rw [if_neg c9] at h
          refine j_aload_n (pc := 23) hC 0 0 dX12_tries_23 rfl rfl ?_
          refine jgr_12 (pc := 24) hC 26 (by decide) rfl kf_X12_96 dX12_tries_24 ka0 (ly_12_26 hL ka0).1 ?_
          refine j_iload_n (pc := 27) hC 1 1 dX12_tries_27 rfl rfl ?_
          refine j_aload_n (pc := 28) hC 0 0 dX12_tries_28 rfl rfl ?_
          refine jgr_12 (pc := 29) hC 8 (by decide) rfl kf_X12_60 dX12_tries_29 ka0 (ly_12_8 hL ka0).1 ?_
          refine j_bipush (pc := 32) hC (6 : Int32) dX12_tries_32 (by decide) ?_
          refine j_iload_n (pc := 34) hC 2 2 dX12_tries_34 rfl rfl ?_
          refine j_iadd (pc := 35) hC dX12_tries_35 ?_
          obtain ⟨i10, v11, e12, h⟩ := jrd_some h
          refine j_iald (pc := 36) hC dX12_tries_36 (ly_12_8 hL ka0).2.1 (ly_12_8 hL ka0).2.2 i10 e12 ?_
          refine j_iload_n (pc := 37) hC 1 1 dX12_tries_37 rfl rfl ?_
          refine j_iload_n (pc := 38) hC 2 2 dX12_tries_38 rfl rfl ?_
          obtain ⟨v13, e14, h⟩ := jcl_some h
          refine j_si (pc := 39) hC hR [.int u1, .int u7] iy_X12_valueOf km_X12_363 dX12_tries_39 rfl (by decide) (c_X12_valueOf hL  e14) (by decide) (Nat.le_of_ble_eq_true rfl) rfl ?_
          refine j_si (pc := 42) hC hR [.int v11, .int v13] iy_X12_has km_X12_208 dX12_tries_42 rfl (by decide) (c_X12_has hL  rfl) (by decide) (Nat.le_of_ble_eq_true rfl) rfl ?_
          refine j_if_eq (pc := 45) hC 57 dX12_tries_45 (by decide) (fun c15 => ?_) (fun c15 => ?_)
          · rw [if_pos c15] at h
            refine j_iconst (pc := 57) hC (-1 : Int32) dX12_tries_57 (by decide) ?_
            obtain ⟨i16, h⟩ := jin_some h
            obtain ⟨m17, e18, h⟩ := jbd_ex h
            refine j_iast (pc := 58) hC dX12_tries_58 (ly_12_26 hL ka0).2.1 (ly_12_26 hL ka0).2.2 i16 e18 ?_
            refine j_iinc (pc := 59) hC 2 (u7 + (1 : Int32)) [(2, .int (u7 + (1 : Int32))), (0, .ref (L.2.2 a0)), (1, .int u1)] dX12_tries_59 rfl rfl (by decide) rfl ?_
            refine j_goto (pc := 62) hC 18 dX12_tries_62 (by decide) ?_
            obtain rfl := Option.some.inj h
            have hk : jJ X G 3 L 0 0 (jQM X G L none μ' 0 0) 18 [(0, .ref (L.2.2 a0)), (1, .int u1), (2, .int (u7 + (1 : Int32)))] [] m17 := hk
            exact j_lv [1, 2, 0] rfl hk
          · rw [if_neg c15] at h
            refine j_aload_n (pc := 48) hC 0 0 dX12_tries_48 rfl rfl ?_
            refine jgr_12 (pc := 49) hC 26 (by decide) rfl kf_X12_96 dX12_tries_49 ka0 (ly_12_26 hL ka0).1 ?_
            refine j_iload_n (pc := 52) hC 1 1 dX12_tries_52 rfl rfl ?_
            obtain ⟨i19, v20, e21, h⟩ := jrd_some h
            refine j_iald (pc := 53) hC dX12_tries_53 (ly_12_26 hL ka0).2.1 (ly_12_26 hL ka0).2.2 i19 e21 ?_
            refine j_goto (pc := 54) hC 58 dX12_tries_54 (by decide) ?_
            obtain ⟨i22, h⟩ := jin_some h
            obtain ⟨m23, e24, h⟩ := jbd_ex h
            refine j_iast (pc := 58) hC dX12_tries_58 (ly_12_26 hL ka0).2.1 (ly_12_26 hL ka0).2.2 i22 e24 ?_
            refine j_iinc (pc := 59) hC 2 (u7 + (1 : Int32)) [(2, .int (u7 + (1 : Int32))), (0, .ref (L.2.2 a0)), (1, .int u1)] dX12_tries_59 rfl rfl (by decide) rfl ?_
            refine j_goto (pc := 62) hC 18 dX12_tries_62 (by decide) ?_
            obtain rfl := Option.some.inj h
            have hk : jJ X G 3 L 0 0 (jQM X G L none μ' 0 0) 18 [(0, .ref (L.2.2 a0)), (1, .int u1), (2, .int (u7 + (1 : Int32)))] [] m23 := hk
            exact j_lv [1, 2, 0] rfl hk
      · obtain ⟨m28, rfl⟩ : ∃ y, y = w25 := ⟨_, rfl⟩
        try dsimp only at h
        show jJ X G 3 L 0 0 (jQM X G L none μ' 0 0) 65 [(0, .ref (L.2.2 a0)), (1, .int u1)] [] m28
        refine j_iconst (pc := 65) hC (0 : Int32) dX12_tries_65 (by decide) ?_
        refine j_istore_n (pc := 66) hC 2 [(2, .int (0 : Int32)), (0, .ref (L.2.2 a0)), (1, .int u1)] dX12_tries_66 rfl (by decide) rfl rfl ?_
        obtain ⟨w48, hw49, h⟩ := jcl_some h
        refine j_lv [1, 2, 0] rfl ?_
        refine j_loop (step := (fun (s : Int32 × jM) => f_X12_tries_L67 a0 u1 s.1 s.2)) (P := (fun (s : Int32 × jM) => jJ X G 3 L 0 0 (jQM X G L none μ' 0 0) 67 [(0, .ref (L.2.2 a0)), (1, .int u1), (2, .int s.1)] [] s.2)) (R := (fun (e : jM) => jJ X G 3 L 0 0 (jQM X G L none μ' 0 0) 118 [(0, .ref (L.2.2 a0)), (1, .int u1)] [] e)) ?_ jfu (((0 : Int32), m28)) w48 hw49 ?_
        · intro s50 o h hk
          obtain ⟨u29, m30⟩ := s50
          change f_X12_tries_L67 a0 u1 u29 m30 = some o at h
          unfold f_X12_tries_L67 at h
          show jJ X G 3 L 0 0 (jQM X G L none μ' 0 0) 67 [(0, .ref (L.2.2 a0)), (1, .int u1), (2, .int u29)] [] m30
          refine j_iload_n (pc := 67) hC 2 2 dX12_tries_67 rfl rfl ?_
          refine j_aload_n (pc := 68) hC 0 0 dX12_tries_68 rfl rfl ?_
          refine jgr_12 (pc := 69) hC 8 (by decide) rfl kf_X12_60 dX12_tries_69 ka0 (ly_12_8 hL ka0).1 ?_
          refine j_bipush (pc := 72) hC (28 : Int32) dX12_tries_72 (by decide) ?_
          obtain ⟨i31, v32, e33, h⟩ := jrd_some h
          refine j_iald (pc := 74) hC dX12_tries_74 (ly_12_8 hL ka0).2.1 (ly_12_8 hL ka0).2.2 i31 e33 ?_
          refine j_icmp_ge (pc := 75) hC 118 dX12_tries_75 (by decide) (fun c34 => ?_) (fun c34 => ?_)
          · rw [if_pos c34] at h
            obtain rfl := Option.some.inj h
            have hk : jJ X G 3 L 0 0 (jQM X G L none μ' 0 0) 118 [(0, .ref (L.2.2 a0)), (1, .int u1)] [] m30 := hk
            exact j_lv [0, 1] rfl hk
          · rw [if_neg c34] at h
            refine j_aload_n (pc := 78) hC 0 0 dX12_tries_78 rfl rfl ?_
            refine jgr_12 (pc := 79) hC 26 (by decide) rfl kf_X12_96 dX12_tries_79 ka0 (ly_12_26 hL ka0).1 ?_
            refine j_iload_n (pc := 82) hC 1 1 dX12_tries_82 rfl rfl ?_
            obtain ⟨i35, v36, e37, h⟩ := jrd_some h
            refine j_iald (pc := 83) hC dX12_tries_83 (ly_12_26 hL ka0).2.1 (ly_12_26 hL ka0).2.2 i35 e37 ?_
            refine j_if_lt (pc := 84) hC 118 dX12_tries_84 (by decide) (fun c38 => ?_) (fun c38 => ?_)
            · rw [if_pos c38] at h
              obtain rfl := Option.some.inj h
              have hk : jJ X G 3 L 0 0 (jQM X G L none μ' 0 0) 118 [(0, .ref (L.2.2 a0)), (1, .int u1)] [] m30 := hk
              exact j_lv [0, 1] rfl hk
            · rw [if_neg c38] at h
              refine j_aload_n (pc := 87) hC 0 0 dX12_tries_87 rfl rfl ?_
              refine jgr_12 (pc := 88) hC 26 (by decide) rfl kf_X12_96 dX12_tries_88 ka0 (ly_12_26 hL ka0).1 ?_
              refine j_iload_n (pc := 91) hC 1 1 dX12_tries_91 rfl rfl ?_
              refine j_dup2 (pc := 92) hC dX12_tries_92 rfl rfl ?_
              obtain ⟨i39, v40, e41, h⟩ := jrd_some h
              refine j_iald (pc := 93) hC dX12_tries_93 (ly_12_26 hL ka0).2.1 (ly_12_26 hL ka0).2.2 i39 e41 ?_
              refine j_aload_n (pc := 94) hC 0 0 dX12_tries_94 rfl rfl ?_
              refine j_iload_n (pc := 95) hC 1 1 dX12_tries_95 rfl rfl ?_
              refine j_iload_n (pc := 96) hC 2 2 dX12_tries_96 rfl rfl ?_
              obtain ⟨v42, e43, h⟩ := jcl_some h
              refine j_vi (pc := 97) hC hR [.int u1, .int u29] iy_X12_isBroken (q := (RX12, TX12, 40)) (ci := 12) rfl rfl (by decide) km_X12_366 dX12_tries_97 rfl (by decide) ka0 (c_X12_isBroken hL ka0 e43) (by decide) (Nat.le_of_ble_eq_true rfl) rfl ?_
              refine jmg (B := jJ X G 3 L 0 0 (jQM X G L none μ' 0 0) 110 [(0, .ref (L.2.2 a0)), (1, .int u1), (2, .int u29)] [.int ((if v42 = (0 : Int32) then (0 : Int32) else (1 : Int32) <<< (u29 &&& 31))), .int v40, .int u1, .ref (L.2.2 (a0 + 15))] m30) (fun hj => ?_) ?_
              · refine j_if_eq (pc := 100) hC 109 dX12_tries_100 (by decide) (fun c44 => ?_) (fun c44 => ?_)
                · rw [if_pos c44] at hj
                  refine j_iconst (pc := 109) hC (0 : Int32) dX12_tries_109 (by decide) ?_
                  exact hj
                · rw [if_neg c44] at hj
                  refine j_iconst (pc := 103) hC (1 : Int32) dX12_tries_103 (by decide) ?_
                  refine j_iload_n (pc := 104) hC 2 2 dX12_tries_104 rfl rfl ?_
                  refine j_ishl (pc := 105) hC dX12_tries_105 ?_
                  refine j_goto (pc := 106) hC 110 dX12_tries_106 (by decide) ?_
                  exact hj
              refine j_ior (pc := 110) hC dX12_tries_110 ?_
              obtain ⟨i45, h⟩ := jin_some h
              obtain ⟨m46, e47, h⟩ := jbd_ex h
              refine j_iast (pc := 111) hC dX12_tries_111 (ly_12_26 hL ka0).2.1 (ly_12_26 hL ka0).2.2 i45 e47 ?_
              refine j_iinc (pc := 112) hC 2 (u29 + (1 : Int32)) [(2, .int (u29 + (1 : Int32))), (0, .ref (L.2.2 a0)), (1, .int u1)] dX12_tries_112 rfl rfl (by decide) rfl ?_
              refine j_goto (pc := 115) hC 67 dX12_tries_115 (by decide) ?_
              obtain rfl := Option.some.inj h
              have hk : jJ X G 3 L 0 0 (jQM X G L none μ' 0 0) 67 [(0, .ref (L.2.2 a0)), (1, .int u1), (2, .int (u29 + (1 : Int32)))] [] m46 := hk
              exact j_lv [1, 2, 0] rfl hk
        · obtain ⟨m51, rfl⟩ : ∃ y, y = w48 := ⟨_, rfl⟩
          try dsimp only at h
          show jJ X G 3 L 0 0 (jQM X G L none μ' 0 0) 118 [(0, .ref (L.2.2 a0)), (1, .int u1)] [] m51
          refine j_iinc (pc := 118) hC 1 (u1 + (1 : Int32)) [(1, .int (u1 + (1 : Int32))), (0, .ref (L.2.2 a0))] dX12_tries_118 rfl rfl (by decide) rfl ?_
          refine j_goto (pc := 121) hC 2 dX12_tries_121 (by decide) ?_
          obtain rfl := Option.some.inj h
          have hk : jJ X G 3 L 0 0 (jQM X G L none μ' 0 0) 2 [(0, .ref (L.2.2 a0)), (1, .int (u1 + (1 : Int32)))] [] m51 := hk
          exact j_lv [1, 0] rfl hk
  · obtain ⟨m55, rfl⟩ : ∃ y, y = w52 := ⟨_, rfl⟩
    try dsimp only at h
    show jJ X G 3 L 0 0 (jQM X G L none μ' 0 0) 124 [] [] m55
    obtain rfl := Option.some.inj h
    exact j_vret (pc := 124) hC dX12_tries_124 rfl
theorem dX12_entersRow_0 : decode cX12_entersRow 0 = .ok (.iconst 0, 1) := by decide +kernel
theorem dX12_entersRow_1 : decode cX12_entersRow 1 = .ok (.istore_n 2, 1) := by decide +kernel
theorem dX12_entersRow_2 : decode cX12_entersRow 2 = .ok (.iload_n 2, 1) := by decide +kernel
theorem dX12_entersRow_3 : decode cX12_entersRow 3 = .ok (.iconst 5, 1) := by decide +kernel
theorem dX12_entersRow_4 : decode cX12_entersRow 4 = .ok (.if_icmp .ge 19, 3) := by decide +kernel
theorem dX12_entersRow_7 : decode cX12_entersRow 7 = .ok (.aload_n 0, 1) := by decide +kernel
theorem dX12_entersRow_8 : decode cX12_entersRow 8 = .ok (.iload_n 1, 1) := by decide +kernel
theorem dX12_entersRow_9 : decode cX12_entersRow 9 = .ok (.iload_n 2, 1) := by decide +kernel
theorem dX12_entersRow_10 : decode cX12_entersRow 10 = .ok (.invokestatic 363, 3) := by decide +kernel
theorem dX12_entersRow_13 : decode cX12_entersRow 13 = .ok (.i2l, 1) := by decide +kernel
theorem dX12_entersRow_14 : decode cX12_entersRow 14 = .ok (.invokevirtual 146, 3) := by decide +kernel
theorem dX12_entersRow_17 : decode cX12_entersRow 17 = .ok (.iinc 2 1, 3) := by decide +kernel
theorem dX12_entersRow_20 : decode cX12_entersRow 20 = .ok (.goto (-18), 3) := by decide +kernel
theorem dX12_entersRow_23 : decode cX12_entersRow 23 = .ok (.return_, 1) := by decide +kernel
def f_X12_entersRow_L2 (a0 : Nat) (x1 : Int32) (u1 : Int32) (m2 : jM) : Option ((Int32 × jM) ⊕ (jM)) :=
  (if (5 : Int32) ≤ u1 then some (.inr m2) else jcl (f_X12_valueOf x1 u1) (fun v4 => jcl (f_X12_enters a0 v4.toInt64 m2) (fun m6 => some (.inl ((u1 + (1 : Int32), m6))))))
def f_X12_entersRow (a0 : Nat) (x1 : Int32) (μ : jM) : Option (jM) :=
  jcl (jloop (fun (s : Int32 × jM) => f_X12_entersRow_L2 a0 x1 s.1 s.2) jfu (((0 : Int32), μ))) (fun w8 => some w8)
set_option maxHeartbeats 4000000 in
set_option maxRecDepth 100000 in
theorem c_X12_entersRow {l : Launch} {G : jG} {L : jL} (hL : jOKL L) {a0 : Nat} {x1 : Int32} (ka0 : jK L a0 12) {μ μ' : jM} (h : f_X12_entersRow a0 x1 μ = some μ') : jCt l G L 4 yX12_entersRow cX12_entersRow 3 none [.ref (L.2.2 a0), .int x1] μ none μ' := by
  refine jCt_of (by decide) (Nat.le_of_ble_eq_true rfl) (fun X hC hX hR => ?_)
  subst hX
  have hC : jC X G cX12_entersRow 3 RX12 none := hC
  unfold f_X12_entersRow at h
  show jJ X G 3 L 0 0 (jQM X G L none μ' 0 0) 0 [(0, .ref (L.2.2 a0)), (1, .int x1)] [] μ
  refine j_iconst (pc := 0) hC (0 : Int32) dX12_entersRow_0 (by decide) ?_
  refine j_istore_n (pc := 1) hC 2 [(2, .int (0 : Int32)), (0, .ref (L.2.2 a0)), (1, .int x1)] dX12_entersRow_1 rfl (by decide) rfl rfl ?_
  obtain ⟨w8, hw9, h⟩ := jcl_some h
  refine j_lv [1, 2, 0] rfl ?_
  refine j_loop (step := (fun (s : Int32 × jM) => f_X12_entersRow_L2 a0 x1 s.1 s.2)) (P := (fun (s : Int32 × jM) => jJ X G 3 L 0 0 (jQM X G L none μ' 0 0) 2 [(0, .ref (L.2.2 a0)), (1, .int x1), (2, .int s.1)] [] s.2)) (R := (fun (e : jM) => jJ X G 3 L 0 0 (jQM X G L none μ' 0 0) 23 [] [] e)) ?_ jfu (((0 : Int32), μ)) w8 hw9 ?_
  · intro s10 o h hk
    obtain ⟨u1, m2⟩ := s10
    change f_X12_entersRow_L2 a0 x1 u1 m2 = some o at h
    unfold f_X12_entersRow_L2 at h
    show jJ X G 3 L 0 0 (jQM X G L none μ' 0 0) 2 [(0, .ref (L.2.2 a0)), (1, .int x1), (2, .int u1)] [] m2
    refine j_iload_n (pc := 2) hC 2 2 dX12_entersRow_2 rfl rfl ?_
    refine j_iconst (pc := 3) hC (5 : Int32) dX12_entersRow_3 (by decide) ?_
    refine j_icmp_ge (pc := 4) hC 23 dX12_entersRow_4 (by decide) (fun c3 => ?_) (fun c3 => ?_)
    · rw [if_pos c3] at h
      obtain rfl := Option.some.inj h
      have hk : jJ X G 3 L 0 0 (jQM X G L none μ' 0 0) 23 [] [] m2 := hk
      exact j_lv [] rfl hk
    · rw [if_neg c3] at h
      refine j_aload_n (pc := 7) hC 0 0 dX12_entersRow_7 rfl rfl ?_
      refine j_iload_n (pc := 8) hC 1 1 dX12_entersRow_8 rfl rfl ?_
      refine j_iload_n (pc := 9) hC 2 2 dX12_entersRow_9 rfl rfl ?_
      obtain ⟨v4, e5, h⟩ := jcl_some h
      refine j_si (pc := 10) hC hR [.int x1, .int u1] iy_X12_valueOf km_X12_363 dX12_entersRow_10 rfl (by decide) (c_X12_valueOf hL  e5) (by decide) (Nat.le_of_ble_eq_true rfl) rfl ?_
      refine j_i2l (pc := 13) hC dX12_entersRow_13 ?_
      obtain ⟨m6, e7, h⟩ := jcl_some h
      refine j_vv (pc := 14) hC hR [.long v4.toInt64] iy_X12_enters (q := (RX12, TX12, 40)) (ci := 12) rfl rfl (by decide) km_X12_146 dX12_entersRow_14 rfl (by decide) ka0 (c_X12_enters hL ka0 e7) (by decide) (Nat.le_of_ble_eq_true rfl) rfl ?_
      refine j_iinc (pc := 17) hC 2 (u1 + (1 : Int32)) [(2, .int (u1 + (1 : Int32))), (0, .ref (L.2.2 a0)), (1, .int x1)] dX12_entersRow_17 rfl rfl (by decide) rfl ?_
      refine j_goto (pc := 20) hC 2 dX12_entersRow_20 (by decide) ?_
      obtain rfl := Option.some.inj h
      have hk : jJ X G 3 L 0 0 (jQM X G L none μ' 0 0) 2 [(0, .ref (L.2.2 a0)), (1, .int x1), (2, .int (u1 + (1 : Int32)))] [] m6 := hk
      exact j_lv [1, 2, 0] rfl hk
  · obtain ⟨m11, rfl⟩ : ∃ y, y = w8 := ⟨_, rfl⟩
    try dsimp only at h
    show jJ X G 3 L 0 0 (jQM X G L none μ' 0 0) 23 [] [] m11
    obtain rfl := Option.some.inj h
    exact j_vret (pc := 23) hC dX12_entersRow_23 rfl
theorem dX12_many_0 : decode cX12_many 0 = .ok (.aload_n 0, 1) := by decide +kernel
theorem dX12_many_1 : decode cX12_many 1 = .ok (.iconst 0, 1) := by decide +kernel
theorem dX12_many_2 : decode cX12_many 2 = .ok (.putfield 1, 3) := by decide +kernel
theorem dX12_many_5 : decode cX12_many 5 = .ok (.aload_n 0, 1) := by decide +kernel
theorem dX12_many_6 : decode cX12_many 6 = .ok (.invokevirtual 369, 3) := by decide +kernel
theorem dX12_many_9 : decode cX12_many 9 = .ok (.iconst 0, 1) := by decide +kernel
theorem dX12_many_10 : decode cX12_many 10 = .ok (.istore_n 1, 1) := by decide +kernel
theorem dX12_many_11 : decode cX12_many 11 = .ok (.aload_n 0, 1) := by decide +kernel
theorem dX12_many_12 : decode cX12_many 12 = .ok (.iconst 0, 1) := by decide +kernel
theorem dX12_many_13 : decode cX12_many 13 = .ok (.putfield 11, 3) := by decide +kernel
theorem dX12_many_16 : decode cX12_many 16 = .ok (.iconst 0, 1) := by decide +kernel
theorem dX12_many_17 : decode cX12_many 17 = .ok (.istore_n 2, 1) := by decide +kernel
theorem dX12_many_18 : decode cX12_many 18 = .ok (.iload_n 2, 1) := by decide +kernel
theorem dX12_many_19 : decode cX12_many 19 = .ok (.sipush 7776, 3) := by decide +kernel
theorem dX12_many_22 : decode cX12_many 22 = .ok (.if_icmp .ge 30, 3) := by decide +kernel
theorem dX12_many_25 : decode cX12_many 25 = .ok (.aload_n 0, 1) := by decide +kernel
theorem dX12_many_26 : decode cX12_many 26 = .ok (.getfield 96, 3) := by decide +kernel
theorem dX12_many_29 : decode cX12_many 29 = .ok (.iload_n 2, 1) := by decide +kernel
theorem dX12_many_30 : decode cX12_many 30 = .ok (.iaload, 1) := by decide +kernel
theorem dX12_many_31 : decode cX12_many 31 = .ok (.ifCond .ne 15, 3) := by decide +kernel
theorem dX12_many_34 : decode cX12_many 34 = .ok (.iload_n 1, 1) := by decide +kernel
theorem dX12_many_35 : decode cX12_many 35 = .ok (.ifCond .ne 8, 3) := by decide +kernel
theorem dX12_many_38 : decode cX12_many 38 = .ok (.aload_n 0, 1) := by decide +kernel
theorem dX12_many_39 : decode cX12_many 39 = .ok (.iload_n 2, 1) := by decide +kernel
theorem dX12_many_40 : decode cX12_many 40 = .ok (.invokevirtual 372, 3) := by decide +kernel
theorem dX12_many_43 : decode cX12_many 43 = .ok (.iinc 1 1, 3) := by decide +kernel
theorem dX12_many_46 : decode cX12_many 46 = .ok (.iinc 2 1, 3) := by decide +kernel
theorem dX12_many_49 : decode cX12_many 49 = .ok (.goto (-31), 3) := by decide +kernel
theorem dX12_many_52 : decode cX12_many 52 = .ok (.iload_n 1, 1) := by decide +kernel
theorem dX12_many_53 : decode cX12_many 53 = .ok (.ireturn, 1) := by decide +kernel
def f_X12_many_L18 (a0 : Nat) (u7 : Int32) (u8 : Int32) (m9 : jM) : Option ((Int32 × Int32 × jM) ⊕ (Int32 × jM)) :=
  (if (7776 : Int32) ≤ u8 then some (.inr ((u7, m9))) else jrd (m9.1 (a0 + 15)) u8 7776 (fun v12 => (if v12 = (0 : Int32) then (if u7 = (0 : Int32) then jcl (f_X12_entersRow a0 u8 m9) (fun m16 => some (.inl ((u7 + (1 : Int32), u8 + (1 : Int32), m16)))) else some (.inl ((u7 + (1 : Int32), u8 + (1 : Int32), m9)))) else some (.inl ((u7, u8 + (1 : Int32), m9))))))
def f_X12_many (a0 : Nat) (μ : jM) : Option (Int32 × jM) :=
  jbd (jsi μ a0 0 (0 : Int32)) (fun m1 => jcl (f_X12_tries a0 m1) (fun m3 => jbd (jsi m3 a0 1 (0 : Int32)) (fun m5 => jcl (jloop (fun (s : Int32 × Int32 × jM) => f_X12_many_L18 a0 s.1 s.2.1 s.2.2) jfu (((0 : Int32), (0 : Int32), m5))) (fun w18 => some ((w18.1, w18.2))))))
set_option maxHeartbeats 4000000 in
set_option maxRecDepth 100000 in
theorem c_X12_many {l : Launch} {G : jG} {L : jL} (hL : jOKL L) {a0 : Nat} (ka0 : jK L a0 12) {μ μ' : jM} {r : Int32} (h : f_X12_many a0 μ = some ((r, μ'))) : jCt l G L 6 yX12_many cX12_many 3 (some .int) [.ref (L.2.2 a0)] μ (some (.int r)) μ' := by
  refine jCt_of (by decide) (Nat.le_of_ble_eq_true rfl) (fun X hC hX hR => ?_)
  subst hX
  have hC : jC X G cX12_many 3 RX12 (some .int) := hC
  unfold f_X12_many at h
  show jJ X G 3 L 0 0 (jQM X G L (some (.int r)) μ' 0 0) 0 [(0, .ref (L.2.2 a0))] [] μ
  refine j_aload_n (pc := 0) hC 0 0 dX12_many_0 rfl rfl ?_
  refine j_iconst (pc := 1) hC (0 : Int32) dX12_many_1 (by decide) ?_
  obtain ⟨m1, e2, h⟩ := jbd_ex h
  refine jpi_12 (pc := 2) hC 0 (by decide) rfl kf_X12_1 dX12_many_2 rfl (by decide) ka0 e2 ?_
  refine j_aload_n (pc := 5) hC 0 0 dX12_many_5 rfl rfl ?_
  obtain ⟨m3, e4, h⟩ := jcl_some h
  refine j_vv (pc := 6) hC hR [] iy_X12_tries (q := (RX12, TX12, 40)) (ci := 12) rfl rfl (by decide) km_X12_369 dX12_many_6 rfl (by decide) ka0 (c_X12_tries hL ka0 e4) (by decide) (Nat.le_of_ble_eq_true rfl) rfl ?_
  refine j_iconst (pc := 9) hC (0 : Int32) dX12_many_9 (by decide) ?_
  refine j_istore_n (pc := 10) hC 1 [(1, .int (0 : Int32)), (0, .ref (L.2.2 a0))] dX12_many_10 rfl (by decide) rfl rfl ?_
  refine j_aload_n (pc := 11) hC 0 1 dX12_many_11 rfl rfl ?_
  refine j_iconst (pc := 12) hC (0 : Int32) dX12_many_12 (by decide) ?_
  obtain ⟨m5, e6, h⟩ := jbd_ex h
  refine jpi_12 (pc := 13) hC 1 (by decide) rfl kf_X12_11 dX12_many_13 rfl (by decide) ka0 e6 ?_
  refine j_iconst (pc := 16) hC (0 : Int32) dX12_many_16 (by decide) ?_
  refine j_istore_n (pc := 17) hC 2 [(2, .int (0 : Int32)), (1, .int (0 : Int32)), (0, .ref (L.2.2 a0))] dX12_many_17 rfl (by decide) rfl rfl ?_
  obtain ⟨w18, hw19, h⟩ := jcl_some h
  refine j_lv [2, 1, 0] rfl ?_
  refine j_loop (step := (fun (s : Int32 × Int32 × jM) => f_X12_many_L18 a0 s.1 s.2.1 s.2.2)) (P := (fun (s : Int32 × Int32 × jM) => jJ X G 3 L 0 0 (jQM X G L (some (.int r)) μ' 0 0) 18 [(0, .ref (L.2.2 a0)), (1, .int s.1), (2, .int s.2.1)] [] s.2.2)) (R := (fun (e : Int32 × jM) => jJ X G 3 L 0 0 (jQM X G L (some (.int r)) μ' 0 0) 52 [(1, .int e.1)] [] e.2)) ?_ jfu (((0 : Int32), (0 : Int32), m5)) w18 hw19 ?_
  · intro s20 o h hk
    obtain ⟨u7, u8, m9⟩ := s20
    change f_X12_many_L18 a0 u7 u8 m9 = some o at h
    unfold f_X12_many_L18 at h
    show jJ X G 3 L 0 0 (jQM X G L (some (.int r)) μ' 0 0) 18 [(0, .ref (L.2.2 a0)), (1, .int u7), (2, .int u8)] [] m9
    refine j_iload_n (pc := 18) hC 2 2 dX12_many_18 rfl rfl ?_
    refine j_sipush (pc := 19) hC (7776 : Int32) dX12_many_19 (by decide) ?_
    refine j_icmp_ge (pc := 22) hC 52 dX12_many_22 (by decide) (fun c10 => ?_) (fun c10 => ?_)
    · rw [if_pos c10] at h
      obtain rfl := Option.some.inj h
      have hk : jJ X G 3 L 0 0 (jQM X G L (some (.int r)) μ' 0 0) 52 [(1, .int u7)] [] m9 := hk
      exact j_lv [1] rfl hk
    · rw [if_neg c10] at h
      refine j_aload_n (pc := 25) hC 0 0 dX12_many_25 rfl rfl ?_
      refine jgr_12 (pc := 26) hC 26 (by decide) rfl kf_X12_96 dX12_many_26 ka0 (ly_12_26 hL ka0).1 ?_
      refine j_iload_n (pc := 29) hC 2 2 dX12_many_29 rfl rfl ?_
      obtain ⟨i11, v12, e13, h⟩ := jrd_some h
      refine j_iald (pc := 30) hC dX12_many_30 (ly_12_26 hL ka0).2.1 (ly_12_26 hL ka0).2.2 i11 e13 ?_
      refine j_if_ne (pc := 31) hC 46 dX12_many_31 (by decide) (fun c14 => ?_) (fun c14 => ?_)
      · rw [if_neg c14] at h
        refine j_iinc (pc := 46) hC 2 (u8 + (1 : Int32)) [(2, .int (u8 + (1 : Int32))), (0, .ref (L.2.2 a0)), (1, .int u7)] dX12_many_46 rfl rfl (by decide) rfl ?_
        refine j_goto (pc := 49) hC 18 dX12_many_49 (by decide) ?_
        obtain rfl := Option.some.inj h
        have hk : jJ X G 3 L 0 0 (jQM X G L (some (.int r)) μ' 0 0) 18 [(0, .ref (L.2.2 a0)), (1, .int u7), (2, .int (u8 + (1 : Int32)))] [] m9 := hk
        exact j_lv [1, 2, 0] rfl hk
      · rw [if_pos c14] at h
        refine j_iload_n (pc := 34) hC 1 1 dX12_many_34 rfl rfl ?_
        refine j_if_ne (pc := 35) hC 43 dX12_many_35 (by decide) (fun c15 => ?_) (fun c15 => ?_)
        · rw [if_neg c15] at h
          refine j_iinc (pc := 43) hC 1 (u7 + (1 : Int32)) [(1, .int (u7 + (1 : Int32))), (0, .ref (L.2.2 a0)), (2, .int u8)] dX12_many_43 rfl rfl (by decide) rfl ?_
          refine j_iinc (pc := 46) hC 2 (u8 + (1 : Int32)) [(2, .int (u8 + (1 : Int32))), (1, .int (u7 + (1 : Int32))), (0, .ref (L.2.2 a0))] dX12_many_46 rfl rfl (by decide) rfl ?_
          refine j_goto (pc := 49) hC 18 dX12_many_49 (by decide) ?_
          obtain rfl := Option.some.inj h
          have hk : jJ X G 3 L 0 0 (jQM X G L (some (.int r)) μ' 0 0) 18 [(0, .ref (L.2.2 a0)), (1, .int (u7 + (1 : Int32))), (2, .int (u8 + (1 : Int32)))] [] m9 := hk
          exact j_lv [2, 1, 0] rfl hk
        · rw [if_pos c15] at h
          refine j_aload_n (pc := 38) hC 0 0 dX12_many_38 rfl rfl ?_
          refine j_iload_n (pc := 39) hC 2 2 dX12_many_39 rfl rfl ?_
          obtain ⟨m16, e17, h⟩ := jcl_some h
          refine j_vv (pc := 40) hC hR [.int u8] iy_X12_entersRow (q := (RX12, TX12, 40)) (ci := 12) rfl rfl (by decide) km_X12_372 dX12_many_40 rfl (by decide) ka0 (c_X12_entersRow hL ka0 e17) (by decide) (Nat.le_of_ble_eq_true rfl) rfl ?_
          refine j_iinc (pc := 43) hC 1 (u7 + (1 : Int32)) [(1, .int (u7 + (1 : Int32))), (0, .ref (L.2.2 a0)), (2, .int u8)] dX12_many_43 rfl rfl (by decide) rfl ?_
          refine j_iinc (pc := 46) hC 2 (u8 + (1 : Int32)) [(2, .int (u8 + (1 : Int32))), (1, .int (u7 + (1 : Int32))), (0, .ref (L.2.2 a0))] dX12_many_46 rfl rfl (by decide) rfl ?_
          refine j_goto (pc := 49) hC 18 dX12_many_49 (by decide) ?_
          obtain rfl := Option.some.inj h
          have hk : jJ X G 3 L 0 0 (jQM X G L (some (.int r)) μ' 0 0) 18 [(0, .ref (L.2.2 a0)), (1, .int (u7 + (1 : Int32))), (2, .int (u8 + (1 : Int32)))] [] m16 := hk
          exact j_lv [2, 1, 0] rfl hk
  · obtain ⟨z21, m22⟩ := w18
    try dsimp only at h
    show jJ X G 3 L 0 0 (jQM X G L (some (.int r)) μ' 0 0) 52 [(1, .int z21)] [] m22
    refine j_iload_n (pc := 52) hC 1 0 dX12_many_52 rfl rfl ?_
    obtain ⟨rfl, rfl⟩ := Prod.mk.inj (Option.some.inj h)
    exact j_iret (pc := 53) hC dX12_many_53 rfl
theorem dX12_nth_0 : decode cX12_nth 0 = .ok (.aload_n 0, 1) := by decide +kernel
theorem dX12_nth_1 : decode cX12_nth 1 = .ok (.iconst 0, 1) := by decide +kernel
theorem dX12_nth_2 : decode cX12_nth 2 = .ok (.putfield 1, 3) := by decide +kernel
theorem dX12_nth_5 : decode cX12_nth 5 = .ok (.iload_n 1, 1) := by decide +kernel
theorem dX12_nth_6 : decode cX12_nth 6 = .ok (.iconst 1, 1) := by decide +kernel
theorem dX12_nth_7 : decode cX12_nth 7 = .ok (.if_icmp .ge 5, 3) := by decide +kernel
theorem dX12_nth_10 : decode cX12_nth 10 = .ok (.iconst (-1), 1) := by decide +kernel
theorem dX12_nth_11 : decode cX12_nth 11 = .ok (.ireturn, 1) := by decide +kernel
theorem dX12_nth_12 : decode cX12_nth 12 = .ok (.aload_n 0, 1) := by decide +kernel
theorem dX12_nth_13 : decode cX12_nth 13 = .ok (.invokevirtual 369, 3) := by decide +kernel
theorem dX12_nth_16 : decode cX12_nth 16 = .ok (.iconst 0, 1) := by decide +kernel
theorem dX12_nth_17 : decode cX12_nth 17 = .ok (.istore_n 2, 1) := by decide +kernel
theorem dX12_nth_18 : decode cX12_nth 18 = .ok (.iconst 0, 1) := by decide +kernel
theorem dX12_nth_19 : decode cX12_nth 19 = .ok (.istore_n 3, 1) := by decide +kernel
theorem dX12_nth_20 : decode cX12_nth 20 = .ok (.iload_n 3, 1) := by decide +kernel
theorem dX12_nth_21 : decode cX12_nth 21 = .ok (.sipush 7776, 3) := by decide +kernel
theorem dX12_nth_24 : decode cX12_nth 24 = .ok (.if_icmp .ge 55, 3) := by decide +kernel
theorem dX12_nth_27 : decode cX12_nth 27 = .ok (.iload_n 2, 1) := by decide +kernel
theorem dX12_nth_28 : decode cX12_nth 28 = .ok (.aload_n 0, 1) := by decide +kernel
theorem dX12_nth_29 : decode cX12_nth 29 = .ok (.getfield 96, 3) := by decide +kernel
theorem dX12_nth_32 : decode cX12_nth 32 = .ok (.iload_n 3, 1) := by decide +kernel
theorem dX12_nth_33 : decode cX12_nth 33 = .ok (.iaload, 1) := by decide +kernel
theorem dX12_nth_34 : decode cX12_nth 34 = .ok (.ifCond .ne 7, 3) := by decide +kernel
theorem dX12_nth_37 : decode cX12_nth 37 = .ok (.iconst 1, 1) := by decide +kernel
theorem dX12_nth_38 : decode cX12_nth 38 = .ok (.goto 4, 3) := by decide +kernel
theorem dX12_nth_41 : decode cX12_nth 41 = .ok (.iconst 0, 1) := by decide +kernel
theorem dX12_nth_42 : decode cX12_nth 42 = .ok (.invokestatic 34, 3) := by decide +kernel
theorem dX12_nth_45 : decode cX12_nth 45 = .ok (.iadd, 1) := by decide +kernel
theorem dX12_nth_46 : decode cX12_nth 46 = .ok (.istore_n 2, 1) := by decide +kernel
theorem dX12_nth_47 : decode cX12_nth 47 = .ok (.aload_n 0, 1) := by decide +kernel
theorem dX12_nth_48 : decode cX12_nth 48 = .ok (.getfield 96, 3) := by decide +kernel
theorem dX12_nth_51 : decode cX12_nth 51 = .ok (.iload_n 3, 1) := by decide +kernel
theorem dX12_nth_52 : decode cX12_nth 52 = .ok (.iaload, 1) := by decide +kernel
theorem dX12_nth_53 : decode cX12_nth 53 = .ok (.ifCond .ne 20, 3) := by decide +kernel
theorem dX12_nth_56 : decode cX12_nth 56 = .ok (.iload_n 2, 1) := by decide +kernel
theorem dX12_nth_57 : decode cX12_nth 57 = .ok (.iload_n 1, 1) := by decide +kernel
theorem dX12_nth_58 : decode cX12_nth 58 = .ok (.if_icmp .ne 15, 3) := by decide +kernel
theorem dX12_nth_61 : decode cX12_nth 61 = .ok (.aload_n 0, 1) := by decide +kernel
theorem dX12_nth_62 : decode cX12_nth 62 = .ok (.iconst 0, 1) := by decide +kernel
theorem dX12_nth_63 : decode cX12_nth 63 = .ok (.putfield 11, 3) := by decide +kernel
theorem dX12_nth_66 : decode cX12_nth 66 = .ok (.aload_n 0, 1) := by decide +kernel
theorem dX12_nth_67 : decode cX12_nth 67 = .ok (.iload_n 3, 1) := by decide +kernel
theorem dX12_nth_68 : decode cX12_nth 68 = .ok (.invokevirtual 372, 3) := by decide +kernel
theorem dX12_nth_71 : decode cX12_nth 71 = .ok (.iconst 0, 1) := by decide +kernel
theorem dX12_nth_72 : decode cX12_nth 72 = .ok (.ireturn, 1) := by decide +kernel
theorem dX12_nth_73 : decode cX12_nth 73 = .ok (.iinc 3 1, 3) := by decide +kernel
theorem dX12_nth_76 : decode cX12_nth 76 = .ok (.goto (-56), 3) := by decide +kernel
theorem dX12_nth_79 : decode cX12_nth 79 = .ok (.bipush (-2), 2) := by decide +kernel
theorem dX12_nth_81 : decode cX12_nth 81 = .ok (.ireturn, 1) := by decide +kernel
def f_X12_nth_L20 (a0 : Nat) (x1 : Int32) (m4 : jM) (u6 : Int32) (u7 : Int32) : Option ((Int32 × Int32) ⊕ ((Int32) ⊕ (Unit))) :=
  (if (7776 : Int32) ≤ u7 then some (.inr (.inr (()))) else jrd (m4.1 (a0 + 15)) u7 7776 (fun v10 => jbd (u6 + (f_X12_flag ((if v10 = (0 : Int32) then (1 : Int32) else (0 : Int32)))) : Int32) (fun v13 => jrd (m4.1 (a0 + 15)) u7 7776 (fun v16 => (if v16 = (0 : Int32) then (if v13 = x1 then some (.inr (.inl u7)) else some (.inl ((v13, u7 + (1 : Int32))))) else some (.inl ((v13, u7 + (1 : Int32)))))))))
def f_X12_nth (a0 : Nat) (x1 : Int32) (μ : jM) : Option (Int32 × jM) :=
  jbd (jsi μ a0 0 (0 : Int32)) (fun m1 => (if (1 : Int32) ≤ x1 then jcl (f_X12_tries a0 m1) (fun m4 => jcl (jloop (fun (s : Int32 × Int32) => f_X12_nth_L20 a0 x1 m4 s.1 s.2) jfu (((0 : Int32), (0 : Int32)))) (fun w20 => match w20 with | .inl w20 => jbd (jsi m4 a0 1 (0 : Int32)) (fun m24 => jcl (f_X12_entersRow a0 w20 m24) (fun m26 => some (((0 : Int32), m26)))) | .inr w20 => some (((-2 : Int32), m4)))) else some (((-1 : Int32), m1))))
set_option maxHeartbeats 4000000 in
set_option maxRecDepth 100000 in
theorem c_X12_nth {l : Launch} {G : jG} {L : jL} (hL : jOKL L) {a0 : Nat} {x1 : Int32} (ka0 : jK L a0 12) {μ μ' : jM} {r : Int32} (h : f_X12_nth a0 x1 μ = some ((r, μ'))) : jCt l G L 6 yX12_nth cX12_nth 4 (some .int) [.ref (L.2.2 a0), .int x1] μ (some (.int r)) μ' := by
  refine jCt_of (by decide) (Nat.le_of_ble_eq_true rfl) (fun X hC hX hR => ?_)
  subst hX
  have hC : jC X G cX12_nth 4 RX12 (some .int) := hC
  unfold f_X12_nth at h
  show jJ X G 4 L 0 0 (jQM X G L (some (.int r)) μ' 0 0) 0 [(0, .ref (L.2.2 a0)), (1, .int x1)] [] μ
  refine j_aload_n (pc := 0) hC 0 0 dX12_nth_0 rfl rfl ?_
  refine j_iconst (pc := 1) hC (0 : Int32) dX12_nth_1 (by decide) ?_
  obtain ⟨m1, e2, h⟩ := jbd_ex h
  refine jpi_12 (pc := 2) hC 0 (by decide) rfl kf_X12_1 dX12_nth_2 rfl (by decide) ka0 e2 ?_
  refine j_iload_n (pc := 5) hC 1 1 dX12_nth_5 rfl rfl ?_
  refine j_iconst (pc := 6) hC (1 : Int32) dX12_nth_6 (by decide) ?_
  refine j_icmp_ge (pc := 7) hC 12 dX12_nth_7 (by decide) (fun c3 => ?_) (fun c3 => ?_)
  · rw [if_pos c3] at h
    refine j_aload_n (pc := 12) hC 0 0 dX12_nth_12 rfl rfl ?_
    obtain ⟨m4, e5, h⟩ := jcl_some h
    refine j_vv (pc := 13) hC hR [] iy_X12_tries (q := (RX12, TX12, 40)) (ci := 12) rfl rfl (by decide) km_X12_369 dX12_nth_13 rfl (by decide) ka0 (c_X12_tries hL ka0 e5) (by decide) (Nat.le_of_ble_eq_true rfl) rfl ?_
    refine j_iconst (pc := 16) hC (0 : Int32) dX12_nth_16 (by decide) ?_
    refine j_istore_n (pc := 17) hC 2 [(2, .int (0 : Int32)), (0, .ref (L.2.2 a0)), (1, .int x1)] dX12_nth_17 rfl (by decide) rfl rfl ?_
    refine j_iconst (pc := 18) hC (0 : Int32) dX12_nth_18 (by decide) ?_
    refine j_istore_n (pc := 19) hC 3 [(3, .int (0 : Int32)), (2, .int (0 : Int32)), (0, .ref (L.2.2 a0)), (1, .int x1)] dX12_nth_19 rfl (by decide) rfl rfl ?_
    obtain ⟨w20, hw21, h⟩ := jcl_some h
    refine j_lv [2, 3, 1, 0] rfl ?_
    refine j_loop (step := (fun (s : Int32 × Int32) => f_X12_nth_L20 a0 x1 m4 s.1 s.2)) (P := (fun (s : Int32 × Int32) => jJ X G 4 L 0 0 (jQM X G L (some (.int r)) μ' 0 0) 20 [(0, .ref (L.2.2 a0)), (1, .int x1), (2, .int s.1), (3, .int s.2)] [] m4)) (R := (fun (e : (Int32) ⊕ (Unit)) => match e with | .inl e => jJ X G 4 L 0 0 (jQM X G L (some (.int r)) μ' 0 0) 61 [(0, .ref (L.2.2 a0)), (3, .int e)] [] m4 | .inr e => jJ X G 4 L 0 0 (jQM X G L (some (.int r)) μ' 0 0) 79 [] [] m4)) ?_ jfu (((0 : Int32), (0 : Int32))) w20 hw21 ?_
    · intro s22 o h hk
      obtain ⟨u6, u7⟩ := s22
      change f_X12_nth_L20 a0 x1 m4 u6 u7 = some o at h
      unfold f_X12_nth_L20 at h
      show jJ X G 4 L 0 0 (jQM X G L (some (.int r)) μ' 0 0) 20 [(0, .ref (L.2.2 a0)), (1, .int x1), (2, .int u6), (3, .int u7)] [] m4
      refine j_iload_n (pc := 20) hC 3 3 dX12_nth_20 rfl rfl ?_
      refine j_sipush (pc := 21) hC (7776 : Int32) dX12_nth_21 (by decide) ?_
      refine j_icmp_ge (pc := 24) hC 79 dX12_nth_24 (by decide) (fun c8 => ?_) (fun c8 => ?_)
      · rw [if_pos c8] at h
        obtain rfl := Option.some.inj h
        have hk : jJ X G 4 L 0 0 (jQM X G L (some (.int r)) μ' 0 0) 79 [] [] m4 := hk
        exact j_lv [] rfl hk
      · rw [if_neg c8] at h
        refine j_iload_n (pc := 27) hC 2 2 dX12_nth_27 rfl rfl ?_
        refine j_aload_n (pc := 28) hC 0 0 dX12_nth_28 rfl rfl ?_
        refine jgr_12 (pc := 29) hC 26 (by decide) rfl kf_X12_96 dX12_nth_29 ka0 (ly_12_26 hL ka0).1 ?_
        refine j_iload_n (pc := 32) hC 3 3 dX12_nth_32 rfl rfl ?_
        obtain ⟨i9, v10, e11, h⟩ := jrd_some h
        refine j_iald (pc := 33) hC dX12_nth_33 (ly_12_26 hL ka0).2.1 (ly_12_26 hL ka0).2.2 i9 e11 ?_
        refine jmg (B := jJ X G 4 L 0 0 (jQM X G L (some (.int r)) μ' 0 0) 42 [(0, .ref (L.2.2 a0)), (1, .int x1), (2, .int u6), (3, .int u7)] [.int ((if v10 = (0 : Int32) then (1 : Int32) else (0 : Int32))), .int u6] m4) (fun hj => ?_) ?_
        · refine j_if_ne (pc := 34) hC 41 dX12_nth_34 (by decide) (fun c12 => ?_) (fun c12 => ?_)
          · rw [if_neg c12] at hj
            refine j_iconst (pc := 41) hC (0 : Int32) dX12_nth_41 (by decide) ?_
            exact hj
          · rw [if_pos c12] at hj
            refine j_iconst (pc := 37) hC (1 : Int32) dX12_nth_37 (by decide) ?_
            refine j_goto (pc := 38) hC 42 dX12_nth_38 (by decide) ?_
            exact hj
        refine j_si (pc := 42) hC hR [.int ((if v10 = (0 : Int32) then (1 : Int32) else (0 : Int32)))] iy_X12_flag km_X12_34 dX12_nth_42 rfl (by decide) (c_X12_flag hL  rfl) (by decide) (Nat.le_of_ble_eq_true rfl) rfl ?_
        refine j_iadd (pc := 45) hC dX12_nth_45 ?_
        obtain ⟨v13, e14, h⟩ := jbd_ex h
        refine j_istore_n (pc := 46) hC 2 [(2, .int v13), (0, .ref (L.2.2 a0)), (1, .int x1), (3, .int u7)] dX12_nth_46 rfl (by decide) e14 rfl ?_
        refine j_aload_n (pc := 47) hC 0 1 dX12_nth_47 rfl rfl ?_
        refine jgr_12 (pc := 48) hC 26 (by decide) rfl kf_X12_96 dX12_nth_48 ka0 (ly_12_26 hL ka0).1 ?_
        refine j_iload_n (pc := 51) hC 3 3 dX12_nth_51 rfl rfl ?_
        obtain ⟨i15, v16, e17, h⟩ := jrd_some h
        refine j_iald (pc := 52) hC dX12_nth_52 (ly_12_26 hL ka0).2.1 (ly_12_26 hL ka0).2.2 i15 e17 ?_
        refine j_if_ne (pc := 53) hC 73 dX12_nth_53 (by decide) (fun c18 => ?_) (fun c18 => ?_)
        · rw [if_neg c18] at h
          refine j_iinc (pc := 73) hC 3 (u7 + (1 : Int32)) [(3, .int (u7 + (1 : Int32))), (2, .int v13), (0, .ref (L.2.2 a0)), (1, .int x1)] dX12_nth_73 rfl rfl (by decide) rfl ?_
          refine j_goto (pc := 76) hC 20 dX12_nth_76 (by decide) ?_
          obtain rfl := Option.some.inj h
          have hk : jJ X G 4 L 0 0 (jQM X G L (some (.int r)) μ' 0 0) 20 [(0, .ref (L.2.2 a0)), (1, .int x1), (2, .int v13), (3, .int (u7 + (1 : Int32)))] [] m4 := hk
          exact j_lv [2, 3, 1, 0] rfl hk
        · rw [if_pos c18] at h
          refine j_iload_n (pc := 56) hC 2 0 dX12_nth_56 rfl rfl ?_
          refine j_iload_n (pc := 57) hC 1 2 dX12_nth_57 rfl rfl ?_
          refine j_icmp_ne (pc := 58) hC 73 dX12_nth_58 (by decide) (fun c19 => ?_) (fun c19 => ?_)
          · rw [if_neg c19] at h
            refine j_iinc (pc := 73) hC 3 (u7 + (1 : Int32)) [(3, .int (u7 + (1 : Int32))), (2, .int v13), (0, .ref (L.2.2 a0)), (1, .int x1)] dX12_nth_73 rfl rfl (by decide) rfl ?_
            refine j_goto (pc := 76) hC 20 dX12_nth_76 (by decide) ?_
            obtain rfl := Option.some.inj h
            have hk : jJ X G 4 L 0 0 (jQM X G L (some (.int r)) μ' 0 0) 20 [(0, .ref (L.2.2 a0)), (1, .int x1), (2, .int v13), (3, .int (u7 + (1 : Int32)))] [] m4 := hk
            exact j_lv [2, 3, 1, 0] rfl hk
          · rw [if_pos c19] at h
            obtain rfl := Option.some.inj h
            have hk : jJ X G 4 L 0 0 (jQM X G L (some (.int r)) μ' 0 0) 61 [(0, .ref (L.2.2 a0)), (3, .int u7)] [] m4 := hk
            exact j_lv [1, 3] rfl hk
    · cases w20 with
      | inl w20 =>
        try dsimp only at h
        obtain ⟨z23, rfl⟩ : ∃ y, y = w20 := ⟨_, rfl⟩
        try dsimp only at h
        show jJ X G 4 L 0 0 (jQM X G L (some (.int r)) μ' 0 0) 61 [(0, .ref (L.2.2 a0)), (3, .int z23)] [] m4
        refine j_aload_n (pc := 61) hC 0 0 dX12_nth_61 rfl rfl ?_
        refine j_iconst (pc := 62) hC (0 : Int32) dX12_nth_62 (by decide) ?_
        obtain ⟨m24, e25, h⟩ := jbd_ex h
        refine jpi_12 (pc := 63) hC 1 (by decide) rfl kf_X12_11 dX12_nth_63 rfl (by decide) ka0 e25 ?_
        refine j_aload_n (pc := 66) hC 0 0 dX12_nth_66 rfl rfl ?_
        refine j_iload_n (pc := 67) hC 3 1 dX12_nth_67 rfl rfl ?_
        obtain ⟨m26, e27, h⟩ := jcl_some h
        refine j_vv (pc := 68) hC hR [.int z23] iy_X12_entersRow (q := (RX12, TX12, 40)) (ci := 12) rfl rfl (by decide) km_X12_372 dX12_nth_68 rfl (by decide) ka0 (c_X12_entersRow hL ka0 e27) (by decide) (Nat.le_of_ble_eq_true rfl) rfl ?_
        refine j_iconst (pc := 71) hC (0 : Int32) dX12_nth_71 (by decide) ?_
        obtain ⟨rfl, rfl⟩ := Prod.mk.inj (Option.some.inj h)
        exact j_iret (pc := 72) hC dX12_nth_72 rfl
      | inr w20 =>
        try dsimp only at h
        try dsimp only at h
        show jJ X G 4 L 0 0 (jQM X G L (some (.int r)) μ' 0 0) 79 [] [] m4
        refine j_bipush (pc := 79) hC (-2 : Int32) dX12_nth_79 (by decide) ?_
        obtain ⟨rfl, rfl⟩ := Prod.mk.inj (Option.some.inj h)
        exact j_iret (pc := 81) hC dX12_nth_81 rfl
  · rw [if_neg c3] at h
    refine j_iconst (pc := 10) hC (-1 : Int32) dX12_nth_10 (by decide) ?_
    obtain ⟨rfl, rfl⟩ := Prod.mk.inj (Option.some.inj h)
    exact j_iret (pc := 11) hC dX12_nth_11 rfl
theorem dX12_always_0 : decode cX12_always 0 = .ok (.aload_n 0, 1) := by decide +kernel
theorem dX12_always_1 : decode cX12_always 1 = .ok (.iconst 0, 1) := by decide +kernel
theorem dX12_always_2 : decode cX12_always 2 = .ok (.putfield 1, 3) := by decide +kernel
theorem dX12_always_5 : decode cX12_always 5 = .ok (.aload_n 0, 1) := by decide +kernel
theorem dX12_always_6 : decode cX12_always 6 = .ok (.invokevirtual 369, 3) := by decide +kernel
theorem dX12_always_9 : decode cX12_always 9 = .ok (.iconst (-1), 1) := by decide +kernel
theorem dX12_always_10 : decode cX12_always 10 = .ok (.istore_n 1, 1) := by decide +kernel
theorem dX12_always_11 : decode cX12_always 11 = .ok (.bipush 31, 2) := by decide +kernel
theorem dX12_always_13 : decode cX12_always 13 = .ok (.istore_n 2, 1) := by decide +kernel
theorem dX12_always_14 : decode cX12_always 14 = .ok (.iconst 0, 1) := by decide +kernel
theorem dX12_always_15 : decode cX12_always 15 = .ok (.istore_n 3, 1) := by decide +kernel
theorem dX12_always_16 : decode cX12_always 16 = .ok (.iload_n 3, 1) := by decide +kernel
theorem dX12_always_17 : decode cX12_always 17 = .ok (.sipush 7776, 3) := by decide +kernel
theorem dX12_always_20 : decode cX12_always 20 = .ok (.if_icmp .ge 76, 3) := by decide +kernel
theorem dX12_always_23 : decode cX12_always 23 = .ok (.aload_n 0, 1) := by decide +kernel
theorem dX12_always_24 : decode cX12_always 24 = .ok (.getfield 96, 3) := by decide +kernel
theorem dX12_always_27 : decode cX12_always 27 = .ok (.iload_n 3, 1) := by decide +kernel
theorem dX12_always_28 : decode cX12_always 28 = .ok (.iaload, 1) := by decide +kernel
theorem dX12_always_29 : decode cX12_always 29 = .ok (.ifCond .eq 6, 3) := by decide +kernel
theorem dX12_always_32 : decode cX12_always 32 = .ok (.goto 58, 3) := by decide +kernel
theorem dX12_always_35 : decode cX12_always 35 = .ok (.iload_n 1, 1) := by decide +kernel
theorem dX12_always_36 : decode cX12_always 36 = .ok (.ifCond .ge 7, 3) := by decide +kernel
theorem dX12_always_39 : decode cX12_always 39 = .ok (.iload_n 3, 1) := by decide +kernel
theorem dX12_always_40 : decode cX12_always 40 = .ok (.goto 4, 3) := by decide +kernel
theorem dX12_always_43 : decode cX12_always 43 = .ok (.iload_n 1, 1) := by decide +kernel
theorem dX12_always_44 : decode cX12_always 44 = .ok (.istore_n 1, 1) := by decide +kernel
theorem dX12_always_45 : decode cX12_always 45 = .ok (.iconst 0, 1) := by decide +kernel
theorem dX12_always_46 : decode cX12_always 46 = .ok (.istore 4, 2) := by decide +kernel
theorem dX12_always_48 : decode cX12_always 48 = .ok (.iload 4, 2) := by decide +kernel
theorem dX12_always_50 : decode cX12_always 50 = .ok (.iconst 5, 1) := by decide +kernel
theorem dX12_always_51 : decode cX12_always 51 = .ok (.if_icmp .ge 39, 3) := by decide +kernel
theorem dX12_always_54 : decode cX12_always 54 = .ok (.iload_n 2, 1) := by decide +kernel
theorem dX12_always_55 : decode cX12_always 55 = .ok (.iload_n 3, 1) := by decide +kernel
theorem dX12_always_56 : decode cX12_always 56 = .ok (.iload 4, 2) := by decide +kernel
theorem dX12_always_58 : decode cX12_always 58 = .ok (.invokestatic 363, 3) := by decide +kernel
theorem dX12_always_61 : decode cX12_always 61 = .ok (.iload_n 1, 1) := by decide +kernel
theorem dX12_always_62 : decode cX12_always 62 = .ok (.iload 4, 2) := by decide +kernel
theorem dX12_always_64 : decode cX12_always 64 = .ok (.invokestatic 363, 3) := by decide +kernel
theorem dX12_always_67 : decode cX12_always 67 = .ok (.if_icmp .ne 8, 3) := by decide +kernel
theorem dX12_always_70 : decode cX12_always 70 = .ok (.bipush 31, 2) := by decide +kernel
theorem dX12_always_72 : decode cX12_always 72 = .ok (.goto 10, 3) := by decide +kernel
theorem dX12_always_75 : decode cX12_always 75 = .ok (.bipush 31, 2) := by decide +kernel
theorem dX12_always_77 : decode cX12_always 77 = .ok (.iconst 1, 1) := by decide +kernel
theorem dX12_always_78 : decode cX12_always 78 = .ok (.iload 4, 2) := by decide +kernel
theorem dX12_always_80 : decode cX12_always 80 = .ok (.ishl, 1) := by decide +kernel
theorem dX12_always_81 : decode cX12_always 81 = .ok (.isub, 1) := by decide +kernel
theorem dX12_always_82 : decode cX12_always 82 = .ok (.iand, 1) := by decide +kernel
theorem dX12_always_83 : decode cX12_always 83 = .ok (.istore_n 2, 1) := by decide +kernel
theorem dX12_always_84 : decode cX12_always 84 = .ok (.iinc 4 1, 3) := by decide +kernel
theorem dX12_always_87 : decode cX12_always 87 = .ok (.goto (-39), 3) := by decide +kernel
theorem dX12_always_90 : decode cX12_always 90 = .ok (.iinc 3 1, 3) := by decide +kernel
theorem dX12_always_93 : decode cX12_always 93 = .ok (.goto (-77), 3) := by decide +kernel
theorem dX12_always_96 : decode cX12_always 96 = .ok (.iload_n 1, 1) := by decide +kernel
theorem dX12_always_97 : decode cX12_always 97 = .ok (.ifCond .ge 6, 3) := by decide +kernel
theorem dX12_always_100 : decode cX12_always 100 = .ok (.bipush (-2), 2) := by decide +kernel
theorem dX12_always_102 : decode cX12_always 102 = .ok (.ireturn, 1) := by decide +kernel
theorem dX12_always_103 : decode cX12_always 103 = .ok (.aload_n 0, 1) := by decide +kernel
theorem dX12_always_104 : decode cX12_always 104 = .ok (.iconst 0, 1) := by decide +kernel
theorem dX12_always_105 : decode cX12_always 105 = .ok (.putfield 11, 3) := by decide +kernel
theorem dX12_always_108 : decode cX12_always 108 = .ok (.iconst 0, 1) := by decide +kernel
theorem dX12_always_109 : decode cX12_always 109 = .ok (.istore_n 3, 1) := by decide +kernel
theorem dX12_always_110 : decode cX12_always 110 = .ok (.iload_n 3, 1) := by decide +kernel
theorem dX12_always_111 : decode cX12_always 111 = .ok (.iconst 5, 1) := by decide +kernel
theorem dX12_always_112 : decode cX12_always 112 = .ok (.if_icmp .ge 27, 3) := by decide +kernel
theorem dX12_always_115 : decode cX12_always 115 = .ok (.iload_n 2, 1) := by decide +kernel
theorem dX12_always_116 : decode cX12_always 116 = .ok (.iload_n 3, 1) := by decide +kernel
theorem dX12_always_117 : decode cX12_always 117 = .ok (.invokestatic 208, 3) := by decide +kernel
theorem dX12_always_120 : decode cX12_always 120 = .ok (.ifCond .eq 13, 3) := by decide +kernel
theorem dX12_always_123 : decode cX12_always 123 = .ok (.aload_n 0, 1) := by decide +kernel
theorem dX12_always_124 : decode cX12_always 124 = .ok (.iload_n 1, 1) := by decide +kernel
theorem dX12_always_125 : decode cX12_always 125 = .ok (.iload_n 3, 1) := by decide +kernel
theorem dX12_always_126 : decode cX12_always 126 = .ok (.invokestatic 363, 3) := by decide +kernel
theorem dX12_always_129 : decode cX12_always 129 = .ok (.i2l, 1) := by decide +kernel
theorem dX12_always_130 : decode cX12_always 130 = .ok (.invokevirtual 146, 3) := by decide +kernel
theorem dX12_always_133 : decode cX12_always 133 = .ok (.iinc 3 1, 3) := by decide +kernel
theorem dX12_always_136 : decode cX12_always 136 = .ok (.goto (-26), 3) := by decide +kernel
theorem dX12_always_139 : decode cX12_always 139 = .ok (.iload_n 2, 1) := by decide +kernel
theorem dX12_always_140 : decode cX12_always 140 = .ok (.ireturn, 1) := by decide +kernel
def f_X12_always_L48 (u7 : Int32) (v14 : Int32) (u16 : Int32) (u17 : Int32) : Option ((Int32 × Int32) ⊕ (Int32)) :=
  (if (5 : Int32) ≤ u17 then some (.inr u16) else jcl (f_X12_valueOf u7 u17) (fun v19 => jcl (f_X12_valueOf v14 u17) (fun v21 => jbd (u16 &&& ((if v19 = v21 then (31 : Int32) else (31 : Int32) - ((1 : Int32) <<< (u17 &&& 31)))) : Int32) (fun v24 => some (.inl ((v24, u17 + (1 : Int32))))))))
def f_X12_always_L16 (a0 : Nat) (m3 : jM) (u5 : Int32) (u6 : Int32) (u7 : Int32) : Option ((Int32 × Int32 × Int32) ⊕ (Int32 × Int32)) :=
  (if (7776 : Int32) ≤ u7 then some (.inr ((u5, u6))) else jrd (m3.1 (a0 + 15)) u7 7776 (fun v10 => (if v10 = (0 : Int32) then jbd ((if (0 : Int32) ≤ u5 then u5 else u7) : Int32) (fun v14 => jcl (jloop (fun (s : Int32 × Int32) => f_X12_always_L48 u7 v14 s.1 s.2) jfu ((u6, (0 : Int32)))) (fun w26 => some (.inl ((v14, w26, u7 + (1 : Int32)))))) else some (.inl ((u5, u6, u7 + (1 : Int32)))))))
def f_X12_always_L110 (a0 : Nat) (z33 : Int32) (z34 : Int32) (u38 : Int32) (m39 : jM) : Option ((Int32 × jM) ⊕ (jM)) :=
  (if (5 : Int32) ≤ u38 then some (.inr m39) else (if (f_X12_has z34 u38) = (0 : Int32) then some (.inl ((u38 + (1 : Int32), m39))) else jcl (f_X12_valueOf z33 u38) (fun v42 => jcl (f_X12_enters a0 v42.toInt64 m39) (fun m44 => some (.inl ((u38 + (1 : Int32), m44)))))))
def f_X12_always (a0 : Nat) (μ : jM) : Option (Int32 × jM) :=
  jbd (jsi μ a0 0 (0 : Int32)) (fun m1 => jcl (f_X12_tries a0 m1) (fun m3 => jcl (jloop (fun (s : Int32 × Int32 × Int32) => f_X12_always_L16 a0 m3 s.1 s.2.1 s.2.2) jfu (((-1 : Int32), (31 : Int32), (0 : Int32)))) (fun w30 => (if (0 : Int32) ≤ w30.1 then jbd (jsi m3 a0 1 (0 : Int32)) (fun m36 => jcl (jloop (fun (s : Int32 × jM) => f_X12_always_L110 a0 w30.1 w30.2 s.1 s.2) jfu (((0 : Int32), m36))) (fun w46 => some ((w30.2, w46)))) else some (((-2 : Int32), m3))))))
set_option maxHeartbeats 4000000 in
set_option maxRecDepth 100000 in
theorem c_X12_always {l : Launch} {G : jG} {L : jL} (hL : jOKL L) {a0 : Nat} (ka0 : jK L a0 12) {μ μ' : jM} {r : Int32} (h : f_X12_always a0 μ = some ((r, μ'))) : jCt l G L 6 yX12_always cX12_always 5 (some .int) [.ref (L.2.2 a0)] μ (some (.int r)) μ' := by
  refine jCt_of (by decide) (Nat.le_of_ble_eq_true rfl) (fun X hC hX hR => ?_)
  subst hX
  have hC : jC X G cX12_always 5 RX12 (some .int) := hC
  unfold f_X12_always at h
  show jJ X G 5 L 0 0 (jQM X G L (some (.int r)) μ' 0 0) 0 [(0, .ref (L.2.2 a0))] [] μ
  refine j_aload_n (pc := 0) hC 0 0 dX12_always_0 rfl rfl ?_
  refine j_iconst (pc := 1) hC (0 : Int32) dX12_always_1 (by decide) ?_
  obtain ⟨m1, e2, h⟩ := jbd_ex h
  refine jpi_12 (pc := 2) hC 0 (by decide) rfl kf_X12_1 dX12_always_2 rfl (by decide) ka0 e2 ?_
  refine j_aload_n (pc := 5) hC 0 0 dX12_always_5 rfl rfl ?_
  obtain ⟨m3, e4, h⟩ := jcl_some h
  refine j_vv (pc := 6) hC hR [] iy_X12_tries (q := (RX12, TX12, 40)) (ci := 12) rfl rfl (by decide) km_X12_369 dX12_always_6 rfl (by decide) ka0 (c_X12_tries hL ka0 e4) (by decide) (Nat.le_of_ble_eq_true rfl) rfl ?_
  refine j_iconst (pc := 9) hC (-1 : Int32) dX12_always_9 (by decide) ?_
  refine j_istore_n (pc := 10) hC 1 [(1, .int (-1 : Int32)), (0, .ref (L.2.2 a0))] dX12_always_10 rfl (by decide) rfl rfl ?_
  refine j_bipush (pc := 11) hC (31 : Int32) dX12_always_11 (by decide) ?_
  refine j_istore_n (pc := 13) hC 2 [(2, .int (31 : Int32)), (1, .int (-1 : Int32)), (0, .ref (L.2.2 a0))] dX12_always_13 rfl (by decide) rfl rfl ?_
  refine j_iconst (pc := 14) hC (0 : Int32) dX12_always_14 (by decide) ?_
  refine j_istore_n (pc := 15) hC 3 [(3, .int (0 : Int32)), (2, .int (31 : Int32)), (1, .int (-1 : Int32)), (0, .ref (L.2.2 a0))] dX12_always_15 rfl (by decide) rfl rfl ?_
  obtain ⟨w30, hw31, h⟩ := jcl_some h
  refine j_lv [3, 2, 1, 0] rfl ?_
  refine j_loop (step := (fun (s : Int32 × Int32 × Int32) => f_X12_always_L16 a0 m3 s.1 s.2.1 s.2.2)) (P := (fun (s : Int32 × Int32 × Int32) => jJ X G 5 L 0 0 (jQM X G L (some (.int r)) μ' 0 0) 16 [(0, .ref (L.2.2 a0)), (1, .int s.1), (2, .int s.2.1), (3, .int s.2.2)] [] m3)) (R := (fun (e : Int32 × Int32) => jJ X G 5 L 0 0 (jQM X G L (some (.int r)) μ' 0 0) 96 [(0, .ref (L.2.2 a0)), (1, .int e.1), (2, .int e.2)] [] m3)) ?_ jfu (((-1 : Int32), (31 : Int32), (0 : Int32))) w30 hw31 ?_
  · intro s32 o h hk
    obtain ⟨u5, u6, u7⟩ := s32
    change f_X12_always_L16 a0 m3 u5 u6 u7 = some o at h
    unfold f_X12_always_L16 at h
    show jJ X G 5 L 0 0 (jQM X G L (some (.int r)) μ' 0 0) 16 [(0, .ref (L.2.2 a0)), (1, .int u5), (2, .int u6), (3, .int u7)] [] m3
    refine j_iload_n (pc := 16) hC 3 3 dX12_always_16 rfl rfl ?_
    refine j_sipush (pc := 17) hC (7776 : Int32) dX12_always_17 (by decide) ?_
    refine j_icmp_ge (pc := 20) hC 96 dX12_always_20 (by decide) (fun c8 => ?_) (fun c8 => ?_)
    · rw [if_pos c8] at h
      obtain rfl := Option.some.inj h
      have hk : jJ X G 5 L 0 0 (jQM X G L (some (.int r)) μ' 0 0) 96 [(0, .ref (L.2.2 a0)), (1, .int u5), (2, .int u6)] [] m3 := hk
      exact j_lv [0, 1, 2] rfl hk
    · rw [if_neg c8] at h
      refine j_aload_n (pc := 23) hC 0 0 dX12_always_23 rfl rfl ?_
      refine jgr_12 (pc := 24) hC 26 (by decide) rfl kf_X12_96 dX12_always_24 ka0 (ly_12_26 hL ka0).1 ?_
      refine j_iload_n (pc := 27) hC 3 3 dX12_always_27 rfl rfl ?_
      obtain ⟨i9, v10, e11, h⟩ := jrd_some h
      refine j_iald (pc := 28) hC dX12_always_28 (ly_12_26 hL ka0).2.1 (ly_12_26 hL ka0).2.2 i9 e11 ?_
      refine j_if_eq (pc := 29) hC 35 dX12_always_29 (by decide) (fun c12 => ?_) (fun c12 => ?_)
      · rw [if_pos c12] at h
        refine j_iload_n (pc := 35) hC 1 1 dX12_always_35 rfl rfl ?_
        refine jmg (B := jJ X G 5 L 0 0 (jQM X G L (some (.int r)) μ' 0 0) 44 [(0, .ref (L.2.2 a0)), (1, .int u5), (2, .int u6), (3, .int u7)] [.int ((if (0 : Int32) ≤ u5 then u5 else u7))] m3) (fun hj => ?_) ?_
        · refine j_if_ge (pc := 36) hC 43 dX12_always_36 (by decide) (fun c13 => ?_) (fun c13 => ?_)
          · rw [if_pos c13] at hj
            refine j_iload_n (pc := 43) hC 1 1 dX12_always_43 rfl rfl ?_
            exact hj
          · rw [if_neg c13] at hj
            refine j_iload_n (pc := 39) hC 3 3 dX12_always_39 rfl rfl ?_
            refine j_goto (pc := 40) hC 44 dX12_always_40 (by decide) ?_
            exact hj
        obtain ⟨v14, e15, h⟩ := jbd_ex h
        refine j_istore_n (pc := 44) hC 1 [(1, .int v14), (0, .ref (L.2.2 a0)), (2, .int u6), (3, .int u7)] dX12_always_44 rfl (by decide) e15 rfl ?_
        refine j_iconst (pc := 45) hC (0 : Int32) dX12_always_45 (by decide) ?_
        refine j_istore (pc := 46) hC [(4, .int (0 : Int32)), (1, .int v14), (0, .ref (L.2.2 a0)), (2, .int u6), (3, .int u7)] dX12_always_46 (by decide) rfl rfl ?_
        obtain ⟨w26, hw27, h⟩ := jcl_some h
        refine j_lv [2, 1, 3, 4, 0] rfl ?_
        refine j_loop (step := (fun (s : Int32 × Int32) => f_X12_always_L48 u7 v14 s.1 s.2)) (P := (fun (s : Int32 × Int32) => jJ X G 5 L 0 0 (jQM X G L (some (.int r)) μ' 0 0) 48 [(0, .ref (L.2.2 a0)), (1, .int v14), (2, .int s.1), (3, .int u7), (4, .int s.2)] [] m3)) (R := (fun (e : Int32) => jJ X G 5 L 0 0 (jQM X G L (some (.int r)) μ' 0 0) 90 [(0, .ref (L.2.2 a0)), (1, .int v14), (2, .int e), (3, .int u7)] [] m3)) ?_ jfu ((u6, (0 : Int32))) w26 hw27 ?_
        · intro s28 o h hk
          obtain ⟨u16, u17⟩ := s28
          change f_X12_always_L48 u7 v14 u16 u17 = some o at h
          unfold f_X12_always_L48 at h
          show jJ X G 5 L 0 0 (jQM X G L (some (.int r)) μ' 0 0) 48 [(0, .ref (L.2.2 a0)), (1, .int v14), (2, .int u16), (3, .int u7), (4, .int u17)] [] m3
          refine j_iload (pc := 48) hC 4 dX12_always_48 rfl ?_
          refine j_iconst (pc := 50) hC (5 : Int32) dX12_always_50 (by decide) ?_
          refine j_icmp_ge (pc := 51) hC 90 dX12_always_51 (by decide) (fun c18 => ?_) (fun c18 => ?_)
          · rw [if_pos c18] at h
            obtain rfl := Option.some.inj h
            have hk : jJ X G 5 L 0 0 (jQM X G L (some (.int r)) μ' 0 0) 90 [(0, .ref (L.2.2 a0)), (1, .int v14), (2, .int u16), (3, .int u7)] [] m3 := hk
            exact j_lv [0, 1, 2, 3] rfl hk
          · rw [if_neg c18] at h
            refine j_iload_n (pc := 54) hC 2 2 dX12_always_54 rfl rfl ?_
            refine j_iload_n (pc := 55) hC 3 3 dX12_always_55 rfl rfl ?_
            refine j_iload (pc := 56) hC 4 dX12_always_56 rfl ?_
            obtain ⟨v19, e20, h⟩ := jcl_some h
            refine j_si (pc := 58) hC hR [.int u7, .int u17] iy_X12_valueOf km_X12_363 dX12_always_58 rfl (by decide) (c_X12_valueOf hL  e20) (by decide) (Nat.le_of_ble_eq_true rfl) rfl ?_
            refine j_iload_n (pc := 61) hC 1 1 dX12_always_61 rfl rfl ?_
            refine j_iload (pc := 62) hC 4 dX12_always_62 rfl ?_
            obtain ⟨v21, e22, h⟩ := jcl_some h
            refine j_si (pc := 64) hC hR [.int v14, .int u17] iy_X12_valueOf km_X12_363 dX12_always_64 rfl (by decide) (c_X12_valueOf hL  e22) (by decide) (Nat.le_of_ble_eq_true rfl) rfl ?_
            refine jmg (B := jJ X G 5 L 0 0 (jQM X G L (some (.int r)) μ' 0 0) 82 [(0, .ref (L.2.2 a0)), (1, .int v14), (2, .int u16), (3, .int u7), (4, .int u17)] [.int ((if v19 = v21 then (31 : Int32) else (31 : Int32) - ((1 : Int32) <<< (u17 &&& 31)))), .int u16] m3) (fun hj => ?_) ?_
            · refine j_icmp_ne (pc := 67) hC 75 dX12_always_67 (by decide) (fun c23 => ?_) (fun c23 => ?_)
              · rw [if_neg c23] at hj
                refine j_bipush (pc := 75) hC (31 : Int32) dX12_always_75 (by decide) ?_
                refine j_iconst (pc := 77) hC (1 : Int32) dX12_always_77 (by decide) ?_
                refine j_iload (pc := 78) hC 4 dX12_always_78 rfl ?_
                refine j_ishl (pc := 80) hC dX12_always_80 ?_
                refine j_isub (pc := 81) hC dX12_always_81 ?_
                exact hj
              · rw [if_pos c23] at hj
                refine j_bipush (pc := 70) hC (31 : Int32) dX12_always_70 (by decide) ?_
                refine j_goto (pc := 72) hC 82 dX12_always_72 (by decide) ?_
                exact hj
            refine j_iand (pc := 82) hC dX12_always_82 ?_
            obtain ⟨v24, e25, h⟩ := jbd_ex h
            refine j_istore_n (pc := 83) hC 2 [(2, .int v24), (0, .ref (L.2.2 a0)), (1, .int v14), (3, .int u7), (4, .int u17)] dX12_always_83 rfl (by decide) e25 rfl ?_
            refine j_iinc (pc := 84) hC 4 (u17 + (1 : Int32)) [(4, .int (u17 + (1 : Int32))), (2, .int v24), (0, .ref (L.2.2 a0)), (1, .int v14), (3, .int u7)] dX12_always_84 rfl rfl (by decide) rfl ?_
            refine j_goto (pc := 87) hC 48 dX12_always_87 (by decide) ?_
            obtain rfl := Option.some.inj h
            have hk : jJ X G 5 L 0 0 (jQM X G L (some (.int r)) μ' 0 0) 48 [(0, .ref (L.2.2 a0)), (1, .int v14), (2, .int v24), (3, .int u7), (4, .int (u17 + (1 : Int32)))] [] m3 := hk
            exact j_lv [2, 3, 1, 4, 0] rfl hk
        · obtain ⟨z29, rfl⟩ : ∃ y, y = w26 := ⟨_, rfl⟩
          try dsimp only at h
          show jJ X G 5 L 0 0 (jQM X G L (some (.int r)) μ' 0 0) 90 [(0, .ref (L.2.2 a0)), (1, .int v14), (2, .int z29), (3, .int u7)] [] m3
          refine j_iinc (pc := 90) hC 3 (u7 + (1 : Int32)) [(3, .int (u7 + (1 : Int32))), (0, .ref (L.2.2 a0)), (1, .int v14), (2, .int z29)] dX12_always_90 rfl rfl (by decide) rfl ?_
          refine j_goto (pc := 93) hC 16 dX12_always_93 (by decide) ?_
          obtain rfl := Option.some.inj h
          have hk : jJ X G 5 L 0 0 (jQM X G L (some (.int r)) μ' 0 0) 16 [(0, .ref (L.2.2 a0)), (1, .int v14), (2, .int z29), (3, .int (u7 + (1 : Int32)))] [] m3 := hk
          exact j_lv [1, 2, 3, 0] rfl hk
      · rw [if_neg c12] at h
        refine j_goto (pc := 32) hC 90 dX12_always_32 (by decide) ?_
        refine j_iinc (pc := 90) hC 3 (u7 + (1 : Int32)) [(3, .int (u7 + (1 : Int32))), (0, .ref (L.2.2 a0)), (1, .int u5), (2, .int u6)] dX12_always_90 rfl rfl (by decide) rfl ?_
        refine j_goto (pc := 93) hC 16 dX12_always_93 (by decide) ?_
        obtain rfl := Option.some.inj h
        have hk : jJ X G 5 L 0 0 (jQM X G L (some (.int r)) μ' 0 0) 16 [(0, .ref (L.2.2 a0)), (1, .int u5), (2, .int u6), (3, .int (u7 + (1 : Int32)))] [] m3 := hk
        exact j_lv [1, 2, 3, 0] rfl hk
  · obtain ⟨z33, z34⟩ := w30
    try dsimp only at h
    show jJ X G 5 L 0 0 (jQM X G L (some (.int r)) μ' 0 0) 96 [(0, .ref (L.2.2 a0)), (1, .int z33), (2, .int z34)] [] m3
    refine j_iload_n (pc := 96) hC 1 1 dX12_always_96 rfl rfl ?_
    refine j_if_ge (pc := 97) hC 103 dX12_always_97 (by decide) (fun c35 => ?_) (fun c35 => ?_)
    · rw [if_pos c35] at h
      refine j_aload_n (pc := 103) hC 0 0 dX12_always_103 rfl rfl ?_
      refine j_iconst (pc := 104) hC (0 : Int32) dX12_always_104 (by decide) ?_
      obtain ⟨m36, e37, h⟩ := jbd_ex h
      refine jpi_12 (pc := 105) hC 1 (by decide) rfl kf_X12_11 dX12_always_105 rfl (by decide) ka0 e37 ?_
      refine j_iconst (pc := 108) hC (0 : Int32) dX12_always_108 (by decide) ?_
      refine j_istore_n (pc := 109) hC 3 [(3, .int (0 : Int32)), (0, .ref (L.2.2 a0)), (1, .int z33), (2, .int z34)] dX12_always_109 rfl (by decide) rfl rfl ?_
      obtain ⟨w46, hw47, h⟩ := jcl_some h
      refine j_lv [1, 2, 3, 0] rfl ?_
      refine j_loop (step := (fun (s : Int32 × jM) => f_X12_always_L110 a0 z33 z34 s.1 s.2)) (P := (fun (s : Int32 × jM) => jJ X G 5 L 0 0 (jQM X G L (some (.int r)) μ' 0 0) 110 [(0, .ref (L.2.2 a0)), (1, .int z33), (2, .int z34), (3, .int s.1)] [] s.2)) (R := (fun (e : jM) => jJ X G 5 L 0 0 (jQM X G L (some (.int r)) μ' 0 0) 139 [(2, .int z34)] [] e)) ?_ jfu (((0 : Int32), m36)) w46 hw47 ?_
      · intro s48 o h hk
        obtain ⟨u38, m39⟩ := s48
        change f_X12_always_L110 a0 z33 z34 u38 m39 = some o at h
        unfold f_X12_always_L110 at h
        show jJ X G 5 L 0 0 (jQM X G L (some (.int r)) μ' 0 0) 110 [(0, .ref (L.2.2 a0)), (1, .int z33), (2, .int z34), (3, .int u38)] [] m39
        refine j_iload_n (pc := 110) hC 3 3 dX12_always_110 rfl rfl ?_
        refine j_iconst (pc := 111) hC (5 : Int32) dX12_always_111 (by decide) ?_
        refine j_icmp_ge (pc := 112) hC 139 dX12_always_112 (by decide) (fun c40 => ?_) (fun c40 => ?_)
        · rw [if_pos c40] at h
          obtain rfl := Option.some.inj h
          have hk : jJ X G 5 L 0 0 (jQM X G L (some (.int r)) μ' 0 0) 139 [(2, .int z34)] [] m39 := hk
          exact j_lv [2] rfl hk
        · rw [if_neg c40] at h
          refine j_iload_n (pc := 115) hC 2 2 dX12_always_115 rfl rfl ?_
          refine j_iload_n (pc := 116) hC 3 3 dX12_always_116 rfl rfl ?_
          refine j_si (pc := 117) hC hR [.int z34, .int u38] iy_X12_has km_X12_208 dX12_always_117 rfl (by decide) (c_X12_has hL  rfl) (by decide) (Nat.le_of_ble_eq_true rfl) rfl ?_
          refine j_if_eq (pc := 120) hC 133 dX12_always_120 (by decide) (fun c41 => ?_) (fun c41 => ?_)
          · rw [if_pos c41] at h
            refine j_iinc (pc := 133) hC 3 (u38 + (1 : Int32)) [(3, .int (u38 + (1 : Int32))), (0, .ref (L.2.2 a0)), (1, .int z33), (2, .int z34)] dX12_always_133 rfl rfl (by decide) rfl ?_
            refine j_goto (pc := 136) hC 110 dX12_always_136 (by decide) ?_
            obtain rfl := Option.some.inj h
            have hk : jJ X G 5 L 0 0 (jQM X G L (some (.int r)) μ' 0 0) 110 [(0, .ref (L.2.2 a0)), (1, .int z33), (2, .int z34), (3, .int (u38 + (1 : Int32)))] [] m39 := hk
            exact j_lv [1, 2, 3, 0] rfl hk
          · rw [if_neg c41] at h
            refine j_aload_n (pc := 123) hC 0 0 dX12_always_123 rfl rfl ?_
            refine j_iload_n (pc := 124) hC 1 1 dX12_always_124 rfl rfl ?_
            refine j_iload_n (pc := 125) hC 3 3 dX12_always_125 rfl rfl ?_
            obtain ⟨v42, e43, h⟩ := jcl_some h
            refine j_si (pc := 126) hC hR [.int z33, .int u38] iy_X12_valueOf km_X12_363 dX12_always_126 rfl (by decide) (c_X12_valueOf hL  e43) (by decide) (Nat.le_of_ble_eq_true rfl) rfl ?_
            refine j_i2l (pc := 129) hC dX12_always_129 ?_
            obtain ⟨m44, e45, h⟩ := jcl_some h
            refine j_vv (pc := 130) hC hR [.long v42.toInt64] iy_X12_enters (q := (RX12, TX12, 40)) (ci := 12) rfl rfl (by decide) km_X12_146 dX12_always_130 rfl (by decide) ka0 (c_X12_enters hL ka0 e45) (by decide) (Nat.le_of_ble_eq_true rfl) rfl ?_
            refine j_iinc (pc := 133) hC 3 (u38 + (1 : Int32)) [(3, .int (u38 + (1 : Int32))), (0, .ref (L.2.2 a0)), (1, .int z33), (2, .int z34)] dX12_always_133 rfl rfl (by decide) rfl ?_
            refine j_goto (pc := 136) hC 110 dX12_always_136 (by decide) ?_
            obtain rfl := Option.some.inj h
            have hk : jJ X G 5 L 0 0 (jQM X G L (some (.int r)) μ' 0 0) 110 [(0, .ref (L.2.2 a0)), (1, .int z33), (2, .int z34), (3, .int (u38 + (1 : Int32)))] [] m44 := hk
            exact j_lv [1, 2, 3, 0] rfl hk
      · obtain ⟨m49, rfl⟩ : ∃ y, y = w46 := ⟨_, rfl⟩
        try dsimp only at h
        show jJ X G 5 L 0 0 (jQM X G L (some (.int r)) μ' 0 0) 139 [(2, .int z34)] [] m49
        refine j_iload_n (pc := 139) hC 2 0 dX12_always_139 rfl rfl ?_
        obtain ⟨rfl, rfl⟩ := Prod.mk.inj (Option.some.inj h)
        exact j_iret (pc := 140) hC dX12_always_140 rfl
    · rw [if_neg c35] at h
      refine j_bipush (pc := 100) hC (-2 : Int32) dX12_always_100 (by decide) ?_
      obtain ⟨rfl, rfl⟩ := Prod.mk.inj (Option.some.inj h)
      exact j_iret (pc := 102) hC dX12_always_102 rfl
theorem dX12_best_0 : decode cX12_best 0 = .ok (.aload_n 0, 1) := by decide +kernel
theorem dX12_best_1 : decode cX12_best 1 = .ok (.iconst 0, 1) := by decide +kernel
theorem dX12_best_2 : decode cX12_best 2 = .ok (.putfield 1, 3) := by decide +kernel
theorem dX12_best_5 : decode cX12_best 5 = .ok (.aload_n 0, 1) := by decide +kernel
theorem dX12_best_6 : decode cX12_best 6 = .ok (.invokevirtual 369, 3) := by decide +kernel
theorem dX12_best_9 : decode cX12_best 9 = .ok (.iconst 0, 1) := by decide +kernel
theorem dX12_best_10 : decode cX12_best 10 = .ok (.istore_n 1, 1) := by decide +kernel
theorem dX12_best_11 : decode cX12_best 11 = .ok (.iconst 0, 1) := by decide +kernel
theorem dX12_best_12 : decode cX12_best 12 = .ok (.istore_n 2, 1) := by decide +kernel
theorem dX12_best_13 : decode cX12_best 13 = .ok (.iconst (-1), 1) := by decide +kernel
theorem dX12_best_14 : decode cX12_best 14 = .ok (.istore_n 3, 1) := by decide +kernel
theorem dX12_best_15 : decode cX12_best 15 = .ok (.iconst 0, 1) := by decide +kernel
theorem dX12_best_16 : decode cX12_best 16 = .ok (.istore 4, 2) := by decide +kernel
theorem dX12_best_18 : decode cX12_best 18 = .ok (.iload 4, 2) := by decide +kernel
theorem dX12_best_20 : decode cX12_best 20 = .ok (.sipush 7776, 3) := by decide +kernel
theorem dX12_best_23 : decode cX12_best 23 = .ok (.if_icmp .ge 95, 3) := by decide +kernel
theorem dX12_best_26 : decode cX12_best 26 = .ok (.aload_n 0, 1) := by decide +kernel
theorem dX12_best_27 : decode cX12_best 27 = .ok (.getfield 96, 3) := by decide +kernel
theorem dX12_best_30 : decode cX12_best 30 = .ok (.iload 4, 2) := by decide +kernel
theorem dX12_best_32 : decode cX12_best 32 = .ok (.iaload, 1) := by decide +kernel
theorem dX12_best_33 : decode cX12_best 33 = .ok (.ifCond .eq 6, 3) := by decide +kernel
theorem dX12_best_36 : decode cX12_best 36 = .ok (.goto 76, 3) := by decide +kernel
theorem dX12_best_39 : decode cX12_best 39 = .ok (.iconst 0, 1) := by decide +kernel
theorem dX12_best_40 : decode cX12_best 40 = .ok (.istore 5, 2) := by decide +kernel
theorem dX12_best_42 : decode cX12_best 42 = .ok (.iconst 0, 1) := by decide +kernel
theorem dX12_best_43 : decode cX12_best 43 = .ok (.istore 6, 2) := by decide +kernel
theorem dX12_best_45 : decode cX12_best 45 = .ok (.iload 6, 2) := by decide +kernel
theorem dX12_best_47 : decode cX12_best 47 = .ok (.iconst 5, 1) := by decide +kernel
theorem dX12_best_48 : decode cX12_best 48 = .ok (.if_icmp .ge 29, 3) := by decide +kernel
theorem dX12_best_51 : decode cX12_best 51 = .ok (.iload 5, 2) := by decide +kernel
theorem dX12_best_53 : decode cX12_best 53 = .ok (.aload_n 0, 1) := by decide +kernel
theorem dX12_best_54 : decode cX12_best 54 = .ok (.getfield 60, 3) := by decide +kernel
theorem dX12_best_57 : decode cX12_best 57 = .ok (.iload 6, 2) := by decide +kernel
theorem dX12_best_59 : decode cX12_best 59 = .ok (.iaload, 1) := by decide +kernel
theorem dX12_best_60 : decode cX12_best 60 = .ok (.iload 4, 2) := by decide +kernel
theorem dX12_best_62 : decode cX12_best 62 = .ok (.iload 6, 2) := by decide +kernel
theorem dX12_best_64 : decode cX12_best 64 = .ok (.invokestatic 363, 3) := by decide +kernel
theorem dX12_best_67 : decode cX12_best 67 = .ok (.imul, 1) := by decide +kernel
theorem dX12_best_68 : decode cX12_best 68 = .ok (.iadd, 1) := by decide +kernel
theorem dX12_best_69 : decode cX12_best 69 = .ok (.istore 5, 2) := by decide +kernel
theorem dX12_best_71 : decode cX12_best 71 = .ok (.iinc 6 1, 3) := by decide +kernel
theorem dX12_best_74 : decode cX12_best 74 = .ok (.goto (-29), 3) := by decide +kernel
theorem dX12_best_77 : decode cX12_best 77 = .ok (.iload_n 3, 1) := by decide +kernel
theorem dX12_best_78 : decode cX12_best 78 = .ok (.ifCond .lt 9, 3) := by decide +kernel
theorem dX12_best_81 : decode cX12_best 81 = .ok (.iload 5, 2) := by decide +kernel
theorem dX12_best_83 : decode cX12_best 83 = .ok (.iload_n 2, 1) := by decide +kernel
theorem dX12_best_84 : decode cX12_best 84 = .ok (.if_icmp .le 11, 3) := by decide +kernel
theorem dX12_best_87 : decode cX12_best 87 = .ok (.iconst 0, 1) := by decide +kernel
theorem dX12_best_88 : decode cX12_best 88 = .ok (.istore_n 1, 1) := by decide +kernel
theorem dX12_best_89 : decode cX12_best 89 = .ok (.iload 5, 2) := by decide +kernel
theorem dX12_best_91 : decode cX12_best 91 = .ok (.istore_n 2, 1) := by decide +kernel
theorem dX12_best_92 : decode cX12_best 92 = .ok (.iload 4, 2) := by decide +kernel
theorem dX12_best_94 : decode cX12_best 94 = .ok (.istore_n 3, 1) := by decide +kernel
theorem dX12_best_95 : decode cX12_best 95 = .ok (.iload_n 1, 1) := by decide +kernel
theorem dX12_best_96 : decode cX12_best 96 = .ok (.iload 5, 2) := by decide +kernel
theorem dX12_best_98 : decode cX12_best 98 = .ok (.iload_n 2, 1) := by decide +kernel
theorem dX12_best_99 : decode cX12_best 99 = .ok (.if_icmp .ne 7, 3) := by decide +kernel
theorem dX12_best_102 : decode cX12_best 102 = .ok (.iconst 1, 1) := by decide +kernel
theorem dX12_best_103 : decode cX12_best 103 = .ok (.goto 4, 3) := by decide +kernel
theorem dX12_best_106 : decode cX12_best 106 = .ok (.iconst 0, 1) := by decide +kernel
theorem dX12_best_107 : decode cX12_best 107 = .ok (.invokestatic 34, 3) := by decide +kernel
theorem dX12_best_110 : decode cX12_best 110 = .ok (.iadd, 1) := by decide +kernel
theorem dX12_best_111 : decode cX12_best 111 = .ok (.istore_n 1, 1) := by decide +kernel
theorem dX12_best_112 : decode cX12_best 112 = .ok (.iinc 4 1, 3) := by decide +kernel
theorem dX12_best_115 : decode cX12_best 115 = .ok (.goto (-97), 3) := by decide +kernel
theorem dX12_best_118 : decode cX12_best 118 = .ok (.iload_n 3, 1) := by decide +kernel
theorem dX12_best_119 : decode cX12_best 119 = .ok (.ifCond .ge 6, 3) := by decide +kernel
theorem dX12_best_122 : decode cX12_best 122 = .ok (.bipush (-2), 2) := by decide +kernel
theorem dX12_best_124 : decode cX12_best 124 = .ok (.ireturn, 1) := by decide +kernel
theorem dX12_best_125 : decode cX12_best 125 = .ok (.aload_n 0, 1) := by decide +kernel
theorem dX12_best_126 : decode cX12_best 126 = .ok (.iconst 0, 1) := by decide +kernel
theorem dX12_best_127 : decode cX12_best 127 = .ok (.putfield 11, 3) := by decide +kernel
theorem dX12_best_130 : decode cX12_best 130 = .ok (.aload_n 0, 1) := by decide +kernel
theorem dX12_best_131 : decode cX12_best 131 = .ok (.iload_n 2, 1) := by decide +kernel
theorem dX12_best_132 : decode cX12_best 132 = .ok (.i2l, 1) := by decide +kernel
theorem dX12_best_133 : decode cX12_best 133 = .ok (.invokevirtual 146, 3) := by decide +kernel
theorem dX12_best_136 : decode cX12_best 136 = .ok (.aload_n 0, 1) := by decide +kernel
theorem dX12_best_137 : decode cX12_best 137 = .ok (.iload_n 3, 1) := by decide +kernel
theorem dX12_best_138 : decode cX12_best 138 = .ok (.invokevirtual 372, 3) := by decide +kernel
theorem dX12_best_141 : decode cX12_best 141 = .ok (.iload_n 1, 1) := by decide +kernel
theorem dX12_best_142 : decode cX12_best 142 = .ok (.ireturn, 1) := by decide +kernel
def f_X12_best_L45 (a0 : Nat) (m3 : jM) (u8 : Int32) (u14 : Int32) (u15 : Int32) : Option ((Int32 × Int32) ⊕ (Int32)) :=
  (if (5 : Int32) ≤ u15 then some (.inr u14) else jrd (m3.1 (a0 + 3)) u15 2074 (fun v18 => jcl (f_X12_valueOf u8 u15) (fun v20 => some (.inl ((u14 + (v18 * v20), u15 + (1 : Int32)))))))
def f_X12_best_L18 (a0 : Nat) (m3 : jM) (u5 : Int32) (u6 : Int32) (u7 : Int32) (u8 : Int32) : Option ((Int32 × Int32 × Int32 × Int32) ⊕ (Int32 × Int32 × Int32)) :=
  (if (7776 : Int32) ≤ u8 then some (.inr ((u5, u6, u7))) else jrd (m3.1 (a0 + 15)) u8 7776 (fun v11 => (if v11 = (0 : Int32) then jcl (jloop (fun (s : Int32 × Int32) => f_X12_best_L45 a0 m3 u8 s.1 s.2) jfu (((0 : Int32), (0 : Int32)))) (fun w22 => jbd (fun (t26 : Int32) (t27 : Int32) (t28 : Int32) => jbd (t26 + (f_X12_flag ((if w22 = t27 then (1 : Int32) else (0 : Int32)))) : Int32) (fun v33 => some (.inl ((v33, t27, t28, u8 + (1 : Int32)))))) (fun k29 => jbd (k29 (0 : Int32) w22 u8) (fun k35 => (if u7 < (0 : Int32) then k35 else (if w22 ≤ u6 then k29 u5 u6 u7 else k35))))) else some (.inl ((u5, u6, u7, u8 + (1 : Int32)))))))
def f_X12_best (a0 : Nat) (μ : jM) : Option (Int32 × jM) :=
  jbd (jsi μ a0 0 (0 : Int32)) (fun m1 => jcl (f_X12_tries a0 m1) (fun m3 => jcl (jloop (fun (s : Int32 × Int32 × Int32 × Int32) => f_X12_best_L18 a0 m3 s.1 s.2.1 s.2.2.1 s.2.2.2) jfu (((0 : Int32), (0 : Int32), (-1 : Int32), (0 : Int32)))) (fun w40 => (if (0 : Int32) ≤ w40.2.2 then jbd (jsi m3 a0 1 (0 : Int32)) (fun m47 => jcl (f_X12_enters a0 w40.2.1.toInt64 m47) (fun m49 => jcl (f_X12_entersRow a0 w40.2.2 m49) (fun m51 => some ((w40.1, m51))))) else some (((-2 : Int32), m3))))))
set_option maxHeartbeats 4000000 in
set_option maxRecDepth 100000 in
theorem c_X12_best {l : Launch} {G : jG} {L : jL} (hL : jOKL L) {a0 : Nat} (ka0 : jK L a0 12) {μ μ' : jM} {r : Int32} (h : f_X12_best a0 μ = some ((r, μ'))) : jCt l G L 6 yX12_best cX12_best 7 (some .int) [.ref (L.2.2 a0)] μ (some (.int r)) μ' := by
  refine jCt_of (by decide) (Nat.le_of_ble_eq_true rfl) (fun X hC hX hR => ?_)
  subst hX
  have hC : jC X G cX12_best 7 RX12 (some .int) := hC
  unfold f_X12_best at h
  show jJ X G 7 L 0 0 (jQM X G L (some (.int r)) μ' 0 0) 0 [(0, .ref (L.2.2 a0))] [] μ
  refine j_aload_n (pc := 0) hC 0 0 dX12_best_0 rfl rfl ?_
  refine j_iconst (pc := 1) hC (0 : Int32) dX12_best_1 (by decide) ?_
  obtain ⟨m1, e2, h⟩ := jbd_ex h
  refine jpi_12 (pc := 2) hC 0 (by decide) rfl kf_X12_1 dX12_best_2 rfl (by decide) ka0 e2 ?_
  refine j_aload_n (pc := 5) hC 0 0 dX12_best_5 rfl rfl ?_
  obtain ⟨m3, e4, h⟩ := jcl_some h
  refine j_vv (pc := 6) hC hR [] iy_X12_tries (q := (RX12, TX12, 40)) (ci := 12) rfl rfl (by decide) km_X12_369 dX12_best_6 rfl (by decide) ka0 (c_X12_tries hL ka0 e4) (by decide) (Nat.le_of_ble_eq_true rfl) rfl ?_
  refine j_iconst (pc := 9) hC (0 : Int32) dX12_best_9 (by decide) ?_
  refine j_istore_n (pc := 10) hC 1 [(1, .int (0 : Int32)), (0, .ref (L.2.2 a0))] dX12_best_10 rfl (by decide) rfl rfl ?_
  refine j_iconst (pc := 11) hC (0 : Int32) dX12_best_11 (by decide) ?_
  refine j_istore_n (pc := 12) hC 2 [(2, .int (0 : Int32)), (1, .int (0 : Int32)), (0, .ref (L.2.2 a0))] dX12_best_12 rfl (by decide) rfl rfl ?_
  refine j_iconst (pc := 13) hC (-1 : Int32) dX12_best_13 (by decide) ?_
  refine j_istore_n (pc := 14) hC 3 [(3, .int (-1 : Int32)), (2, .int (0 : Int32)), (1, .int (0 : Int32)), (0, .ref (L.2.2 a0))] dX12_best_14 rfl (by decide) rfl rfl ?_
  refine j_iconst (pc := 15) hC (0 : Int32) dX12_best_15 (by decide) ?_
  refine j_istore (pc := 16) hC [(4, .int (0 : Int32)), (3, .int (-1 : Int32)), (2, .int (0 : Int32)), (1, .int (0 : Int32)), (0, .ref (L.2.2 a0))] dX12_best_16 (by decide) rfl rfl ?_
  obtain ⟨w40, hw41, h⟩ := jcl_some h
  refine j_lv [4, 3, 2, 1, 0] rfl ?_
  refine j_loop (step := (fun (s : Int32 × Int32 × Int32 × Int32) => f_X12_best_L18 a0 m3 s.1 s.2.1 s.2.2.1 s.2.2.2)) (P := (fun (s : Int32 × Int32 × Int32 × Int32) => jJ X G 7 L 0 0 (jQM X G L (some (.int r)) μ' 0 0) 18 [(0, .ref (L.2.2 a0)), (1, .int s.1), (2, .int s.2.1), (3, .int s.2.2.1), (4, .int s.2.2.2)] [] m3)) (R := (fun (e : Int32 × Int32 × Int32) => jJ X G 7 L 0 0 (jQM X G L (some (.int r)) μ' 0 0) 118 [(0, .ref (L.2.2 a0)), (1, .int e.1), (2, .int e.2.1), (3, .int e.2.2)] [] m3)) ?_ jfu (((0 : Int32), (0 : Int32), (-1 : Int32), (0 : Int32))) w40 hw41 ?_
  · intro s42 o h hk
    obtain ⟨u5, u6, u7, u8⟩ := s42
    change f_X12_best_L18 a0 m3 u5 u6 u7 u8 = some o at h
    unfold f_X12_best_L18 at h
    show jJ X G 7 L 0 0 (jQM X G L (some (.int r)) μ' 0 0) 18 [(0, .ref (L.2.2 a0)), (1, .int u5), (2, .int u6), (3, .int u7), (4, .int u8)] [] m3
    refine j_iload (pc := 18) hC 4 dX12_best_18 rfl ?_
    refine j_sipush (pc := 20) hC (7776 : Int32) dX12_best_20 (by decide) ?_
    refine j_icmp_ge (pc := 23) hC 118 dX12_best_23 (by decide) (fun c9 => ?_) (fun c9 => ?_)
    · rw [if_pos c9] at h
      obtain rfl := Option.some.inj h
      have hk : jJ X G 7 L 0 0 (jQM X G L (some (.int r)) μ' 0 0) 118 [(0, .ref (L.2.2 a0)), (1, .int u5), (2, .int u6), (3, .int u7)] [] m3 := hk
      exact j_lv [0, 1, 2, 3] rfl hk
    · rw [if_neg c9] at h
      refine j_aload_n (pc := 26) hC 0 0 dX12_best_26 rfl rfl ?_
      refine jgr_12 (pc := 27) hC 26 (by decide) rfl kf_X12_96 dX12_best_27 ka0 (ly_12_26 hL ka0).1 ?_
      refine j_iload (pc := 30) hC 4 dX12_best_30 rfl ?_
      obtain ⟨i10, v11, e12, h⟩ := jrd_some h
      refine j_iald (pc := 32) hC dX12_best_32 (ly_12_26 hL ka0).2.1 (ly_12_26 hL ka0).2.2 i10 e12 ?_
      refine j_if_eq (pc := 33) hC 39 dX12_best_33 (by decide) (fun c13 => ?_) (fun c13 => ?_)
      · rw [if_pos c13] at h
        refine j_iconst (pc := 39) hC (0 : Int32) dX12_best_39 (by decide) ?_
        refine j_istore (pc := 40) hC [(5, .int (0 : Int32)), (0, .ref (L.2.2 a0)), (1, .int u5), (2, .int u6), (3, .int u7), (4, .int u8)] dX12_best_40 (by decide) rfl rfl ?_
        refine j_iconst (pc := 42) hC (0 : Int32) dX12_best_42 (by decide) ?_
        refine j_istore (pc := 43) hC [(6, .int (0 : Int32)), (5, .int (0 : Int32)), (0, .ref (L.2.2 a0)), (1, .int u5), (2, .int u6), (3, .int u7), (4, .int u8)] dX12_best_43 (by decide) rfl rfl ?_
        obtain ⟨w22, hw23, h⟩ := jcl_some h
        refine j_lv [2, 3, 4, 5, 6, 1, 0] rfl ?_
        refine j_loop (step := (fun (s : Int32 × Int32) => f_X12_best_L45 a0 m3 u8 s.1 s.2)) (P := (fun (s : Int32 × Int32) => jJ X G 7 L 0 0 (jQM X G L (some (.int r)) μ' 0 0) 45 [(0, .ref (L.2.2 a0)), (1, .int u5), (2, .int u6), (3, .int u7), (4, .int u8), (5, .int s.1), (6, .int s.2)] [] m3)) (R := (fun (e : Int32) => jJ X G 7 L 0 0 (jQM X G L (some (.int r)) μ' 0 0) 77 [(0, .ref (L.2.2 a0)), (1, .int u5), (2, .int u6), (3, .int u7), (4, .int u8), (5, .int e)] [] m3)) ?_ jfu (((0 : Int32), (0 : Int32))) w22 hw23 ?_
        · intro s24 o h hk
          obtain ⟨u14, u15⟩ := s24
          change f_X12_best_L45 a0 m3 u8 u14 u15 = some o at h
          unfold f_X12_best_L45 at h
          show jJ X G 7 L 0 0 (jQM X G L (some (.int r)) μ' 0 0) 45 [(0, .ref (L.2.2 a0)), (1, .int u5), (2, .int u6), (3, .int u7), (4, .int u8), (5, .int u14), (6, .int u15)] [] m3
          refine j_iload (pc := 45) hC 6 dX12_best_45 rfl ?_
          refine j_iconst (pc := 47) hC (5 : Int32) dX12_best_47 (by decide) ?_
          refine j_icmp_ge (pc := 48) hC 77 dX12_best_48 (by decide) (fun c16 => ?_) (fun c16 => ?_)
          · rw [if_pos c16] at h
            obtain rfl := Option.some.inj h
            have hk : jJ X G 7 L 0 0 (jQM X G L (some (.int r)) μ' 0 0) 77 [(0, .ref (L.2.2 a0)), (1, .int u5), (2, .int u6), (3, .int u7), (4, .int u8), (5, .int u14)] [] m3 := hk
            exact j_lv [0, 1, 2, 3, 4, 5] rfl hk
          · rw [if_neg c16] at h
            refine j_iload (pc := 51) hC 5 dX12_best_51 rfl ?_
            refine j_aload_n (pc := 53) hC 0 0 dX12_best_53 rfl rfl ?_
            refine jgr_12 (pc := 54) hC 8 (by decide) rfl kf_X12_60 dX12_best_54 ka0 (ly_12_8 hL ka0).1 ?_
            refine j_iload (pc := 57) hC 6 dX12_best_57 rfl ?_
            obtain ⟨i17, v18, e19, h⟩ := jrd_some h
            refine j_iald (pc := 59) hC dX12_best_59 (ly_12_8 hL ka0).2.1 (ly_12_8 hL ka0).2.2 i17 e19 ?_
            refine j_iload (pc := 60) hC 4 dX12_best_60 rfl ?_
            refine j_iload (pc := 62) hC 6 dX12_best_62 rfl ?_
            obtain ⟨v20, e21, h⟩ := jcl_some h
            refine j_si (pc := 64) hC hR [.int u8, .int u15] iy_X12_valueOf km_X12_363 dX12_best_64 rfl (by decide) (c_X12_valueOf hL  e21) (by decide) (Nat.le_of_ble_eq_true rfl) rfl ?_
            refine j_imul (pc := 67) hC dX12_best_67 ?_
            refine j_iadd (pc := 68) hC dX12_best_68 ?_
            refine j_istore (pc := 69) hC [(5, .int (u14 + (v18 * v20))), (0, .ref (L.2.2 a0)), (1, .int u5), (2, .int u6), (3, .int u7), (4, .int u8), (6, .int u15)] dX12_best_69 (by decide) rfl rfl ?_
            refine j_iinc (pc := 71) hC 6 (u15 + (1 : Int32)) [(6, .int (u15 + (1 : Int32))), (5, .int (u14 + (v18 * v20))), (0, .ref (L.2.2 a0)), (1, .int u5), (2, .int u6), (3, .int u7), (4, .int u8)] dX12_best_71 rfl rfl (by decide) rfl ?_
            refine j_goto (pc := 74) hC 45 dX12_best_74 (by decide) ?_
            obtain rfl := Option.some.inj h
            have hk : jJ X G 7 L 0 0 (jQM X G L (some (.int r)) μ' 0 0) 45 [(0, .ref (L.2.2 a0)), (1, .int u5), (2, .int u6), (3, .int u7), (4, .int u8), (5, .int (u14 + (v18 * v20))), (6, .int (u15 + (1 : Int32)))] [] m3 := hk
            exact j_lv [2, 3, 4, 5, 6, 1, 0] rfl hk
        · obtain ⟨z25, rfl⟩ : ∃ y, y = w22 := ⟨_, rfl⟩
          try dsimp only at h
          show jJ X G 7 L 0 0 (jQM X G L (some (.int r)) μ' 0 0) 77 [(0, .ref (L.2.2 a0)), (1, .int u5), (2, .int u6), (3, .int u7), (4, .int u8), (5, .int z25)] [] m3
          refine j_iload_n (pc := 77) hC 3 3 dX12_best_77 rfl rfl ?_
          obtain ⟨k29, e31, h⟩ := jbd_ex h
          have q30 : ∀ (t26 : Int32) (t27 : Int32) (t28 : Int32), k29 t26 t27 t28 = some o → jJ X G 7 L 0 0 (jQM X G L (some (.int r)) μ' 0 0) 95 [(0, .ref (L.2.2 a0)), (1, .int t26), (2, .int t27), (3, .int t28), (4, .int u8), (5, .int z25)] [] m3 := by
            intro t26 t27 t28 h
            rw [e31] at h
            try dsimp only at h
            refine j_iload_n (pc := 95) hC 1 1 dX12_best_95 rfl rfl ?_
            refine j_iload (pc := 96) hC 5 dX12_best_96 rfl ?_
            refine j_iload_n (pc := 98) hC 2 2 dX12_best_98 rfl rfl ?_
            refine jmg (B := jJ X G 7 L 0 0 (jQM X G L (some (.int r)) μ' 0 0) 107 [(0, .ref (L.2.2 a0)), (1, .int t26), (2, .int t27), (3, .int t28), (4, .int u8), (5, .int z25)] [.int ((if z25 = t27 then (1 : Int32) else (0 : Int32))), .int t26] m3) (fun hj => ?_) ?_
            · refine j_icmp_ne (pc := 99) hC 106 dX12_best_99 (by decide) (fun c32 => ?_) (fun c32 => ?_)
              · rw [if_neg c32] at hj
                refine j_iconst (pc := 106) hC (0 : Int32) dX12_best_106 (by decide) ?_
                exact hj
              · rw [if_pos c32] at hj
                refine j_iconst (pc := 102) hC (1 : Int32) dX12_best_102 (by decide) ?_
                refine j_goto (pc := 103) hC 107 dX12_best_103 (by decide) ?_
                exact hj
            refine j_si (pc := 107) hC hR [.int ((if z25 = t27 then (1 : Int32) else (0 : Int32)))] iy_X12_flag km_X12_34 dX12_best_107 rfl (by decide) (c_X12_flag hL  rfl) (by decide) (Nat.le_of_ble_eq_true rfl) rfl ?_
            refine j_iadd (pc := 110) hC dX12_best_110 ?_
            obtain ⟨v33, e34, h⟩ := jbd_ex h
            refine j_istore_n (pc := 111) hC 1 [(1, .int v33), (0, .ref (L.2.2 a0)), (2, .int t27), (3, .int t28), (4, .int u8), (5, .int z25)] dX12_best_111 rfl (by decide) e34 rfl ?_
            refine j_iinc (pc := 112) hC 4 (u8 + (1 : Int32)) [(4, .int (u8 + (1 : Int32))), (1, .int v33), (0, .ref (L.2.2 a0)), (2, .int t27), (3, .int t28), (5, .int z25)] dX12_best_112 rfl rfl (by decide) rfl ?_
            refine j_goto (pc := 115) hC 18 dX12_best_115 (by decide) ?_
            obtain rfl := Option.some.inj h
            have hk : jJ X G 7 L 0 0 (jQM X G L (some (.int r)) μ' 0 0) 18 [(0, .ref (L.2.2 a0)), (1, .int v33), (2, .int t27), (3, .int t28), (4, .int (u8 + (1 : Int32)))] [] m3 := hk
            exact j_lv [2, 1, 3, 4, 0] rfl hk
          obtain ⟨k35, e37, h⟩ := jbd_ex h
          have q36 : k35 = some o → jJ X G 7 L 0 0 (jQM X G L (some (.int r)) μ' 0 0) 87 [(0, .ref (L.2.2 a0)), (4, .int u8), (5, .int z25)] [] m3 := by
            intro h
            rw [e37] at h
            refine j_iconst (pc := 87) hC (0 : Int32) dX12_best_87 (by decide) ?_
            refine j_istore_n (pc := 88) hC 1 [(1, .int (0 : Int32)), (0, .ref (L.2.2 a0)), (4, .int u8), (5, .int z25)] dX12_best_88 rfl (by decide) rfl rfl ?_
            refine j_iload (pc := 89) hC 3 dX12_best_89 rfl ?_
            refine j_istore_n (pc := 91) hC 2 [(2, .int z25), (1, .int (0 : Int32)), (0, .ref (L.2.2 a0)), (4, .int u8), (5, .int z25)] dX12_best_91 rfl (by decide) rfl rfl ?_
            refine j_iload (pc := 92) hC 3 dX12_best_92 rfl ?_
            refine j_istore_n (pc := 94) hC 3 [(3, .int u8), (2, .int z25), (1, .int (0 : Int32)), (0, .ref (L.2.2 a0)), (4, .int u8), (5, .int z25)] dX12_best_94 rfl (by decide) rfl rfl ?_
            exact j_lv [3, 2, 1, 0, 4, 5] rfl (q30 _ _ _ h)
          refine j_if_lt (pc := 78) hC 87 dX12_best_78 (by decide) (fun c38 => ?_) (fun c38 => ?_)
          · rw [if_pos c38] at h
            exact j_lv [0, 4, 5] rfl (q36 h)
          · rw [if_neg c38] at h
            refine j_iload (pc := 81) hC 5 dX12_best_81 rfl ?_
            refine j_iload_n (pc := 83) hC 2 2 dX12_best_83 rfl rfl ?_
            refine j_icmp_le (pc := 84) hC 95 dX12_best_84 (by decide) (fun c39 => ?_) (fun c39 => ?_)
            · rw [if_pos c39] at h
              exact j_lv [0, 1, 2, 3, 4, 5] rfl (q30 _ _ _ h)
            · rw [if_neg c39] at h
              exact j_lv [0, 4, 5] rfl (q36 h)
      · rw [if_neg c13] at h
        refine j_goto (pc := 36) hC 112 dX12_best_36 (by decide) ?_
        refine j_iinc (pc := 112) hC 4 (u8 + (1 : Int32)) [(4, .int (u8 + (1 : Int32))), (0, .ref (L.2.2 a0)), (1, .int u5), (2, .int u6), (3, .int u7)] dX12_best_112 rfl rfl (by decide) rfl ?_
        refine j_goto (pc := 115) hC 18 dX12_best_115 (by decide) ?_
        obtain rfl := Option.some.inj h
        have hk : jJ X G 7 L 0 0 (jQM X G L (some (.int r)) μ' 0 0) 18 [(0, .ref (L.2.2 a0)), (1, .int u5), (2, .int u6), (3, .int u7), (4, .int (u8 + (1 : Int32)))] [] m3 := hk
        exact j_lv [1, 2, 3, 4, 0] rfl hk
  · obtain ⟨z43, z44, z45⟩ := w40
    try dsimp only at h
    show jJ X G 7 L 0 0 (jQM X G L (some (.int r)) μ' 0 0) 118 [(0, .ref (L.2.2 a0)), (1, .int z43), (2, .int z44), (3, .int z45)] [] m3
    refine j_iload_n (pc := 118) hC 3 3 dX12_best_118 rfl rfl ?_
    refine j_if_ge (pc := 119) hC 125 dX12_best_119 (by decide) (fun c46 => ?_) (fun c46 => ?_)
    · rw [if_pos c46] at h
      refine j_aload_n (pc := 125) hC 0 0 dX12_best_125 rfl rfl ?_
      refine j_iconst (pc := 126) hC (0 : Int32) dX12_best_126 (by decide) ?_
      obtain ⟨m47, e48, h⟩ := jbd_ex h
      refine jpi_12 (pc := 127) hC 1 (by decide) rfl kf_X12_11 dX12_best_127 rfl (by decide) ka0 e48 ?_
      refine j_aload_n (pc := 130) hC 0 0 dX12_best_130 rfl rfl ?_
      refine j_iload_n (pc := 131) hC 2 2 dX12_best_131 rfl rfl ?_
      refine j_i2l (pc := 132) hC dX12_best_132 ?_
      obtain ⟨m49, e50, h⟩ := jcl_some h
      refine j_vv (pc := 133) hC hR [.long z44.toInt64] iy_X12_enters (q := (RX12, TX12, 40)) (ci := 12) rfl rfl (by decide) km_X12_146 dX12_best_133 rfl (by decide) ka0 (c_X12_enters hL ka0 e50) (by decide) (Nat.le_of_ble_eq_true rfl) rfl ?_
      refine j_aload_n (pc := 136) hC 0 0 dX12_best_136 rfl rfl ?_
      refine j_iload_n (pc := 137) hC 3 3 dX12_best_137 rfl rfl ?_
      obtain ⟨m51, e52, h⟩ := jcl_some h
      refine j_vv (pc := 138) hC hR [.int z45] iy_X12_entersRow (q := (RX12, TX12, 40)) (ci := 12) rfl rfl (by decide) km_X12_372 dX12_best_138 rfl (by decide) ka0 (c_X12_entersRow hL ka0 e52) (by decide) (Nat.le_of_ble_eq_true rfl) rfl ?_
      refine j_iload_n (pc := 141) hC 1 1 dX12_best_141 rfl rfl ?_
      obtain ⟨rfl, rfl⟩ := Prod.mk.inj (Option.some.inj h)
      exact j_iret (pc := 142) hC dX12_best_142 rfl
    · rw [if_neg c46] at h
      refine j_bipush (pc := 122) hC (-2 : Int32) dX12_best_122 (by decide) ?_
      obtain ⟨rfl, rfl⟩ := Prod.mk.inj (Option.some.inj h)
      exact j_iret (pc := 124) hC dX12_best_124 rfl
