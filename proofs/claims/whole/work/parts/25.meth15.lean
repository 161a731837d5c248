theorem dX12_fixesOne_0 : decode cX12_fixesOne 0 = .ok (.iload_n 1, 1) := by decide +kernel
theorem dX12_fixesOne_1 : decode cX12_fixesOne 1 = .ok (.invokestatic 202, 3) := by decide +kernel
theorem dX12_fixesOne_4 : decode cX12_fixesOne 4 = .ok (.ifCond .eq 10, 3) := by decide +kernel
theorem dX12_fixesOne_7 : decode cX12_fixesOne 7 = .ok (.iload_n 2, 1) := by decide +kernel
theorem dX12_fixesOne_8 : decode cX12_fixesOne 8 = .ok (.invokestatic 205, 3) := by decide +kernel
theorem dX12_fixesOne_11 : decode cX12_fixesOne 11 = .ok (.ifCond .ne 5, 3) := by decide +kernel
theorem dX12_fixesOne_14 : decode cX12_fixesOne 14 = .ok (.iconst (-1), 1) := by decide +kernel
theorem dX12_fixesOne_15 : decode cX12_fixesOne 15 = .ok (.ireturn, 1) := by decide +kernel
theorem dX12_fixesOne_16 : decode cX12_fixesOne 16 = .ok (.aload_n 0, 1) := by decide +kernel
theorem dX12_fixesOne_17 : decode cX12_fixesOne 17 = .ok (.getfield 60, 3) := by decide +kernel
theorem dX12_fixesOne_20 : decode cX12_fixesOne 20 = .ok (.bipush 6, 2) := by decide +kernel
theorem dX12_fixesOne_22 : decode cX12_fixesOne 22 = .ok (.iload_n 1, 1) := by decide +kernel
theorem dX12_fixesOne_23 : decode cX12_fixesOne 23 = .ok (.iadd, 1) := by decide +kernel
theorem dX12_fixesOne_24 : decode cX12_fixesOne 24 = .ok (.iaload, 1) := by decide +kernel
theorem dX12_fixesOne_25 : decode cX12_fixesOne 25 = .ok (.iload_n 2, 1) := by decide +kernel
theorem dX12_fixesOne_26 : decode cX12_fixesOne 26 = .ok (.invokestatic 208, 3) := by decide +kernel
theorem dX12_fixesOne_29 : decode cX12_fixesOne 29 = .ok (.ifCond .ne 6, 3) := by decide +kernel
theorem dX12_fixesOne_32 : decode cX12_fixesOne 32 = .ok (.bipush (-2), 2) := by decide +kernel
theorem dX12_fixesOne_34 : decode cX12_fixesOne 34 = .ok (.ireturn, 1) := by decide +kernel
theorem dX12_fixesOne_35 : decode cX12_fixesOne 35 = .ok (.aload_n 0, 1) := by decide +kernel
theorem dX12_fixesOne_36 : decode cX12_fixesOne 36 = .ok (.getfield 60, 3) := by decide +kernel
theorem dX12_fixesOne_39 : decode cX12_fixesOne 39 = .ok (.bipush 6, 2) := by decide +kernel
theorem dX12_fixesOne_41 : decode cX12_fixesOne 41 = .ok (.iload_n 1, 1) := by decide +kernel
theorem dX12_fixesOne_42 : decode cX12_fixesOne 42 = .ok (.iadd, 1) := by decide +kernel
theorem dX12_fixesOne_43 : decode cX12_fixesOne 43 = .ok (.iaload, 1) := by decide +kernel
theorem dX12_fixesOne_44 : decode cX12_fixesOne 44 = .ok (.invokestatic 211, 3) := by decide +kernel
theorem dX12_fixesOne_47 : decode cX12_fixesOne 47 = .ok (.iconst 1, 1) := by decide +kernel
theorem dX12_fixesOne_48 : decode cX12_fixesOne 48 = .ok (.isub, 1) := by decide +kernel
theorem dX12_fixesOne_49 : decode cX12_fixesOne 49 = .ok (.istore_n 3, 1) := by decide +kernel
theorem dX12_fixesOne_50 : decode cX12_fixesOne 50 = .ok (.aload_n 0, 1) := by decide +kernel
theorem dX12_fixesOne_51 : decode cX12_fixesOne 51 = .ok (.getfield 60, 3) := by decide +kernel
theorem dX12_fixesOne_54 : decode cX12_fixesOne 54 = .ok (.bipush 6, 2) := by decide +kernel
theorem dX12_fixesOne_56 : decode cX12_fixesOne 56 = .ok (.iload_n 1, 1) := by decide +kernel
theorem dX12_fixesOne_57 : decode cX12_fixesOne 57 = .ok (.iadd, 1) := by decide +kernel
theorem dX12_fixesOne_58 : decode cX12_fixesOne 58 = .ok (.iconst 1, 1) := by decide +kernel
theorem dX12_fixesOne_59 : decode cX12_fixesOne 59 = .ok (.iload_n 2, 1) := by decide +kernel
theorem dX12_fixesOne_60 : decode cX12_fixesOne 60 = .ok (.ishl, 1) := by decide +kernel
theorem dX12_fixesOne_61 : decode cX12_fixesOne 61 = .ok (.iastore, 1) := by decide +kernel
theorem dX12_fixesOne_62 : decode cX12_fixesOne 62 = .ok (.iload_n 3, 1) := by decide +kernel
theorem dX12_fixesOne_63 : decode cX12_fixesOne 63 = .ok (.ireturn, 1) := by decide +kernel
def f_X12_fixesOne (a0 : Nat) (x1 : Int32) (x2 : Int32) (μ : jM) : Option (Int32 × jM) :=
  (if (f_X12_isVar x1) = (0 : Int32) then some (((-1 : Int32), μ)) else (if (f_X12_isValue x2) = (0 : Int32) then some (((-1 : Int32), μ)) else jrd (μ.1 (a0 + 3)) ((6 : Int32) + x1) 2074 (fun v4 => (if (f_X12_has v4 x2) = (0 : Int32) then some (((-2 : Int32), μ)) else jrd (μ.1 (a0 + 3)) ((6 : Int32) + x1) 2074 (fun v8 => jcl (f_X12_bitsOf v8) (fun v10 => jin ((6 : Int32) + x1) 2074 (jbd (jsi μ (a0 + 3) ((6 : Int32) + x1).toNatClampNeg ((1 : Int32) <<< (x2 &&& 31))) (fun m13 => some ((v10 - (1 : Int32), m13))))))))))
set_option maxHeartbeats 4000000 in
set_option maxRecDepth 100000 in
theorem c_X12_fixesOne {l : Launch} {G : jG} {L : jL} (hL : jOKL L) {a0 : Nat} {x1 : Int32} {x2 : Int32} (ka0 : jK L a0 12) {μ μ' : jM} {r : Int32} (h : f_X12_fixesOne a0 x1 x2 μ = some ((r, μ'))) : jCt l G L 5 yX12_fixesOne cX12_fixesOne 4 (some .int) [.ref (L.2.2 a0), .int x1, .int x2] μ (some (.int r)) μ' := by
  refine jCt_of (by decide) (Nat.le_of_ble_eq_true rfl) (fun X hC hX hR => ?_)
  subst hX
  have hC : jC X G cX12_fixesOne 4 RX12 (some .int) := hC
  unfold f_X12_fixesOne at h
  show jJ X G 4 L 0 0 (jQM X G L (some (.int r)) μ' 0 0) 0 [(0, .ref (L.2.2 a0)), (1, .int x1), (2, .int x2)] [] μ
  refine j_iload_n (pc := 0) hC 1 1 dX12_fixesOne_0 rfl rfl ?_
  refine j_si (pc := 1) hC hR [.int x1] iy_X12_isVar km_X12_202 dX12_fixesOne_1 rfl (by decide) (c_X12_isVar hL  rfl) (by decide) (Nat.le_of_ble_eq_true rfl) rfl ?_
  refine j_if_eq (pc := 4) hC 14 dX12_fixesOne_4 (by decide) (fun c1 => ?_) (fun c1 => ?_)
  · rw [if_pos c1] at h
    refine j_iconst (pc := 14) hC (-1 : Int32) dX12_fixesOne_14 (by decide) ?_
    obtain ⟨rfl, rfl⟩ := Prod.mk.inj (Option.some.inj h)
    exact j_iret (pc := 15) hC dX12_fixesOne_15 rfl
  · rw [if_neg c1] at h
    refine j_iload_n (pc := 7) hC 2 2 dX12_fixesOne_7 rfl rfl ?_
    refine j_si (pc := 8) hC hR [.int x2] iy_X12_isValue km_X12_205 dX12_fixesOne_8 rfl (by decide) (c_X12_isValue hL  rfl) (by decide) (Nat.le_of_ble_eq_true rfl) rfl ?_
    refine j_if_ne (pc := 11) hC 16 dX12_fixesOne_11 (by decide) (fun c2 => ?_) (fun c2 => ?_)
    · rw [if_neg c2] at h
      refine j_aload_n (pc := 16) hC 0 0 dX12_fixesOne_16 rfl rfl ?_
      refine jgr_12 (pc := 17) hC 8 (by decide) rfl kf_X12_60 dX12_fixesOne_17 ka0 (ly_12_8 hL ka0).1 ?_
      refine j_bipush (pc := 20) hC (6 : Int32) dX12_fixesOne_20 (by decide) ?_
      refine j_iload_n (pc := 22) hC 1 1 dX12_fixesOne_22 rfl rfl ?_
      refine j_iadd (pc := 23) hC dX12_fixesOne_23 ?_
      obtain ⟨i3, v4, e5, h⟩ := jrd_some h
      refine j_iald (pc := 24) hC dX12_fixesOne_24 (ly_12_8 hL ka0).2.1 (ly_12_8 hL ka0).2.2 i3 e5 ?_
      refine j_iload_n (pc := 25) hC 2 2 dX12_fixesOne_25 rfl rfl ?_
      refine j_si (pc := 26) hC hR [.int v4, .int x2] iy_X12_has km_X12_208 dX12_fixesOne_26 rfl (by decide) (c_X12_has hL  rfl) (by decide) (Nat.le_of_ble_eq_true rfl) rfl ?_
      refine j_if_ne (pc := 29) hC 35 dX12_fixesOne_29 (by decide) (fun c6 => ?_) (fun c6 => ?_)
      · rw [if_neg c6] at h
        refine j_aload_n (pc := 35) hC 0 0 dX12_fixesOne_35 rfl rfl ?_
        refine jgr_12 (pc := 36) hC 8 (by decide) rfl kf_X12_60 dX12_fixesOne_36 ka0 (ly_12_8 hL ka0).1 ?_
        refine j_bipush (pc := 39) hC (6 : Int32) dX12_fixesOne_39 (by decide) ?_
        refine j_iload_n (pc := 41) hC 1 1 dX12_fixesOne_41 rfl rfl ?_
        refine j_iadd (pc := 42) hC dX12_fixesOne_42 ?_
        obtain ⟨i7, v8, e9, h⟩ := jrd_some h
        refine j_iald (pc := 43) hC dX12_fixesOne_43 (ly_12_8 hL ka0).2.1 (ly_12_8 hL ka0).2.2 i7 e9 ?_
        obtain ⟨v10, e11, h⟩ := jcl_some h
        refine j_si (pc := 44) hC hR [.int v8] iy_X12_bitsOf km_X12_211 dX12_fixesOne_44 rfl (by decide) (c_X12_bitsOf hL  e11) (by decide) (Nat.le_of_ble_eq_true rfl) rfl ?_
        refine j_iconst (pc := 47) hC (1 : Int32) dX12_fixesOne_47 (by decide) ?_
        refine j_isub (pc := 48) hC dX12_fixesOne_48 ?_
        refine j_istore_n (pc := 49) hC 3 [(3, .int (v10 - (1 : Int32))), (0, .ref (L.2.2 a0)), (1, .int x1), (2, .int x2)] dX12_fixesOne_49 rfl (by decide) rfl rfl ?_
        refine j_aload_n (pc := 50) hC 0 1 dX12_fixesOne_50 rfl rfl ?_
        refine jgr_12 (pc := 51) hC 8 (by decide) rfl kf_X12_60 dX12_fixesOne_51 ka0 (ly_12_8 hL ka0).1 ?_
        refine j_bipush (pc := 54) hC (6 : Int32) dX12_fixesOne_54 (by decide) ?_
        refine j_iload_n (pc := 56) hC 1 2 dX12_fixesOne_56 rfl rfl ?_
        refine j_iadd (pc := 57) hC dX12_fixesOne_57 ?_
        refine j_iconst (pc := 58) hC (1 : Int32) dX12_fixesOne_58 (by decide) ?_
        refine j_iload_n (pc := 59) hC 2 3 dX12_fixesOne_59 rfl rfl ?_
        refine j_ishl (pc := 60) hC dX12_fixesOne_60 ?_
        obtain ⟨i12, h⟩ := jin_some h
        obtain ⟨m13, e14, h⟩ := jbd_ex h
        refine j_iast (pc := 61) hC dX12_fixesOne_61 (ly_12_8 hL ka0).2.1 (ly_12_8 hL ka0).2.2 i12 e14 ?_
        refine j_iload_n (pc := 62) hC 3 0 dX12_fixesOne_62 rfl rfl ?_
        obtain ⟨rfl, rfl⟩ := Prod.mk.inj (Option.some.inj h)
        exact j_iret (pc := 63) hC dX12_fixesOne_63 rfl
      · rw [if_pos c6] at h
        refine j_bipush (pc := 32) hC (-2 : Int32) dX12_fixesOne_32 (by decide) ?_
        obtain ⟨rfl, rfl⟩ := Prod.mk.inj (Option.some.inj h)
        exact j_iret (pc := 34) hC dX12_fixesOne_34 rfl
    · rw [if_pos c2] at h
      refine j_iconst (pc := 14) hC (-1 : Int32) dX12_fixesOne_14 (by decide) ?_
      obtain ⟨rfl, rfl⟩ := Prod.mk.inj (Option.some.inj h)
      exact j_iret (pc := 15) hC dX12_fixesOne_15 rfl
theorem dX12_limitsOne_0 : decode cX12_limitsOne 0 = .ok (.iload_n 1, 1) := by decide +kernel
theorem dX12_limitsOne_1 : decode cX12_limitsOne 1 = .ok (.invokestatic 202, 3) := by decide +kernel
theorem dX12_limitsOne_4 : decode cX12_limitsOne 4 = .ok (.ifCond .eq 17, 3) := by decide +kernel
theorem dX12_limitsOne_7 : decode cX12_limitsOne 7 = .ok (.iload_n 2, 1) := by decide +kernel
theorem dX12_limitsOne_8 : decode cX12_limitsOne 8 = .ok (.invokestatic 205, 3) := by decide +kernel
theorem dX12_limitsOne_11 : decode cX12_limitsOne 11 = .ok (.ifCond .eq 10, 3) := by decide +kernel
theorem dX12_limitsOne_14 : decode cX12_limitsOne 14 = .ok (.iload_n 3, 1) := by decide +kernel
theorem dX12_limitsOne_15 : decode cX12_limitsOne 15 = .ok (.invokestatic 205, 3) := by decide +kernel
theorem dX12_limitsOne_18 : decode cX12_limitsOne 18 = .ok (.ifCond .ne 5, 3) := by decide +kernel
theorem dX12_limitsOne_21 : decode cX12_limitsOne 21 = .ok (.iconst (-1), 1) := by decide +kernel
theorem dX12_limitsOne_22 : decode cX12_limitsOne 22 = .ok (.ireturn, 1) := by decide +kernel
theorem dX12_limitsOne_23 : decode cX12_limitsOne 23 = .ok (.iconst 0, 1) := by decide +kernel
theorem dX12_limitsOne_24 : decode cX12_limitsOne 24 = .ok (.istore 4, 2) := by decide +kernel
theorem dX12_limitsOne_26 : decode cX12_limitsOne 26 = .ok (.iload_n 2, 1) := by decide +kernel
theorem dX12_limitsOne_27 : decode cX12_limitsOne 27 = .ok (.istore 5, 2) := by decide +kernel
theorem dX12_limitsOne_29 : decode cX12_limitsOne 29 = .ok (.iload 5, 2) := by decide +kernel
theorem dX12_limitsOne_31 : decode cX12_limitsOne 31 = .ok (.iload_n 3, 1) := by decide +kernel
theorem dX12_limitsOne_32 : decode cX12_limitsOne 32 = .ok (.if_icmp .gt 28, 3) := by decide +kernel
theorem dX12_limitsOne_35 : decode cX12_limitsOne 35 = .ok (.iload 4, 2) := by decide +kernel
theorem dX12_limitsOne_37 : decode cX12_limitsOne 37 = .ok (.aload_n 0, 1) := by decide +kernel
theorem dX12_limitsOne_38 : decode cX12_limitsOne 38 = .ok (.getfield 60, 3) := by decide +kernel
theorem dX12_limitsOne_41 : decode cX12_limitsOne 41 = .ok (.bipush 6, 2) := by decide +kernel
theorem dX12_limitsOne_43 : decode cX12_limitsOne 43 = .ok (.iload_n 1, 1) := by decide +kernel
theorem dX12_limitsOne_44 : decode cX12_limitsOne 44 = .ok (.iadd, 1) := by decide +kernel
theorem dX12_limitsOne_45 : decode cX12_limitsOne 45 = .ok (.iaload, 1) := by decide +kernel
theorem dX12_limitsOne_46 : decode cX12_limitsOne 46 = .ok (.iconst 1, 1) := by decide +kernel
theorem dX12_limitsOne_47 : decode cX12_limitsOne 47 = .ok (.iload 5, 2) := by decide +kernel
theorem dX12_limitsOne_49 : decode cX12_limitsOne 49 = .ok (.ishl, 1) := by decide +kernel
theorem dX12_limitsOne_50 : decode cX12_limitsOne 50 = .ok (.iand, 1) := by decide +kernel
theorem dX12_limitsOne_51 : decode cX12_limitsOne 51 = .ok (.ior, 1) := by decide +kernel
theorem dX12_limitsOne_52 : decode cX12_limitsOne 52 = .ok (.istore 4, 2) := by decide +kernel
theorem dX12_limitsOne_54 : decode cX12_limitsOne 54 = .ok (.iinc 5 1, 3) := by decide +kernel
theorem dX12_limitsOne_57 : decode cX12_limitsOne 57 = .ok (.goto (-28), 3) := by decide +kernel
theorem dX12_limitsOne_60 : decode cX12_limitsOne 60 = .ok (.iload 4, 2) := by decide +kernel
theorem dX12_limitsOne_62 : decode cX12_limitsOne 62 = .ok (.ifCond .ne 6, 3) := by decide +kernel
theorem dX12_limitsOne_65 : decode cX12_limitsOne 65 = .ok (.bipush (-2), 2) := by decide +kernel
theorem dX12_limitsOne_67 : decode cX12_limitsOne 67 = .ok (.ireturn, 1) := by decide +kernel
theorem dX12_limitsOne_68 : decode cX12_limitsOne 68 = .ok (.aload_n 0, 1) := by decide +kernel
theorem dX12_limitsOne_69 : decode cX12_limitsOne 69 = .ok (.getfield 60, 3) := by decide +kernel
theorem dX12_limitsOne_72 : decode cX12_limitsOne 72 = .ok (.bipush 6, 2) := by decide +kernel
theorem dX12_limitsOne_74 : decode cX12_limitsOne 74 = .ok (.iload_n 1, 1) := by decide +kernel
theorem dX12_limitsOne_75 : decode cX12_limitsOne 75 = .ok (.iadd, 1) := by decide +kernel
theorem dX12_limitsOne_76 : decode cX12_limitsOne 76 = .ok (.iaload, 1) := by decide +kernel
theorem dX12_limitsOne_77 : decode cX12_limitsOne 77 = .ok (.invokestatic 211, 3) := by decide +kernel
theorem dX12_limitsOne_80 : decode cX12_limitsOne 80 = .ok (.iload 4, 2) := by decide +kernel
theorem dX12_limitsOne_82 : decode cX12_limitsOne 82 = .ok (.invokestatic 211, 3) := by decide +kernel
theorem dX12_limitsOne_85 : decode cX12_limitsOne 85 = .ok (.isub, 1) := by decide +kernel
theorem dX12_limitsOne_86 : decode cX12_limitsOne 86 = .ok (.istore 5, 2) := by decide +kernel
theorem dX12_limitsOne_88 : decode cX12_limitsOne 88 = .ok (.aload_n 0, 1) := by decide +kernel
theorem dX12_limitsOne_89 : decode cX12_limitsOne 89 = .ok (.getfield 60, 3) := by decide +kernel
theorem dX12_limitsOne_92 : decode cX12_limitsOne 92 = .ok (.bipush 6, 2) := by decide +kernel
theorem dX12_limitsOne_94 : decode cX12_limitsOne 94 = .ok (.iload_n 1, 1) := by decide +kernel
theorem dX12_limitsOne_95 : decode cX12_limitsOne 95 = .ok (.iadd, 1) := by decide +kernel
theorem dX12_limitsOne_96 : decode cX12_limitsOne 96 = .ok (.iload 4, 2) := by decide +kernel
theorem dX12_limitsOne_98 : decode cX12_limitsOne 98 = .ok (.iastore, 1) := by decide +kernel
theorem dX12_limitsOne_99 : decode cX12_limitsOne 99 = .ok (.iload 5, 2) := by decide +kernel
theorem dX12_limitsOne_101 : decode cX12_limitsOne 101 = .ok (.ireturn, 1) := by decide +kernel
def f_X12_limitsOne_L29 (a0 : Nat) (x1 : Int32) (x3 : Int32) (μ : jM) (u4 : Int32) (u5 : Int32) : Option ((Int32 × Int32) ⊕ (Int32)) :=
  (if x3 < u5 then some (.inr u4) else jrd (μ.1 (a0 + 3)) ((6 : Int32) + x1) 2074 (fun v8 => jbd (u4 ||| (v8 &&& ((1 : Int32) <<< (u5 &&& 31))) : Int32) (fun v10 => some (.inl ((v10, u5 + (1 : Int32)))))))
def f_X12_limitsOne (a0 : Nat) (x1 : Int32) (x2 : Int32) (x3 : Int32) (μ : jM) : Option (Int32 × jM) :=
  (if (f_X12_isVar x1) = (0 : Int32) then some (((-1 : Int32), μ)) else (if (f_X12_isValue x2) = (0 : Int32) then some (((-1 : Int32), μ)) else (if (f_X12_isValue x3) = (0 : Int32) then some (((-1 : Int32), μ)) else jcl (jloop (fun (s : Int32 × Int32) => f_X12_limitsOne_L29 a0 x1 x3 μ s.1 s.2) jfu (((0 : Int32), x2))) (fun w12 => (if w12 = (0 : Int32) then some (((-2 : Int32), μ)) else jrd (μ.1 (a0 + 3)) ((6 : Int32) + x1) 2074 (fun v18 => jcl (f_X12_bitsOf v18) (fun v20 => jcl (f_X12_bitsOf w12) (fun v22 => jin ((6 : Int32) + x1) 2074 (jbd (jsi μ (a0 + 3) ((6 : Int32) + x1).toNatClampNeg w12) (fun m25 => some ((v20 - v22, m25))))))))))))
set_option maxHeartbeats 4000000 in
set_option maxRecDepth 100000 in
theorem c_X12_limitsOne {l : Launch} {G : jG} {L : jL} (hL : jOKL L) {a0 : Nat} {x1 : Int32} {x2 : Int32} {x3 : Int32} (ka0 : jK L a0 12) {μ μ' : jM} {r : Int32} (h : f_X12_limitsOne a0 x1 x2 x3 μ = some ((r, μ'))) : jCt l G L 5 yX12_limitsOne cX12_limitsOne 6 (some .int) [.ref (L.2.2 a0), .int x1, .int x2, .int x3] μ (some (.int r)) μ' := by
  refine jCt_of (by decide) (Nat.le_of_ble_eq_true rfl) (fun X hC hX hR => ?_)
  subst hX
  have hC : jC X G cX12_limitsOne 6 RX12 (some .int) := hC
  unfold f_X12_limitsOne at h
  show jJ X G 6 L 0 0 (jQM X G L (some (.int r)) μ' 0 0) 0 [(0, .ref (L.2.2 a0)), (1, .int x1), (2, .int x2), (3, .int x3)] [] μ
  refine j_iload_n (pc := 0) hC 1 1 dX12_limitsOne_0 rfl rfl ?_
  refine j_si (pc := 1) hC hR [.int x1] iy_X12_isVar km_X12_202 dX12_limitsOne_1 rfl (by decide) (c_X12_isVar hL  rfl) (by decide) (Nat.le_of_ble_eq_true rfl) rfl ?_
  refine j_if_eq (pc := 4) hC 21 dX12_limitsOne_4 (by decide) (fun c1 => ?_) (fun c1 => ?_)
  · rw [if_pos c1] at h
    refine j_iconst (pc := 21) hC (-1 : Int32) dX12_limitsOne_21 (by decide) ?_
    obtain ⟨rfl, rfl⟩ := Prod.mk.inj (Option.some.inj h)
    exact j_iret (pc := 22) hC dX12_limitsOne_22 rfl
  · rw [if_neg c1] at h
    refine j_iload_n (pc := 7) hC 2 2 dX12_limitsOne_7 rfl rfl ?_
    refine j_si (pc := 8) hC hR [.int x2] iy_X12_isValue km_X12_205 dX12_limitsOne_8 rfl (by decide) (c_X12_isValue hL  rfl) (by decide) (Nat.le_of_ble_eq_true rfl) rfl ?_
    refine j_if_eq (pc := 11) hC 21 dX12_limitsOne_11 (by decide) (fun c2 => ?_) (fun c2 => ?_)
    · rw [if_pos c2] at h
      refine j_iconst (pc := 21) hC (-1 : Int32) dX12_limitsOne_21 (by decide) ?_
      obtain ⟨rfl, rfl⟩ := Prod.mk.inj (Option.some.inj h)
      exact j_iret (pc := 22) hC dX12_limitsOne_22 rfl
    · rw [if_neg c2] at h
      refine j_iload_n (pc := 14) hC 3 3 dX12_limitsOne_14 rfl rfl ?_
      refine j_si (pc := 15) hC hR [.int x3] iy_X12_isValue km_X12_205 dX12_limitsOne_15 rfl (by decide) (c_X12_isValue hL  rfl) (by decide) (Nat.le_of_ble_eq_true rfl) rfl ?_
      refine j_if_ne (pc := 18) hC 23 dX12_limitsOne_18 (by decide) (fun c3 => ?_) (fun c3 => ?_)
      · rw [if_neg c3] at h
        refine j_iconst (pc := 23) hC (0 : Int32) dX12_limitsOne_23 (by decide) ?_
        refine j_istore (pc := 24) hC [(4, .int (0 : Int32)), (0, .ref (L.2.2 a0)), (1, .int x1), (2, .int x2), (3, .int x3)] dX12_limitsOne_24 (by decide) rfl rfl ?_
        refine j_iload_n (pc := 26) hC 2 3 dX12_limitsOne_26 rfl rfl ?_
        refine j_istore (pc := 27) hC [(5, .int x2), (4, .int (0 : Int32)), (0, .ref (L.2.2 a0)), (1, .int x1), (2, .int x2), (3, .int x3)] dX12_limitsOne_27 (by decide) rfl rfl ?_
        obtain ⟨w12, hw13, h⟩ := jcl_some h
        refine j_lv [2, 3, 5, 1, 0] rfl ?_
        refine j_loop (step := (fun (s : Int32 × Int32) => f_X12_limitsOne_L29 a0 x1 x3 μ s.1 s.2)) (P := (fun (s : Int32 × Int32) => jJ X G 6 L 0 0 (jQM X G L (some (.int r)) μ' 0 0) 29 [(0, .ref (L.2.2 a0)), (1, .int x1), (3, .int x3), (4, .int s.1), (5, .int s.2)] [] μ)) (R := (fun (e : Int32) => jJ X G 6 L 0 0 (jQM X G L (some (.int r)) μ' 0 0) 60 [(0, .ref (L.2.2 a0)), (1, .int x1), (4, .int e)] [] μ)) ?_ jfu (((0 : Int32), x2)) w12 hw13 ?_
        · intro s14 o h hk
          obtain ⟨u4, u5⟩ := s14
          change f_X12_limitsOne_L29 a0 x1 x3 μ u4 u5 = some o at h
          unfold f_X12_limitsOne_L29 at h
          show jJ X G 6 L 0 0 (jQM X G L (some (.int r)) μ' 0 0) 29 [(0, .ref (L.2.2 a0)), (1, .int x1), (3, .int x3), (4, .int u4), (5, .int u5)] [] μ
          refine j_iload (pc := 29) hC 4 dX12_limitsOne_29 rfl ?_
          refine j_iload_n (pc := 31) hC 3 2 dX12_limitsOne_31 rfl rfl ?_
          refine j_icmp_gt (pc := 32) hC 60 dX12_limitsOne_32 (by decide) (fun c6 => ?_) (fun c6 => ?_)
          · rw [if_pos c6] at h
            obtain rfl := Option.some.inj h
            have hk : jJ X G 6 L 0 0 (jQM X G L (some (.int r)) μ' 0 0) 60 [(0, .ref (L.2.2 a0)), (1, .int x1), (4, .int u4)] [] μ := hk
            exact j_lv [0, 1, 3] rfl hk
          · rw [if_neg c6] at h
            refine j_iload (pc := 35) hC 3 dX12_limitsOne_35 rfl ?_
            refine j_aload_n (pc := 37) hC 0 0 dX12_limitsOne_37 rfl rfl ?_
            refine jgr_12 (pc := 38) hC 8 (by decide) rfl kf_X12_60 dX12_limitsOne_38 ka0 (ly_12_8 hL ka0).1 ?_
            refine j_bipush (pc := 41) hC (6 : Int32) dX12_limitsOne_41 (by decide) ?_
            refine j_iload_n (pc := 43) hC 1 1 dX12_limitsOne_43 rfl rfl ?_
            refine j_iadd (pc := 44) hC dX12_limitsOne_44 ?_
            obtain ⟨i7, v8, e9, h⟩ := jrd_some h
            refine j_iald (pc := 45) hC dX12_limitsOne_45 (ly_12_8 hL ka0).2.1 (ly_12_8 hL ka0).2.2 i7 e9 ?_
            refine j_iconst (pc := 46) hC (1 : Int32) dX12_limitsOne_46 (by decide) ?_
            refine j_iload (pc := 47) hC 4 dX12_limitsOne_47 rfl ?_
            refine j_ishl (pc := 49) hC dX12_limitsOne_49 ?_
            refine j_iand (pc := 50) hC dX12_limitsOne_50 ?_
            refine j_ior (pc := 51) hC dX12_limitsOne_51 ?_
            obtain ⟨v10, e11, h⟩ := jbd_ex h
            refine j_istore (pc := 52) hC [(4, .int v10), (0, .ref (L.2.2 a0)), (1, .int x1), (3, .int x3), (5, .int u5)] dX12_limitsOne_52 (by decide) e11 rfl ?_
            refine j_iinc (pc := 54) hC 4 (u5 + (1 : Int32)) [(5, .int (u5 + (1 : Int32))), (4, .int v10), (0, .ref (L.2.2 a0)), (1, .int x1), (3, .int x3)] dX12_limitsOne_54 rfl rfl (by decide) rfl ?_
            refine j_goto (pc := 57) hC 29 dX12_limitsOne_57 (by decide) ?_
            obtain rfl := Option.some.inj h
            have hk : jJ X G 6 L 0 0 (jQM X G L (some (.int r)) μ' 0 0) 29 [(0, .ref (L.2.2 a0)), (1, .int x1), (3, .int x3), (4, .int v10), (5, .int (u5 + (1 : Int32)))] [] μ := hk
            exact j_lv [2, 3, 4, 1, 0] rfl hk
        · obtain ⟨z15, rfl⟩ : ∃ y, y = w12 := ⟨_, rfl⟩
          try dsimp only at h
          show jJ X G 6 L 0 0 (jQM X G L (some (.int r)) μ' 0 0) 60 [(0, .ref (L.2.2 a0)), (1, .int x1), (4, .int z15)] [] μ
          refine j_iload (pc := 60) hC 2 dX12_limitsOne_60 rfl ?_
          refine j_if_ne (pc := 62) hC 68 dX12_limitsOne_62 (by decide) (fun c16 => ?_) (fun c16 => ?_)
          · rw [if_neg c16] at h
            refine j_aload_n (pc := 68) hC 0 0 dX12_limitsOne_68 rfl rfl ?_
            refine jgr_12 (pc := 69) hC 8 (by decide) rfl kf_X12_60 dX12_limitsOne_69 ka0 (ly_12_8 hL ka0).1 ?_
            refine j_bipush (pc := 72) hC (6 : Int32) dX12_limitsOne_72 (by decide) ?_
            refine j_iload_n (pc := 74) hC 1 1 dX12_limitsOne_74 rfl rfl ?_
            refine j_iadd (pc := 75) hC dX12_limitsOne_75 ?_
            obtain ⟨i17, v18, e19, h⟩ := jrd_some h
            refine j_iald (pc := 76) hC dX12_limitsOne_76 (ly_12_8 hL ka0).2.1 (ly_12_8 hL ka0).2.2 i17 e19 ?_
            obtain ⟨v20, e21, h⟩ := jcl_some h
            refine j_si (pc := 77) hC hR [.int v18] iy_X12_bitsOf km_X12_211 dX12_limitsOne_77 rfl (by decide) (c_X12_bitsOf hL  e21) (by decide) (Nat.le_of_ble_eq_true rfl) rfl ?_
            refine j_iload (pc := 80) hC 2 dX12_limitsOne_80 rfl ?_
            obtain ⟨v22, e23, h⟩ := jcl_some h
            refine j_si (pc := 82) hC hR [.int z15] iy_X12_bitsOf km_X12_211 dX12_limitsOne_82 rfl (by decide) (c_X12_bitsOf hL  e23) (by decide) (Nat.le_of_ble_eq_true rfl) rfl ?_
            refine j_isub (pc := 85) hC dX12_limitsOne_85 ?_
            refine j_istore (pc := 86) hC [(5, .int (v20 - v22)), (0, .ref (L.2.2 a0)), (1, .int x1), (4, .int z15)] dX12_limitsOne_86 (by decide) rfl rfl ?_
            refine j_aload_n (pc := 88) hC 0 1 dX12_limitsOne_88 rfl rfl ?_
            refine jgr_12 (pc := 89) hC 8 (by decide) rfl kf_X12_60 dX12_limitsOne_89 ka0 (ly_12_8 hL ka0).1 ?_
            refine j_bipush (pc := 92) hC (6 : Int32) dX12_limitsOne_92 (by decide) ?_
            refine j_iload_n (pc := 94) hC 1 2 dX12_limitsOne_94 rfl rfl ?_
            refine j_iadd (pc := 95) hC dX12_limitsOne_95 ?_
            refine j_iload (pc := 96) hC 3 dX12_limitsOne_96 rfl ?_
            obtain ⟨i24, h⟩ := jin_some h
            obtain ⟨m25, e26, h⟩ := jbd_ex h
            refine j_iast (pc := 98) hC dX12_limitsOne_98 (ly_12_8 hL ka0).2.1 (ly_12_8 hL ka0).2.2 i24 e26 ?_
            refine j_iload (pc := 99) hC 0 dX12_limitsOne_99 rfl ?_
            obtain ⟨rfl, rfl⟩ := Prod.mk.inj (Option.some.inj h)
            exact j_iret (pc := 101) hC dX12_limitsOne_101 rfl
          · rw [if_pos c16] at h
            refine j_bipush (pc := 65) hC (-2 : Int32) dX12_limitsOne_65 (by decide) ?_
            obtain ⟨rfl, rfl⟩ := Prod.mk.inj (Option.some.inj h)
            exact j_iret (pc := 67) hC dX12_limitsOne_67 rfl
      · rw [if_pos c3] at h
        refine j_iconst (pc := 21) hC (-1 : Int32) dX12_limitsOne_21 (by decide) ?_
        obtain ⟨rfl, rfl⟩ := Prod.mk.inj (Option.some.inj h)
        exact j_iret (pc := 22) hC dX12_limitsOne_22 rfl
theorem dX12_putsOne_0 : decode cX12_putsOne 0 = .ok (.iload_n 1, 1) := by decide +kernel
theorem dX12_putsOne_1 : decode cX12_putsOne 1 = .ok (.i2l, 1) := by decide +kernel
theorem dX12_putsOne_2 : decode cX12_putsOne 2 = .ok (.lconst 0, 1) := by decide +kernel
theorem dX12_putsOne_3 : decode cX12_putsOne 3 = .ok (.ldc2_w 214, 3) := by decide +kernel
theorem dX12_putsOne_6 : decode cX12_putsOne 6 = .ok (.invokestatic 21, 3) := by decide +kernel
theorem dX12_putsOne_9 : decode cX12_putsOne 9 = .ok (.ifCond .eq 17, 3) := by decide +kernel
theorem dX12_putsOne_12 : decode cX12_putsOne 12 = .ok (.iload_n 2, 1) := by decide +kernel
theorem dX12_putsOne_13 : decode cX12_putsOne 13 = .ok (.i2l, 1) := by decide +kernel
theorem dX12_putsOne_14 : decode cX12_putsOne 14 = .ok (.ldc2_w 198, 3) := by decide +kernel
theorem dX12_putsOne_17 : decode cX12_putsOne 17 = .ok (.ldc2_w 200, 3) := by decide +kernel
theorem dX12_putsOne_20 : decode cX12_putsOne 20 = .ok (.invokestatic 21, 3) := by decide +kernel
theorem dX12_putsOne_23 : decode cX12_putsOne 23 = .ok (.ifCond .ne 5, 3) := by decide +kernel
theorem dX12_putsOne_26 : decode cX12_putsOne 26 = .ok (.iconst (-1), 1) := by decide +kernel
theorem dX12_putsOne_27 : decode cX12_putsOne 27 = .ok (.ireturn, 1) := by decide +kernel
theorem dX12_putsOne_28 : decode cX12_putsOne 28 = .ok (.aload_n 0, 1) := by decide +kernel
theorem dX12_putsOne_29 : decode cX12_putsOne 29 = .ok (.iconst 0, 1) := by decide +kernel
theorem dX12_putsOne_30 : decode cX12_putsOne 30 = .ok (.iload_n 1, 1) := by decide +kernel
theorem dX12_putsOne_31 : decode cX12_putsOne 31 = .ok (.invokevirtual 135, 3) := by decide +kernel
theorem dX12_putsOne_34 : decode cX12_putsOne 34 = .ok (.istore_n 3, 1) := by decide +kernel
theorem dX12_putsOne_35 : decode cX12_putsOne 35 = .ok (.iload_n 3, 1) := by decide +kernel
theorem dX12_putsOne_36 : decode cX12_putsOne 36 = .ok (.ifCond .ge 18, 3) := by decide +kernel
theorem dX12_putsOne_39 : decode cX12_putsOne 39 = .ok (.aload_n 0, 1) := by decide +kernel
theorem dX12_putsOne_40 : decode cX12_putsOne 40 = .ok (.getfield 60, 3) := by decide +kernel
theorem dX12_putsOne_43 : decode cX12_putsOne 43 = .ok (.bipush 11, 2) := by decide +kernel
theorem dX12_putsOne_45 : decode cX12_putsOne 45 = .ok (.iaload, 1) := by decide +kernel
theorem dX12_putsOne_46 : decode cX12_putsOne 46 = .ok (.bipush 8, 2) := by decide +kernel
theorem dX12_putsOne_48 : decode cX12_putsOne 48 = .ok (.if_icmp .ne 6, 3) := by decide +kernel
theorem dX12_putsOne_51 : decode cX12_putsOne 51 = .ok (.bipush (-2), 2) := by decide +kernel
theorem dX12_putsOne_53 : decode cX12_putsOne 53 = .ok (.ireturn, 1) := by decide +kernel
theorem dX12_putsOne_54 : decode cX12_putsOne 54 = .ok (.iload_n 3, 1) := by decide +kernel
theorem dX12_putsOne_55 : decode cX12_putsOne 55 = .ok (.ifCond .ge 22, 3) := by decide +kernel
theorem dX12_putsOne_58 : decode cX12_putsOne 58 = .ok (.aload_n 0, 1) := by decide +kernel
theorem dX12_putsOne_59 : decode cX12_putsOne 59 = .ok (.getfield 60, 3) := by decide +kernel
theorem dX12_putsOne_62 : decode cX12_putsOne 62 = .ok (.bipush 11, 2) := by decide +kernel
theorem dX12_putsOne_64 : decode cX12_putsOne 64 = .ok (.iaload, 1) := by decide +kernel
theorem dX12_putsOne_65 : decode cX12_putsOne 65 = .ok (.istore_n 3, 1) := by decide +kernel
theorem dX12_putsOne_66 : decode cX12_putsOne 66 = .ok (.aload_n 0, 1) := by decide +kernel
theorem dX12_putsOne_67 : decode cX12_putsOne 67 = .ok (.getfield 60, 3) := by decide +kernel
theorem dX12_putsOne_70 : decode cX12_putsOne 70 = .ok (.bipush 11, 2) := by decide +kernel
theorem dX12_putsOne_72 : decode cX12_putsOne 72 = .ok (.dup2, 1) := by decide +kernel
theorem dX12_putsOne_73 : decode cX12_putsOne 73 = .ok (.iaload, 1) := by decide +kernel
theorem dX12_putsOne_74 : decode cX12_putsOne 74 = .ok (.iconst 1, 1) := by decide +kernel
theorem dX12_putsOne_75 : decode cX12_putsOne 75 = .ok (.iadd, 1) := by decide +kernel
theorem dX12_putsOne_76 : decode cX12_putsOne 76 = .ok (.iastore, 1) := by decide +kernel
theorem dX12_putsOne_77 : decode cX12_putsOne 77 = .ok (.aload_n 0, 1) := by decide +kernel
theorem dX12_putsOne_78 : decode cX12_putsOne 78 = .ok (.getfield 60, 3) := by decide +kernel
theorem dX12_putsOne_81 : decode cX12_putsOne 81 = .ok (.bipush 12, 2) := by decide +kernel
theorem dX12_putsOne_83 : decode cX12_putsOne 83 = .ok (.iload_n 3, 1) := by decide +kernel
theorem dX12_putsOne_84 : decode cX12_putsOne 84 = .ok (.iadd, 1) := by decide +kernel
theorem dX12_putsOne_85 : decode cX12_putsOne 85 = .ok (.iload_n 1, 1) := by decide +kernel
theorem dX12_putsOne_86 : decode cX12_putsOne 86 = .ok (.iastore, 1) := by decide +kernel
theorem dX12_putsOne_87 : decode cX12_putsOne 87 = .ok (.aload_n 0, 1) := by decide +kernel
theorem dX12_putsOne_88 : decode cX12_putsOne 88 = .ok (.getfield 60, 3) := by decide +kernel
theorem dX12_putsOne_91 : decode cX12_putsOne 91 = .ok (.bipush 20, 2) := by decide +kernel
theorem dX12_putsOne_93 : decode cX12_putsOne 93 = .ok (.iload_n 3, 1) := by decide +kernel
theorem dX12_putsOne_94 : decode cX12_putsOne 94 = .ok (.iadd, 1) := by decide +kernel
theorem dX12_putsOne_95 : decode cX12_putsOne 95 = .ok (.iload_n 2, 1) := by decide +kernel
theorem dX12_putsOne_96 : decode cX12_putsOne 96 = .ok (.iastore, 1) := by decide +kernel
theorem dX12_putsOne_97 : decode cX12_putsOne 97 = .ok (.iload_n 3, 1) := by decide +kernel
theorem dX12_putsOne_98 : decode cX12_putsOne 98 = .ok (.ireturn, 1) := by decide +kernel
def f_X12_putsOne (a0 : Nat) (x1 : Int32) (x2 : Int32) (μ : jM) : Option (Int32 × jM) :=
  (if (f_X12_in x1.toInt64 (0 : Int64) (9 : Int64)) = (0 : Int32) then some (((-1 : Int32), μ)) else (if (f_X12_in x2.toInt64 (-999 : Int64) (999 : Int64)) = (0 : Int32) then some (((-1 : Int32), μ)) else jcl (f_X12_placeOf a0 (0 : Int32) x1 μ) (fun v3 => jbd (jbd (fun (t8 : Int32) (m9 : jM) => jin ((12 : Int32) + t8) 2074 (jbd (jsi m9 (a0 + 3) ((12 : Int32) + t8).toNatClampNeg x1) (fun m14 => jin ((20 : Int32) + t8) 2074 (jbd (jsi m14 (a0 + 3) ((20 : Int32) + t8).toNatClampNeg x2) (fun m17 => some ((t8, m17))))))) (fun k10 => (if (0 : Int32) ≤ v3 then k10 v3 μ else jrd (μ.1 (a0 + 3)) (11 : Int32) 2074 (fun v21 => jrd (μ.1 (a0 + 3)) (11 : Int32) 2074 (fun v24 => jin (11 : Int32) 2074 (jbd (jsi μ (a0 + 3) (11 : Int32).toNatClampNeg (v24 + (1 : Int32))) (fun m27 => k10 v21 m27))))))) (fun k5 => (if (0 : Int32) ≤ v3 then k5 else jrd (μ.1 (a0 + 3)) (11 : Int32) 2074 (fun v31 => (if v31 = (8 : Int32) then some (((-2 : Int32), μ)) else k5)))))))
set_option maxHeartbeats 4000000 in
set_option maxRecDepth 100000 in
theorem c_X12_putsOne {l : Launch} {G : jG} {L : jL} (hL : jOKL L) {a0 : Nat} {x1 : Int32} {x2 : Int32} (ka0 : jK L a0 12) {μ μ' : jM} {r : Int32} (h : f_X12_putsOne a0 x1 x2 μ = some ((r, μ'))) : jCt l G L 5 yX12_putsOne cX12_putsOne 4 (some .int) [.ref (L.2.2 a0), .int x1, .int x2] μ (some (.int r)) μ' := by
  refine jCt_of (by decide) (Nat.le_of_ble_eq_true rfl) (fun X hC hX hR => ?_)
  subst hX
  have hC : jC X G cX12_putsOne 4 RX12 (some .int) := hC
  unfold f_X12_putsOne at h
  show jJ X G 4 L 0 0 (jQM X G L (some (.int r)) μ' 0 0) 0 [(0, .ref (L.2.2 a0)), (1, .int x1), (2, .int x2)] [] μ
  refine j_iload_n (pc := 0) hC 1 1 dX12_putsOne_0 rfl rfl ?_
  refine j_i2l (pc := 1) hC dX12_putsOne_1 ?_
  refine j_lconst (pc := 2) hC (0 : Int64) dX12_putsOne_2 (by decide) ?_
  refine j_ldc2 (pc := 3) hC dX12_putsOne_3 kl_X12_214 ?_
  refine j_si (pc := 6) hC hR [.long x1.toInt64, .long (0 : Int64), .long (9 : Int64)] iy_X12_in km_X12_21 dX12_putsOne_6 rfl (by decide) (c_X12_in hL  rfl) (by decide) (Nat.le_of_ble_eq_true rfl) rfl ?_
  refine j_if_eq (pc := 9) hC 26 dX12_putsOne_9 (by decide) (fun c1 => ?_) (fun c1 => ?_)
  · rw [if_pos c1] at h
    refine j_iconst (pc := 26) hC (-1 : Int32) dX12_putsOne_26 (by decide) ?_
    obtain ⟨rfl, rfl⟩ := Prod.mk.inj (Option.some.inj h)
    exact j_iret (pc := 27) hC dX12_putsOne_27 rfl
  · rw [if_neg c1] at h
    refine j_iload_n (pc := 12) hC 2 2 dX12_putsOne_12 rfl rfl ?_
    refine j_i2l (pc := 13) hC dX12_putsOne_13 ?_
    refine j_ldc2 (pc := 14) hC dX12_putsOne_14 kl_X12_198 ?_
    refine j_ldc2 (pc := 17) hC dX12_putsOne_17 kl_X12_200 ?_
    refine j_si (pc := 20) hC hR [.long x2.toInt64, .long (-999 : Int64), .long (999 : Int64)] iy_X12_in km_X12_21 dX12_putsOne_20 rfl (by decide) (c_X12_in hL  rfl) (by decide) (Nat.le_of_ble_eq_true rfl) rfl ?_
    refine j_if_ne (pc := 23) hC 28 dX12_putsOne_23 (by decide) (fun c2 => ?_) (fun c2 => ?_)
    · rw [if_neg c2] at h
      refine j_aload_n (pc := 28) hC 0 0 dX12_putsOne_28 rfl rfl ?_
      refine j_iconst (pc := 29) hC (0 : Int32) dX12_putsOne_29 (by decide) ?_
      refine j_iload_n (pc := 30) hC 1 1 dX12_putsOne_30 rfl rfl ?_
      obtain ⟨v3, e4, h⟩ := jcl_some h
      refine j_vi (pc := 31) hC hR [.int (0 : Int32), .int x1] iy_X12_placeOf (q := (RX12, TX12, 40)) (ci := 12) rfl rfl (by decide) km_X12_135 dX12_putsOne_31 rfl (by decide) ka0 (c_X12_placeOf hL ka0 e4) (by decide) (Nat.le_of_ble_eq_true rfl) rfl ?_
      refine j_istore_n (pc := 34) hC 3 [(3, .int v3), (0, .ref (L.2.2 a0)), (1, .int x1), (2, .int x2)] dX12_putsOne_34 rfl (by decide) rfl rfl ?_
      refine j_iload_n (pc := 35) hC 3 0 dX12_putsOne_35 rfl rfl ?_
      obtain ⟨k5, e7, h⟩ := jbd_ex h
      have q6 : k5 = some ((r, μ')) → jJ X G 4 L 0 0 (jQM X G L (some (.int r)) μ' 0 0) 54 [(0, .ref (L.2.2 a0)), (1, .int x1), (2, .int x2), (3, .int v3)] [] μ := by
        intro h
        rw [e7] at h
        refine j_iload_n (pc := 54) hC 3 3 dX12_putsOne_54 rfl rfl ?_
        obtain ⟨k10, e12, h⟩ := jbd_ex h
        have q11 : ∀ (t8 : Int32) (m9 : jM), k10 t8 m9 = some ((r, μ')) → jJ X G 4 L 0 0 (jQM X G L (some (.int r)) μ' 0 0) 77 [(0, .ref (L.2.2 a0)), (1, .int x1), (2, .int x2), (3, .int t8)] [] m9 := by
          intro t8 m9 h
          rw [e12] at h
          try dsimp only at h
          refine j_aload_n (pc := 77) hC 0 0 dX12_putsOne_77 rfl rfl ?_
          refine jgr_12 (pc := 78) hC 8 (by decide) rfl kf_X12_60 dX12_putsOne_78 ka0 (ly_12_8 hL ka0).1 ?_
          refine j_bipush (pc := 81) hC (12 : Int32) dX12_putsOne_81 (by decide) ?_
          refine j_iload_n (pc := 83) hC 3 3 dX12_putsOne_83 rfl rfl ?_
          refine j_iadd (pc := 84) hC dX12_putsOne_84 ?_
          refine j_iload_n (pc := 85) hC 1 1 dX12_putsOne_85 rfl rfl ?_
          obtain ⟨i13, h⟩ := jin_some h
          obtain ⟨m14, e15, h⟩ := jbd_ex h
          refine j_iast (pc := 86) hC dX12_putsOne_86 (ly_12_8 hL ka0).2.1 (ly_12_8 hL ka0).2.2 i13 e15 ?_
          refine j_aload_n (pc := 87) hC 0 0 dX12_putsOne_87 rfl rfl ?_
          refine jgr_12 (pc := 88) hC 8 (by decide) rfl kf_X12_60 dX12_putsOne_88 ka0 (ly_12_8 hL ka0).1 ?_
          refine j_bipush (pc := 91) hC (20 : Int32) dX12_putsOne_91 (by decide) ?_
          refine j_iload_n (pc := 93) hC 3 3 dX12_putsOne_93 rfl rfl ?_
          refine j_iadd (pc := 94) hC dX12_putsOne_94 ?_
          refine j_iload_n (pc := 95) hC 2 2 dX12_putsOne_95 rfl rfl ?_
          obtain ⟨i16, h⟩ := jin_some h
          obtain ⟨m17, e18, h⟩ := jbd_ex h
          refine j_iast (pc := 96) hC dX12_putsOne_96 (ly_12_8 hL ka0).2.1 (ly_12_8 hL ka0).2.2 i16 e18 ?_
          refine j_iload_n (pc := 97) hC 3 3 dX12_putsOne_97 rfl rfl ?_
          obtain ⟨rfl, rfl⟩ := Prod.mk.inj (Option.some.inj h)
          exact j_iret (pc := 98) hC dX12_putsOne_98 rfl
        refine j_if_ge (pc := 55) hC 77 dX12_putsOne_55 (by decide) (fun c19 => ?_) (fun c19 => ?_)
        · rw [if_pos c19] at h
          exact j_lv [0, 1, 2, 3] rfl (q11 _ _ h)
        · rw [if_neg c19] at h
          refine j_aload_n (pc := 58) hC 0 0 dX12_putsOne_58 rfl rfl ?_
          refine jgr_12 (pc := 59) hC 8 (by decide) rfl kf_X12_60 dX12_putsOne_59 ka0 (ly_12_8 hL ka0).1 ?_
          refine j_bipush (pc := 62) hC (11 : Int32) dX12_putsOne_62 (by decide) ?_
          obtain ⟨i20, v21, e22, h⟩ := jrd_some h
          refine j_iald (pc := 64) hC dX12_putsOne_64 (ly_12_8 hL ka0).2.1 (ly_12_8 hL ka0).2.2 i20 e22 ?_
          refine j_istore_n (pc := 65) hC 3 [(3, .int v21), (0, .ref (L.2.2 a0)), (1, .int x1), (2, .int x2)] dX12_putsOne_65 rfl (by decide) rfl rfl ?_
          refine j_aload_n (pc := 66) hC 0 1 dX12_putsOne_66 rfl rfl ?_
          refine jgr_12 (pc := 67) hC 8 (by decide) rfl kf_X12_60 dX12_putsOne_67 ka0 (ly_12_8 hL ka0).1 ?_
          refine j_bipush (pc := 70) hC (11 : Int32) dX12_putsOne_70 (by decide) ?_
          refine j_dup2 (pc := 72) hC dX12_putsOne_72 rfl rfl ?_
          obtain ⟨i23, v24, e25, h⟩ := jrd_some h
          refine j_iald (pc := 73) hC dX12_putsOne_73 (ly_12_8 hL ka0).2.1 (ly_12_8 hL ka0).2.2 i23 e25 ?_
          refine j_iconst (pc := 74) hC (1 : Int32) dX12_putsOne_74 (by decide) ?_
          refine j_iadd (pc := 75) hC dX12_putsOne_75 ?_
          obtain ⟨i26, h⟩ := jin_some h
          obtain ⟨m27, e28, h⟩ := jbd_ex h
          refine j_iast (pc := 76) hC dX12_putsOne_76 (ly_12_8 hL ka0).2.1 (ly_12_8 hL ka0).2.2 i26 e28 ?_
          exact j_lv [1, 2, 3, 0] rfl (q11 _ _ h)
      refine j_if_ge (pc := 36) hC 54 dX12_putsOne_36 (by decide) (fun c29 => ?_) (fun c29 => ?_)
      · rw [if_pos c29] at h
        exact j_lv [1, 2, 3, 0] rfl (q6 h)
      · rw [if_neg c29] at h
        refine j_aload_n (pc := 39) hC 0 1 dX12_putsOne_39 rfl rfl ?_
        refine jgr_12 (pc := 40) hC 8 (by decide) rfl kf_X12_60 dX12_putsOne_40 ka0 (ly_12_8 hL ka0).1 ?_
        refine j_bipush (pc := 43) hC (11 : Int32) dX12_putsOne_43 (by decide) ?_
        obtain ⟨i30, v31, e32, h⟩ := jrd_some h
        refine j_iald (pc := 45) hC dX12_putsOne_45 (ly_12_8 hL ka0).2.1 (ly_12_8 hL ka0).2.2 i30 e32 ?_
        refine j_bipush (pc := 46) hC (8 : Int32) dX12_putsOne_46 (by decide) ?_
        refine j_icmp_ne (pc := 48) hC 54 dX12_putsOne_48 (by decide) (fun c33 => ?_) (fun c33 => ?_)
        · rw [if_neg c33] at h
          exact j_lv [1, 2, 3, 0] rfl (q6 h)
        · rw [if_pos c33] at h
          refine j_bipush (pc := 51) hC (-2 : Int32) dX12_putsOne_51 (by decide) ?_
          obtain ⟨rfl, rfl⟩ := Prod.mk.inj (Option.some.inj h)
          exact j_iret (pc := 53) hC dX12_putsOne_53 rfl
    · rw [if_pos c2] at h
      refine j_iconst (pc := 26) hC (-1 : Int32) dX12_putsOne_26 (by decide) ?_
      obtain ⟨rfl, rfl⟩ := Prod.mk.inj (Option.some.inj h)
      exact j_iret (pc := 27) hC dX12_putsOne_27 rfl
theorem dX12_dropsOne_0 : decode cX12_dropsOne 0 = .ok (.iload_n 1, 1) := by decide +kernel
theorem dX12_dropsOne_1 : decode cX12_dropsOne 1 = .ok (.i2l, 1) := by decide +kernel
theorem dX12_dropsOne_2 : decode cX12_dropsOne 2 = .ok (.lconst 0, 1) := by decide +kernel
theorem dX12_dropsOne_3 : decode cX12_dropsOne 3 = .ok (.ldc2_w 214, 3) := by decide +kernel
theorem dX12_dropsOne_6 : decode cX12_dropsOne 6 = .ok (.invokestatic 21, 3) := by decide +kernel
theorem dX12_dropsOne_9 : decode cX12_dropsOne 9 = .ok (.ifCond .ne 5, 3) := by decide +kernel
theorem dX12_dropsOne_12 : decode cX12_dropsOne 12 = .ok (.iconst (-1), 1) := by decide +kernel
theorem dX12_dropsOne_13 : decode cX12_dropsOne 13 = .ok (.ireturn, 1) := by decide +kernel
theorem dX12_dropsOne_14 : decode cX12_dropsOne 14 = .ok (.aload_n 0, 1) := by decide +kernel
theorem dX12_dropsOne_15 : decode cX12_dropsOne 15 = .ok (.iconst 0, 1) := by decide +kernel
theorem dX12_dropsOne_16 : decode cX12_dropsOne 16 = .ok (.iload_n 1, 1) := by decide +kernel
theorem dX12_dropsOne_17 : decode cX12_dropsOne 17 = .ok (.invokevirtual 135, 3) := by decide +kernel
theorem dX12_dropsOne_20 : decode cX12_dropsOne 20 = .ok (.istore_n 2, 1) := by decide +kernel
theorem dX12_dropsOne_21 : decode cX12_dropsOne 21 = .ok (.iload_n 2, 1) := by decide +kernel
theorem dX12_dropsOne_22 : decode cX12_dropsOne 22 = .ok (.ifCond .ge 6, 3) := by decide +kernel
theorem dX12_dropsOne_25 : decode cX12_dropsOne 25 = .ok (.bipush (-2), 2) := by decide +kernel
theorem dX12_dropsOne_27 : decode cX12_dropsOne 27 = .ok (.ireturn, 1) := by decide +kernel
theorem dX12_dropsOne_28 : decode cX12_dropsOne 28 = .ok (.aload_n 0, 1) := by decide +kernel
theorem dX12_dropsOne_29 : decode cX12_dropsOne 29 = .ok (.getfield 60, 3) := by decide +kernel
theorem dX12_dropsOne_32 : decode cX12_dropsOne 32 = .ok (.bipush 11, 2) := by decide +kernel
theorem dX12_dropsOne_34 : decode cX12_dropsOne 34 = .ok (.dup2, 1) := by decide +kernel
theorem dX12_dropsOne_35 : decode cX12_dropsOne 35 = .ok (.iaload, 1) := by decide +kernel
theorem dX12_dropsOne_36 : decode cX12_dropsOne 36 = .ok (.iconst 1, 1) := by decide +kernel
theorem dX12_dropsOne_37 : decode cX12_dropsOne 37 = .ok (.isub, 1) := by decide +kernel
theorem dX12_dropsOne_38 : decode cX12_dropsOne 38 = .ok (.iastore, 1) := by decide +kernel
theorem dX12_dropsOne_39 : decode cX12_dropsOne 39 = .ok (.iload_n 2, 1) := by decide +kernel
theorem dX12_dropsOne_40 : decode cX12_dropsOne 40 = .ok (.istore_n 3, 1) := by decide +kernel
theorem dX12_dropsOne_41 : decode cX12_dropsOne 41 = .ok (.iload_n 3, 1) := by decide +kernel
theorem dX12_dropsOne_42 : decode cX12_dropsOne 42 = .ok (.aload_n 0, 1) := by decide +kernel
theorem dX12_dropsOne_43 : decode cX12_dropsOne 43 = .ok (.getfield 60, 3) := by decide +kernel
theorem dX12_dropsOne_46 : decode cX12_dropsOne 46 = .ok (.bipush 11, 2) := by decide +kernel
theorem dX12_dropsOne_48 : decode cX12_dropsOne 48 = .ok (.iaload, 1) := by decide +kernel
theorem dX12_dropsOne_49 : decode cX12_dropsOne 49 = .ok (.if_icmp .ge 49, 3) := by decide +kernel
theorem dX12_dropsOne_52 : decode cX12_dropsOne 52 = .ok (.aload_n 0, 1) := by decide +kernel
theorem dX12_dropsOne_53 : decode cX12_dropsOne 53 = .ok (.getfield 60, 3) := by decide +kernel
theorem dX12_dropsOne_56 : decode cX12_dropsOne 56 = .ok (.bipush 12, 2) := by decide +kernel
theorem dX12_dropsOne_58 : decode cX12_dropsOne 58 = .ok (.iload_n 3, 1) := by decide +kernel
theorem dX12_dropsOne_59 : decode cX12_dropsOne 59 = .ok (.iadd, 1) := by decide +kernel
theorem dX12_dropsOne_60 : decode cX12_dropsOne 60 = .ok (.aload_n 0, 1) := by decide +kernel
theorem dX12_dropsOne_61 : decode cX12_dropsOne 61 = .ok (.getfield 60, 3) := by decide +kernel
theorem dX12_dropsOne_64 : decode cX12_dropsOne 64 = .ok (.bipush 12, 2) := by decide +kernel
theorem dX12_dropsOne_66 : decode cX12_dropsOne 66 = .ok (.iload_n 3, 1) := by decide +kernel
theorem dX12_dropsOne_67 : decode cX12_dropsOne 67 = .ok (.iadd, 1) := by decide +kernel
theorem dX12_dropsOne_68 : decode cX12_dropsOne 68 = .ok (.iconst 1, 1) := by decide +kernel
theorem dX12_dropsOne_69 : decode cX12_dropsOne 69 = .ok (.iadd, 1) := by decide +kernel
theorem dX12_dropsOne_70 : decode cX12_dropsOne 70 = .ok (.iaload, 1) := by decide +kernel
theorem dX12_dropsOne_71 : decode cX12_dropsOne 71 = .ok (.iastore, 1) := by decide +kernel
theorem dX12_dropsOne_72 : decode cX12_dropsOne 72 = .ok (.aload_n 0, 1) := by decide +kernel
theorem dX12_dropsOne_73 : decode cX12_dropsOne 73 = .ok (.getfield 60, 3) := by decide +kernel
theorem dX12_dropsOne_76 : decode cX12_dropsOne 76 = .ok (.bipush 20, 2) := by decide +kernel
theorem dX12_dropsOne_78 : decode cX12_dropsOne 78 = .ok (.iload_n 3, 1) := by decide +kernel
theorem dX12_dropsOne_79 : decode cX12_dropsOne 79 = .ok (.iadd, 1) := by decide +kernel
theorem dX12_dropsOne_80 : decode cX12_dropsOne 80 = .ok (.aload_n 0, 1) := by decide +kernel
theorem dX12_dropsOne_81 : decode cX12_dropsOne 81 = .ok (.getfield 60, 3) := by decide +kernel
theorem dX12_dropsOne_84 : decode cX12_dropsOne 84 = .ok (.bipush 20, 2) := by decide +kernel
theorem dX12_dropsOne_86 : decode cX12_dropsOne 86 = .ok (.iload_n 3, 1) := by decide +kernel
theorem dX12_dropsOne_87 : decode cX12_dropsOne 87 = .ok (.iadd, 1) := by decide +kernel
theorem dX12_dropsOne_88 : decode cX12_dropsOne 88 = .ok (.iconst 1, 1) := by decide +kernel
theorem dX12_dropsOne_89 : decode cX12_dropsOne 89 = .ok (.iadd, 1) := by decide +kernel
theorem dX12_dropsOne_90 : decode cX12_dropsOne 90 = .ok (.iaload, 1) := by decide +kernel
theorem dX12_dropsOne_91 : decode cX12_dropsOne 91 = .ok (.iastore, 1) := by decide +kernel
theorem dX12_dropsOne_92 : decode cX12_dropsOne 92 = .ok (.iinc 3 1, 3) := by decide +kernel
theorem dX12_dropsOne_95 : decode cX12_dropsOne 95 = .ok (.goto (-54), 3) := by decide +kernel
theorem dX12_dropsOne_98 : decode cX12_dropsOne 98 = .ok (.iload_n 2, 1) := by decide +kernel
theorem dX12_dropsOne_99 : decode cX12_dropsOne 99 = .ok (.ireturn, 1) := by decide +kernel
def f_X12_dropsOne_L41 (a0 : Nat) (u11 : Int32) (m12 : jM) : Option ((Int32 × jM) ⊕ (jM)) :=
  jrd (m12.1 (a0 + 3)) (11 : Int32) 2074 (fun v14 => (if v14 ≤ u11 then some (.inr m12) else jrd (m12.1 (a0 + 3)) (((12 : Int32) + u11) + (1 : Int32)) 2074 (fun v18 => jin ((12 : Int32) + u11) 2074 (jbd (jsi m12 (a0 + 3) ((12 : Int32) + u11).toNatClampNeg v18) (fun m21 => jrd (m21.1 (a0 + 3)) (((20 : Int32) + u11) + (1 : Int32)) 2074 (fun v24 => jin ((20 : Int32) + u11) 2074 (jbd (jsi m21 (a0 + 3) ((20 : Int32) + u11).toNatClampNeg v24) (fun m27 => some (.inl ((u11 + (1 : Int32), m27)))))))))))
def f_X12_dropsOne (a0 : Nat) (x1 : Int32) (μ : jM) : Option (Int32 × jM) :=
  (if (f_X12_in x1.toInt64 (0 : Int64) (9 : Int64)) = (0 : Int32) then some (((-1 : Int32), μ)) else jcl (f_X12_placeOf a0 (0 : Int32) x1 μ) (fun v2 => (if (0 : Int32) ≤ v2 then jrd (μ.1 (a0 + 3)) (11 : Int32) 2074 (fun v6 => jin (11 : Int32) 2074 (jbd (jsi μ (a0 + 3) (11 : Int32).toNatClampNeg (v6 - (1 : Int32))) (fun m9 => jcl (jloop (fun (s : Int32 × jM) => f_X12_dropsOne_L41 a0 s.1 s.2) jfu ((v2, m9))) (fun w29 => some ((v2, w29)))))) else some (((-2 : Int32), μ)))))
set_option maxHeartbeats 4000000 in
set_option maxRecDepth 100000 in
theorem c_X12_dropsOne {l : Launch} {G : jG} {L : jL} (hL : jOKL L) {a0 : Nat} {x1 : Int32} (ka0 : jK L a0 12) {μ μ' : jM} {r : Int32} (h : f_X12_dropsOne a0 x1 μ = some ((r, μ'))) : jCt l G L 5 yX12_dropsOne cX12_dropsOne 4 (some .int) [.ref (L.2.2 a0), .int x1] μ (some (.int r)) μ' := by
  refine jCt_of (by decide) (Nat.le_of_ble_eq_true rfl) (fun X hC hX hR => ?_)
  subst hX
  have hC : jC X G cX12_dropsOne 4 RX12 (some .int) := hC
  unfold f_X12_dropsOne at h
  show jJ X G 4 L 0 0 (jQM X G L (some (.int r)) μ' 0 0) 0 [(0, .ref (L.2.2 a0)), (1, .int x1)] [] μ
  refine j_iload_n (pc := 0) hC 1 1 dX12_dropsOne_0 rfl rfl ?_
  refine j_i2l (pc := 1) hC dX12_dropsOne_1 ?_
  refine j_lconst (pc := 2) hC (0 : Int64) dX12_dropsOne_2 (by decide) ?_
  refine j_ldc2 (pc := 3) hC dX12_dropsOne_3 kl_X12_214 ?_
  refine j_si (pc := 6) hC hR [.long x1.toInt64, .long (0 : Int64), .long (9 : Int64)] iy_X12_in km_X12_21 dX12_dropsOne_6 rfl (by decide) (c_X12_in hL  rfl) (by decide) (Nat.le_of_ble_eq_true rfl) rfl ?_
  refine j_if_ne (pc := 9) hC 14 dX12_dropsOne_9 (by decide) (fun c1 => ?_) (fun c1 => ?_)
  · rw [if_neg c1] at h
    refine j_aload_n (pc := 14) hC 0 0 dX12_dropsOne_14 rfl rfl ?_
    refine j_iconst (pc := 15) hC (0 : Int32) dX12_dropsOne_15 (by decide) ?_
    refine j_iload_n (pc := 16) hC 1 1 dX12_dropsOne_16 rfl rfl ?_
    obtain ⟨v2, e3, h⟩ := jcl_some h
    refine j_vi (pc := 17) hC hR [.int (0 : Int32), .int x1] iy_X12_placeOf (q := (RX12, TX12, 40)) (ci := 12) rfl rfl (by decide) km_X12_135 dX12_dropsOne_17 rfl (by decide) ka0 (c_X12_placeOf hL ka0 e3) (by decide) (Nat.le_of_ble_eq_true rfl) rfl ?_
    refine j_istore_n (pc := 20) hC 2 [(2, .int v2), (0, .ref (L.2.2 a0)), (1, .int x1)] dX12_dropsOne_20 rfl (by decide) rfl rfl ?_
    refine j_iload_n (pc := 21) hC 2 0 dX12_dropsOne_21 rfl rfl ?_
    refine j_if_ge (pc := 22) hC 28 dX12_dropsOne_22 (by decide) (fun c4 => ?_) (fun c4 => ?_)
    · rw [if_pos c4] at h
      refine j_aload_n (pc := 28) hC 0 1 dX12_dropsOne_28 rfl rfl ?_
      refine jgr_12 (pc := 29) hC 8 (by decide) rfl kf_X12_60 dX12_dropsOne_29 ka0 (ly_12_8 hL ka0).1 ?_
      refine j_bipush (pc := 32) hC (11 : Int32) dX12_dropsOne_32 (by decide) ?_
      refine j_dup2 (pc := 34) hC dX12_dropsOne_34 rfl rfl ?_
      obtain ⟨i5, v6, e7, h⟩ := jrd_some h
      refine j_iald (pc := 35) hC dX12_dropsOne_35 (ly_12_8 hL ka0).2.1 (ly_12_8 hL ka0).2.2 i5 e7 ?_
      refine j_iconst (pc := 36) hC (1 : Int32) dX12_dropsOne_36 (by decide) ?_
      refine j_isub (pc := 37) hC dX12_dropsOne_37 ?_
      obtain ⟨i8, h⟩ := jin_some h
      obtain ⟨m9, e10, h⟩ := jbd_ex h
      refine j_iast (pc := 38) hC dX12_dropsOne_38 (ly_12_8 hL ka0).2.1 (ly_12_8 hL ka0).2.2 i8 e10 ?_
      refine j_iload_n (pc := 39) hC 2 0 dX12_dropsOne_39 rfl rfl ?_
      refine j_istore_n (pc := 40) hC 3 [(3, .int v2), (2, .int v2), (0, .ref (L.2.2 a0)), (1, .int x1)] dX12_dropsOne_40 rfl (by decide) rfl rfl ?_
      obtain ⟨w29, hw30, h⟩ := jcl_some h
      refine j_lv [2, 1, 0] rfl ?_
      refine j_loop (step := (fun (s : Int32 × jM) => f_X12_dropsOne_L41 a0 s.1 s.2)) (P := (fun (s : Int32 × jM) => jJ X G 4 L 0 0 (jQM X G L (some (.int r)) μ' 0 0) 41 [(0, .ref (L.2.2 a0)), (2, .int v2), (3, .int s.1)] [] s.2)) (R := (fun (e : jM) => jJ X G 4 L 0 0 (jQM X G L (some (.int r)) μ' 0 0) 98 [(2, .int v2)] [] e)) ?_ jfu ((v2, m9)) w29 hw30 ?_
      · intro s31 o h hk
        obtain ⟨u11, m12⟩ := s31
        change f_X12_dropsOne_L41 a0 u11 m12 = some o at h
        unfold f_X12_dropsOne_L41 at h
        show jJ X G 4 L 0 0 (jQM X G L (some (.int r)) μ' 0 0) 41 [(0, .ref (L.2.2 a0)), (2, .int v2), (3, .int u11)] [] m12
        refine j_iload_n (pc := 41) hC 3 2 dX12_dropsOne_41 rfl rfl ?_
        refine j_aload_n (pc := 42) hC 0 0 dX12_dropsOne_42 rfl rfl ?_
        refine jgr_12 (pc := 43) hC 8 (by decide) rfl kf_X12_60 dX12_dropsOne_43 ka0 (ly_12_8 hL ka0).1 ?_
        refine j_bipush (pc := 46) hC (11 : Int32) dX12_dropsOne_46 (by decide) ?_
        obtain ⟨i13, v14, e15, h⟩ := jrd_some h
        refine j_iald (pc := 48) hC dX12_dropsOne_48 (ly_12_8 hL ka0).2.1 (ly_12_8 hL ka0).2.2 i13 e15 ?_
        refine j_icmp_ge (pc := 49) hC 98 dX12_dropsOne_49 (by decide) (fun c16 => ?_) (fun c16 => ?_)
        · rw [if_pos c16] at h
          obtain rfl := Option.some.inj h
          have hk : jJ X G 4 L 0 0 (jQM X G L (some (.int r)) μ' 0 0) 98 [(2, .int v2)] [] m12 := hk
          exact j_lv [1] rfl hk
        · rw [if_neg c16] at h
          refine j_aload_n (pc := 52) hC 0 0 dX12_dropsOne_52 rfl rfl ?_
          refine jgr_12 (pc := 53) hC 8 (by decide) rfl kf_X12_60 dX12_dropsOne_53 ka0 (ly_12_8 hL ka0).1 ?_
          refine j_bipush (pc := 56) hC (12 : Int32) dX12_dropsOne_56 (by decide) ?_
          refine j_iload_n (pc := 58) hC 3 2 dX12_dropsOne_58 rfl rfl ?_
          refine j_iadd (pc := 59) hC dX12_dropsOne_59 ?_
          refine j_aload_n (pc := 60) hC 0 0 dX12_dropsOne_60 rfl rfl ?_
          refine jgr_12 (pc := 61) hC 8 (by decide) rfl kf_X12_60 dX12_dropsOne_61 ka0 (ly_12_8 hL ka0).1 ?_
          refine j_bipush (pc := 64) hC (12 : Int32) dX12_dropsOne_64 (by decide) ?_
          refine j_iload_n (pc := 66) hC 3 2 dX12_dropsOne_66 rfl rfl ?_
          refine j_iadd (pc := 67) hC dX12_dropsOne_67 ?_
          refine j_iconst (pc := 68) hC (1 : Int32) dX12_dropsOne_68 (by decide) ?_
          refine j_iadd (pc := 69) hC dX12_dropsOne_69 ?_
          obtain ⟨i17, v18, e19, h⟩ := jrd_some h
          refine j_iald (pc := 70) hC dX12_dropsOne_70 (ly_12_8 hL ka0).2.1 (ly_12_8 hL ka0).2.2 i17 e19 ?_
          obtain ⟨i20, h⟩ := jin_some h
          obtain ⟨m21, e22, h⟩ := jbd_ex h
          refine j_iast (pc := 71) hC dX12_dropsOne_71 (ly_12_8 hL ka0).2.1 (ly_12_8 hL ka0).2.2 i20 e22 ?_
          refine j_aload_n (pc := 72) hC 0 0 dX12_dropsOne_72 rfl rfl ?_
          refine jgr_12 (pc := 73) hC 8 (by decide) rfl kf_X12_60 dX12_dropsOne_73 ka0 (ly_12_8 hL ka0).1 ?_
          refine j_bipush (pc := 76) hC (20 : Int32) dX12_dropsOne_76 (by decide) ?_
          refine j_iload_n (pc := 78) hC 3 2 dX12_dropsOne_78 rfl rfl ?_
          refine j_iadd (pc := 79) hC dX12_dropsOne_79 ?_
          refine j_aload_n (pc := 80) hC 0 0 dX12_dropsOne_80 rfl rfl ?_
          refine jgr_12 (pc := 81) hC 8 (by decide) rfl kf_X12_60 dX12_dropsOne_81 ka0 (ly_12_8 hL ka0).1 ?_
          refine j_bipush (pc := 84) hC (20 : Int32) dX12_dropsOne_84 (by decide) ?_
          refine j_iload_n (pc := 86) hC 3 2 dX12_dropsOne_86 rfl rfl ?_
          refine j_iadd (pc := 87) hC dX12_dropsOne_87 ?_
          refine j_iconst (pc := 88) hC (1 : Int32) dX12_dropsOne_88 (by decide) ?_
          refine j_iadd (pc := 89) hC dX12_dropsOne_89 ?_
          obtain ⟨i23, v24, e25, h⟩ := jrd_some h
          refine j_iald (pc := 90) hC dX12_dropsOne_90 (ly_12_8 hL ka0).2.1 (ly_12_8 hL ka0).2.2 i23 e25 ?_
          obtain ⟨i26, h⟩ := jin_some h
          obtain ⟨m27, e28, h⟩ := jbd_ex h
          refine j_iast (pc := 91) hC dX12_dropsOne_91 (ly_12_8 hL ka0).2.1 (ly_12_8 hL ka0).2.2 i26 e28 ?_
          refine j_iinc (pc := 92) hC 2 (u11 + (1 : Int32)) [(3, .int (u11 + (1 : Int32))), (0, .ref (L.2.2 a0)), (2, .int v2)] dX12_dropsOne_92 rfl rfl (by decide) rfl ?_
          refine j_goto (pc := 95) hC 41 dX12_dropsOne_95 (by decide) ?_
          obtain rfl := Option.some.inj h
          have hk : jJ X G 4 L 0 0 (jQM X G L (some (.int r)) μ' 0 0) 41 [(0, .ref (L.2.2 a0)), (2, .int v2), (3, .int (u11 + (1 : Int32)))] [] m27 := hk
          exact j_lv [1, 2, 0] rfl hk
      · obtain ⟨m32, rfl⟩ : ∃ y, y = w29 := ⟨_, rfl⟩
        try dsimp only at h
        show jJ X G 4 L 0 0 (jQM X G L (some (.int r)) μ' 0 0) 98 [(2, .int v2)] [] m32
        refine j_iload_n (pc := 98) hC 2 0 dX12_dropsOne_98 rfl rfl ?_
        obtain ⟨rfl, rfl⟩ := Prod.mk.inj (Option.some.inj h)
        exact j_iret (pc := 99) hC dX12_dropsOne_99 rfl
    · rw [if_neg c4] at h
      refine j_bipush (pc := 25) hC (-2 : Int32) dX12_dropsOne_25 (by decide) ?_
      obtain ⟨rfl, rfl⟩ := Prod.mk.inj (Option.some.inj h)
      exact j_iret (pc := 27) hC dX12_dropsOne_27 rfl
  · rw [if_pos c1] at h
    refine j_iconst (pc := 12) hC (-1 : Int32) dX12_dropsOne_12 (by decide) ?_
    obtain ⟨rfl, rfl⟩ := Prod.mk.inj (Option.some.inj h)
    exact j_iret (pc := 13) hC dX12_dropsOne_13 rfl
theorem dX12_sets_0 : decode cX12_sets 0 = .ok (.aload_n 0, 1) := by decide +kernel
theorem dX12_sets_1 : decode cX12_sets 1 = .ok (.iconst 0, 1) := by decide +kernel
theorem dX12_sets_2 : decode cX12_sets 2 = .ok (.putfield 1, 3) := by decide +kernel
theorem dX12_sets_5 : decode cX12_sets 5 = .ok (.aload_n 0, 1) := by decide +kernel
theorem dX12_sets_6 : decode cX12_sets 6 = .ok (.invokevirtual 170, 3) := by decide +kernel
theorem dX12_sets_9 : decode cX12_sets 9 = .ok (.aload_n 0, 1) := by decide +kernel
theorem dX12_sets_10 : decode cX12_sets 10 = .ok (.aload_n 0, 1) := by decide +kernel
theorem dX12_sets_11 : decode cX12_sets 11 = .ok (.iload_n 1, 1) := by decide +kernel
theorem dX12_sets_12 : decode cX12_sets 12 = .ok (.iload_n 2, 1) := by decide +kernel
theorem dX12_sets_13 : decode cX12_sets 13 = .ok (.invokevirtual 216, 3) := by decide +kernel
theorem dX12_sets_16 : decode cX12_sets 16 = .ok (.invokevirtual 195, 3) := by decide +kernel
theorem dX12_sets_19 : decode cX12_sets 19 = .ok (.ireturn, 1) := by decide +kernel
def f_X12_sets (a0 : Nat) (x1 : Int32) (x2 : Int32) (μ : jM) : Option (Int32 × jM) :=
  jbd (jsi μ a0 0 (0 : Int32)) (fun m1 => jcl (f_X12_begins a0 m1) (fun m3 => jcl2 (f_X12_setsOne a0 x1 x2 m3) (fun v5 m6 => jcl2 (f_X12_ends a0 v5 m6) (fun v8 m9 => some ((v8, m9))))))
set_option maxHeartbeats 4000000 in
set_option maxRecDepth 100000 in
theorem c_X12_sets {l : Launch} {G : jG} {L : jL} (hL : jOKL L) {a0 : Nat} {x1 : Int32} {x2 : Int32} (ka0 : jK L a0 12) {μ μ' : jM} {r : Int32} (h : f_X12_sets a0 x1 x2 μ = some ((r, μ'))) : jCt l G L 7 yX12_sets cX12_sets 3 (some .int) [.ref (L.2.2 a0), .int x1, .int x2] μ (some (.int r)) μ' := by
  refine jCt_of (by decide) (Nat.le_of_ble_eq_true rfl) (fun X hC hX hR => ?_)
  subst hX
  have hC : jC X G cX12_sets 3 RX12 (some .int) := hC
  unfold f_X12_sets at h
  show jJ X G 3 L 0 0 (jQM X G L (some (.int r)) μ' 0 0) 0 [(0, .ref (L.2.2 a0)), (1, .int x1), (2, .int x2)] [] μ
  refine j_aload_n (pc := 0) hC 0 0 dX12_sets_0 rfl rfl ?_
  refine j_iconst (pc := 1) hC (0 : Int32) dX12_sets_1 (by decide) ?_
  obtain ⟨m1, e2, h⟩ := jbd_ex h
  refine jpi_12 (pc := 2) hC 0 (by decide) rfl kf_X12_1 dX12_sets_2 rfl (by decide) ka0 e2 ?_
  refine j_aload_n (pc := 5) hC 0 0 dX12_sets_5 rfl rfl ?_
  obtain ⟨m3, e4, h⟩ := jcl_some h
  refine j_vv (pc := 6) hC hR [] iy_X12_begins (q := (RX12, TX12, 40)) (ci := 12) rfl rfl (by decide) km_X12_170 dX12_sets_6 rfl (by decide) ka0 (c_X12_begins hL ka0 e4) (by decide) (Nat.le_of_ble_eq_true rfl) rfl ?_
  refine j_aload_n (pc := 9) hC 0 0 dX12_sets_9 rfl rfl ?_
  refine j_aload_n (pc := 10) hC 0 0 dX12_sets_10 rfl rfl ?_
  refine j_iload_n (pc := 11) hC 1 1 dX12_sets_11 rfl rfl ?_
  refine j_iload_n (pc := 12) hC 2 2 dX12_sets_12 rfl rfl ?_
  obtain ⟨v5, m6, e7, h⟩ := jcl2_some h
  refine j_vi (pc := 13) hC hR [.int x1, .int x2] iy_X12_setsOne (q := (RX12, TX12, 40)) (ci := 12) rfl rfl (by decide) km_X12_216 dX12_sets_13 rfl (by decide) ka0 (c_X12_setsOne hL ka0 e7) (by decide) (Nat.le_of_ble_eq_true rfl) rfl ?_
  obtain ⟨v8, m9, e10, h⟩ := jcl2_some h
  refine j_vi (pc := 16) hC hR [.int v5] iy_X12_ends (q := (RX12, TX12, 40)) (ci := 12) rfl rfl (by decide) km_X12_195 dX12_sets_16 rfl (by decide) ka0 (c_X12_ends hL ka0 e10) (by decide) (Nat.le_of_ble_eq_true rfl) rfl ?_
  obtain ⟨rfl, rfl⟩ := Prod.mk.inj (Option.some.inj h)
  exact j_iret (pc := 19) hC dX12_sets_19 rfl
theorem dX12_adds_0 : decode cX12_adds 0 = .ok (.aload_n 0, 1) := by decide +kernel
theorem dX12_adds_1 : decode cX12_adds 1 = .ok (.iconst 0, 1) := by decide +kernel
theorem dX12_adds_2 : decode cX12_adds 2 = .ok (.putfield 1, 3) := by decide +kernel
theorem dX12_adds_5 : decode cX12_adds 5 = .ok (.aload_n 0, 1) := by decide +kernel
theorem dX12_adds_6 : decode cX12_adds 6 = .ok (.invokevirtual 170, 3) := by decide +kernel
theorem dX12_adds_9 : decode cX12_adds 9 = .ok (.aload_n 0, 1) := by decide +kernel
theorem dX12_adds_10 : decode cX12_adds 10 = .ok (.aload_n 0, 1) := by decide +kernel
theorem dX12_adds_11 : decode cX12_adds 11 = .ok (.iload_n 1, 1) := by decide +kernel
theorem dX12_adds_12 : decode cX12_adds 12 = .ok (.iload_n 2, 1) := by decide +kernel
theorem dX12_adds_13 : decode cX12_adds 13 = .ok (.invokevirtual 219, 3) := by decide +kernel
theorem dX12_adds_16 : decode cX12_adds 16 = .ok (.invokevirtual 195, 3) := by decide +kernel
theorem dX12_adds_19 : decode cX12_adds 19 = .ok (.ireturn, 1) := by decide +kernel
def f_X12_adds (a0 : Nat) (x1 : Int32) (x2 : Int32) (μ : jM) : Option (Int32 × jM) :=
  jbd (jsi μ a0 0 (0 : Int32)) (fun m1 => jcl (f_X12_begins a0 m1) (fun m3 => jcl2 (f_X12_addsOne a0 x1 x2 m3) (fun v5 m6 => jcl2 (f_X12_ends a0 v5 m6) (fun v8 m9 => some ((v8, m9))))))
set_option maxHeartbeats 4000000 in
set_option maxRecDepth 100000 in
theorem c_X12_adds {l : Launch} {G : jG} {L : jL} (hL : jOKL L) {a0 : Nat} {x1 : Int32} {x2 : Int32} (ka0 : jK L a0 12) {μ μ' : jM} {r : Int32} (h : f_X12_adds a0 x1 x2 μ = some ((r, μ'))) : jCt l G L 7 yX12_adds cX12_adds 3 (some .int) [.ref (L.2.2 a0), .int x1, .int x2] μ (some (.int r)) μ' := by
  refine jCt_of (by decide) (Nat.le_of_ble_eq_true rfl) (fun X hC hX hR => ?_)
  subst hX
  have hC : jC X G cX12_adds 3 RX12 (some .int) := hC
  unfold f_X12_adds at h
  show jJ X G 3 L 0 0 (jQM X G L (some (.int r)) μ' 0 0) 0 [(0, .ref (L.2.2 a0)), (1, .int x1), (2, .int x2)] [] μ
  refine j_aload_n (pc := 0) hC 0 0 dX12_adds_0 rfl rfl ?_
  refine j_iconst (pc := 1) hC (0 : Int32) dX12_adds_1 (by decide) ?_
  obtain ⟨m1, e2, h⟩ := jbd_ex h
  refine jpi_12 (pc := 2) hC 0 (by decide) rfl kf_X12_1 dX12_adds_2 rfl (by decide) ka0 e2 ?_
  refine j_aload_n (pc := 5) hC 0 0 dX12_adds_5 rfl rfl ?_
  obtain ⟨m3, e4, h⟩ := jcl_some h
  refine j_vv (pc := 6) hC hR [] iy_X12_begins (q := (RX12, TX12, 40)) (ci := 12) rfl rfl (by decide) km_X12_170 dX12_adds_6 rfl (by decide) ka0 (c_X12_begins hL ka0 e4) (by decide) (Nat.le_of_ble_eq_true rfl) rfl ?_
  refine j_aload_n (pc := 9) hC 0 0 dX12_adds_9 rfl rfl ?_
  refine j_aload_n (pc := 10) hC 0 0 dX12_adds_10 rfl rfl ?_
  refine j_iload_n (pc := 11) hC 1 1 dX12_adds_11 rfl rfl ?_
  refine j_iload_n (pc := 12) hC 2 2 dX12_adds_12 rfl rfl ?_
  obtain ⟨v5, m6, e7, h⟩ := jcl2_some h
  refine j_vi (pc := 13) hC hR [.int x1, .int x2] iy_X12_addsOne (q := (RX12, TX12, 40)) (ci := 12) rfl rfl (by decide) km_X12_219 dX12_adds_13 rfl (by decide) ka0 (c_X12_addsOne hL ka0 e7) (by decide) (Nat.le_of_ble_eq_true rfl) rfl ?_
  obtain ⟨v8, m9, e10, h⟩ := jcl2_some h
  refine j_vi (pc := 16) hC hR [.int v5] iy_X12_ends (q := (RX12, TX12, 40)) (ci := 12) rfl rfl (by decide) km_X12_195 dX12_adds_16 rfl (by decide) ka0 (c_X12_ends hL ka0 e10) (by decide) (Nat.le_of_ble_eq_true rfl) rfl ?_
  obtain ⟨rfl, rfl⟩ := Prod.mk.inj (Option.some.inj h)
  exact j_iret (pc := 19) hC dX12_adds_19 rfl
theorem dX12_removes_0 : decode cX12_removes 0 = .ok (.aload_n 0, 1) := by decide +kernel
theorem dX12_removes_1 : decode cX12_removes 1 = .ok (.iconst 0, 1) := by decide +kernel
theorem dX12_removes_2 : decode cX12_removes 2 = .ok (.putfield 1, 3) := by decide +kernel
theorem dX12_removes_5 : decode cX12_removes 5 = .ok (.aload_n 0, 1) := by decide +kernel
theorem dX12_removes_6 : decode cX12_removes 6 = .ok (.invokevirtual 170, 3) := by decide +kernel
theorem dX12_removes_9 : decode cX12_removes 9 = .ok (.aload_n 0, 1) := by decide +kernel
theorem dX12_removes_10 : decode cX12_removes 10 = .ok (.aload_n 0, 1) := by decide +kernel
theorem dX12_removes_11 : decode cX12_removes 11 = .ok (.iload_n 1, 1) := by decide +kernel
theorem dX12_removes_12 : decode cX12_removes 12 = .ok (.iload_n 2, 1) := by decide +kernel
theorem dX12_removes_13 : decode cX12_removes 13 = .ok (.invokevirtual 222, 3) := by decide +kernel
theorem dX12_removes_16 : decode cX12_removes 16 = .ok (.invokevirtual 195, 3) := by decide +kernel
theorem dX12_removes_19 : decode cX12_removes 19 = .ok (.ireturn, 1) := by decide +kernel
def f_X12_removes (a0 : Nat) (x1 : Int32) (x2 : Int32) (μ : jM) : Option (Int32 × jM) :=
  jbd (jsi μ a0 0 (0 : Int32)) (fun m1 => jcl (f_X12_begins a0 m1) (fun m3 => jcl2 (f_X12_removesOne a0 x1 x2 m3) (fun v5 m6 => jcl2 (f_X12_ends a0 v5 m6) (fun v8 m9 => some ((v8, m9))))))
set_option maxHeartbeats 4000000 in
set_option maxRecDepth 100000 in
theorem c_X12_removes {l : Launch} {G : jG} {L : jL} (hL : jOKL L) {a0 : Nat} {x1 : Int32} {x2 : Int32} (ka0 : jK L a0 12) {μ μ' : jM} {r : Int32} (h : f_X12_removes a0 x1 x2 μ = some ((r, μ'))) : jCt l G L 7 yX12_removes cX12_removes 3 (some .int) [.ref (L.2.2 a0), .int x1, .int x2] μ (some (.int r)) μ' := by
  refine jCt_of (by decide) (Nat.le_of_ble_eq_true rfl) (fun X hC hX hR => ?_)
  subst hX
  have hC : jC X G cX12_removes 3 RX12 (some .int) := hC
  unfold f_X12_removes at h
  show jJ X G 3 L 0 0 (jQM X G L (some (.int r)) μ' 0 0) 0 [(0, .ref (L.2.2 a0)), (1, .int x1), (2, .int x2)] [] μ
  refine j_aload_n (pc := 0) hC 0 0 dX12_removes_0 rfl rfl ?_
  refine j_iconst (pc := 1) hC (0 : Int32) dX12_removes_1 (by decide) ?_
  obtain ⟨m1, e2, h⟩ := jbd_ex h
  refine jpi_12 (pc := 2) hC 0 (by decide) rfl kf_X12_1 dX12_removes_2 rfl (by decide) ka0 e2 ?_
  refine j_aload_n (pc := 5) hC 0 0 dX12_removes_5 rfl rfl ?_
  obtain ⟨m3, e4, h⟩ := jcl_some h
  refine j_vv (pc := 6) hC hR [] iy_X12_begins (q := (RX12, TX12, 40)) (ci := 12) rfl rfl (by decide) km_X12_170 dX12_removes_6 rfl (by decide) ka0 (c_X12_begins hL ka0 e4) (by decide) (Nat.le_of_ble_eq_true rfl) rfl ?_
  refine j_aload_n (pc := 9) hC 0 0 dX12_removes_9 rfl rfl ?_
  refine j_aload_n (pc := 10) hC 0 0 dX12_removes_10 rfl rfl ?_
  refine j_iload_n (pc := 11) hC 1 1 dX12_removes_11 rfl rfl ?_
  refine j_iload_n (pc := 12) hC 2 2 dX12_removes_12 rfl rfl ?_
  obtain ⟨v5, m6, e7, h⟩ := jcl2_some h
  refine j_vi (pc := 13) hC hR [.int x1, .int x2] iy_X12_removesOne (q := (RX12, TX12, 40)) (ci := 12) rfl rfl (by decide) km_X12_222 dX12_removes_13 rfl (by decide) ka0 (c_X12_removesOne hL ka0 e7) (by decide) (Nat.le_of_ble_eq_true rfl) rfl ?_
  obtain ⟨v8, m9, e10, h⟩ := jcl2_some h
  refine j_vi (pc := 16) hC hR [.int v5] iy_X12_ends (q := (RX12, TX12, 40)) (ci := 12) rfl rfl (by decide) km_X12_195 dX12_removes_16 rfl (by decide) ka0 (c_X12_ends hL ka0 e10) (by decide) (Nat.le_of_ble_eq_true rfl) rfl ?_
  obtain ⟨rfl, rfl⟩ := Prod.mk.inj (Option.some.inj h)
  exact j_iret (pc := 19) hC dX12_removes_19 rfl
theorem dX12_fixes_0 : decode cX12_fixes 0 = .ok (.aload_n 0, 1) := by decide +kernel
theorem dX12_fixes_1 : decode cX12_fixes 1 = .ok (.iconst 0, 1) := by decide +kernel
theorem dX12_fixes_2 : decode cX12_fixes 2 = .ok (.putfield 1, 3) := by decide +kernel
theorem dX12_fixes_5 : decode cX12_fixes 5 = .ok (.aload_n 0, 1) := by decide +kernel
theorem dX12_fixes_6 : decode cX12_fixes 6 = .ok (.invokevirtual 170, 3) := by decide +kernel
theorem dX12_fixes_9 : decode cX12_fixes 9 = .ok (.aload_n 0, 1) := by decide +kernel
theorem dX12_fixes_10 : decode cX12_fixes 10 = .ok (.aload_n 0, 1) := by decide +kernel
theorem dX12_fixes_11 : decode cX12_fixes 11 = .ok (.iload_n 1, 1) := by decide +kernel
theorem dX12_fixes_12 : decode cX12_fixes 12 = .ok (.iload_n 2, 1) := by decide +kernel
theorem dX12_fixes_13 : decode cX12_fixes 13 = .ok (.invokevirtual 225, 3) := by decide +kernel
theorem dX12_fixes_16 : decode cX12_fixes 16 = .ok (.invokevirtual 195, 3) := by decide +kernel
theorem dX12_fixes_19 : decode cX12_fixes 19 = .ok (.ireturn, 1) := by decide +kernel
def f_X12_fixes (a0 : Nat) (x1 : Int32) (x2 : Int32) (μ : jM) : Option (Int32 × jM) :=
  jbd (jsi μ a0 0 (0 : Int32)) (fun m1 => jcl (f_X12_begins a0 m1) (fun m3 => jcl2 (f_X12_fixesOne a0 x1 x2 m3) (fun v5 m6 => jcl2 (f_X12_ends a0 v5 m6) (fun v8 m9 => some ((v8, m9))))))
set_option maxHeartbeats 4000000 in
set_option maxRecDepth 100000 in
theorem c_X12_fixes {l : Launch} {G : jG} {L : jL} (hL : jOKL L) {a0 : Nat} {x1 : Int32} {x2 : Int32} (ka0 : jK L a0 12) {μ μ' : jM} {r : Int32} (h : f_X12_fixes a0 x1 x2 μ = some ((r, μ'))) : jCt l G L 7 yX12_fixes cX12_fixes 3 (some .int) [.ref (L.2.2 a0), .int x1, .int x2] μ (some (.int r)) μ' := by
  refine jCt_of (by decide) (Nat.le_of_ble_eq_true rfl) (fun X hC hX hR => ?_)
  subst hX
  have hC : jC X G cX12_fixes 3 RX12 (some .int) := hC
  unfold f_X12_fixes at h
  show jJ X G 3 L 0 0 (jQM X G L (some (.int r)) μ' 0 0) 0 [(0, .ref (L.2.2 a0)), (1, .int x1), (2, .int x2)] [] μ
  refine j_aload_n (pc := 0) hC 0 0 dX12_fixes_0 rfl rfl ?_
  refine j_iconst (pc := 1) hC (0 : Int32) dX12_fixes_1 (by decide) ?_
  obtain ⟨m1, e2, h⟩ := jbd_ex h
  refine jpi_12 (pc := 2) hC 0 (by decide) rfl kf_X12_1 dX12_fixes_2 rfl (by decide) ka0 e2 ?_
  refine j_aload_n (pc := 5) hC 0 0 dX12_fixes_5 rfl rfl ?_
  obtain ⟨m3, e4, h⟩ := jcl_some h
  refine j_vv (pc := 6) hC hR [] iy_X12_begins (q := (RX12, TX12, 40)) (ci := 12) rfl rfl (by decide) km_X12_170 dX12_fixes_6 rfl (by decide) ka0 (c_X12_begins hL ka0 e4) (by decide) (Nat.le_of_ble_eq_true rfl) rfl ?_
  refine j_aload_n (pc := 9) hC 0 0 dX12_fixes_9 rfl rfl ?_
  refine j_aload_n (pc := 10) hC 0 0 dX12_fixes_10 rfl rfl ?_
  refine j_iload_n (pc := 11) hC 1 1 dX12_fixes_11 rfl rfl ?_
  refine j_iload_n (pc := 12) hC 2 2 dX12_fixes_12 rfl rfl ?_
  obtain ⟨v5, m6, e7, h⟩ := jcl2_some h
  refine j_vi (pc := 13) hC hR [.int x1, .int x2] iy_X12_fixesOne (q := (RX12, TX12, 40)) (ci := 12) rfl rfl (by decide) km_X12_225 dX12_fixes_13 rfl (by decide) ka0 (c_X12_fixesOne hL ka0 e7) (by decide) (Nat.le_of_ble_eq_true rfl) rfl ?_
  obtain ⟨v8, m9, e10, h⟩ := jcl2_some h
  refine j_vi (pc := 16) hC hR [.int v5] iy_X12_ends (q := (RX12, TX12, 40)) (ci := 12) rfl rfl (by decide) km_X12_195 dX12_fixes_16 rfl (by decide) ka0 (c_X12_ends hL ka0 e10) (by decide) (Nat.le_of_ble_eq_true rfl) rfl ?_
  obtain ⟨rfl, rfl⟩ := Prod.mk.inj (Option.some.inj h)
  exact j_iret (pc := 19) hC dX12_fixes_19 rfl
theorem dX12_limits_0 : decode cX12_limits 0 = .ok (.aload_n 0, 1) := by decide +kernel
theorem dX12_limits_1 : decode cX12_limits 1 = .ok (.iconst 0, 1) := by decide +kernel
theorem dX12_limits_2 : decode cX12_limits 2 = .ok (.putfield 1, 3) := by decide +kernel
theorem dX12_limits_5 : decode cX12_limits 5 = .ok (.aload_n 0, 1) := by decide +kernel
theorem dX12_limits_6 : decode cX12_limits 6 = .ok (.invokevirtual 170, 3) := by decide +kernel
theorem dX12_limits_9 : decode cX12_limits 9 = .ok (.aload_n 0, 1) := by decide +kernel
theorem dX12_limits_10 : decode cX12_limits 10 = .ok (.aload_n 0, 1) := by decide +kernel
theorem dX12_limits_11 : decode cX12_limits 11 = .ok (.iload_n 1, 1) := by decide +kernel
theorem dX12_limits_12 : decode cX12_limits 12 = .ok (.iload_n 2, 1) := by decide +kernel
theorem dX12_limits_13 : decode cX12_limits 13 = .ok (.iload_n 3, 1) := by decide +kernel
theorem dX12_limits_14 : decode cX12_limits 14 = .ok (.invokevirtual 228, 3) := by decide +kernel
theorem dX12_limits_17 : decode cX12_limits 17 = .ok (.invokevirtual 195, 3) := by decide +kernel
theorem dX12_limits_20 : decode cX12_limits 20 = .ok (.ireturn, 1) := by decide +kernel
def f_X12_limits (a0 : Nat) (x1 : Int32) (x2 : Int32) (x3 : Int32) (μ : jM) : Option (Int32 × jM) :=
  jbd (jsi μ a0 0 (0 : Int32)) (fun m1 => jcl (f_X12_begins a0 m1) (fun m3 => jcl2 (f_X12_limitsOne a0 x1 x2 x3 m3) (fun v5 m6 => jcl2 (f_X12_ends a0 v5 m6) (fun v8 m9 => some ((v8, m9))))))
set_option maxHeartbeats 4000000 in
set_option maxRecDepth 100000 in
theorem c_X12_limits {l : Launch} {G : jG} {L : jL} (hL : jOKL L) {a0 : Nat} {x1 : Int32} {x2 : Int32} {x3 : Int32} (ka0 : jK L a0 12) {μ μ' : jM} {r : Int32} (h : f_X12_limits a0 x1 x2 x3 μ = some ((r, μ'))) : jCt l G L 7 yX12_limits cX12_limits 4 (some .int) [.ref (L.2.2 a0), .int x1, .int x2, .int x3] μ (some (.int r)) μ' := by
  refine jCt_of (by decide) (Nat.le_of_ble_eq_true rfl) (fun X hC hX hR => ?_)
  subst hX
  have hC : jC X G cX12_limits 4 RX12 (some .int) := hC
  unfold f_X12_limits at h
  show jJ X G 4 L 0 0 (jQM X G L (some (.int r)) μ' 0 0) 0 [(0, .ref (L.2.2 a0)), (1, .int x1), (2, .int x2), (3, .int x3)] [] μ
  refine j_aload_n (pc := 0) hC 0 0 dX12_limits_0 rfl rfl ?_
  refine j_iconst (pc := 1) hC (0 : Int32) dX12_limits_1 (by decide) ?_
  obtain ⟨m1, e2, h⟩ := jbd_ex h
  refine jpi_12 (pc := 2) hC 0 (by decide) rfl kf_X12_1 dX12_limits_2 rfl (by decide) ka0 e2 ?_
  refine j_aload_n (pc := 5) hC 0 0 dX12_limits_5 rfl rfl ?_
  obtain ⟨m3, e4, h⟩ := jcl_some h
  refine j_vv (pc := 6) hC hR [] iy_X12_begins (q := (RX12, TX12, 40)) (ci := 12) rfl rfl (by decide) km_X12_170 dX12_limits_6 rfl (by decide) ka0 (c_X12_begins hL ka0 e4) (by decide) (Nat.le_of_ble_eq_true rfl) rfl ?_
  refine j_aload_n (pc := 9) hC 0 0 dX12_limits_9 rfl rfl ?_
  refine j_aload_n (pc := 10) hC 0 0 dX12_limits_10 rfl rfl ?_
  refine j_iload_n (pc := 11) hC 1 1 dX12_limits_11 rfl rfl ?_
  refine j_iload_n (pc := 12) hC 2 2 dX12_limits_12 rfl rfl ?_
  refine j_iload_n (pc := 13) hC 3 3 dX12_limits_13 rfl rfl ?_
  obtain ⟨v5, m6, e7, h⟩ := jcl2_some h
  refine j_vi (pc := 14) hC hR [.int x1, .int x2, .int x3] iy_X12_limitsOne (q := (RX12, TX12, 40)) (ci := 12) rfl rfl (by decide) km_X12_228 dX12_limits_14 rfl (by decide) ka0 (c_X12_limitsOne hL ka0 e7) (by decide) (Nat.le_of_ble_eq_true rfl) rfl ?_
  obtain ⟨v8, m9, e10, h⟩ := jcl2_some h
  refine j_vi (pc := 17) hC hR [.int v5] iy_X12_ends (q := (RX12, TX12, 40)) (ci := 12) rfl rfl (by decide) km_X12_195 dX12_limits_17 rfl (by decide) ka0 (c_X12_ends hL ka0 e10) (by decide) (Nat.le_of_ble_eq_true rfl) rfl ?_
  obtain ⟨rfl, rfl⟩ := Prod.mk.inj (Option.some.inj h)
  exact j_iret (pc := 20) hC dX12_limits_20 rfl
theorem dX12_renews_0 : decode cX12_renews 0 = .ok (.aload_n 0, 1) := by decide +kernel
theorem dX12_renews_1 : decode cX12_renews 1 = .ok (.iconst 0, 1) := by decide +kernel
theorem dX12_renews_2 : decode cX12_renews 2 = .ok (.putfield 1, 3) := by decide +kernel
theorem dX12_renews_5 : decode cX12_renews 5 = .ok (.iload_n 1, 1) := by decide +kernel
theorem dX12_renews_6 : decode cX12_renews 6 = .ok (.invokestatic 202, 3) := by decide +kernel
theorem dX12_renews_9 : decode cX12_renews 9 = .ok (.ifCond .ne 5, 3) := by decide +kernel
theorem dX12_renews_12 : decode cX12_renews 12 = .ok (.iconst (-1), 1) := by decide +kernel
theorem dX12_renews_13 : decode cX12_renews 13 = .ok (.ireturn, 1) := by decide +kernel
theorem dX12_renews_14 : decode cX12_renews 14 = .ok (.aload_n 0, 1) := by decide +kernel
theorem dX12_renews_15 : decode cX12_renews 15 = .ok (.getfield 158, 3) := by decide +kernel
theorem dX12_renews_18 : decode cX12_renews 18 = .ok (.ifCond .le 6, 3) := by decide +kernel
theorem dX12_renews_21 : decode cX12_renews 21 = .ok (.bipush (-2), 2) := by decide +kernel
theorem dX12_renews_23 : decode cX12_renews 23 = .ok (.ireturn, 1) := by decide +kernel
theorem dX12_renews_24 : decode cX12_renews 24 = .ok (.bipush 6, 2) := by decide +kernel
theorem dX12_renews_26 : decode cX12_renews 26 = .ok (.aload_n 0, 1) := by decide +kernel
theorem dX12_renews_27 : decode cX12_renews 27 = .ok (.getfield 60, 3) := by decide +kernel
theorem dX12_renews_30 : decode cX12_renews 30 = .ok (.bipush 6, 2) := by decide +kernel
theorem dX12_renews_32 : decode cX12_renews 32 = .ok (.iload_n 1, 1) := by decide +kernel
theorem dX12_renews_33 : decode cX12_renews 33 = .ok (.iadd, 1) := by decide +kernel
theorem dX12_renews_34 : decode cX12_renews 34 = .ok (.iaload, 1) := by decide +kernel
theorem dX12_renews_35 : decode cX12_renews 35 = .ok (.invokestatic 211, 3) := by decide +kernel
theorem dX12_renews_38 : decode cX12_renews 38 = .ok (.isub, 1) := by decide +kernel
theorem dX12_renews_39 : decode cX12_renews 39 = .ok (.istore_n 2, 1) := by decide +kernel
theorem dX12_renews_40 : decode cX12_renews 40 = .ok (.aload_n 0, 1) := by decide +kernel
theorem dX12_renews_41 : decode cX12_renews 41 = .ok (.getfield 60, 3) := by decide +kernel
theorem dX12_renews_44 : decode cX12_renews 44 = .ok (.bipush 6, 2) := by decide +kernel
theorem dX12_renews_46 : decode cX12_renews 46 = .ok (.iload_n 1, 1) := by decide +kernel
theorem dX12_renews_47 : decode cX12_renews 47 = .ok (.iadd, 1) := by decide +kernel
theorem dX12_renews_48 : decode cX12_renews 48 = .ok (.bipush 63, 2) := by decide +kernel
theorem dX12_renews_50 : decode cX12_renews 50 = .ok (.iastore, 1) := by decide +kernel
theorem dX12_renews_51 : decode cX12_renews 51 = .ok (.iload_n 2, 1) := by decide +kernel
theorem dX12_renews_52 : decode cX12_renews 52 = .ok (.ireturn, 1) := by decide +kernel
def f_X12_renews (a0 : Nat) (x1 : Int32) (μ : jM) : Option (Int32 × jM) :=
  jbd (jsi μ a0 0 (0 : Int32)) (fun m1 => (if (f_X12_isVar x1) = (0 : Int32) then some (((-1 : Int32), m1)) else (if (m1.1 a0 9) ≤ (0 : Int32) then jrd (m1.1 (a0 + 3)) ((6 : Int32) + x1) 2074 (fun v6 => jcl (f_X12_bitsOf v6) (fun v8 => jin ((6 : Int32) + x1) 2074 (jbd (jsi m1 (a0 + 3) ((6 : Int32) + x1).toNatClampNeg (63 : Int32)) (fun m11 => some (((6 : Int32) - v8, m11)))))) else some (((-2 : Int32), m1)))))
set_option maxHeartbeats 4000000 in
set_option maxRecDepth 100000 in
theorem c_X12_renews {l : Launch} {G : jG} {L : jL} (hL : jOKL L) {a0 : Nat} {x1 : Int32} (ka0 : jK L a0 12) {μ μ' : jM} {r : Int32} (h : f_X12_renews a0 x1 μ = some ((r, μ'))) : jCt l G L 5 yX12_renews cX12_renews 3 (some .int) [.ref (L.2.2 a0), .int x1] μ (some (.int r)) μ' := by
  refine jCt_of (by decide) (Nat.le_of_ble_eq_true rfl) (fun X hC hX hR => ?_)
  subst hX
  have hC : jC X G cX12_renews 3 RX12 (some .int) := hC
  unfold f_X12_renews at h
  show jJ X G 3 L 0 0 (jQM X G L (some (.int r)) μ' 0 0) 0 [(0, .ref (L.2.2 a0)), (1, .int x1)] [] μ
  refine j_aload_n (pc := 0) hC 0 0 dX12_renews_0 rfl rfl ?_
  refine j_iconst (pc := 1) hC (0 : Int32) dX12_renews_1 (by decide) ?_
  obtain ⟨m1, e2, h⟩ := jbd_ex h
  refine jpi_12 (pc := 2) hC 0 (by decide) rfl kf_X12_1 dX12_renews_2 rfl (by decide) ka0 e2 ?_
  refine j_iload_n (pc := 5) hC 1 1 dX12_renews_5 rfl rfl ?_
  refine j_si (pc := 6) hC hR [.int x1] iy_X12_isVar km_X12_202 dX12_renews_6 rfl (by decide) (c_X12_isVar hL  rfl) (by decide) (Nat.le_of_ble_eq_true rfl) rfl ?_
  refine j_if_ne (pc := 9) hC 14 dX12_renews_9 (by decide) (fun c3 => ?_) (fun c3 => ?_)
  · rw [if_neg c3] at h
    refine j_aload_n (pc := 14) hC 0 0 dX12_renews_14 rfl rfl ?_
    refine jgi_12 (pc := 15) hC 9 (by decide) rfl kf_X12_158 dX12_renews_15 ka0 ?_
    refine j_if_le (pc := 18) hC 24 dX12_renews_18 (by decide) (fun c4 => ?_) (fun c4 => ?_)
    · rw [if_pos c4] at h
      refine j_bipush (pc := 24) hC (6 : Int32) dX12_renews_24 (by decide) ?_
      refine j_aload_n (pc := 26) hC 0 0 dX12_renews_26 rfl rfl ?_
      refine jgr_12 (pc := 27) hC 8 (by decide) rfl kf_X12_60 dX12_renews_27 ka0 (ly_12_8 hL ka0).1 ?_
      refine j_bipush (pc := 30) hC (6 : Int32) dX12_renews_30 (by decide) ?_
      refine j_iload_n (pc := 32) hC 1 1 dX12_renews_32 rfl rfl ?_
      refine j_iadd (pc := 33) hC dX12_renews_33 ?_
      obtain ⟨i5, v6, e7, h⟩ := jrd_some h
      refine j_iald (pc := 34) hC dX12_renews_34 (ly_12_8 hL ka0).2.1 (ly_12_8 hL ka0).2.2 i5 e7 ?_
      obtain ⟨v8, e9, h⟩ := jcl_some h
      refine j_si (pc := 35) hC hR [.int v6] iy_X12_bitsOf km_X12_211 dX12_renews_35 rfl (by decide) (c_X12_bitsOf hL  e9) (by decide) (Nat.le_of_ble_eq_true rfl) rfl ?_
      refine j_isub (pc := 38) hC dX12_renews_38 ?_
      refine j_istore_n (pc := 39) hC 2 [(2, .int ((6 : Int32) - v8)), (0, .ref (L.2.2 a0)), (1, .int x1)] dX12_renews_39 rfl (by decide) rfl rfl ?_
      refine j_aload_n (pc := 40) hC 0 1 dX12_renews_40 rfl rfl ?_
      refine jgr_12 (pc := 41) hC 8 (by decide) rfl kf_X12_60 dX12_renews_41 ka0 (ly_12_8 hL ka0).1 ?_
      refine j_bipush (pc := 44) hC (6 : Int32) dX12_renews_44 (by decide) ?_
      refine j_iload_n (pc := 46) hC 1 2 dX12_renews_46 rfl rfl ?_
      refine j_iadd (pc := 47) hC dX12_renews_47 ?_
      refine j_bipush (pc := 48) hC (63 : Int32) dX12_renews_48 (by decide) ?_
      obtain ⟨i10, h⟩ := jin_some h
      obtain ⟨m11, e12, h⟩ := jbd_ex h
      refine j_iast (pc := 50) hC dX12_renews_50 (ly_12_8 hL ka0).2.1 (ly_12_8 hL ka0).2.2 i10 e12 ?_
      refine j_iload_n (pc := 51) hC 2 0 dX12_renews_51 rfl rfl ?_
      obtain ⟨rfl, rfl⟩ := Prod.mk.inj (Option.some.inj h)
      exact j_iret (pc := 52) hC dX12_renews_52 rfl
    · rw [if_neg c4] at h
      refine j_bipush (pc := 21) hC (-2 : Int32) dX12_renews_21 (by decide) ?_
      obtain ⟨rfl, rfl⟩ := Prod.mk.inj (Option.some.inj h)
      exact j_iret (pc := 23) hC dX12_renews_23 rfl
  · rw [if_pos c3] at h
    refine j_iconst (pc := 12) hC (-1 : Int32) dX12_renews_12 (by decide) ?_
    obtain ⟨rfl, rfl⟩ := Prod.mk.inj (Option.some.inj h)
    exact j_iret (pc := 13) hC dX12_renews_13 rfl
theorem dX12_puts_0 : decode cX12_puts 0 = .ok (.aload_n 0, 1) := by decide +kernel
theorem dX12_puts_1 : decode cX12_puts 1 = .ok (.iconst 0, 1) := by decide +kernel
theorem dX12_puts_2 : decode cX12_puts 2 = .ok (.putfield 1, 3) := by decide +kernel
theorem dX12_puts_5 : decode cX12_puts 5 = .ok (.aload_n 0, 1) := by decide +kernel
theorem dX12_puts_6 : decode cX12_puts 6 = .ok (.invokevirtual 170, 3) := by decide +kernel
theorem dX12_puts_9 : decode cX12_puts 9 = .ok (.aload_n 0, 1) := by decide +kernel
theorem dX12_puts_10 : decode cX12_puts 10 = .ok (.aload_n 0, 1) := by decide +kernel
theorem dX12_puts_11 : decode cX12_puts 11 = .ok (.iload_n 1, 1) := by decide +kernel
theorem dX12_puts_12 : decode cX12_puts 12 = .ok (.iload_n 2, 1) := by decide +kernel
theorem dX12_puts_13 : decode cX12_puts 13 = .ok (.invokevirtual 232, 3) := by decide +kernel
theorem dX12_puts_16 : decode cX12_puts 16 = .ok (.invokevirtual 195, 3) := by decide +kernel
theorem dX12_puts_19 : decode cX12_puts 19 = .ok (.ireturn, 1) := by decide +kernel
def f_X12_puts (a0 : Nat) (x1 : Int32) (x2 : Int32) (μ : jM) : Option (Int32 × jM) :=
  jbd (jsi μ a0 0 (0 : Int32)) (fun m1 => jcl (f_X12_begins a0 m1) (fun m3 => jcl2 (f_X12_putsOne a0 x1 x2 m3) (fun v5 m6 => jcl2 (f_X12_ends a0 v5 m6) (fun v8 m9 => some ((v8, m9))))))
set_option maxHeartbeats 4000000 in
set_option maxRecDepth 100000 in
theorem c_X12_puts {l : Launch} {G : jG} {L : jL} (hL : jOKL L) {a0 : Nat} {x1 : Int32} {x2 : Int32} (ka0 : jK L a0 12) {μ μ' : jM} {r : Int32} (h : f_X12_puts a0 x1 x2 μ = some ((r, μ'))) : jCt l G L 7 yX12_puts cX12_puts 3 (some .int) [.ref (L.2.2 a0), .int x1, .int x2] μ (some (.int r)) μ' := by
  refine jCt_of (by decide) (Nat.le_of_ble_eq_true rfl) (fun X hC hX hR => ?_)
  subst hX
  have hC : jC X G cX12_puts 3 RX12 (some .int) := hC
  unfold f_X12_puts at h
  show jJ X G 3 L 0 0 (jQM X G L (some (.int r)) μ' 0 0) 0 [(0, .ref (L.2.2 a0)), (1, .int x1), (2, .int x2)] [] μ
  refine j_aload_n (pc := 0) hC 0 0 dX12_puts_0 rfl rfl ?_
  refine j_iconst (pc := 1) hC (0 : Int32) dX12_puts_1 (by decide) ?_
  obtain ⟨m1, e2, h⟩ := jbd_ex h
  refine jpi_12 (pc := 2) hC 0 (by decide) rfl kf_X12_1 dX12_puts_2 rfl (by decide) ka0 e2 ?_
  refine j_aload_n (pc := 5) hC 0 0 dX12_puts_5 rfl rfl ?_
  obtain ⟨m3, e4, h⟩ := jcl_some h
  refine j_vv (pc := 6) hC hR [] iy_X12_begins (q := (RX12, TX12, 40)) (ci := 12) rfl rfl (by decide) km_X12_170 dX12_puts_6 rfl (by decide) ka0 (c_X12_begins hL ka0 e4) (by decide) (Nat.le_of_ble_eq_true rfl) rfl ?_
  refine j_aload_n (pc := 9) hC 0 0 dX12_puts_9 rfl rfl ?_
  refine j_aload_n (pc := 10) hC 0 0 dX12_puts_10 rfl rfl ?_
  refine j_iload_n (pc := 11) hC 1 1 dX12_puts_11 rfl rfl ?_
  refine j_iload_n (pc := 12) hC 2 2 dX12_puts_12 rfl rfl ?_
  obtain ⟨v5, m6, e7, h⟩ := jcl2_some h
  refine j_vi (pc := 13) hC hR [.int x1, .int x2] iy_X12_putsOne (q := (RX12, TX12, 40)) (ci := 12) rfl rfl (by decide) km_X12_232 dX12_puts_13 rfl (by decide) ka0 (c_X12_putsOne hL ka0 e7) (by decide) (Nat.le_of_ble_eq_true rfl) rfl ?_
  obtain ⟨v8, m9, e10, h⟩ := jcl2_some h
  refine j_vi (pc := 16) hC hR [.int v5] iy_X12_ends (q := (RX12, TX12, 40)) (ci := 12) rfl rfl (by decide) km_X12_195 dX12_puts_16 rfl (by decide) ka0 (c_X12_ends hL ka0 e10) (by decide) (Nat.le_of_ble_eq_true rfl) rfl ?_
  obtain ⟨rfl, rfl⟩ := Prod.mk.inj (Option.some.inj h)
  exact j_iret (pc := 19) hC dX12_puts_19 rfl
theorem dX12_drops_0 : decode cX12_drops 0 = .ok (.aload_n 0, 1) := by decide +kernel
theorem dX12_drops_1 : decode cX12_drops 1 = .ok (.iconst 0, 1) := by decide +kernel
theorem dX12_drops_2 : decode cX12_drops 2 = .ok (.putfield 1, 3) := by decide +kernel
theorem dX12_drops_5 : decode cX12_drops 5 = .ok (.aload_n 0, 1) := by decide +kernel
theorem dX12_drops_6 : decode cX12_drops 6 = .ok (.invokevirtual 170, 3) := by decide +kernel
theorem dX12_drops_9 : decode cX12_drops 9 = .ok (.aload_n 0, 1) := by decide +kernel
theorem dX12_drops_10 : decode cX12_drops 10 = .ok (.aload_n 0, 1) := by decide +kernel
theorem dX12_drops_11 : decode cX12_drops 11 = .ok (.iload_n 1, 1) := by decide +kernel
theorem dX12_drops_12 : decode cX12_drops 12 = .ok (.invokevirtual 235, 3) := by decide +kernel
theorem dX12_drops_15 : decode cX12_drops 15 = .ok (.invokevirtual 195, 3) := by decide +kernel
theorem dX12_drops_18 : decode cX12_drops 18 = .ok (.ireturn, 1) := by decide +kernel
def f_X12_drops (a0 : Nat) (x1 : Int32) (μ : jM) : Option (Int32 × jM) :=
  jbd (jsi μ a0 0 (0 : Int32)) (fun m1 => jcl (f_X12_begins a0 m1) (fun m3 => jcl2 (f_X12_dropsOne a0 x1 m3) (fun v5 m6 => jcl2 (f_X12_ends a0 v5 m6) (fun v8 m9 => some ((v8, m9))))))
set_option maxHeartbeats 4000000 in
set_option maxRecDepth 100000 in
theorem c_X12_drops {l : Launch} {G : jG} {L : jL} (hL : jOKL L) {a0 : Nat} {x1 : Int32} (ka0 : jK L a0 12) {μ μ' : jM} {r : Int32} (h : f_X12_drops a0 x1 μ = some ((r, μ'))) : jCt l G L 7 yX12_drops cX12_drops 2 (some .int) [.ref (L.2.2 a0), .int x1] μ (some (.int r)) μ' := by
  refine jCt_of (by decide) (Nat.le_of_ble_eq_true rfl) (fun X hC hX hR => ?_)
  subst hX
  have hC : jC X G cX12_drops 2 RX12 (some .int) := hC
  unfold f_X12_drops at h
  show jJ X G 2 L 0 0 (jQM X G L (some (.int r)) μ' 0 0) 0 [(0, .ref (L.2.2 a0)), (1, .int x1)] [] μ
  refine j_aload_n (pc := 0) hC 0 0 dX12_drops_0 rfl rfl ?_
  refine j_iconst (pc := 1) hC (0 : Int32) dX12_drops_1 (by decide) ?_
  obtain ⟨m1, e2, h⟩ := jbd_ex h
  refine jpi_12 (pc := 2) hC 0 (by decide) rfl kf_X12_1 dX12_drops_2 rfl (by decide) ka0 e2 ?_
  refine j_aload_n (pc := 5) hC 0 0 dX12_drops_5 rfl rfl ?_
  obtain ⟨m3, e4, h⟩ := jcl_some h
  refine j_vv (pc := 6) hC hR [] iy_X12_begins (q := (RX12, TX12, 40)) (ci := 12) rfl rfl (by decide) km_X12_170 dX12_drops_6 rfl (by decide) ka0 (c_X12_begins hL ka0 e4) (by decide) (Nat.le_of_ble_eq_true rfl) rfl ?_
  refine j_aload_n (pc := 9) hC 0 0 dX12_drops_9 rfl rfl ?_
  refine j_aload_n (pc := 10) hC 0 0 dX12_drops_10 rfl rfl ?_
  refine j_iload_n (pc := 11) hC 1 1 dX12_drops_11 rfl rfl ?_
  obtain ⟨v5, m6, e7, h⟩ := jcl2_some h
  refine j_vi (pc := 12) hC hR [.int x1] iy_X12_dropsOne (q := (RX12, TX12, 40)) (ci := 12) rfl rfl (by decide) km_X12_235 dX12_drops_12 rfl (by decide) ka0 (c_X12_dropsOne hL ka0 e7) (by decide) (Nat.le_of_ble_eq_true rfl) rfl ?_
  obtain ⟨v8, m9, e10, h⟩ := jcl2_some h
  refine j_vi (pc := 15) hC hR [.int v5] iy_X12_ends (q := (RX12, TX12, 40)) (ci := 12) rfl rfl (by decide) km_X12_195 dX12_drops_15 rfl (by decide) ka0 (c_X12_ends hL ka0 e10) (by decide) (Nat.le_of_ble_eq_true rfl) rfl ?_
  obtain ⟨rfl, rfl⟩ := Prod.mk.inj (Option.some.inj h)
  exact j_iret (pc := 18) hC dX12_drops_18 rfl
theorem dX12_tells_0 : decode cX12_tells 0 = .ok (.aload_n 0, 1) := by decide +kernel
theorem dX12_tells_1 : decode cX12_tells 1 = .ok (.getfield 75, 3) := by decide +kernel
theorem dX12_tells_4 : decode cX12_tells 4 = .ok (.iconst 4, 1) := by decide +kernel
theorem dX12_tells_5 : decode cX12_tells 5 = .ok (.aload_n 0, 1) := by decide +kernel
theorem dX12_tells_6 : decode cX12_tells 6 = .ok (.getfield 238, 3) := by decide +kernel
theorem dX12_tells_9 : decode cX12_tells 9 = .ok (.imul, 1) := by decide +kernel
theorem dX12_tells_10 : decode cX12_tells 10 = .ok (.iload_n 1, 1) := by decide +kernel
theorem dX12_tells_11 : decode cX12_tells 11 = .ok (.iastore, 1) := by decide +kernel
theorem dX12_tells_12 : decode cX12_tells 12 = .ok (.aload_n 0, 1) := by decide +kernel
theorem dX12_tells_13 : decode cX12_tells 13 = .ok (.getfield 75, 3) := by decide +kernel
theorem dX12_tells_16 : decode cX12_tells 16 = .ok (.iconst 4, 1) := by decide +kernel
theorem dX12_tells_17 : decode cX12_tells 17 = .ok (.aload_n 0, 1) := by decide +kernel
theorem dX12_tells_18 : decode cX12_tells 18 = .ok (.getfield 238, 3) := by decide +kernel
theorem dX12_tells_21 : decode cX12_tells 21 = .ok (.imul, 1) := by decide +kernel
theorem dX12_tells_22 : decode cX12_tells 22 = .ok (.iconst 1, 1) := by decide +kernel
theorem dX12_tells_23 : decode cX12_tells 23 = .ok (.iadd, 1) := by decide +kernel
theorem dX12_tells_24 : decode cX12_tells 24 = .ok (.iload_n 2, 1) := by decide +kernel
theorem dX12_tells_25 : decode cX12_tells 25 = .ok (.iastore, 1) := by decide +kernel
theorem dX12_tells_26 : decode cX12_tells 26 = .ok (.aload_n 0, 1) := by decide +kernel
theorem dX12_tells_27 : decode cX12_tells 27 = .ok (.getfield 75, 3) := by decide +kernel
theorem dX12_tells_30 : decode cX12_tells 30 = .ok (.iconst 4, 1) := by decide +kernel
theorem dX12_tells_31 : decode cX12_tells 31 = .ok (.aload_n 0, 1) := by decide +kernel
theorem dX12_tells_32 : decode cX12_tells 32 = .ok (.getfield 238, 3) := by decide +kernel
theorem dX12_tells_35 : decode cX12_tells 35 = .ok (.imul, 1) := by decide +kernel
theorem dX12_tells_36 : decode cX12_tells 36 = .ok (.iconst 2, 1) := by decide +kernel
theorem dX12_tells_37 : decode cX12_tells 37 = .ok (.iadd, 1) := by decide +kernel
theorem dX12_tells_38 : decode cX12_tells 38 = .ok (.iload_n 3, 1) := by decide +kernel
theorem dX12_tells_39 : decode cX12_tells 39 = .ok (.iastore, 1) := by decide +kernel
theorem dX12_tells_40 : decode cX12_tells 40 = .ok (.aload_n 0, 1) := by decide +kernel
theorem dX12_tells_41 : decode cX12_tells 41 = .ok (.getfield 75, 3) := by decide +kernel
theorem dX12_tells_44 : decode cX12_tells 44 = .ok (.iconst 4, 1) := by decide +kernel
theorem dX12_tells_45 : decode cX12_tells 45 = .ok (.aload_n 0, 1) := by decide +kernel
theorem dX12_tells_46 : decode cX12_tells 46 = .ok (.getfield 238, 3) := by decide +kernel
theorem dX12_tells_49 : decode cX12_tells 49 = .ok (.imul, 1) := by decide +kernel
theorem dX12_tells_50 : decode cX12_tells 50 = .ok (.iconst 3, 1) := by decide +kernel
theorem dX12_tells_51 : decode cX12_tells 51 = .ok (.iadd, 1) := by decide +kernel
theorem dX12_tells_52 : decode cX12_tells 52 = .ok (.iload 4, 2) := by decide +kernel
theorem dX12_tells_54 : decode cX12_tells 54 = .ok (.iastore, 1) := by decide +kernel
theorem dX12_tells_55 : decode cX12_tells 55 = .ok (.aload_n 0, 1) := by decide +kernel
theorem dX12_tells_56 : decode cX12_tells 56 = .ok (.dup, 1) := by decide +kernel
theorem dX12_tells_57 : decode cX12_tells 57 = .ok (.getfield 238, 3) := by decide +kernel
theorem dX12_tells_60 : decode cX12_tells 60 = .ok (.iconst 1, 1) := by decide +kernel
theorem dX12_tells_61 : decode cX12_tells 61 = .ok (.iadd, 1) := by decide +kernel
theorem dX12_tells_62 : decode cX12_tells 62 = .ok (.putfield 238, 3) := by decide +kernel
theorem dX12_tells_65 : decode cX12_tells 65 = .ok (.return_, 1) := by decide +kernel
def f_X12_tells (a0 : Nat) (x1 : Int32) (x2 : Int32) (x3 : Int32) (x4 : Int32) (μ : jM) : Option (jM) :=
  jin ((4 : Int32) * (μ.1 a0 17)) 320 (jbd (jsi μ (a0 + 8) ((4 : Int32) * (μ.1 a0 17)).toNatClampNeg x1) (fun m2 => jin (((4 : Int32) * (m2.1 a0 17)) + (1 : Int32)) 320 (jbd (jsi m2 (a0 + 8) (((4 : Int32) * (m2.1 a0 17)) + (1 : Int32)).toNatClampNeg x2) (fun m5 => jin (((4 : Int32) * (m5.1 a0 17)) + (2 : Int32)) 320 (jbd (jsi m5 (a0 + 8) (((4 : Int32) * (m5.1 a0 17)) + (2 : Int32)).toNatClampNeg x3) (fun m8 => jin (((4 : Int32) * (m8.1 a0 17)) + (3 : Int32)) 320 (jbd (jsi m8 (a0 + 8) (((4 : Int32) * (m8.1 a0 17)) + (3 : Int32)).toNatClampNeg x4) (fun m11 => jbd (jsi m11 a0 17 ((m11.1 a0 17) + (1 : Int32))) (fun m13 => some m13)))))))))
set_option maxHeartbeats 4000000 in
set_option maxRecDepth 100000 in
theorem c_X12_tells {l : Launch} {G : jG} {L : jL} (hL : jOKL L) {a0 : Nat} {x1 : Int32} {x2 : Int32} {x3 : Int32} {x4 : Int32} (ka0 : jK L a0 12) {μ μ' : jM} (h : f_X12_tells a0 x1 x2 x3 x4 μ = some μ') : jCt l G L 3 yX12_tells cX12_tells 5 none [.ref (L.2.2 a0), .int x1, .int x2, .int x3, .int x4] μ none μ' := by
  refine jCt_of (by decide) (Nat.le_of_ble_eq_true rfl) (fun X hC hX hR => ?_)
  subst hX
  have hC : jC X G cX12_tells 5 RX12 none := hC
  unfold f_X12_tells at h
  show jJ X G 5 L 0 0 (jQM X G L none μ' 0 0) 0 [(0, .ref (L.2.2 a0)), (1, .int x1), (2, .int x2), (3, .int x3), (4, .int x4)] [] μ
  refine j_aload_n (pc := 0) hC 0 0 dX12_tells_0 rfl rfl ?_
  refine jgr_12 (pc := 1) hC 16 (by decide) rfl kf_X12_75 dX12_tells_1 ka0 (ly_12_16 hL ka0).1 ?_
  refine j_iconst (pc := 4) hC (4 : Int32) dX12_tells_4 (by decide) ?_
  refine j_aload_n (pc := 5) hC 0 0 dX12_tells_5 rfl rfl ?_
  refine jgi_12 (pc := 6) hC 17 (by decide) rfl kf_X12_238 dX12_tells_6 ka0 ?_
  refine j_imul (pc := 9) hC dX12_tells_9 ?_
  refine j_iload_n (pc := 10) hC 1 1 dX12_tells_10 rfl rfl ?_
  obtain ⟨i1, h⟩ := jin_some h
  obtain ⟨m2, e3, h⟩ := jbd_ex h
  refine j_iast (pc := 11) hC dX12_tells_11 (ly_12_16 hL ka0).2.1 (ly_12_16 hL ka0).2.2 i1 e3 ?_
  refine j_aload_n (pc := 12) hC 0 0 dX12_tells_12 rfl rfl ?_
  refine jgr_12 (pc := 13) hC 16 (by decide) rfl kf_X12_75 dX12_tells_13 ka0 (ly_12_16 hL ka0).1 ?_
  refine j_iconst (pc := 16) hC (4 : Int32) dX12_tells_16 (by decide) ?_
  refine j_aload_n (pc := 17) hC 0 0 dX12_tells_17 rfl rfl ?_
  refine jgi_12 (pc := 18) hC 17 (by decide) rfl kf_X12_238 dX12_tells_18 ka0 ?_
  refine j_imul (pc := 21) hC dX12_tells_21 ?_
  refine j_iconst (pc := 22) hC (1 : Int32) dX12_tells_22 (by decide) ?_
  refine j_iadd (pc := 23) hC dX12_tells_23 ?_
  refine j_iload_n (pc := 24) hC 2 2 dX12_tells_24 rfl rfl ?_
  obtain ⟨i4, h⟩ := jin_some h
  obtain ⟨m5, e6, h⟩ := jbd_ex h
  refine j_iast (pc := 25) hC dX12_tells_25 (ly_12_16 hL ka0).2.1 (ly_12_16 hL ka0).2.2 i4 e6 ?_
  refine j_aload_n (pc := 26) hC 0 0 dX12_tells_26 rfl rfl ?_
  refine jgr_12 (pc := 27) hC 16 (by decide) rfl kf_X12_75 dX12_tells_27 ka0 (ly_12_16 hL ka0).1 ?_
  refine j_iconst (pc := 30) hC (4 : Int32) dX12_tells_30 (by decide) ?_
  refine j_aload_n (pc := 31) hC 0 0 dX12_tells_31 rfl rfl ?_
  refine jgi_12 (pc := 32) hC 17 (by decide) rfl kf_X12_238 dX12_tells_32 ka0 ?_
  refine j_imul (pc := 35) hC dX12_tells_35 ?_
  refine j_iconst (pc := 36) hC (2 : Int32) dX12_tells_36 (by decide) ?_
  refine j_iadd (pc := 37) hC dX12_tells_37 ?_
  refine j_iload_n (pc := 38) hC 3 3 dX12_tells_38 rfl rfl ?_
  obtain ⟨i7, h⟩ := jin_some h
  obtain ⟨m8, e9, h⟩ := jbd_ex h
  refine j_iast (pc := 39) hC dX12_tells_39 (ly_12_16 hL ka0).2.1 (ly_12_16 hL ka0).2.2 i7 e9 ?_
  refine j_aload_n (pc := 40) hC 0 0 dX12_tells_40 rfl rfl ?_
  refine jgr_12 (pc := 41) hC 16 (by decide) rfl kf_X12_75 dX12_tells_41 ka0 (ly_12_16 hL ka0).1 ?_
  refine j_iconst (pc := 44) hC (4 : Int32) dX12_tells_44 (by decide) ?_
  refine j_aload_n (pc := 45) hC 0 0 dX12_tells_45 rfl rfl ?_
  refine jgi_12 (pc := 46) hC 17 (by decide) rfl kf_X12_238 dX12_tells_46 ka0 ?_
  refine j_imul (pc := 49) hC dX12_tells_49 ?_
  refine j_iconst (pc := 50) hC (3 : Int32) dX12_tells_50 (by decide) ?_
  refine j_iadd (pc := 51) hC dX12_tells_51 ?_
  refine j_iload (pc := 52) hC 4 dX12_tells_52 rfl ?_
  obtain ⟨i10, h⟩ := jin_some h
  obtain ⟨m11, e12, h⟩ := jbd_ex h
  refine j_iast (pc := 54) hC dX12_tells_54 (ly_12_16 hL ka0).2.1 (ly_12_16 hL ka0).2.2 i10 e12 ?_
  refine j_aload_n (pc := 55) hC 0 0 dX12_tells_55 rfl rfl ?_
  refine j_dup (pc := 56) hC dX12_tells_56 rfl ?_
  refine jgi_12 (pc := 57) hC 17 (by decide) rfl kf_X12_238 dX12_tells_57 ka0 ?_
  refine j_iconst (pc := 60) hC (1 : Int32) dX12_tells_60 (by decide) ?_
  refine j_iadd (pc := 61) hC dX12_tells_61 ?_
  obtain ⟨m13, e14, h⟩ := jbd_ex h
  refine jpi_12 (pc := 62) hC 17 (by decide) rfl kf_X12_238 dX12_tells_62 rfl (by decide) ka0 e14 ?_
  obtain rfl := Option.some.inj h
  exact j_vret (pc := 65) hC dX12_tells_65 rfl
theorem dX12_readsSet_0 : decode cX12_readsSet 0 = .ok (.iconst 0, 1) := by decide +kernel
theorem dX12_readsSet_1 : decode cX12_readsSet 1 = .ok (.istore_n 1, 1) := by decide +kernel
theorem dX12_readsSet_2 : decode cX12_readsSet 2 = .ok (.iconst 0, 1) := by decide +kernel
theorem dX12_readsSet_3 : decode cX12_readsSet 3 = .ok (.istore_n 2, 1) := by decide +kernel
theorem dX12_readsSet_4 : decode cX12_readsSet 4 = .ok (.iconst 1, 1) := by decide +kernel
theorem dX12_readsSet_5 : decode cX12_readsSet 5 = .ok (.istore_n 3, 1) := by decide +kernel
theorem dX12_readsSet_6 : decode cX12_readsSet 6 = .ok (.iload_n 3, 1) := by decide +kernel
theorem dX12_readsSet_7 : decode cX12_readsSet 7 = .ok (.ifCond .eq 73, 3) := by decide +kernel
theorem dX12_readsSet_10 : decode cX12_readsSet 10 = .ok (.aload_n 0, 1) := by decide +kernel
theorem dX12_readsSet_11 : decode cX12_readsSet 11 = .ok (.ldc 241, 2) := by decide +kernel
theorem dX12_readsSet_13 : decode cX12_readsSet 13 = .ok (.invokevirtual 50, 3) := by decide +kernel
theorem dX12_readsSet_16 : decode cX12_readsSet 16 = .ok (.istore 4, 2) := by decide +kernel
theorem dX12_readsSet_18 : decode cX12_readsSet 18 = .ok (.iload 4, 2) := by decide +kernel
theorem dX12_readsSet_20 : decode cX12_readsSet 20 = .ok (.ifCond .lt 24, 3) := by decide +kernel
theorem dX12_readsSet_23 : decode cX12_readsSet 23 = .ok (.iload_n 1, 1) := by decide +kernel
theorem dX12_readsSet_24 : decode cX12_readsSet 24 = .ok (.iload 4, 2) := by decide +kernel
theorem dX12_readsSet_26 : decode cX12_readsSet 26 = .ok (.invokestatic 208, 3) := by decide +kernel
theorem dX12_readsSet_29 : decode cX12_readsSet 29 = .ok (.ifCond .eq 15, 3) := by decide +kernel
theorem dX12_readsSet_32 : decode cX12_readsSet 32 = .ok (.aload_n 0, 1) := by decide +kernel
theorem dX12_readsSet_33 : decode cX12_readsSet 33 = .ok (.dup, 1) := by decide +kernel
theorem dX12_readsSet_34 : decode cX12_readsSet 34 = .ok (.getfield 28, 3) := by decide +kernel
theorem dX12_readsSet_37 : decode cX12_readsSet 37 = .ok (.iconst 1, 1) := by decide +kernel
theorem dX12_readsSet_38 : decode cX12_readsSet 38 = .ok (.isub, 1) := by decide +kernel
theorem dX12_readsSet_39 : decode cX12_readsSet 39 = .ok (.putfield 28, 3) := by decide +kernel
theorem dX12_readsSet_42 : decode cX12_readsSet 42 = .ok (.iconst 0, 1) := by decide +kernel
theorem dX12_readsSet_43 : decode cX12_readsSet 43 = .ok (.ireturn, 1) := by decide +kernel
theorem dX12_readsSet_44 : decode cX12_readsSet 44 = .ok (.iload 4, 2) := by decide +kernel
theorem dX12_readsSet_46 : decode cX12_readsSet 46 = .ok (.ifCond .lt 7, 3) := by decide +kernel
theorem dX12_readsSet_49 : decode cX12_readsSet 49 = .ok (.iconst 1, 1) := by decide +kernel
theorem dX12_readsSet_50 : decode cX12_readsSet 50 = .ok (.goto 4, 3) := by decide +kernel
theorem dX12_readsSet_53 : decode cX12_readsSet 53 = .ok (.iconst 0, 1) := by decide +kernel
theorem dX12_readsSet_54 : decode cX12_readsSet 54 = .ok (.istore_n 3, 1) := by decide +kernel
theorem dX12_readsSet_55 : decode cX12_readsSet 55 = .ok (.iload_n 1, 1) := by decide +kernel
theorem dX12_readsSet_56 : decode cX12_readsSet 56 = .ok (.iload_n 3, 1) := by decide +kernel
theorem dX12_readsSet_57 : decode cX12_readsSet 57 = .ok (.ifCond .eq 10, 3) := by decide +kernel
theorem dX12_readsSet_60 : decode cX12_readsSet 60 = .ok (.iconst 1, 1) := by decide +kernel
theorem dX12_readsSet_61 : decode cX12_readsSet 61 = .ok (.iload 4, 2) := by decide +kernel
theorem dX12_readsSet_63 : decode cX12_readsSet 63 = .ok (.ishl, 1) := by decide +kernel
theorem dX12_readsSet_64 : decode cX12_readsSet 64 = .ok (.goto 4, 3) := by decide +kernel
theorem dX12_readsSet_67 : decode cX12_readsSet 67 = .ok (.iconst 0, 1) := by decide +kernel
theorem dX12_readsSet_68 : decode cX12_readsSet 68 = .ok (.ior, 1) := by decide +kernel
theorem dX12_readsSet_69 : decode cX12_readsSet 69 = .ok (.istore_n 1, 1) := by decide +kernel
theorem dX12_readsSet_70 : decode cX12_readsSet 70 = .ok (.iload_n 2, 1) := by decide +kernel
theorem dX12_readsSet_71 : decode cX12_readsSet 71 = .ok (.iload_n 3, 1) := by decide +kernel
theorem dX12_readsSet_72 : decode cX12_readsSet 72 = .ok (.invokestatic 34, 3) := by decide +kernel
theorem dX12_readsSet_75 : decode cX12_readsSet 75 = .ok (.iadd, 1) := by decide +kernel
theorem dX12_readsSet_76 : decode cX12_readsSet 76 = .ok (.istore_n 2, 1) := by decide +kernel
theorem dX12_readsSet_77 : decode cX12_readsSet 77 = .ok (.goto (-71), 3) := by decide +kernel
theorem dX12_readsSet_80 : decode cX12_readsSet 80 = .ok (.aload_n 0, 1) := by decide +kernel
theorem dX12_readsSet_81 : decode cX12_readsSet 81 = .ok (.iconst 3, 1) := by decide +kernel
theorem dX12_readsSet_82 : decode cX12_readsSet 82 = .ok (.iload_n 1, 1) := by decide +kernel
theorem dX12_readsSet_83 : decode cX12_readsSet 83 = .ok (.iconst 0, 1) := by decide +kernel
theorem dX12_readsSet_84 : decode cX12_readsSet 84 = .ok (.iconst 0, 1) := by decide +kernel
theorem dX12_readsSet_85 : decode cX12_readsSet 85 = .ok (.invokevirtual 243, 3) := by decide +kernel
theorem dX12_readsSet_88 : decode cX12_readsSet 88 = .ok (.iload_n 2, 1) := by decide +kernel
theorem dX12_readsSet_89 : decode cX12_readsSet 89 = .ok (.iconst 1, 1) := by decide +kernel
theorem dX12_readsSet_90 : decode cX12_readsSet 90 = .ok (.if_icmp .le 7, 3) := by decide +kernel
theorem dX12_readsSet_93 : decode cX12_readsSet 93 = .ok (.iconst 1, 1) := by decide +kernel
theorem dX12_readsSet_94 : decode cX12_readsSet 94 = .ok (.goto 4, 3) := by decide +kernel
theorem dX12_readsSet_97 : decode cX12_readsSet 97 = .ok (.iconst 0, 1) := by decide +kernel
theorem dX12_readsSet_98 : decode cX12_readsSet 98 = .ok (.ireturn, 1) := by decide +kernel
def f_X12_readsSet_L6 (a0 : Nat) (u1 : Int32) (u2 : Int32) (u3 : Int32) (m4 : jM) : Option ((Int32 × Int32 × Int32 × jM) ⊕ ((jM) ⊕ (Int32 × Int32 × jM))) :=
  (if u3 = (0 : Int32) then some (.inr (.inr ((u1, u2, m4)))) else jcl2 (f_X12_takesOf a0 16 m4) (fun v6 m7 => jbd (jbd ((if v6 < (0 : Int32) then (0 : Int32) else (1 : Int32)) : Int32) (fun v13 => jbd (u1 ||| ((if v13 = (0 : Int32) then (0 : Int32) else (1 : Int32) <<< (v6 &&& 31))) : Int32) (fun v16 => jbd (u2 + (f_X12_flag v13) : Int32) (fun v18 => some (.inl ((v16, v18, v13, m7))))))) (fun k9 => (if v6 < (0 : Int32) then k9 else (if (f_X12_has u1 v6) = (0 : Int32) then k9 else some (.inr (.inl m7)))))))
def f_X12_readsSet (a0 : Nat) (μ : jM) : Option (Int32 × jM) :=
  jcl (jloop (fun (s : Int32 × Int32 × Int32 × jM) => f_X12_readsSet_L6 a0 s.1 s.2.1 s.2.2.1 s.2.2.2) jfu (((0 : Int32), (0 : Int32), (1 : Int32), μ))) (fun w22 => match w22 with | .inl w22 => jbd (jsi w22 a0 5 ((w22.1 a0 5) - (1 : Int32))) (fun m26 => some (((0 : Int32), m26))) | .inr w22 => jcl (f_X12_tells a0 (3 : Int32) w22.1 (0 : Int32) (0 : Int32) w22.2.2) (fun m31 => some ((((if w22.2.1 ≤ (1 : Int32) then (0 : Int32) else (1 : Int32))) &&& 1, m31))))
set_option maxHeartbeats 4000000 in
set_option maxRecDepth 100000 in
theorem c_X12_readsSet {l : Launch} {G : jG} {L : jL} (hL : jOKL L) {a0 : Nat} (ka0 : jK L a0 12) {μ μ' : jM} {r : Int32} (h : f_X12_readsSet a0 μ = some ((r, μ'))) : jCt l G L 8 yX12_readsSet cX12_readsSet 5 (some .boolean) [.ref (L.2.2 a0)] μ (some (.int r)) μ' := by
  refine jCt_of (by decide) (Nat.le_of_ble_eq_true rfl) (fun X hC hX hR => ?_)
  subst hX
  have hC : jC X G cX12_readsSet 5 RX12 (some .boolean) := hC
  unfold f_X12_readsSet at h
  show jJ X G 5 L 0 0 (jQM X G L (some (.int r)) μ' 0 0) 0 [(0, .ref (L.2.2 a0))] [] μ
  refine j_iconst (pc := 0) hC (0 : Int32) dX12_readsSet_0 (by decide) ?_
  refine j_istore_n (pc := 1) hC 1 [(1, .int (0 : Int32)), (0, .ref (L.2.2 a0))] dX12_readsSet_1 rfl (by decide) rfl rfl ?_
  refine j_iconst (pc := 2) hC (0 : Int32) dX12_readsSet_2 (by decide) ?_
  refine j_istore_n (pc := 3) hC 2 [(2, .int (0 : Int32)), (1, .int (0 : Int32)), (0, .ref (L.2.2 a0))] dX12_readsSet_3 rfl (by decide) rfl rfl ?_
  refine j_iconst (pc := 4) hC (1 : Int32) dX12_readsSet_4 (by decide) ?_
  refine j_istore_n (pc := 5) hC 3 [(3, .int (1 : Int32)), (2, .int (0 : Int32)), (1, .int (0 : Int32)), (0, .ref (L.2.2 a0))] dX12_readsSet_5 rfl (by decide) rfl rfl ?_
  obtain ⟨w22, hw23, h⟩ := jcl_some h
  refine j_lv [3, 2, 1, 0] rfl ?_
  refine j_loop (step := (fun (s : Int32 × Int32 × Int32 × jM) => f_X12_readsSet_L6 a0 s.1 s.2.1 s.2.2.1 s.2.2.2)) (P := (fun (s : Int32 × Int32 × Int32 × jM) => jJ X G 5 L 0 0 (jQM X G L (some (.int r)) μ' 0 0) 6 [(0, .ref (L.2.2 a0)), (1, .int s.1), (2, .int s.2.1), (3, .int s.2.2.1)] [] s.2.2.2)) (R := (fun (e : (jM) ⊕ (Int32 × Int32 × jM)) => match e with | .inl e => jJ X G 5 L 0 0 (jQM X G L (some (.int r)) μ' 0 0) 32 [(0, .ref (L.2.2 a0))] [] e | .inr e => jJ X G 5 L 0 0 (jQM X G L (some (.int r)) μ' 0 0) 80 [(0, .ref (L.2.2 a0)), (1, .int e.1), (2, .int e.2.1)] [] e.2.2)) ?_ jfu (((0 : Int32), (0 : Int32), (1 : Int32), μ)) w22 hw23 ?_
  · intro s24 o h hk
    obtain ⟨u1, u2, u3, m4⟩ := s24
    change f_X12_readsSet_L6 a0 u1 u2 u3 m4 = some o at h
    unfold f_X12_readsSet_L6 at h
    show jJ X G 5 L 0 0 (jQM X G L (some (.int r)) μ' 0 0) 6 [(0, .ref (L.2.2 a0)), (1, .int u1), (2, .int u2), (3, .int u3)] [] m4
    refine j_iload_n (pc := 6) hC 3 3 dX12_readsSet_6 rfl rfl ?_
    refine j_if_eq (pc := 7) hC 80 dX12_readsSet_7 (by decide) (fun c5 => ?_) (fun c5 => ?_)
    · rw [if_pos c5] at h
      obtain rfl := Option.some.inj h
      have hk : jJ X G 5 L 0 0 (jQM X G L (some (.int r)) μ' 0 0) 80 [(0, .ref (L.2.2 a0)), (1, .int u1), (2, .int u2)] [] m4 := hk
      exact j_lv [0, 1, 2] rfl hk
    · rw [if_neg c5] at h
      refine j_aload_n (pc := 10) hC 0 0 dX12_readsSet_10 rfl rfl ?_
      refine j_ldcS (pc := 11) hC 16 ks_X12_241 dX12_readsSet_11 ?_
      obtain ⟨v6, m7, e8, h⟩ := jcl2_some h
      refine j_vi (pc := 13) hC hR [.ref (G.2.2.2.1 16)] iy_X12_takesOf (q := (RX12, TX12, 40)) (ci := 12) rfl rfl (by decide) km_X12_50 dX12_readsSet_13 rfl (by decide) ka0 (c_X12_takesOf hL ka0 (by decide) e8) (by decide) (Nat.le_of_ble_eq_true rfl) rfl ?_
      refine j_istore (pc := 16) hC [(4, .int v6), (0, .ref (L.2.2 a0)), (1, .int u1), (2, .int u2), (3, .int u3)] dX12_readsSet_16 (by decide) rfl rfl ?_
      refine j_iload (pc := 18) hC 0 dX12_readsSet_18 rfl ?_
      obtain ⟨k9, e11, h⟩ := jbd_ex h
      have q10 : k9 = some o → jJ X G 5 L 0 0 (jQM X G L (some (.int r)) μ' 0 0) 44 [(0, .ref (L.2.2 a0)), (1, .int u1), (2, .int u2), (4, .int v6)] [] m7 := by
        intro h
        rw [e11] at h
        refine j_iload (pc := 44) hC 3 dX12_readsSet_44 rfl ?_
        refine jmg (B := jJ X G 5 L 0 0 (jQM X G L (some (.int r)) μ' 0 0) 54 [(0, .ref (L.2.2 a0)), (1, .int u1), (2, .int u2), (4, .int v6)] [.int ((if v6 < (0 : Int32) then (0 : Int32) else (1 : Int32)))] m7) (fun hj => ?_) ?_
        · refine j_if_lt (pc := 46) hC 53 dX12_readsSet_46 (by decide) (fun c12 => ?_) (fun c12 => ?_)
          · rw [if_pos c12] at hj
            refine j_iconst (pc := 53) hC (0 : Int32) dX12_readsSet_53 (by decide) ?_
            exact hj
          · rw [if_neg c12] at hj
            refine j_iconst (pc := 49) hC (1 : Int32) dX12_readsSet_49 (by decide) ?_
            refine j_goto (pc := 50) hC 54 dX12_readsSet_50 (by decide) ?_
            exact hj
        obtain ⟨v13, e14, h⟩ := jbd_ex h
        refine j_istore_n (pc := 54) hC 3 [(3, .int v13), (0, .ref (L.2.2 a0)), (1, .int u1), (2, .int u2), (4, .int v6)] dX12_readsSet_54 rfl (by decide) e14 rfl ?_
        refine j_iload_n (pc := 55) hC 1 2 dX12_readsSet_55 rfl rfl ?_
        refine j_iload_n (pc := 56) hC 3 0 dX12_readsSet_56 rfl rfl ?_
        refine jmg (B := jJ X G 5 L 0 0 (jQM X G L (some (.int r)) μ' 0 0) 68 [(3, .int v13), (0, .ref (L.2.2 a0)), (1, .int u1), (2, .int u2), (4, .int v6)] [.int ((if v13 = (0 : Int32) then (0 : Int32) else (1 : Int32) <<< (v6 &&& 31))), .int u1] m7) (fun hj => ?_) ?_
        · refine j_if_eq (pc := 57) hC 67 dX12_readsSet_57 (by decide) (fun c15 => ?_) (fun c15 => ?_)
          · rw [if_pos c15] at hj
            refine j_iconst (pc := 67) hC (0 : Int32) dX12_readsSet_67 (by decide) ?_
            exact hj
          · rw [if_neg c15] at hj
            refine j_iconst (pc := 60) hC (1 : Int32) dX12_readsSet_60 (by decide) ?_
            refine j_iload (pc := 61) hC 4 dX12_readsSet_61 rfl ?_
            refine j_ishl (pc := 63) hC dX12_readsSet_63 ?_
            refine j_goto (pc := 64) hC 68 dX12_readsSet_64 (by decide) ?_
            exact hj
        refine j_ior (pc := 68) hC dX12_readsSet_68 ?_
        obtain ⟨v16, e17, h⟩ := jbd_ex h
        refine j_istore_n (pc := 69) hC 1 [(1, .int v16), (3, .int v13), (0, .ref (L.2.2 a0)), (2, .int u2), (4, .int v6)] dX12_readsSet_69 rfl (by decide) e17 rfl ?_
        refine j_iload_n (pc := 70) hC 2 3 dX12_readsSet_70 rfl rfl ?_
        refine j_iload_n (pc := 71) hC 3 1 dX12_readsSet_71 rfl rfl ?_
        refine j_si (pc := 72) hC hR [.int v13] iy_X12_flag km_X12_34 dX12_readsSet_72 rfl (by decide) (c_X12_flag hL  rfl) (by decide) (Nat.le_of_ble_eq_true rfl) rfl ?_
        refine j_iadd (pc := 75) hC dX12_readsSet_75 ?_
        obtain ⟨v18, e19, h⟩ := jbd_ex h
        refine j_istore_n (pc := 76) hC 2 [(2, .int v18), (1, .int v16), (3, .int v13), (0, .ref (L.2.2 a0)), (4, .int v6)] dX12_readsSet_76 rfl (by decide) e19 rfl ?_
        refine j_goto (pc := 77) hC 6 dX12_readsSet_77 (by decide) ?_
        obtain rfl := Option.some.inj h
        have hk : jJ X G 5 L 0 0 (jQM X G L (some (.int r)) μ' 0 0) 6 [(0, .ref (L.2.2 a0)), (1, .int v16), (2, .int v18), (3, .int v13)] [] m7 := hk
        exact j_lv [3, 1, 0, 2] rfl hk
      refine j_if_lt (pc := 20) hC 44 dX12_readsSet_20 (by decide) (fun c20 => ?_) (fun c20 => ?_)
      · rw [if_pos c20] at h
        exact j_lv [1, 2, 3, 0] rfl (q10 h)
      · rw [if_neg c20] at h
        refine j_iload_n (pc := 23) hC 1 2 dX12_readsSet_23 rfl rfl ?_
        refine j_iload (pc := 24) hC 0 dX12_readsSet_24 rfl ?_
        refine j_si (pc := 26) hC hR [.int u1, .int v6] iy_X12_has km_X12_208 dX12_readsSet_26 rfl (by decide) (c_X12_has hL  rfl) (by decide) (Nat.le_of_ble_eq_true rfl) rfl ?_
        refine j_if_eq (pc := 29) hC 44 dX12_readsSet_29 (by decide) (fun c21 => ?_) (fun c21 => ?_)
        · rw [if_pos c21] at h
          exact j_lv [1, 2, 3, 0] rfl (q10 h)
        · rw [if_neg c21] at h
          obtain rfl := Option.some.inj h
          have hk : jJ X G 5 L 0 0 (jQM X G L (some (.int r)) μ' 0 0) 32 [(0, .ref (L.2.2 a0))] [] m7 := hk
          exact j_lv [1] rfl hk
  · cases w22 with
    | inl w22 =>
      try dsimp only at h
      obtain ⟨m25, rfl⟩ : ∃ y, y = w22 := ⟨_, rfl⟩
      try dsimp only at h
      show jJ X G 5 L 0 0 (jQM X G L (some (.int r)) μ' 0 0) 32 [(0, .ref (L.2.2 a0))] [] m25
      refine j_aload_n (pc := 32) hC 0 0 dX12_readsSet_32 rfl rfl ?_
      refine j_dup (pc := 33) hC dX12_readsSet_33 rfl ?_
      refine jgi_12 (pc := 34) hC 5 (by decide) rfl kf_X12_28 dX12_readsSet_34 ka0 ?_
      refine j_iconst (pc := 37) hC (1 : Int32) dX12_readsSet_37 (by decide) ?_
      refine j_isub (pc := 38) hC dX12_readsSet_38 ?_
      obtain ⟨m26, e27, h⟩ := jbd_ex h
      refine jpi_12 (pc := 39) hC 5 (by decide) rfl kf_X12_28 dX12_readsSet_39 rfl (by decide) ka0 e27 ?_
      refine j_iconst (pc := 42) hC (0 : Int32) dX12_readsSet_42 (by decide) ?_
      obtain ⟨rfl, rfl⟩ := Prod.mk.inj (Option.some.inj h)
      exact j_bret (pc := 43) hC dX12_readsSet_43 rfl rfl
    | inr w22 =>
      try dsimp only at h
      obtain ⟨z28, z29, m30⟩ := w22
      try dsimp only at h
      show jJ X G 5 L 0 0 (jQM X G L (some (.int r)) μ' 0 0) 80 [(0, .ref (L.2.2 a0)), (1, .int z28), (2, .int z29)] [] m30
      refine j_aload_n (pc := 80) hC 0 0 dX12_readsSet_80 rfl rfl ?_
      refine j_iconst (pc := 81) hC (3 : Int32) dX12_readsSet_81 (by decide) ?_
      refine j_iload_n (pc := 82) hC 1 1 dX12_readsSet_82 rfl rfl ?_
      refine j_iconst (pc := 83) hC (0 : Int32) dX12_readsSet_83 (by decide) ?_
      refine j_iconst (pc := 84) hC (0 : Int32) dX12_readsSet_84 (by decide) ?_
      obtain ⟨m31, e32, h⟩ := jcl_some h
      refine j_vv (pc := 85) hC hR [.int (3 : Int32), .int z28, .int (0 : Int32), .int (0 : Int32)] iy_X12_tells (q := (RX12, TX12, 40)) (ci := 12) rfl rfl (by decide) km_X12_243 dX12_readsSet_85 rfl (by decide) ka0 (c_X12_tells hL ka0 e32) (by decide) (Nat.le_of_ble_eq_true rfl) rfl ?_
      refine j_iload_n (pc := 88) hC 2 2 dX12_readsSet_88 rfl rfl ?_
      refine j_iconst (pc := 89) hC (1 : Int32) dX12_readsSet_89 (by decide) ?_
      refine jmg (B := jJ X G 5 L 0 0 (jQM X G L (some (.int r)) μ' 0 0) 98 [(0, .ref (L.2.2 a0)), (1, .int z28), (2, .int z29)] [.int ((if z29 ≤ (1 : Int32) then (0 : Int32) else (1 : Int32)))] m31) (fun hj => ?_) ?_
      · refine j_icmp_le (pc := 90) hC 97 dX12_readsSet_90 (by decide) (fun c33 => ?_) (fun c33 => ?_)
        · rw [if_pos c33] at hj
          refine j_iconst (pc := 97) hC (0 : Int32) dX12_readsSet_97 (by decide) ?_
          exact hj
        · rw [if_neg c33] at hj
          refine j_iconst (pc := 93) hC (1 : Int32) dX12_readsSet_93 (by decide) ?_
          refine j_goto (pc := 94) hC 98 dX12_readsSet_94 (by decide) ?_
          exact hj
      obtain ⟨rfl, rfl⟩ := Prod.mk.inj (Option.some.inj h)
      exact j_bret (pc := 98) hC dX12_readsSet_98 rfl (j_nz _)
