theorem dX12_heard_0 : decode cX12_heard 0 = .ok (.aload_n 0, 1) := by decide +kernel
theorem dX12_heard_1 : decode cX12_heard 1 = .ok (.iconst 0, 1) := by decide +kernel
theorem dX12_heard_2 : decode cX12_heard 2 = .ok (.putfield 1, 3) := by decide +kernel
theorem dX12_heard_5 : decode cX12_heard 5 = .ok (.iload_n 1, 1) := by decide +kernel
theorem dX12_heard_6 : decode cX12_heard 6 = .ok (.invokestatic 202, 3) := by decide +kernel
theorem dX12_heard_9 : decode cX12_heard 9 = .ok (.ifCond .eq 29, 3) := by decide +kernel
theorem dX12_heard_12 : decode cX12_heard 12 = .ok (.iload_n 2, 1) := by decide +kernel
theorem dX12_heard_13 : decode cX12_heard 13 = .ok (.invokestatic 205, 3) := by decide +kernel
theorem dX12_heard_16 : decode cX12_heard 16 = .ok (.ifCond .eq 22, 3) := by decide +kernel
theorem dX12_heard_19 : decode cX12_heard 19 = .ok (.iload_n 3, 1) := by decide +kernel
theorem dX12_heard_20 : decode cX12_heard 20 = .ok (.i2l, 1) := by decide +kernel
theorem dX12_heard_21 : decode cX12_heard 21 = .ok (.lconst 0, 1) := by decide +kernel
theorem dX12_heard_22 : decode cX12_heard 22 = .ok (.lconst 1, 1) := by decide +kernel
theorem dX12_heard_23 : decode cX12_heard 23 = .ok (.invokestatic 21, 3) := by decide +kernel
theorem dX12_heard_26 : decode cX12_heard 26 = .ok (.ifCond .eq 12, 3) := by decide +kernel
theorem dX12_heard_29 : decode cX12_heard 29 = .ok (.aload_n 0, 1) := by decide +kernel
theorem dX12_heard_30 : decode cX12_heard 30 = .ok (.getfield 414, 3) := by decide +kernel
theorem dX12_heard_33 : decode cX12_heard 33 = .ok (.bipush 10, 2) := by decide +kernel
theorem dX12_heard_35 : decode cX12_heard 35 = .ok (.if_icmp .ne 5, 3) := by decide +kernel
theorem dX12_heard_38 : decode cX12_heard 38 = .ok (.iconst (-1), 1) := by decide +kernel
theorem dX12_heard_39 : decode cX12_heard 39 = .ok (.ireturn, 1) := by decide +kernel
theorem dX12_heard_40 : decode cX12_heard 40 = .ok (.aload_n 0, 1) := by decide +kernel
theorem dX12_heard_41 : decode cX12_heard 41 = .ok (.getfield 108, 3) := by decide +kernel
theorem dX12_heard_44 : decode cX12_heard 44 = .ok (.aload_n 0, 1) := by decide +kernel
theorem dX12_heard_45 : decode cX12_heard 45 = .ok (.getfield 414, 3) := by decide +kernel
theorem dX12_heard_48 : decode cX12_heard 48 = .ok (.iload_n 1, 1) := by decide +kernel
theorem dX12_heard_49 : decode cX12_heard 49 = .ok (.iastore, 1) := by decide +kernel
theorem dX12_heard_50 : decode cX12_heard 50 = .ok (.aload_n 0, 1) := by decide +kernel
theorem dX12_heard_51 : decode cX12_heard 51 = .ok (.getfield 111, 3) := by decide +kernel
theorem dX12_heard_54 : decode cX12_heard 54 = .ok (.aload_n 0, 1) := by decide +kernel
theorem dX12_heard_55 : decode cX12_heard 55 = .ok (.getfield 414, 3) := by decide +kernel
theorem dX12_heard_58 : decode cX12_heard 58 = .ok (.iload_n 2, 1) := by decide +kernel
theorem dX12_heard_59 : decode cX12_heard 59 = .ok (.iastore, 1) := by decide +kernel
theorem dX12_heard_60 : decode cX12_heard 60 = .ok (.aload_n 0, 1) := by decide +kernel
theorem dX12_heard_61 : decode cX12_heard 61 = .ok (.getfield 114, 3) := by decide +kernel
theorem dX12_heard_64 : decode cX12_heard 64 = .ok (.aload_n 0, 1) := by decide +kernel
theorem dX12_heard_65 : decode cX12_heard 65 = .ok (.getfield 414, 3) := by decide +kernel
theorem dX12_heard_68 : decode cX12_heard 68 = .ok (.iload_n 3, 1) := by decide +kernel
theorem dX12_heard_69 : decode cX12_heard 69 = .ok (.iastore, 1) := by decide +kernel
theorem dX12_heard_70 : decode cX12_heard 70 = .ok (.aload_n 0, 1) := by decide +kernel
theorem dX12_heard_71 : decode cX12_heard 71 = .ok (.dup, 1) := by decide +kernel
theorem dX12_heard_72 : decode cX12_heard 72 = .ok (.getfield 414, 3) := by decide +kernel
theorem dX12_heard_75 : decode cX12_heard 75 = .ok (.iconst 1, 1) := by decide +kernel
theorem dX12_heard_76 : decode cX12_heard 76 = .ok (.iadd, 1) := by decide +kernel
theorem dX12_heard_77 : decode cX12_heard 77 = .ok (.putfield 414, 3) := by decide +kernel
theorem dX12_heard_80 : decode cX12_heard 80 = .ok (.aload_n 0, 1) := by decide +kernel
theorem dX12_heard_81 : decode cX12_heard 81 = .ok (.getfield 414, 3) := by decide +kernel
theorem dX12_heard_84 : decode cX12_heard 84 = .ok (.ireturn, 1) := by decide +kernel
def f_X12_heard (a0 : Nat) (x1 : Int32) (x2 : Int32) (x3 : Int32) (μ : jM) : Option (Int32 × jM) :=
  jbd (jsi μ a0 0 (0 : Int32)) (fun m1 => (if (f_X12_isVar x1) = (0 : Int32) then some (((-1 : Int32), m1)) else (if (f_X12_isValue x2) = (0 : Int32) then some (((-1 : Int32), m1)) else (if (f_X12_in x3.toInt64 (0 : Int64) (1 : Int64)) = (0 : Int32) then some (((-1 : Int32), m1)) else (if (m1.1 a0 37) = (10 : Int32) then some (((-1 : Int32), m1)) else jin (m1.1 a0 37) 10 (jbd (jsi m1 (a0 + 19) (m1.1 a0 37).toNatClampNeg x1) (fun m8 => jin (m8.1 a0 37) 10 (jbd (jsi m8 (a0 + 20) (m8.1 a0 37).toNatClampNeg x2) (fun m11 => jin (m11.1 a0 37) 10 (jbd (jsi m11 (a0 + 21) (m11.1 a0 37).toNatClampNeg x3) (fun m14 => jbd (jsi m14 a0 37 ((m14.1 a0 37) + (1 : Int32))) (fun m16 => some ((m16.1 a0 37, m16))))))))))))))
set_option maxHeartbeats 4000000 in
set_option maxRecDepth 100000 in
theorem c_X12_heard {l : Launch} {G : jG} {L : jL} (hL : jOKL L) {a0 : Nat} {x1 : Int32} {x2 : Int32} {x3 : Int32} (ka0 : jK L a0 12) {μ μ' : jM} {r : Int32} (h : f_X12_heard a0 x1 x2 x3 μ = some ((r, μ'))) : jCt l G L 5 yX12_heard cX12_heard 4 (some .int) [.ref (L.2.2 a0), .int x1, .int x2, .int x3] μ (some (.int r)) μ' := by
  refine jCt_of (by decide) (Nat.le_of_ble_eq_true rfl) (fun X hC hX hR => ?_)
  subst hX
  have hC : jC X G cX12_heard 4 RX12 (some .int) := hC
  unfold f_X12_heard at h
  show jJ X G 4 L 0 0 (jQM X G L (some (.int r)) μ' 0 0) 0 [(0, .ref (L.2.2 a0)), (1, .int x1), (2, .int x2), (3, .int x3)] [] μ
  refine j_aload_n (pc := 0) hC 0 0 dX12_heard_0 rfl rfl ?_
  refine j_iconst (pc := 1) hC (0 : Int32) dX12_heard_1 (by decide) ?_
  obtain ⟨m1, e2, h⟩ := jbd_ex h
  refine jpi_12 (pc := 2) hC 0 (by decide) rfl kf_X12_1 dX12_heard_2 rfl (by decide) ka0 e2 ?_
  refine j_iload_n (pc := 5) hC 1 1 dX12_heard_5 rfl rfl ?_
  refine j_si (pc := 6) hC hR [.int x1] iy_X12_isVar km_X12_202 dX12_heard_6 rfl (by decide) (c_X12_isVar hL  rfl) (by decide) (Nat.le_of_ble_eq_true rfl) rfl ?_
  refine j_if_eq (pc := 9) hC 38 dX12_heard_9 (by decide) (fun c3 => ?_) (fun c3 => ?_)
  · rw [if_pos c3] at h
    refine j_iconst (pc := 38) hC (-1 : Int32) dX12_heard_38 (by decide) ?_
    obtain ⟨rfl, rfl⟩ := Prod.mk.inj (Option.some.inj h)
    exact j_iret (pc := 39) hC dX12_heard_39 rfl
  · rw [if_neg c3] at h
    refine j_iload_n (pc := 12) hC 2 2 dX12_heard_12 rfl rfl ?_
    refine j_si (pc := 13) hC hR [.int x2] iy_X12_isValue km_X12_205 dX12_heard_13 rfl (by decide) (c_X12_isValue hL  rfl) (by decide) (Nat.le_of_ble_eq_true rfl) rfl ?_
    refine j_if_eq (pc := 16) hC 38 dX12_heard_16 (by decide) (fun c4 => ?_) (fun c4 => ?_)
    · rw [if_pos c4] at h
      refine j_iconst (pc := 38) hC (-1 : Int32) dX12_heard_38 (by decide) ?_
      obtain ⟨rfl, rfl⟩ := Prod.mk.inj (Option.some.inj h)
      exact j_iret (pc := 39) hC dX12_heard_39 rfl
    · rw [if_neg c4] at h
      refine j_iload_n (pc := 19) hC 3 3 dX12_heard_19 rfl rfl ?_
      refine j_i2l (pc := 20) hC dX12_heard_20 ?_
      refine j_lconst (pc := 21) hC (0 : Int64) dX12_heard_21 (by decide) ?_
      refine j_lconst (pc := 22) hC (1 : Int64) dX12_heard_22 (by decide) ?_
      refine j_si (pc := 23) hC hR [.long x3.toInt64, .long (0 : Int64), .long (1 : Int64)] iy_X12_in km_X12_21 dX12_heard_23 rfl (by decide) (c_X12_in hL  rfl) (by decide) (Nat.le_of_ble_eq_true rfl) rfl ?_
      refine j_if_eq (pc := 26) hC 38 dX12_heard_26 (by decide) (fun c5 => ?_) (fun c5 => ?_)
      · rw [if_pos c5] at h
        refine j_iconst (pc := 38) hC (-1 : Int32) dX12_heard_38 (by decide) ?_
        obtain ⟨rfl, rfl⟩ := Prod.mk.inj (Option.some.inj h)
        exact j_iret (pc := 39) hC dX12_heard_39 rfl
      · rw [if_neg c5] at h
        refine j_aload_n (pc := 29) hC 0 0 dX12_heard_29 rfl rfl ?_
        refine jgi_12 (pc := 30) hC 37 (by decide) rfl kf_X12_414 dX12_heard_30 ka0 ?_
        refine j_bipush (pc := 33) hC (10 : Int32) dX12_heard_33 (by decide) ?_
        refine j_icmp_ne (pc := 35) hC 40 dX12_heard_35 (by decide) (fun c6 => ?_) (fun c6 => ?_)
        · rw [if_neg c6] at h
          refine j_aload_n (pc := 40) hC 0 0 dX12_heard_40 rfl rfl ?_
          refine jgr_12 (pc := 41) hC 34 (by decide) rfl kf_X12_108 dX12_heard_41 ka0 (ly_12_34 hL ka0).1 ?_
          refine j_aload_n (pc := 44) hC 0 0 dX12_heard_44 rfl rfl ?_
          refine jgi_12 (pc := 45) hC 37 (by decide) rfl kf_X12_414 dX12_heard_45 ka0 ?_
          refine j_iload_n (pc := 48) hC 1 1 dX12_heard_48 rfl rfl ?_
          obtain ⟨i7, h⟩ := jin_some h
          obtain ⟨m8, e9, h⟩ := jbd_ex h
          refine j_iast (pc := 49) hC dX12_heard_49 (ly_12_34 hL ka0).2.1 (ly_12_34 hL ka0).2.2 i7 e9 ?_
          refine j_aload_n (pc := 50) hC 0 0 dX12_heard_50 rfl rfl ?_
          refine jgr_12 (pc := 51) hC 35 (by decide) rfl kf_X12_111 dX12_heard_51 ka0 (ly_12_35 hL ka0).1 ?_
          refine j_aload_n (pc := 54) hC 0 0 dX12_heard_54 rfl rfl ?_
          refine jgi_12 (pc := 55) hC 37 (by decide) rfl kf_X12_414 dX12_heard_55 ka0 ?_
          refine j_iload_n (pc := 58) hC 2 2 dX12_heard_58 rfl rfl ?_
          obtain ⟨i10, h⟩ := jin_some h
          obtain ⟨m11, e12, h⟩ := jbd_ex h
          refine j_iast (pc := 59) hC dX12_heard_59 (ly_12_35 hL ka0).2.1 (ly_12_35 hL ka0).2.2 i10 e12 ?_
          refine j_aload_n (pc := 60) hC 0 0 dX12_heard_60 rfl rfl ?_
          refine jgr_12 (pc := 61) hC 36 (by decide) rfl kf_X12_114 dX12_heard_61 ka0 (ly_12_36 hL ka0).1 ?_
          refine j_aload_n (pc := 64) hC 0 0 dX12_heard_64 rfl rfl ?_
          refine jgi_12 (pc := 65) hC 37 (by decide) rfl kf_X12_414 dX12_heard_65 ka0 ?_
          refine j_iload_n (pc := 68) hC 3 3 dX12_heard_68 rfl rfl ?_
          obtain ⟨i13, h⟩ := jin_some h
          obtain ⟨m14, e15, h⟩ := jbd_ex h
          refine j_iast (pc := 69) hC dX12_heard_69 (ly_12_36 hL ka0).2.1 (ly_12_36 hL ka0).2.2 i13 e15 ?_
          refine j_aload_n (pc := 70) hC 0 0 dX12_heard_70 rfl rfl ?_
          refine j_dup (pc := 71) hC dX12_heard_71 rfl ?_
          refine jgi_12 (pc := 72) hC 37 (by decide) rfl kf_X12_414 dX12_heard_72 ka0 ?_
          refine j_iconst (pc := 75) hC (1 : Int32) dX12_heard_75 (by decide) ?_
          refine j_iadd (pc := 76) hC dX12_heard_76 ?_
          obtain ⟨m16, e17, h⟩ := jbd_ex h
          refine jpi_12 (pc := 77) hC 37 (by decide) rfl kf_X12_414 dX12_heard_77 rfl (by decide) ka0 e17 ?_
          refine j_aload_n (pc := 80) hC 0 0 dX12_heard_80 rfl rfl ?_
          refine jgi_12 (pc := 81) hC 37 (by decide) rfl kf_X12_414 dX12_heard_81 ka0 ?_
          obtain ⟨rfl, rfl⟩ := Prod.mk.inj (Option.some.inj h)
          exact j_iret (pc := 84) hC dX12_heard_84 rfl
        · rw [if_pos c6] at h
          refine j_iconst (pc := 38) hC (-1 : Int32) dX12_heard_38 (by decide) ?_
          obtain ⟨rfl, rfl⟩ := Prod.mk.inj (Option.some.inj h)
          exact j_iret (pc := 39) hC dX12_heard_39 rfl
theorem dX12_forget_0 : decode cX12_forget 0 = .ok (.aload_n 0, 1) := by decide +kernel
theorem dX12_forget_1 : decode cX12_forget 1 = .ok (.iconst 0, 1) := by decide +kernel
theorem dX12_forget_2 : decode cX12_forget 2 = .ok (.putfield 1, 3) := by decide +kernel
theorem dX12_forget_5 : decode cX12_forget 5 = .ok (.aload_n 0, 1) := by decide +kernel
theorem dX12_forget_6 : decode cX12_forget 6 = .ok (.getfield 414, 3) := by decide +kernel
theorem dX12_forget_9 : decode cX12_forget 9 = .ok (.istore_n 1, 1) := by decide +kernel
theorem dX12_forget_10 : decode cX12_forget 10 = .ok (.aload_n 0, 1) := by decide +kernel
theorem dX12_forget_11 : decode cX12_forget 11 = .ok (.iconst 0, 1) := by decide +kernel
theorem dX12_forget_12 : decode cX12_forget 12 = .ok (.putfield 414, 3) := by decide +kernel
theorem dX12_forget_15 : decode cX12_forget 15 = .ok (.iload_n 1, 1) := by decide +kernel
theorem dX12_forget_16 : decode cX12_forget 16 = .ok (.ireturn, 1) := by decide +kernel
def f_X12_forget (a0 : Nat) (μ : jM) : Int32 × jM :=
  jbd (jsi μ a0 0 (0 : Int32)) (fun m1 => jbd (jsi m1 a0 37 (0 : Int32)) (fun m3 => (m1.1 a0 37, m3)))
set_option maxHeartbeats 4000000 in
set_option maxRecDepth 100000 in
theorem c_X12_forget {l : Launch} {G : jG} {L : jL} (hL : jOKL L) {a0 : Nat} (ka0 : jK L a0 12) {μ μ' : jM} {r : Int32} (h : f_X12_forget a0 μ = (r, μ')) : jCt l G L 3 yX12_forget cX12_forget 2 (some .int) [.ref (L.2.2 a0)] μ (some (.int r)) μ' := by
  refine jCt_of (by decide) (Nat.le_of_ble_eq_true rfl) (fun X hC hX hR => ?_)
  subst hX
  have hC : jC X G cX12_forget 2 RX12 (some .int) := hC
  unfold f_X12_forget at h
  show jJ X G 2 L 0 0 (jQM X G L (some (.int r)) μ' 0 0) 0 [(0, .ref (L.2.2 a0))] [] μ
  refine j_aload_n (pc := 0) hC 0 0 dX12_forget_0 rfl rfl ?_
  refine j_iconst (pc := 1) hC (0 : Int32) dX12_forget_1 (by decide) ?_
  obtain ⟨m1, e2, h⟩ := jbd_ex h
  refine jpi_12 (pc := 2) hC 0 (by decide) rfl kf_X12_1 dX12_forget_2 rfl (by decide) ka0 e2 ?_
  refine j_aload_n (pc := 5) hC 0 0 dX12_forget_5 rfl rfl ?_
  refine jgi_12 (pc := 6) hC 37 (by decide) rfl kf_X12_414 dX12_forget_6 ka0 ?_
  refine j_istore_n (pc := 9) hC 1 [(1, .int (m1.1 a0 37)), (0, .ref (L.2.2 a0))] dX12_forget_9 rfl (by decide) rfl rfl ?_
  refine j_aload_n (pc := 10) hC 0 1 dX12_forget_10 rfl rfl ?_
  refine j_iconst (pc := 11) hC (0 : Int32) dX12_forget_11 (by decide) ?_
  obtain ⟨m3, e4, h⟩ := jbd_ex h
  refine jpi_12 (pc := 12) hC 37 (by decide) rfl kf_X12_414 dX12_forget_12 rfl (by decide) ka0 e4 ?_
  refine j_iload_n (pc := 15) hC 1 0 dX12_forget_15 rfl rfl ?_
  obtain ⟨rfl, rfl⟩ := Prod.mk.inj h
  exact j_iret (pc := 16) hC dX12_forget_16 rfl
theorem dX12_isFitting_0 : decode cX12_isFitting 0 = .ok (.iconst 0, 1) := by decide +kernel
theorem dX12_isFitting_1 : decode cX12_isFitting 1 = .ok (.istore_n 2, 1) := by decide +kernel
theorem dX12_isFitting_2 : decode cX12_isFitting 2 = .ok (.iload_n 2, 1) := by decide +kernel
theorem dX12_isFitting_3 : decode cX12_isFitting 3 = .ok (.aload_n 0, 1) := by decide +kernel
theorem dX12_isFitting_4 : decode cX12_isFitting 4 = .ok (.getfield 414, 3) := by decide +kernel
theorem dX12_isFitting_7 : decode cX12_isFitting 7 = .ok (.if_icmp .ge 47, 3) := by decide +kernel
theorem dX12_isFitting_10 : decode cX12_isFitting 10 = .ok (.iload_n 1, 1) := by decide +kernel
theorem dX12_isFitting_11 : decode cX12_isFitting 11 = .ok (.aload_n 0, 1) := by decide +kernel
theorem dX12_isFitting_12 : decode cX12_isFitting 12 = .ok (.getfield 108, 3) := by decide +kernel
theorem dX12_isFitting_15 : decode cX12_isFitting 15 = .ok (.iload_n 2, 1) := by decide +kernel
theorem dX12_isFitting_16 : decode cX12_isFitting 16 = .ok (.iaload, 1) := by decide +kernel
theorem dX12_isFitting_17 : decode cX12_isFitting 17 = .ok (.invokestatic 363, 3) := by decide +kernel
theorem dX12_isFitting_20 : decode cX12_isFitting 20 = .ok (.aload_n 0, 1) := by decide +kernel
theorem dX12_isFitting_21 : decode cX12_isFitting 21 = .ok (.getfield 111, 3) := by decide +kernel
theorem dX12_isFitting_24 : decode cX12_isFitting 24 = .ok (.iload_n 2, 1) := by decide +kernel
theorem dX12_isFitting_25 : decode cX12_isFitting 25 = .ok (.iaload, 1) := by decide +kernel
theorem dX12_isFitting_26 : decode cX12_isFitting 26 = .ok (.if_icmp .ne 7, 3) := by decide +kernel
theorem dX12_isFitting_29 : decode cX12_isFitting 29 = .ok (.iconst 1, 1) := by decide +kernel
theorem dX12_isFitting_30 : decode cX12_isFitting 30 = .ok (.goto 4, 3) := by decide +kernel
theorem dX12_isFitting_33 : decode cX12_isFitting 33 = .ok (.iconst 0, 1) := by decide +kernel
theorem dX12_isFitting_34 : decode cX12_isFitting 34 = .ok (.invokestatic 34, 3) := by decide +kernel
theorem dX12_isFitting_37 : decode cX12_isFitting 37 = .ok (.aload_n 0, 1) := by decide +kernel
theorem dX12_isFitting_38 : decode cX12_isFitting 38 = .ok (.getfield 114, 3) := by decide +kernel
theorem dX12_isFitting_41 : decode cX12_isFitting 41 = .ok (.iload_n 2, 1) := by decide +kernel
theorem dX12_isFitting_42 : decode cX12_isFitting 42 = .ok (.iaload, 1) := by decide +kernel
theorem dX12_isFitting_43 : decode cX12_isFitting 43 = .ok (.if_icmp .eq 5, 3) := by decide +kernel
theorem dX12_isFitting_46 : decode cX12_isFitting 46 = .ok (.iconst 0, 1) := by decide +kernel
theorem dX12_isFitting_47 : decode cX12_isFitting 47 = .ok (.ireturn, 1) := by decide +kernel
theorem dX12_isFitting_48 : decode cX12_isFitting 48 = .ok (.iinc 2 1, 3) := by decide +kernel
theorem dX12_isFitting_51 : decode cX12_isFitting 51 = .ok (.goto (-49), 3) := by decide +kernel
theorem dX12_isFitting_54 : decode cX12_isFitting 54 = .ok (.aload_n 0, 1) := by decide +kernel
theorem dX12_isFitting_55 : decode cX12_isFitting 55 = .ok (.getfield 96, 3) := by decide +kernel
theorem dX12_isFitting_58 : decode cX12_isFitting 58 = .ok (.iload_n 1, 1) := by decide +kernel
theorem dX12_isFitting_59 : decode cX12_isFitting 59 = .ok (.iaload, 1) := by decide +kernel
theorem dX12_isFitting_60 : decode cX12_isFitting 60 = .ok (.ifCond .ne 7, 3) := by decide +kernel
theorem dX12_isFitting_63 : decode cX12_isFitting 63 = .ok (.iconst 1, 1) := by decide +kernel
theorem dX12_isFitting_64 : decode cX12_isFitting 64 = .ok (.goto 4, 3) := by decide +kernel
theorem dX12_isFitting_67 : decode cX12_isFitting 67 = .ok (.iconst 0, 1) := by decide +kernel
theorem dX12_isFitting_68 : decode cX12_isFitting 68 = .ok (.ireturn, 1) := by decide +kernel
def f_X12_isFitting_L2 (a0 : Nat) (x1 : Int32) (μ : jM) (u1 : Int32) : Option ((Int32) ⊕ ((Unit) ⊕ (Unit))) :=
  (if (μ.1 a0 37) ≤ u1 then some (.inr (.inr (()))) else jrd (μ.1 (a0 + 19)) u1 10 (fun v4 => jcl (f_X12_valueOf x1 v4) (fun v6 => jrd (μ.1 (a0 + 20)) u1 10 (fun v9 => jrd (μ.1 (a0 + 21)) u1 10 (fun v13 => (if (f_X12_flag ((if v6 = v9 then (1 : Int32) else (0 : Int32)))) = v13 then some (.inl (u1 + (1 : Int32))) else some (.inr (.inl (())))))))))
def f_X12_isFitting (a0 : Nat) (x1 : Int32) (μ : jM) : Option (Int32) :=
  jcl (jloop (fun (s : Int32) => f_X12_isFitting_L2 a0 x1 μ s) jfu (0 : Int32)) (fun w16 => match w16 with | .inl w16 => some (0 : Int32) | .inr w16 => jrd (μ.1 (a0 + 15)) x1 7776 (fun v20 => some (((if v20 = (0 : Int32) then (1 : Int32) else (0 : Int32))) &&& 1)))
set_option maxHeartbeats 4000000 in
set_option maxRecDepth 100000 in
theorem c_X12_isFitting {l : Launch} {G : jG} {L : jL} (hL : jOKL L) {a0 : Nat} {x1 : Int32} (ka0 : jK L a0 12) {μ : jM} {r : Int32} (h : f_X12_isFitting a0 x1 μ = some r) : jCt l G L 4 yX12_isFitting cX12_isFitting 3 (some .boolean) [.ref (L.2.2 a0), .int x1] μ (some (.int r)) μ := by
  refine jCt_of (by decide) (Nat.le_of_ble_eq_true rfl) (fun X hC hX hR => ?_)
  subst hX
  have hC : jC X G cX12_isFitting 3 RX12 (some .boolean) := hC
  unfold f_X12_isFitting at h
  show jJ X G 3 L 0 0 (jQM X G L (some (.int r)) μ 0 0) 0 [(0, .ref (L.2.2 a0)), (1, .int x1)] [] μ
  refine j_iconst (pc := 0) hC (0 : Int32) dX12_isFitting_0 (by decide) ?_
  refine j_istore_n (pc := 1) hC 2 [(2, .int (0 : Int32)), (0, .ref (L.2.2 a0)), (1, .int x1)] dX12_isFitting_1 rfl (by decide) rfl rfl ?_
  obtain ⟨w16, hw17, h⟩ := jcl_some h
  refine j_lv [1, 2, 0] rfl ?_
  refine j_loop (step := (fun (s : Int32) => f_X12_isFitting_L2 a0 x1 μ s)) (P := (fun (s : Int32) => jJ X G 3 L 0 0 (jQM X G L (some (.int r)) μ 0 0) 2 [(0, .ref (L.2.2 a0)), (1, .int x1), (2, .int s)] [] μ)) (R := (fun (e : (Unit) ⊕ (Unit)) => match e with | .inl e => jJ X G 3 L 0 0 (jQM X G L (some (.int r)) μ 0 0) 46 [] [] μ | .inr e => jJ X G 3 L 0 0 (jQM X G L (some (.int r)) μ 0 0) 54 [(0, .ref (L.2.2 a0)), (1, .int x1)] [] μ)) ?_ jfu (0 : Int32) w16 hw17 ?_
  · intro u1 o h hk
    change f_X12_isFitting_L2 a0 x1 μ u1 = some o at h
    unfold f_X12_isFitting_L2 at h
    show jJ X G 3 L 0 0 (jQM X G L (some (.int r)) μ 0 0) 2 [(0, .ref (L.2.2 a0)), (1, .int x1), (2, .int u1)] [] μ
    refine j_iload_n (pc := 2) hC 2 2 dX12_isFitting_2 rfl rfl ?_
    refine j_aload_n (pc := 3) hC 0 0 dX12_isFitting_3 rfl rfl ?_
    refine jgi_12 (pc := 4) hC 37 (by decide) rfl kf_X12_414 dX12_isFitting_4 ka0 ?_
    refine j_icmp_ge (pc := 7) hC 54 dX12_isFitting_7 (by decide) (fun c2 => ?_) (fun c2 => ?_)
    · rw [if_pos c2] at h
      obtain rfl := Option.some.inj h
      have hk : jJ X G 3 L 0 0 (jQM X G L (some (.int r)) μ 0 0) 54 [(0, .ref (L.2.2 a0)), (1, .int x1)] [] μ := hk
      exact j_lv [0, 1] rfl hk
    · rw [if_neg c2] at h
      refine j_iload_n (pc := 10) hC 1 1 dX12_isFitting_10 rfl rfl ?_
      refine j_aload_n (pc := 11) hC 0 0 dX12_isFitting_11 rfl rfl ?_
      refine jgr_12 (pc := 12) hC 34 (by decide) rfl kf_X12_108 dX12_isFitting_12 ka0 (ly_12_34 hL ka0).1 ?_
      refine j_iload_n (pc := 15) hC 2 2 dX12_isFitting_15 rfl rfl ?_
      obtain ⟨i3, v4, e5, h⟩ := jrd_some h
      refine j_iald (pc := 16) hC dX12_isFitting_16 (ly_12_34 hL ka0).2.1 (ly_12_34 hL ka0).2.2 i3 e5 ?_
      obtain ⟨v6, e7, h⟩ := jcl_some h
      refine j_si (pc := 17) hC hR [.int x1, .int v4] iy_X12_valueOf km_X12_363 dX12_isFitting_17 rfl (by decide) (c_X12_valueOf hL  e7) (by decide) (Nat.le_of_ble_eq_true rfl) rfl ?_
      refine j_aload_n (pc := 20) hC 0 0 dX12_isFitting_20 rfl rfl ?_
      refine jgr_12 (pc := 21) hC 35 (by decide) rfl kf_X12_111 dX12_isFitting_21 ka0 (ly_12_35 hL ka0).1 ?_
      refine j_iload_n (pc := 24) hC 2 2 dX12_isFitting_24 rfl rfl ?_
      obtain ⟨i8, v9, e10, h⟩ := jrd_some h
      refine j_iald (pc := 25) hC dX12_isFitting_25 (ly_12_35 hL ka0).2.1 (ly_12_35 hL ka0).2.2 i8 e10 ?_
      refine jmg (B := jJ X G 3 L 0 0 (jQM X G L (some (.int r)) μ 0 0) 34 [(0, .ref (L.2.2 a0)), (1, .int x1), (2, .int u1)] [.int ((if v6 = v9 then (1 : Int32) else (0 : Int32)))] μ) (fun hj => ?_) ?_
      · refine j_icmp_ne (pc := 26) hC 33 dX12_isFitting_26 (by decide) (fun c11 => ?_) (fun c11 => ?_)
        · rw [if_neg c11] at hj
          refine j_iconst (pc := 33) hC (0 : Int32) dX12_isFitting_33 (by decide) ?_
          exact hj
        · rw [if_pos c11] at hj
          refine j_iconst (pc := 29) hC (1 : Int32) dX12_isFitting_29 (by decide) ?_
          refine j_goto (pc := 30) hC 34 dX12_isFitting_30 (by decide) ?_
          exact hj
      refine j_si (pc := 34) hC hR [.int ((if v6 = v9 then (1 : Int32) else (0 : Int32)))] iy_X12_flag km_X12_34 dX12_isFitting_34 rfl (by decide) (c_X12_flag hL  rfl) (by decide) (Nat.le_of_ble_eq_true rfl) rfl ?_
      refine j_aload_n (pc := 37) hC 0 0 dX12_isFitting_37 rfl rfl ?_
      refine jgr_12 (pc := 38) hC 36 (by decide) rfl kf_X12_114 dX12_isFitting_38 ka0 (ly_12_36 hL ka0).1 ?_
      refine j_iload_n (pc := 41) hC 2 2 dX12_isFitting_41 rfl rfl ?_
      obtain ⟨i12, v13, e14, h⟩ := jrd_some h
      refine j_iald (pc := 42) hC dX12_isFitting_42 (ly_12_36 hL ka0).2.1 (ly_12_36 hL ka0).2.2 i12 e14 ?_
      refine j_icmp_eq (pc := 43) hC 48 dX12_isFitting_43 (by decide) (fun c15 => ?_) (fun c15 => ?_)
      · rw [if_pos c15] at h
        refine j_iinc (pc := 48) hC 2 (u1 + (1 : Int32)) [(2, .int (u1 + (1 : Int32))), (0, .ref (L.2.2 a0)), (1, .int x1)] dX12_isFitting_48 rfl rfl (by decide) rfl ?_
        refine j_goto (pc := 51) hC 2 dX12_isFitting_51 (by decide) ?_
        obtain rfl := Option.some.inj h
        have hk : jJ X G 3 L 0 0 (jQM X G L (some (.int r)) μ 0 0) 2 [(0, .ref (L.2.2 a0)), (1, .int x1), (2, .int (u1 + (1 : Int32)))] [] μ := hk
        exact j_lv [1, 2, 0] rfl hk
      · rw [if_neg c15] at h
        obtain rfl := Option.some.inj h
        have hk : jJ X G 3 L 0 0 (jQM X G L (some (.int r)) μ 0 0) 46 [] [] μ := hk
        exact j_lv [] rfl hk
  · cases w16 with
    | inl w16 =>
      try dsimp only at h
      try dsimp only at h
      show jJ X G 3 L 0 0 (jQM X G L (some (.int r)) μ 0 0) 46 [] [] μ
      refine j_iconst (pc := 46) hC (0 : Int32) dX12_isFitting_46 (by decide) ?_
      obtain rfl := Option.some.inj h
      exact j_bret (pc := 47) hC dX12_isFitting_47 rfl rfl
    | inr w16 =>
      try dsimp only at h
      try dsimp only at h
      show jJ X G 3 L 0 0 (jQM X G L (some (.int r)) μ 0 0) 54 [(0, .ref (L.2.2 a0)), (1, .int x1)] [] μ
      refine j_aload_n (pc := 54) hC 0 0 dX12_isFitting_54 rfl rfl ?_
      refine jgr_12 (pc := 55) hC 26 (by decide) rfl kf_X12_96 dX12_isFitting_55 ka0 (ly_12_26 hL ka0).1 ?_
      refine j_iload_n (pc := 58) hC 1 1 dX12_isFitting_58 rfl rfl ?_
      obtain ⟨i19, v20, e21, h⟩ := jrd_some h
      refine j_iald (pc := 59) hC dX12_isFitting_59 (ly_12_26 hL ka0).2.1 (ly_12_26 hL ka0).2.2 i19 e21 ?_
      refine jmg (B := jJ X G 3 L 0 0 (jQM X G L (some (.int r)) μ 0 0) 68 [(0, .ref (L.2.2 a0)), (1, .int x1)] [.int ((if v20 = (0 : Int32) then (1 : Int32) else (0 : Int32)))] μ) (fun hj => ?_) ?_
      · refine j_if_ne (pc := 60) hC 67 dX12_isFitting_60 (by decide) (fun c22 => ?_) (fun c22 => ?_)
        · rw [if_neg c22] at hj
          refine j_iconst (pc := 67) hC (0 : Int32) dX12_isFitting_67 (by decide) ?_
          exact hj
        · rw [if_pos c22] at hj
          refine j_iconst (pc := 63) hC (1 : Int32) dX12_isFitting_63 (by decide) ?_
          refine j_goto (pc := 64) hC 68 dX12_isFitting_64 (by decide) ?_
          exact hj
      obtain rfl := Option.some.inj h
      exact j_bret (pc := 68) hC dX12_isFitting_68 rfl (j_nz _)
theorem dX12_fits_0 : decode cX12_fits 0 = .ok (.aload_n 0, 1) := by decide +kernel
theorem dX12_fits_1 : decode cX12_fits 1 = .ok (.iconst 0, 1) := by decide +kernel
theorem dX12_fits_2 : decode cX12_fits 2 = .ok (.putfield 1, 3) := by decide +kernel
theorem dX12_fits_5 : decode cX12_fits 5 = .ok (.aload_n 0, 1) := by decide +kernel
theorem dX12_fits_6 : decode cX12_fits 6 = .ok (.invokevirtual 369, 3) := by decide +kernel
theorem dX12_fits_9 : decode cX12_fits 9 = .ok (.iconst 0, 1) := by decide +kernel
theorem dX12_fits_10 : decode cX12_fits 10 = .ok (.istore_n 1, 1) := by decide +kernel
theorem dX12_fits_11 : decode cX12_fits 11 = .ok (.aload_n 0, 1) := by decide +kernel
theorem dX12_fits_12 : decode cX12_fits 12 = .ok (.iconst 0, 1) := by decide +kernel
theorem dX12_fits_13 : decode cX12_fits 13 = .ok (.putfield 11, 3) := by decide +kernel
theorem dX12_fits_16 : decode cX12_fits 16 = .ok (.iconst 0, 1) := by decide +kernel
theorem dX12_fits_17 : decode cX12_fits 17 = .ok (.istore_n 2, 1) := by decide +kernel
theorem dX12_fits_18 : decode cX12_fits 18 = .ok (.iload_n 2, 1) := by decide +kernel
theorem dX12_fits_19 : decode cX12_fits 19 = .ok (.sipush 7776, 3) := by decide +kernel
theorem dX12_fits_22 : decode cX12_fits 22 = .ok (.if_icmp .ge 29, 3) := by decide +kernel
theorem dX12_fits_25 : decode cX12_fits 25 = .ok (.aload_n 0, 1) := by decide +kernel
theorem dX12_fits_26 : decode cX12_fits 26 = .ok (.iload_n 2, 1) := by decide +kernel
theorem dX12_fits_27 : decode cX12_fits 27 = .ok (.invokevirtual 417, 3) := by decide +kernel
theorem dX12_fits_30 : decode cX12_fits 30 = .ok (.ifCond .eq 15, 3) := by decide +kernel
theorem dX12_fits_33 : decode cX12_fits 33 = .ok (.iload_n 1, 1) := by decide +kernel
theorem dX12_fits_34 : decode cX12_fits 34 = .ok (.ifCond .ne 8, 3) := by decide +kernel
theorem dX12_fits_37 : decode cX12_fits 37 = .ok (.aload_n 0, 1) := by decide +kernel
theorem dX12_fits_38 : decode cX12_fits 38 = .ok (.iload_n 2, 1) := by decide +kernel
theorem dX12_fits_39 : decode cX12_fits 39 = .ok (.invokevirtual 372, 3) := by decide +kernel
theorem dX12_fits_42 : decode cX12_fits 42 = .ok (.iinc 1 1, 3) := by decide +kernel
theorem dX12_fits_45 : decode cX12_fits 45 = .ok (.iinc 2 1, 3) := by decide +kernel
theorem dX12_fits_48 : decode cX12_fits 48 = .ok (.goto (-30), 3) := by decide +kernel
theorem dX12_fits_51 : decode cX12_fits 51 = .ok (.iload_n 1, 1) := by decide +kernel
theorem dX12_fits_52 : decode cX12_fits 52 = .ok (.ireturn, 1) := by decide +kernel
def f_X12_fits_L18 (a0 : Nat) (u7 : Int32) (u8 : Int32) (m9 : jM) : Option ((Int32 × Int32 × jM) ⊕ (Int32 × jM)) :=
  (if (7776 : Int32) ≤ u8 then some (.inr ((u7, m9))) else jcl (f_X12_isFitting a0 u8 m9) (fun v11 => (if v11 = (0 : Int32) then some (.inl ((u7, u8 + (1 : Int32), m9))) else (if u7 = (0 : Int32) then jcl (f_X12_entersRow a0 u8 m9) (fun m15 => some (.inl ((u7 + (1 : Int32), u8 + (1 : Int32), m15)))) else some (.inl ((u7 + (1 : Int32), u8 + (1 : Int32), m9)))))))
def f_X12_fits (a0 : Nat) (μ : jM) : Option (Int32 × jM) :=
  jbd (jsi μ a0 0 (0 : Int32)) (fun m1 => jcl (f_X12_tries a0 m1) (fun m3 => jbd (jsi m3 a0 1 (0 : Int32)) (fun m5 => jcl (jloop (fun (s : Int32 × Int32 × jM) => f_X12_fits_L18 a0 s.1 s.2.1 s.2.2) jfu (((0 : Int32), (0 : Int32), m5))) (fun w17 => some ((w17.1, w17.2))))))
set_option maxHeartbeats 4000000 in
set_option maxRecDepth 100000 in
theorem c_X12_fits {l : Launch} {G : jG} {L : jL} (hL : jOKL L) {a0 : Nat} (ka0 : jK L a0 12) {μ μ' : jM} {r : Int32} (h : f_X12_fits a0 μ = some ((r, μ'))) : jCt l G L 6 yX12_fits cX12_fits 3 (some .int) [.ref (L.2.2 a0)] μ (some (.int r)) μ' := by
  refine jCt_of (by decide) (Nat.le_of_ble_eq_true rfl) (fun X hC hX hR => ?_)
  subst hX
  have hC : jC X G cX12_fits 3 RX12 (some .int) := hC
  unfold f_X12_fits at h
  show jJ X G 3 L 0 0 (jQM X G L (some (.int r)) μ' 0 0) 0 [(0, .ref (L.2.2 a0))] [] μ
  refine j_aload_n (pc := 0) hC 0 0 dX12_fits_0 rfl rfl ?_
  refine j_iconst (pc := 1) hC (0 : Int32) dX12_fits_1 (by decide) ?_
  obtain ⟨m1, e2, h⟩ := jbd_ex h
  refine jpi_12 (pc := 2) hC 0 (by decide) rfl kf_X12_1 dX12_fits_2 rfl (by decide) ka0 e2 ?_
  refine j_aload_n (pc := 5) hC 0 0 dX12_fits_5 rfl rfl ?_
  obtain ⟨m3, e4, h⟩ := jcl_some h
  refine j_vv (pc := 6) hC hR [] iy_X12_tries (q := (RX12, TX12, 40)) (ci := 12) rfl rfl (by decide) km_X12_369 dX12_fits_6 rfl (by decide) ka0 (c_X12_tries hL ka0 e4) (by decide) (Nat.le_of_ble_eq_true rfl) rfl ?_
  refine j_iconst (pc := 9) hC (0 : Int32) dX12_fits_9 (by decide) ?_
  refine j_istore_n (pc := 10) hC 1 [(1, .int (0 : Int32)), (0, .ref (L.2.2 a0))] dX12_fits_10 rfl (by decide) rfl rfl ?_
  refine j_aload_n (pc := 11) hC 0 1 dX12_fits_11 rfl rfl ?_
  refine j_iconst (pc := 12) hC (0 : Int32) dX12_fits_12 (by decide) ?_
  obtain ⟨m5, e6, h⟩ := jbd_ex h
  refine jpi_12 (pc := 13) hC 1 (by decide) rfl kf_X12_11 dX12_fits_13 rfl (by decide) ka0 e6 ?_
  refine j_iconst (pc := 16) hC (0 : Int32) dX12_fits_16 (by decide) ?_
  refine j_istore_n (pc := 17) hC 2 [(2, .int (0 : Int32)), (1, .int (0 : Int32)), (0, .ref (L.2.2 a0))] dX12_fits_17 rfl (by decide) rfl rfl ?_
  obtain ⟨w17, hw18, h⟩ := jcl_some h
  refine j_lv [2, 1, 0] rfl ?_
  refine j_loop (step := (fun (s : Int32 × Int32 × jM) => f_X12_fits_L18 a0 s.1 s.2.1 s.2.2)) (P := (fun (s : Int32 × Int32 × jM) => jJ X G 3 L 0 0 (jQM X G L (some (.int r)) μ' 0 0) 18 [(0, .ref (L.2.2 a0)), (1, .int s.1), (2, .int s.2.1)] [] s.2.2)) (R := (fun (e : Int32 × jM) => jJ X G 3 L 0 0 (jQM X G L (some (.int r)) μ' 0 0) 51 [(1, .int e.1)] [] e.2)) ?_ jfu (((0 : Int32), (0 : Int32), m5)) w17 hw18 ?_
  · intro s19 o h hk
    obtain ⟨u7, u8, m9⟩ := s19
    change f_X12_fits_L18 a0 u7 u8 m9 = some o at h
    unfold f_X12_fits_L18 at h
    show jJ X G 3 L 0 0 (jQM X G L (some (.int r)) μ' 0 0) 18 [(0, .ref (L.2.2 a0)), (1, .int u7), (2, .int u8)] [] m9
    refine j_iload_n (pc := 18) hC 2 2 dX12_fits_18 rfl rfl ?_
    refine j_sipush (pc := 19) hC (7776 : Int32) dX12_fits_19 (by decide) ?_
    refine j_icmp_ge (pc := 22) hC 51 dX12_fits_22 (by decide) (fun c10 => ?_) (fun c10 => ?_)
    · rw [if_pos c10] at h
      obtain rfl := Option.some.inj h
      have hk : jJ X G 3 L 0 0 (jQM X G L (some (.int r)) μ' 0 0) 51 [(1, .int u7)] [] m9 := hk
      exact j_lv [1] rfl hk
    · rw [if_neg c10] at h
      refine j_aload_n (pc := 25) hC 0 0 dX12_fits_25 rfl rfl ?_
      refine j_iload_n (pc := 26) hC 2 2 dX12_fits_26 rfl rfl ?_
      obtain ⟨v11, e12, h⟩ := jcl_some h
      refine j_vi (pc := 27) hC hR [.int u8] iy_X12_isFitting (q := (RX12, TX12, 40)) (ci := 12) rfl rfl (by decide) km_X12_417 dX12_fits_27 rfl (by decide) ka0 (c_X12_isFitting hL ka0 e12) (by decide) (Nat.le_of_ble_eq_true rfl) rfl ?_
      refine j_if_eq (pc := 30) hC 45 dX12_fits_30 (by decide) (fun c13 => ?_) (fun c13 => ?_)
      · rw [if_pos c13] at h
        refine j_iinc (pc := 45) hC 2 (u8 + (1 : Int32)) [(2, .int (u8 + (1 : Int32))), (0, .ref (L.2.2 a0)), (1, .int u7)] dX12_fits_45 rfl rfl (by decide) rfl ?_
        refine j_goto (pc := 48) hC 18 dX12_fits_48 (by decide) ?_
        obtain rfl := Option.some.inj h
        have hk : jJ X G 3 L 0 0 (jQM X G L (some (.int r)) μ' 0 0) 18 [(0, .ref (L.2.2 a0)), (1, .int u7), (2, .int (u8 + (1 : Int32)))] [] m9 := hk
        exact j_lv [1, 2, 0] rfl hk
      · rw [if_neg c13] at h
        refine j_iload_n (pc := 33) hC 1 1 dX12_fits_33 rfl rfl ?_
        refine j_if_ne (pc := 34) hC 42 dX12_fits_34 (by decide) (fun c14 => ?_) (fun c14 => ?_)
        · rw [if_neg c14] at h
          refine j_iinc (pc := 42) hC 1 (u7 + (1 : Int32)) [(1, .int (u7 + (1 : Int32))), (0, .ref (L.2.2 a0)), (2, .int u8)] dX12_fits_42 rfl rfl (by decide) rfl ?_
          refine j_iinc (pc := 45) hC 2 (u8 + (1 : Int32)) [(2, .int (u8 + (1 : Int32))), (1, .int (u7 + (1 : Int32))), (0, .ref (L.2.2 a0))] dX12_fits_45 rfl rfl (by decide) rfl ?_
          refine j_goto (pc := 48) hC 18 dX12_fits_48 (by decide) ?_
          obtain rfl := Option.some.inj h
          have hk : jJ X G 3 L 0 0 (jQM X G L (some (.int r)) μ' 0 0) 18 [(0, .ref (L.2.2 a0)), (1, .int (u7 + (1 : Int32))), (2, .int (u8 + (1 : Int32)))] [] m9 := hk
          exact j_lv [2, 1, 0] rfl hk
        · rw [if_pos c14] at h
          refine j_aload_n (pc := 37) hC 0 0 dX12_fits_37 rfl rfl ?_
          refine j_iload_n (pc := 38) hC 2 2 dX12_fits_38 rfl rfl ?_
          obtain ⟨m15, e16, h⟩ := jcl_some h
          refine j_vv (pc := 39) hC hR [.int u8] iy_X12_entersRow (q := (RX12, TX12, 40)) (ci := 12) rfl rfl (by decide) km_X12_372 dX12_fits_39 rfl (by decide) ka0 (c_X12_entersRow hL ka0 e16) (by decide) (Nat.le_of_ble_eq_true rfl) rfl ?_
          refine j_iinc (pc := 42) hC 1 (u7 + (1 : Int32)) [(1, .int (u7 + (1 : Int32))), (0, .ref (L.2.2 a0)), (2, .int u8)] dX12_fits_42 rfl rfl (by decide) rfl ?_
          refine j_iinc (pc := 45) hC 2 (u8 + (1 : Int32)) [(2, .int (u8 + (1 : Int32))), (1, .int (u7 + (1 : Int32))), (0, .ref (L.2.2 a0))] dX12_fits_45 rfl rfl (by decide) rfl ?_
          refine j_goto (pc := 48) hC 18 dX12_fits_48 (by decide) ?_
          obtain rfl := Option.some.inj h
          have hk : jJ X G 3 L 0 0 (jQM X G L (some (.int r)) μ' 0 0) 18 [(0, .ref (L.2.2 a0)), (1, .int (u7 + (1 : Int32))), (2, .int (u8 + (1 : Int32)))] [] m15 := hk
          exact j_lv [2, 1, 0] rfl hk
  · obtain ⟨z20, m21⟩ := w17
    try dsimp only at h
    show jJ X G 3 L 0 0 (jQM X G L (some (.int r)) μ' 0 0) 51 [(1, .int z20)] [] m21
    refine j_iload_n (pc := 51) hC 1 0 dX12_fits_51 rfl rfl ?_
    obtain ⟨rfl, rfl⟩ := Prod.mk.inj (Option.some.inj h)
    exact j_iret (pc := 52) hC dX12_fits_52 rfl
theorem dX12_asks_0 : decode cX12_asks 0 = .ok (.aload_n 0, 1) := by decide +kernel
theorem dX12_asks_1 : decode cX12_asks 1 = .ok (.iconst 0, 1) := by decide +kernel
theorem dX12_asks_2 : decode cX12_asks 2 = .ok (.putfield 1, 3) := by decide +kernel
theorem dX12_asks_5 : decode cX12_asks 5 = .ok (.aload_n 0, 1) := by decide +kernel
theorem dX12_asks_6 : decode cX12_asks 6 = .ok (.invokevirtual 369, 3) := by decide +kernel
theorem dX12_asks_9 : decode cX12_asks 9 = .ok (.iconst 0, 1) := by decide +kernel
theorem dX12_asks_10 : decode cX12_asks 10 = .ok (.istore_n 1, 1) := by decide +kernel
theorem dX12_asks_11 : decode cX12_asks 11 = .ok (.iconst 0, 1) := by decide +kernel
theorem dX12_asks_12 : decode cX12_asks 12 = .ok (.istore_n 2, 1) := by decide +kernel
theorem dX12_asks_13 : decode cX12_asks 13 = .ok (.iload_n 2, 1) := by decide +kernel
theorem dX12_asks_14 : decode cX12_asks 14 = .ok (.bipush 30, 2) := by decide +kernel
theorem dX12_asks_16 : decode cX12_asks 16 = .ok (.if_icmp .ge 16, 3) := by decide +kernel
theorem dX12_asks_19 : decode cX12_asks 19 = .ok (.aload_n 0, 1) := by decide +kernel
theorem dX12_asks_20 : decode cX12_asks 20 = .ok (.getfield 99, 3) := by decide +kernel
theorem dX12_asks_23 : decode cX12_asks 23 = .ok (.iload_n 2, 1) := by decide +kernel
theorem dX12_asks_24 : decode cX12_asks 24 = .ok (.iconst 0, 1) := by decide +kernel
theorem dX12_asks_25 : decode cX12_asks 25 = .ok (.iastore, 1) := by decide +kernel
theorem dX12_asks_26 : decode cX12_asks 26 = .ok (.iinc 2 1, 3) := by decide +kernel
theorem dX12_asks_29 : decode cX12_asks 29 = .ok (.goto (-16), 3) := by decide +kernel
theorem dX12_asks_32 : decode cX12_asks 32 = .ok (.iconst 0, 1) := by decide +kernel
theorem dX12_asks_33 : decode cX12_asks 33 = .ok (.istore_n 2, 1) := by decide +kernel
theorem dX12_asks_34 : decode cX12_asks 34 = .ok (.iload_n 2, 1) := by decide +kernel
theorem dX12_asks_35 : decode cX12_asks 35 = .ok (.sipush 7776, 3) := by decide +kernel
theorem dX12_asks_38 : decode cX12_asks 38 = .ok (.if_icmp .ge 55, 3) := by decide +kernel
theorem dX12_asks_41 : decode cX12_asks 41 = .ok (.aload_n 0, 1) := by decide +kernel
theorem dX12_asks_42 : decode cX12_asks 42 = .ok (.iload_n 2, 1) := by decide +kernel
theorem dX12_asks_43 : decode cX12_asks 43 = .ok (.invokevirtual 417, 3) := by decide +kernel
theorem dX12_asks_46 : decode cX12_asks 46 = .ok (.ifCond .ne 6, 3) := by decide +kernel
theorem dX12_asks_49 : decode cX12_asks 49 = .ok (.goto 38, 3) := by decide +kernel
theorem dX12_asks_52 : decode cX12_asks 52 = .ok (.iinc 1 1, 3) := by decide +kernel
theorem dX12_asks_55 : decode cX12_asks 55 = .ok (.iconst 0, 1) := by decide +kernel
theorem dX12_asks_56 : decode cX12_asks 56 = .ok (.istore_n 3, 1) := by decide +kernel
theorem dX12_asks_57 : decode cX12_asks 57 = .ok (.iload_n 3, 1) := by decide +kernel
theorem dX12_asks_58 : decode cX12_asks 58 = .ok (.iconst 5, 1) := by decide +kernel
theorem dX12_asks_59 : decode cX12_asks 59 = .ok (.if_icmp .ge 28, 3) := by decide +kernel
theorem dX12_asks_62 : decode cX12_asks 62 = .ok (.aload_n 0, 1) := by decide +kernel
theorem dX12_asks_63 : decode cX12_asks 63 = .ok (.getfield 99, 3) := by decide +kernel
theorem dX12_asks_66 : decode cX12_asks 66 = .ok (.bipush 6, 2) := by decide +kernel
theorem dX12_asks_68 : decode cX12_asks 68 = .ok (.iload_n 3, 1) := by decide +kernel
theorem dX12_asks_69 : decode cX12_asks 69 = .ok (.imul, 1) := by decide +kernel
theorem dX12_asks_70 : decode cX12_asks 70 = .ok (.iload_n 2, 1) := by decide +kernel
theorem dX12_asks_71 : decode cX12_asks 71 = .ok (.iload_n 3, 1) := by decide +kernel
theorem dX12_asks_72 : decode cX12_asks 72 = .ok (.invokestatic 363, 3) := by decide +kernel
theorem dX12_asks_75 : decode cX12_asks 75 = .ok (.iadd, 1) := by decide +kernel
theorem dX12_asks_76 : decode cX12_asks 76 = .ok (.dup2, 1) := by decide +kernel
theorem dX12_asks_77 : decode cX12_asks 77 = .ok (.iaload, 1) := by decide +kernel
theorem dX12_asks_78 : decode cX12_asks 78 = .ok (.iconst 1, 1) := by decide +kernel
theorem dX12_asks_79 : decode cX12_asks 79 = .ok (.iadd, 1) := by decide +kernel
theorem dX12_asks_80 : decode cX12_asks 80 = .ok (.iastore, 1) := by decide +kernel
theorem dX12_asks_81 : decode cX12_asks 81 = .ok (.iinc 3 1, 3) := by decide +kernel
theorem dX12_asks_84 : decode cX12_asks 84 = .ok (.goto (-27), 3) := by decide +kernel
theorem dX12_asks_87 : decode cX12_asks 87 = .ok (.iinc 2 1, 3) := by decide +kernel
theorem dX12_asks_90 : decode cX12_asks 90 = .ok (.goto (-56), 3) := by decide +kernel
theorem dX12_asks_93 : decode cX12_asks 93 = .ok (.iload_n 1, 1) := by decide +kernel
theorem dX12_asks_94 : decode cX12_asks 94 = .ok (.ifCond .ne 6, 3) := by decide +kernel
theorem dX12_asks_97 : decode cX12_asks 97 = .ok (.bipush (-2), 2) := by decide +kernel
theorem dX12_asks_99 : decode cX12_asks 99 = .ok (.ireturn, 1) := by decide +kernel
theorem dX12_asks_100 : decode cX12_asks 100 = .ok (.iconst 0, 1) := by decide +kernel
theorem dX12_asks_101 : decode cX12_asks 101 = .ok (.istore_n 2, 1) := by decide +kernel
theorem dX12_asks_102 : decode cX12_asks 102 = .ok (.iconst 1, 1) := by decide +kernel
theorem dX12_asks_103 : decode cX12_asks 103 = .ok (.istore_n 3, 1) := by decide +kernel
theorem dX12_asks_104 : decode cX12_asks 104 = .ok (.iload_n 3, 1) := by decide +kernel
theorem dX12_asks_105 : decode cX12_asks 105 = .ok (.bipush 30, 2) := by decide +kernel
theorem dX12_asks_107 : decode cX12_asks 107 = .ok (.if_icmp .ge 52, 3) := by decide +kernel
theorem dX12_asks_110 : decode cX12_asks 110 = .ok (.aload_n 0, 1) := by decide +kernel
theorem dX12_asks_111 : decode cX12_asks 111 = .ok (.getfield 99, 3) := by decide +kernel
theorem dX12_asks_114 : decode cX12_asks 114 = .ok (.iload_n 3, 1) := by decide +kernel
theorem dX12_asks_115 : decode cX12_asks 115 = .ok (.iaload, 1) := by decide +kernel
theorem dX12_asks_116 : decode cX12_asks 116 = .ok (.iload_n 1, 1) := by decide +kernel
theorem dX12_asks_117 : decode cX12_asks 117 = .ok (.aload_n 0, 1) := by decide +kernel
theorem dX12_asks_118 : decode cX12_asks 118 = .ok (.getfield 99, 3) := by decide +kernel
theorem dX12_asks_121 : decode cX12_asks 121 = .ok (.iload_n 3, 1) := by decide +kernel
theorem dX12_asks_122 : decode cX12_asks 122 = .ok (.iaload, 1) := by decide +kernel
theorem dX12_asks_123 : decode cX12_asks 123 = .ok (.isub, 1) := by decide +kernel
theorem dX12_asks_124 : decode cX12_asks 124 = .ok (.invokestatic 391, 3) := by decide +kernel
theorem dX12_asks_127 : decode cX12_asks 127 = .ok (.aload_n 0, 1) := by decide +kernel
theorem dX12_asks_128 : decode cX12_asks 128 = .ok (.getfield 99, 3) := by decide +kernel
theorem dX12_asks_131 : decode cX12_asks 131 = .ok (.iload_n 2, 1) := by decide +kernel
theorem dX12_asks_132 : decode cX12_asks 132 = .ok (.iaload, 1) := by decide +kernel
theorem dX12_asks_133 : decode cX12_asks 133 = .ok (.iload_n 1, 1) := by decide +kernel
theorem dX12_asks_134 : decode cX12_asks 134 = .ok (.aload_n 0, 1) := by decide +kernel
theorem dX12_asks_135 : decode cX12_asks 135 = .ok (.getfield 99, 3) := by decide +kernel
theorem dX12_asks_138 : decode cX12_asks 138 = .ok (.iload_n 2, 1) := by decide +kernel
theorem dX12_asks_139 : decode cX12_asks 139 = .ok (.iaload, 1) := by decide +kernel
theorem dX12_asks_140 : decode cX12_asks 140 = .ok (.isub, 1) := by decide +kernel
theorem dX12_asks_141 : decode cX12_asks 141 = .ok (.invokestatic 391, 3) := by decide +kernel
theorem dX12_asks_144 : decode cX12_asks 144 = .ok (.if_icmp .ge 7, 3) := by decide +kernel
theorem dX12_asks_147 : decode cX12_asks 147 = .ok (.iload_n 3, 1) := by decide +kernel
theorem dX12_asks_148 : decode cX12_asks 148 = .ok (.goto 4, 3) := by decide +kernel
theorem dX12_asks_151 : decode cX12_asks 151 = .ok (.iload_n 2, 1) := by decide +kernel
theorem dX12_asks_152 : decode cX12_asks 152 = .ok (.istore_n 2, 1) := by decide +kernel
theorem dX12_asks_153 : decode cX12_asks 153 = .ok (.iinc 3 1, 3) := by decide +kernel
theorem dX12_asks_156 : decode cX12_asks 156 = .ok (.goto (-52), 3) := by decide +kernel
theorem dX12_asks_159 : decode cX12_asks 159 = .ok (.aload_n 0, 1) := by decide +kernel
theorem dX12_asks_160 : decode cX12_asks 160 = .ok (.iconst 0, 1) := by decide +kernel
theorem dX12_asks_161 : decode cX12_asks 161 = .ok (.putfield 11, 3) := by decide +kernel
theorem dX12_asks_164 : decode cX12_asks 164 = .ok (.aload_n 0, 1) := by decide +kernel
theorem dX12_asks_165 : decode cX12_asks 165 = .ok (.aload_n 0, 1) := by decide +kernel
theorem dX12_asks_166 : decode cX12_asks 166 = .ok (.getfield 99, 3) := by decide +kernel
theorem dX12_asks_169 : decode cX12_asks 169 = .ok (.iload_n 2, 1) := by decide +kernel
theorem dX12_asks_170 : decode cX12_asks 170 = .ok (.iaload, 1) := by decide +kernel
theorem dX12_asks_171 : decode cX12_asks 171 = .ok (.iload_n 1, 1) := by decide +kernel
theorem dX12_asks_172 : decode cX12_asks 172 = .ok (.aload_n 0, 1) := by decide +kernel
theorem dX12_asks_173 : decode cX12_asks 173 = .ok (.getfield 99, 3) := by decide +kernel
theorem dX12_asks_176 : decode cX12_asks 176 = .ok (.iload_n 2, 1) := by decide +kernel
theorem dX12_asks_177 : decode cX12_asks 177 = .ok (.iaload, 1) := by decide +kernel
theorem dX12_asks_178 : decode cX12_asks 178 = .ok (.isub, 1) := by decide +kernel
theorem dX12_asks_179 : decode cX12_asks 179 = .ok (.invokestatic 391, 3) := by decide +kernel
theorem dX12_asks_182 : decode cX12_asks 182 = .ok (.i2l, 1) := by decide +kernel
theorem dX12_asks_183 : decode cX12_asks 183 = .ok (.invokevirtual 146, 3) := by decide +kernel
theorem dX12_asks_186 : decode cX12_asks 186 = .ok (.iload_n 2, 1) := by decide +kernel
theorem dX12_asks_187 : decode cX12_asks 187 = .ok (.ireturn, 1) := by decide +kernel
def f_X12_asks_L13 (a0 : Nat) (u5 : Int32) (m6 : jM) : Option ((Int32 × jM) ⊕ (jM)) :=
  (if (30 : Int32) ≤ u5 then some (.inr m6) else jin u5 216 (jbd (jsi m6 (a0 + 16) u5.toNatClampNeg (0 : Int32)) (fun m9 => some (.inl ((u5 + (1 : Int32), m9))))))
def f_X12_asks_L57 (a0 : Nat) (u16 : Int32) (u22 : Int32) (m23 : jM) : Option ((Int32 × jM) ⊕ (jM)) :=
  (if (5 : Int32) ≤ u22 then some (.inr m23) else jcl (f_X12_valueOf u16 u22) (fun v25 => jrd (m23.1 (a0 + 16)) (((6 : Int32) * u22) + v25) 216 (fun v28 => jin (((6 : Int32) * u22) + v25) 216 (jbd (jsi m23 (a0 + 16) (((6 : Int32) * u22) + v25).toNatClampNeg (v28 + (1 : Int32))) (fun m31 => some (.inl ((u22 + (1 : Int32), m31))))))))
def f_X12_asks_L34 (a0 : Nat) (u15 : Int32) (u16 : Int32) (m17 : jM) : Option ((Int32 × Int32 × jM) ⊕ (Int32 × jM)) :=
  (if (7776 : Int32) ≤ u16 then some (.inr ((u15, m17))) else jcl (f_X12_isFitting a0 u16 m17) (fun v19 => (if v19 = (0 : Int32) then some (.inl ((u15, u16 + (1 : Int32), m17))) else jcl (jloop (fun (s : Int32 × jM) => f_X12_asks_L57 a0 u16 s.1 s.2) jfu (((0 : Int32), m17))) (fun w33 => some (.inl ((u15 + (1 : Int32), u16 + (1 : Int32), w33)))))))
def f_X12_asks_L104 (a0 : Nat) (z40 : Int32) (m41 : jM) (u43 : Int32) (u44 : Int32) : Option ((Int32 × Int32) ⊕ (Int32)) :=
  (if (30 : Int32) ≤ u44 then some (.inr u43) else jrd (m41.1 (a0 + 16)) u44 216 (fun v47 => jrd (m41.1 (a0 + 16)) u44 216 (fun v50 => jrd (m41.1 (a0 + 16)) u43 216 (fun v53 => jrd (m41.1 (a0 + 16)) u43 216 (fun v56 => jbd ((if (jmax v53 (z40 - v56)) ≤ (jmax v47 (z40 - v50)) then u43 else u44) : Int32) (fun v59 => some (.inl ((v59, u44 + (1 : Int32))))))))))
def f_X12_asks (a0 : Nat) (μ : jM) : Option (Int32 × jM) :=
  jbd (jsi μ a0 0 (0 : Int32)) (fun m1 => jcl (f_X12_tries a0 m1) (fun m3 => jcl (jloop (fun (s : Int32 × jM) => f_X12_asks_L13 a0 s.1 s.2) jfu (((0 : Int32), m3))) (fun w11 => jcl (jloop (fun (s : Int32 × Int32 × jM) => f_X12_asks_L34 a0 s.1 s.2.1 s.2.2) jfu (((0 : Int32), (0 : Int32), w11))) (fun w37 => (if w37.1 = (0 : Int32) then some (((-2 : Int32), w37.2)) else jcl (jloop (fun (s : Int32 × Int32) => f_X12_asks_L104 a0 w37.1 w37.2 s.1 s.2) jfu (((0 : Int32), (1 : Int32)))) (fun w61 => jbd (jsi w37.2 a0 1 (0 : Int32)) (fun m65 => jrd (m65.1 (a0 + 16)) w61 216 (fun v68 => jrd (m65.1 (a0 + 16)) w61 216 (fun v71 => jcl (f_X12_enters a0 ((jmax v68 (w37.1 - v71)).toInt64) m65) (fun m73 => some ((w61, m73))))))))))))
set_option maxHeartbeats 4000000 in
set_option maxRecDepth 100000 in
theorem c_X12_asks {l : Launch} {G : jG} {L : jL} (hL : jOKL L) {a0 : Nat} (ka0 : jK L a0 12) {μ μ' : jM} {r : Int32} (h : f_X12_asks a0 μ = some ((r, μ'))) : jCt l G L 6 yX12_asks cX12_asks 4 (some .int) [.ref (L.2.2 a0)] μ (some (.int r)) μ' := by
  refine jCt_of (by decide) (Nat.le_of_ble_eq_true rfl) (fun X hC hX hR => ?_)
  subst hX
  have hC : jC X G cX12_asks 4 RX12 (some .int) := hC
  unfold f_X12_asks at h
  show jJ X G 4 L 0 0 (jQM X G L (some (.int r)) μ' 0 0) 0 [(0, .ref (L.2.2 a0))] [] μ
  refine j_aload_n (pc := 0) hC 0 0 dX12_asks_0 rfl rfl ?_
  refine j_iconst (pc := 1) hC (0 : Int32) dX12_asks_1 (by decide) ?_
  obtain ⟨m1, e2, h⟩ := jbd_ex h
  refine jpi_12 (pc := 2) hC 0 (by decide) rfl kf_X12_1 dX12_asks_2 rfl (by decide) ka0 e2 ?_
  refine j_aload_n (pc := 5) hC 0 0 dX12_asks_5 rfl rfl ?_
  obtain ⟨m3, e4, h⟩ := jcl_some h
  refine j_vv (pc := 6) hC hR [] iy_X12_tries (q := (RX12, TX12, 40)) (ci := 12) rfl rfl (by decide) km_X12_369 dX12_asks_6 rfl (by decide) ka0 (c_X12_tries hL ka0 e4) (by decide) (Nat.le_of_ble_eq_true rfl) rfl ?_
  refine j_iconst (pc := 9) hC (0 : Int32) dX12_asks_9 (by decide) ?_
  refine j_istore_n (pc := 10) hC 1 [(1, .int (0 : Int32)), (0, .ref (L.2.2 a0))] dX12_asks_10 rfl (by decide) rfl rfl ?_
  refine j_iconst (pc := 11) hC (0 : Int32) dX12_asks_11 (by decide) ?_
  refine j_istore_n (pc := 12) hC 2 [(2, .int (0 : Int32)), (1, .int (0 : Int32)), (0, .ref (L.2.2 a0))] dX12_asks_12 rfl (by decide) rfl rfl ?_
  obtain ⟨w11, hw12, h⟩ := jcl_some h
  refine j_lv [2, 1, 0] rfl ?_
  refine j_loop (step := (fun (s : Int32 × jM) => f_X12_asks_L13 a0 s.1 s.2)) (P := (fun (s : Int32 × jM) => jJ X G 4 L 0 0 (jQM X G L (some (.int r)) μ' 0 0) 13 [(0, .ref (L.2.2 a0)), (1, .int (0 : Int32)), (2, .int s.1)] [] s.2)) (R := (fun (e : jM) => jJ X G 4 L 0 0 (jQM X G L (some (.int r)) μ' 0 0) 32 [(0, .ref (L.2.2 a0)), (1, .int (0 : Int32))] [] e)) ?_ jfu (((0 : Int32), m3)) w11 hw12 ?_
  · intro s13 o h hk
    obtain ⟨u5, m6⟩ := s13
    change f_X12_asks_L13 a0 u5 m6 = some o at h
    unfold f_X12_asks_L13 at h
    show jJ X G 4 L 0 0 (jQM X G L (some (.int r)) μ' 0 0) 13 [(0, .ref (L.2.2 a0)), (1, .int (0 : Int32)), (2, .int u5)] [] m6
    refine j_iload_n (pc := 13) hC 2 2 dX12_asks_13 rfl rfl ?_
    refine j_bipush (pc := 14) hC (30 : Int32) dX12_asks_14 (by decide) ?_
    refine j_icmp_ge (pc := 16) hC 32 dX12_asks_16 (by decide) (fun c7 => ?_) (fun c7 => ?_)
    · rw [if_pos c7] at h
      obtain rfl := Option.some.inj h
      have hk : jJ X G 4 L 0 0 (jQM X G L (some (.int r)) μ' 0 0) 32 [(0, .ref (L.2.2 a0)), (1, .int (0 : Int32))] [] m6 := hk
      exact j_lv [0, 1] rfl hk
    · rw [if_neg c7] at h
      refine j_aload_n (pc := 19) hC 0 0 dX12_asks_19 rfl rfl ?_
      refine jgr_12 (pc := 20) hC 27 (by decide) rfl kf_X12_99 dX12_asks_20 ka0 (ly_12_27 hL ka0).1 ?_
      refine j_iload_n (pc := 23) hC 2 2 dX12_asks_23 rfl rfl ?_
      refine j_iconst (pc := 24) hC (0 : Int32) dX12_asks_24 (by decide) ?_
      obtain ⟨i8, h⟩ := jin_some h
      obtain ⟨m9, e10, h⟩ := jbd_ex h
      refine j_iast (pc := 25) hC dX12_asks_25 (ly_12_27 hL ka0).2.1 (ly_12_27 hL ka0).2.2 i8 e10 ?_
      refine j_iinc (pc := 26) hC 2 (u5 + (1 : Int32)) [(2, .int (u5 + (1 : Int32))), (0, .ref (L.2.2 a0)), (1, .int (0 : Int32))] dX12_asks_26 rfl rfl (by decide) rfl ?_
      refine j_goto (pc := 29) hC 13 dX12_asks_29 (by decide) ?_
      obtain rfl := Option.some.inj h
      have hk : jJ X G 4 L 0 0 (jQM X G L (some (.int r)) μ' 0 0) 13 [(0, .ref (L.2.2 a0)), (1, .int (0 : Int32)), (2, .int (u5 + (1 : Int32)))] [] m9 := hk
      exact j_lv [1, 2, 0] rfl hk
  · obtain ⟨m14, rfl⟩ : ∃ y, y = w11 := ⟨_, rfl⟩
    try dsimp only at h
    show jJ X G 4 L 0 0 (jQM X G L (some (.int r)) μ' 0 0) 32 [(0, .ref (L.2.2 a0)), (1, .int (0 : Int32))] [] m14
    refine j_iconst (pc := 32) hC (0 : Int32) dX12_asks_32 (by decide) ?_
    refine j_istore_n (pc := 33) hC 2 [(2, .int (0 : Int32)), (0, .ref (L.2.2 a0)), (1, .int (0 : Int32))] dX12_asks_33 rfl (by decide) rfl rfl ?_
    obtain ⟨w37, hw38, h⟩ := jcl_some h
    refine j_lv [1, 2, 0] rfl ?_
    refine j_loop (step := (fun (s : Int32 × Int32 × jM) => f_X12_asks_L34 a0 s.1 s.2.1 s.2.2)) (P := (fun (s : Int32 × Int32 × jM) => jJ X G 4 L 0 0 (jQM X G L (some (.int r)) μ' 0 0) 34 [(0, .ref (L.2.2 a0)), (1, .int s.1), (2, .int s.2.1)] [] s.2.2)) (R := (fun (e : Int32 × jM) => jJ X G 4 L 0 0 (jQM X G L (some (.int r)) μ' 0 0) 93 [(0, .ref (L.2.2 a0)), (1, .int e.1)] [] e.2)) ?_ jfu (((0 : Int32), (0 : Int32), m14)) w37 hw38 ?_
    · intro s39 o h hk
      obtain ⟨u15, u16, m17⟩ := s39
      change f_X12_asks_L34 a0 u15 u16 m17 = some o at h
      unfold f_X12_asks_L34 at h
      show jJ X G 4 L 0 0 (jQM X G L (some (.int r)) μ' 0 0) 34 [(0, .ref (L.2.2 a0)), (1, .int u15), (2, .int u16)] [] m17
      refine j_iload_n (pc := 34) hC 2 2 dX12_asks_34 rfl rfl ?_
      refine j_sipush (pc := 35) hC (7776 : Int32) dX12_asks_35 (by decide) ?_
      refine j_icmp_ge (pc := 38) hC 93 dX12_asks_38 (by decide) (fun c18 => ?_) (fun c18 => ?_)
      · rw [if_pos c18] at h
        obtain rfl := Option.some.inj h
        have hk : jJ X G 4 L 0 0 (jQM X G L (some (.int r)) μ' 0 0) 93 [(0, .ref (L.2.2 a0)), (1, .int u15)] [] m17 := hk
        exact j_lv [0, 1] rfl hk
      · rw [if_neg c18] at h
        refine j_aload_n (pc := 41) hC 0 0 dX12_asks_41 rfl rfl ?_
        refine j_iload_n (pc := 42) hC 2 2 dX12_asks_42 rfl rfl ?_
        obtain ⟨v19, e20, h⟩ := jcl_some h
        refine j_vi (pc := 43) hC hR [.int u16] iy_X12_isFitting (q := (RX12, TX12, 40)) (ci := 12) rfl rfl (by decide) km_X12_417 dX12_asks_43 rfl (by decide) ka0 (c_X12_isFitting hL ka0 e20) (by decide) (Nat.le_of_ble_eq_true rfl) rfl ?_
        refine j_if_ne (pc := 46) hC 52 dX12_asks_46 (by decide) (fun c21 => ?_) (fun c21 => ?_)
        · rw [if_neg c21] at h
          refine j_iinc (pc := 52) hC 1 (u15 + (1 : Int32)) [(1, .int (u15 + (1 : Int32))), (0, .ref (L.2.2 a0)), (2, .int u16)] dX12_asks_52 rfl rfl (by decide) rfl ?_
          refine j_iconst (pc := 55) hC (0 : Int32) dX12_asks_55 (by decide) ?_
          refine j_istore_n (pc := 56) hC 3 [(3, .int (0 : Int32)), (1, .int (u15 + (1 : Int32))), (0, .ref (L.2.2 a0)), (2, .int u16)] dX12_asks_56 rfl (by decide) rfl rfl ?_
          obtain ⟨w33, hw34, h⟩ := jcl_some h
          refine j_lv [2, 1, 3, 0] rfl ?_
          refine j_loop (step := (fun (s : Int32 × jM) => f_X12_asks_L57 a0 u16 s.1 s.2)) (P := (fun (s : Int32 × jM) => jJ X G 4 L 0 0 (jQM X G L (some (.int r)) μ' 0 0) 57 [(0, .ref (L.2.2 a0)), (1, .int (u15 + (1 : Int32))), (2, .int u16), (3, .int s.1)] [] s.2)) (R := (fun (e : jM) => jJ X G 4 L 0 0 (jQM X G L (some (.int r)) μ' 0 0) 87 [(0, .ref (L.2.2 a0)), (1, .int (u15 + (1 : Int32))), (2, .int u16)] [] e)) ?_ jfu (((0 : Int32), m17)) w33 hw34 ?_
          · intro s35 o h hk
            obtain ⟨u22, m23⟩ := s35
            change f_X12_asks_L57 a0 u16 u22 m23 = some o at h
            unfold f_X12_asks_L57 at h
            show jJ X G 4 L 0 0 (jQM X G L (some (.int r)) μ' 0 0) 57 [(0, .ref (L.2.2 a0)), (1, .int (u15 + (1 : Int32))), (2, .int u16), (3, .int u22)] [] m23
            refine j_iload_n (pc := 57) hC 3 3 dX12_asks_57 rfl rfl ?_
            refine j_iconst (pc := 58) hC (5 : Int32) dX12_asks_58 (by decide) ?_
            refine j_icmp_ge (pc := 59) hC 87 dX12_asks_59 (by decide) (fun c24 => ?_) (fun c24 => ?_)
            · rw [if_pos c24] at h
              obtain rfl := Option.some.inj h
              have hk : jJ X G 4 L 0 0 (jQM X G L (some (.int r)) μ' 0 0) 87 [(0, .ref (L.2.2 a0)), (1, .int (u15 + (1 : Int32))), (2, .int u16)] [] m23 := hk
              exact j_lv [0, 1, 2] rfl hk
            · rw [if_neg c24] at h
              refine j_aload_n (pc := 62) hC 0 0 dX12_asks_62 rfl rfl ?_
              refine jgr_12 (pc := 63) hC 27 (by decide) rfl kf_X12_99 dX12_asks_63 ka0 (ly_12_27 hL ka0).1 ?_
              refine j_bipush (pc := 66) hC (6 : Int32) dX12_asks_66 (by decide) ?_
              refine j_iload_n (pc := 68) hC 3 3 dX12_asks_68 rfl rfl ?_
              refine j_imul (pc := 69) hC dX12_asks_69 ?_
              refine j_iload_n (pc := 70) hC 2 2 dX12_asks_70 rfl rfl ?_
              refine j_iload_n (pc := 71) hC 3 3 dX12_asks_71 rfl rfl ?_
              obtain ⟨v25, e26, h⟩ := jcl_some h
              refine j_si (pc := 72) hC hR [.int u16, .int u22] iy_X12_valueOf km_X12_363 dX12_asks_72 rfl (by decide) (c_X12_valueOf hL  e26) (by decide) (Nat.le_of_ble_eq_true rfl) rfl ?_
              refine j_iadd (pc := 75) hC dX12_asks_75 ?_
              refine j_dup2 (pc := 76) hC dX12_asks_76 rfl rfl ?_
              obtain ⟨i27, v28, e29, h⟩ := jrd_some h
              refine j_iald (pc := 77) hC dX12_asks_77 (ly_12_27 hL ka0).2.1 (ly_12_27 hL ka0).2.2 i27 e29 ?_
              refine j_iconst (pc := 78) hC (1 : Int32) dX12_asks_78 (by decide) ?_
              refine j_iadd (pc := 79) hC dX12_asks_79 ?_
              obtain ⟨i30, h⟩ := jin_some h
              obtain ⟨m31, e32, h⟩ := jbd_ex h
              refine j_iast (pc := 80) hC dX12_asks_80 (ly_12_27 hL ka0).2.1 (ly_12_27 hL ka0).2.2 i30 e32 ?_
              refine j_iinc (pc := 81) hC 3 (u22 + (1 : Int32)) [(3, .int (u22 + (1 : Int32))), (0, .ref (L.2.2 a0)), (1, .int (u15 + (1 : Int32))), (2, .int u16)] dX12_asks_81 rfl rfl (by decide) rfl ?_
              refine j_goto (pc := 84) hC 57 dX12_asks_84 (by decide) ?_
              obtain rfl := Option.some.inj h
              have hk : jJ X G 4 L 0 0 (jQM X G L (some (.int r)) μ' 0 0) 57 [(0, .ref (L.2.2 a0)), (1, .int (u15 + (1 : Int32))), (2, .int u16), (3, .int (u22 + (1 : Int32)))] [] m31 := hk
              exact j_lv [1, 2, 3, 0] rfl hk
          · obtain ⟨m36, rfl⟩ : ∃ y, y = w33 := ⟨_, rfl⟩
            try dsimp only at h
            show jJ X G 4 L 0 0 (jQM X G L (some (.int r)) μ' 0 0) 87 [(0, .ref (L.2.2 a0)), (1, .int (u15 + (1 : Int32))), (2, .int u16)] [] m36
            refine j_iinc (pc := 87) hC 2 (u16 + (1 : Int32)) [(2, .int (u16 + (1 : Int32))), (0, .ref (L.2.2 a0)), (1, .int (u15 + (1 : Int32)))] dX12_asks_87 rfl rfl (by decide) rfl ?_
            refine j_goto (pc := 90) hC 34 dX12_asks_90 (by decide) ?_
            obtain rfl := Option.some.inj h
            have hk : jJ X G 4 L 0 0 (jQM X G L (some (.int r)) μ' 0 0) 34 [(0, .ref (L.2.2 a0)), (1, .int (u15 + (1 : Int32))), (2, .int (u16 + (1 : Int32)))] [] m36 := hk
            exact j_lv [1, 2, 0] rfl hk
        · rw [if_pos c21] at h
          refine j_goto (pc := 49) hC 87 dX12_asks_49 (by decide) ?_
          refine j_iinc (pc := 87) hC 2 (u16 + (1 : Int32)) [(2, .int (u16 + (1 : Int32))), (0, .ref (L.2.2 a0)), (1, .int u15)] dX12_asks_87 rfl rfl (by decide) rfl ?_
          refine j_goto (pc := 90) hC 34 dX12_asks_90 (by decide) ?_
          obtain rfl := Option.some.inj h
          have hk : jJ X G 4 L 0 0 (jQM X G L (some (.int r)) μ' 0 0) 34 [(0, .ref (L.2.2 a0)), (1, .int u15), (2, .int (u16 + (1 : Int32)))] [] m17 := hk
          exact j_lv [1, 2, 0] rfl hk
    · obtain ⟨z40, m41⟩ := w37
      try dsimp only at h
      show jJ X G 4 L 0 0 (jQM X G L (some (.int r)) μ' 0 0) 93 [(0, .ref (L.2.2 a0)), (1, .int z40)] [] m41
      refine j_iload_n (pc := 93) hC 1 1 dX12_asks_93 rfl rfl ?_
      refine j_if_ne (pc := 94) hC 100 dX12_asks_94 (by decide) (fun c42 => ?_) (fun c42 => ?_)
      · rw [if_neg c42] at h
        refine j_iconst (pc := 100) hC (0 : Int32) dX12_asks_100 (by decide) ?_
        refine j_istore_n (pc := 101) hC 2 [(2, .int (0 : Int32)), (0, .ref (L.2.2 a0)), (1, .int z40)] dX12_asks_101 rfl (by decide) rfl rfl ?_
        refine j_iconst (pc := 102) hC (1 : Int32) dX12_asks_102 (by decide) ?_
        refine j_istore_n (pc := 103) hC 3 [(3, .int (1 : Int32)), (2, .int (0 : Int32)), (0, .ref (L.2.2 a0)), (1, .int z40)] dX12_asks_103 rfl (by decide) rfl rfl ?_
        obtain ⟨w61, hw62, h⟩ := jcl_some h
        refine j_lv [2, 3, 1, 0] rfl ?_
        refine j_loop (step := (fun (s : Int32 × Int32) => f_X12_asks_L104 a0 z40 m41 s.1 s.2)) (P := (fun (s : Int32 × Int32) => jJ X G 4 L 0 0 (jQM X G L (some (.int r)) μ' 0 0) 104 [(0, .ref (L.2.2 a0)), (1, .int z40), (2, .int s.1), (3, .int s.2)] [] m41)) (R := (fun (e : Int32) => jJ X G 4 L 0 0 (jQM X G L (some (.int r)) μ' 0 0) 159 [(0, .ref (L.2.2 a0)), (1, .int z40), (2, .int e)] [] m41)) ?_ jfu (((0 : Int32), (1 : Int32))) w61 hw62 ?_
        · intro s63 o h hk
          obtain ⟨u43, u44⟩ := s63
          change f_X12_asks_L104 a0 z40 m41 u43 u44 = some o at h
          unfold f_X12_asks_L104 at h
          show jJ X G 4 L 0 0 (jQM X G L (some (.int r)) μ' 0 0) 104 [(0, .ref (L.2.2 a0)), (1, .int z40), (2, .int u43), (3, .int u44)] [] m41
          refine j_iload_n (pc := 104) hC 3 3 dX12_asks_104 rfl rfl ?_
          refine j_bipush (pc := 105) hC (30 : Int32) dX12_asks_105 (by decide) ?_
          refine j_icmp_ge (pc := 107) hC 159 dX12_asks_107 (by decide) (fun c45 => ?_) (fun c45 => ?_)
          · rw [if_pos c45] at h
            obtain rfl := Option.some.inj h
            have hk : jJ X G 4 L 0 0 (jQM X G L (some (.int r)) μ' 0 0) 159 [(0, .ref (L.2.2 a0)), (1, .int z40), (2, .int u43)] [] m41 := hk
            exact j_lv [0, 1, 2] rfl hk
          · rw [if_neg c45] at h
            refine j_aload_n (pc := 110) hC 0 0 dX12_asks_110 rfl rfl ?_
            refine jgr_12 (pc := 111) hC 27 (by decide) rfl kf_X12_99 dX12_asks_111 ka0 (ly_12_27 hL ka0).1 ?_
            refine j_iload_n (pc := 114) hC 3 3 dX12_asks_114 rfl rfl ?_
            obtain ⟨i46, v47, e48, h⟩ := jrd_some h
            refine j_iald (pc := 115) hC dX12_asks_115 (ly_12_27 hL ka0).2.1 (ly_12_27 hL ka0).2.2 i46 e48 ?_
            refine j_iload_n (pc := 116) hC 1 1 dX12_asks_116 rfl rfl ?_
            refine j_aload_n (pc := 117) hC 0 0 dX12_asks_117 rfl rfl ?_
            refine jgr_12 (pc := 118) hC 27 (by decide) rfl kf_X12_99 dX12_asks_118 ka0 (ly_12_27 hL ka0).1 ?_
            refine j_iload_n (pc := 121) hC 3 3 dX12_asks_121 rfl rfl ?_
            obtain ⟨i49, v50, e51, h⟩ := jrd_some h
            refine j_iald (pc := 122) hC dX12_asks_122 (ly_12_27 hL ka0).2.1 (ly_12_27 hL ka0).2.2 i49 e51 ?_
            refine j_isub (pc := 123) hC dX12_asks_123 ?_
            refine j_mmax (pc := 124) hC hR kx_X12_391 dX12_asks_124 (by decide) (Nat.le_of_ble_eq_true rfl) ?_
            refine j_aload_n (pc := 127) hC 0 0 dX12_asks_127 rfl rfl ?_
            refine jgr_12 (pc := 128) hC 27 (by decide) rfl kf_X12_99 dX12_asks_128 ka0 (ly_12_27 hL ka0).1 ?_
            refine j_iload_n (pc := 131) hC 2 2 dX12_asks_131 rfl rfl ?_
            obtain ⟨i52, v53, e54, h⟩ := jrd_some h
            refine j_iald (pc := 132) hC dX12_asks_132 (ly_12_27 hL ka0).2.1 (ly_12_27 hL ka0).2.2 i52 e54 ?_
            refine j_iload_n (pc := 133) hC 1 1 dX12_asks_133 rfl rfl ?_
            refine j_aload_n (pc := 134) hC 0 0 dX12_asks_134 rfl rfl ?_
            refine jgr_12 (pc := 135) hC 27 (by decide) rfl kf_X12_99 dX12_asks_135 ka0 (ly_12_27 hL ka0).1 ?_
            refine j_iload_n (pc := 138) hC 2 2 dX12_asks_138 rfl rfl ?_
            obtain ⟨i55, v56, e57, h⟩ := jrd_some h
            refine j_iald (pc := 139) hC dX12_asks_139 (ly_12_27 hL ka0).2.1 (ly_12_27 hL ka0).2.2 i55 e57 ?_
            refine j_isub (pc := 140) hC dX12_asks_140 ?_
            refine j_mmax (pc := 141) hC hR kx_X12_391 dX12_asks_141 (by decide) (Nat.le_of_ble_eq_true rfl) ?_
            refine jmg (B := jJ X G 4 L 0 0 (jQM X G L (some (.int r)) μ' 0 0) 152 [(0, .ref (L.2.2 a0)), (1, .int z40), (2, .int u43), (3, .int u44)] [.int ((if (jmax v53 (z40 - v56)) ≤ (jmax v47 (z40 - v50)) then u43 else u44))] m41) (fun hj => ?_) ?_
            · refine j_icmp_ge (pc := 144) hC 151 dX12_asks_144 (by decide) (fun c58 => ?_) (fun c58 => ?_)
              · rw [if_pos c58] at hj
                refine j_iload_n (pc := 151) hC 2 2 dX12_asks_151 rfl rfl ?_
                exact hj
              · rw [if_neg c58] at hj
                refine j_iload_n (pc := 147) hC 3 3 dX12_asks_147 rfl rfl ?_
                refine j_goto (pc := 148) hC 152 dX12_asks_148 (by decide) ?_
                exact hj
            obtain ⟨v59, e60, h⟩ := jbd_ex h
            refine j_istore_n (pc := 152) hC 2 [(2, .int v59), (0, .ref (L.2.2 a0)), (1, .int z40), (3, .int u44)] dX12_asks_152 rfl (by decide) e60 rfl ?_
            refine j_iinc (pc := 153) hC 3 (u44 + (1 : Int32)) [(3, .int (u44 + (1 : Int32))), (2, .int v59), (0, .ref (L.2.2 a0)), (1, .int z40)] dX12_asks_153 rfl rfl (by decide) rfl ?_
            refine j_goto (pc := 156) hC 104 dX12_asks_156 (by decide) ?_
            obtain rfl := Option.some.inj h
            have hk : jJ X G 4 L 0 0 (jQM X G L (some (.int r)) μ' 0 0) 104 [(0, .ref (L.2.2 a0)), (1, .int z40), (2, .int v59), (3, .int (u44 + (1 : Int32)))] [] m41 := hk
            exact j_lv [2, 3, 1, 0] rfl hk
        · obtain ⟨z64, rfl⟩ : ∃ y, y = w61 := ⟨_, rfl⟩
          try dsimp only at h
          show jJ X G 4 L 0 0 (jQM X G L (some (.int r)) μ' 0 0) 159 [(0, .ref (L.2.2 a0)), (1, .int z40), (2, .int z64)] [] m41
          refine j_aload_n (pc := 159) hC 0 0 dX12_asks_159 rfl rfl ?_
          refine j_iconst (pc := 160) hC (0 : Int32) dX12_asks_160 (by decide) ?_
          obtain ⟨m65, e66, h⟩ := jbd_ex h
          refine jpi_12 (pc := 161) hC 1 (by decide) rfl kf_X12_11 dX12_asks_161 rfl (by decide) ka0 e66 ?_
          refine j_aload_n (pc := 164) hC 0 0 dX12_asks_164 rfl rfl ?_
          refine j_aload_n (pc := 165) hC 0 0 dX12_asks_165 rfl rfl ?_
          refine jgr_12 (pc := 166) hC 27 (by decide) rfl kf_X12_99 dX12_asks_166 ka0 (ly_12_27 hL ka0).1 ?_
          refine j_iload_n (pc := 169) hC 2 2 dX12_asks_169 rfl rfl ?_
          obtain ⟨i67, v68, e69, h⟩ := jrd_some h
          refine j_iald (pc := 170) hC dX12_asks_170 (ly_12_27 hL ka0).2.1 (ly_12_27 hL ka0).2.2 i67 e69 ?_
          refine j_iload_n (pc := 171) hC 1 1 dX12_asks_171 rfl rfl ?_
          refine j_aload_n (pc := 172) hC 0 0 dX12_asks_172 rfl rfl ?_
          refine jgr_12 (pc := 173) hC 27 (by decide) rfl kf_X12_99 dX12_asks_173 ka0 (ly_12_27 hL ka0).1 ?_
          refine j_iload_n (pc := 176) hC 2 2 dX12_asks_176 rfl rfl ?_
          obtain ⟨i70, v71, e72, h⟩ := jrd_some h
          refine j_iald (pc := 177) hC dX12_asks_177 (ly_12_27 hL ka0).2.1 (ly_12_27 hL ka0).2.2 i70 e72 ?_
          refine j_isub (pc := 178) hC dX12_asks_178 ?_
          refine j_mmax (pc := 179) hC hR kx_X12_391 dX12_asks_179 (by decide) (Nat.le_of_ble_eq_true rfl) ?_
          refine j_i2l (pc := 182) hC dX12_asks_182 ?_
          obtain ⟨m73, e74, h⟩ := jcl_some h
          refine j_vv (pc := 183) hC hR [.long ((jmax v68 (z40 - v71)).toInt64)] iy_X12_enters (q := (RX12, TX12, 40)) (ci := 12) rfl rfl (by decide) km_X12_146 dX12_asks_183 rfl (by decide) ka0 (c_X12_enters hL ka0 e74) (by decide) (Nat.le_of_ble_eq_true rfl) rfl ?_
          refine j_iload_n (pc := 186) hC 2 2 dX12_asks_186 rfl rfl ?_
          obtain ⟨rfl, rfl⟩ := Prod.mk.inj (Option.some.inj h)
          exact j_iret (pc := 187) hC dX12_asks_187 rfl
      · rw [if_pos c42] at h
        refine j_bipush (pc := 97) hC (-2 : Int32) dX12_asks_97 (by decide) ?_
        obtain ⟨rfl, rfl⟩ := Prod.mk.inj (Option.some.inj h)
        exact j_iret (pc := 99) hC dX12_asks_99 rfl
theorem dX12_draws_0 : decode cX12_draws 0 = .ok (.aload_n 0, 1) := by decide +kernel
theorem dX12_draws_1 : decode cX12_draws 1 = .ok (.aload_n 0, 1) := by decide +kernel
theorem dX12_draws_2 : decode cX12_draws 2 = .ok (.getfield 420, 3) := by decide +kernel
theorem dX12_draws_5 : decode cX12_draws 5 = .ok (.ldc_w 423, 3) := by decide +kernel
theorem dX12_draws_8 : decode cX12_draws 8 = .ok (.imul, 1) := by decide +kernel
theorem dX12_draws_9 : decode cX12_draws 9 = .ok (.sipush 12345, 3) := by decide +kernel
theorem dX12_draws_12 : decode cX12_draws 12 = .ok (.iadd, 1) := by decide +kernel
theorem dX12_draws_13 : decode cX12_draws 13 = .ok (.putfield 420, 3) := by decide +kernel
theorem dX12_draws_16 : decode cX12_draws 16 = .ok (.aload_n 0, 1) := by decide +kernel
theorem dX12_draws_17 : decode cX12_draws 17 = .ok (.getfield 420, 3) := by decide +kernel
theorem dX12_draws_20 : decode cX12_draws 20 = .ok (.bipush 16, 2) := by decide +kernel
theorem dX12_draws_22 : decode cX12_draws 22 = .ok (.iushr, 1) := by decide +kernel
theorem dX12_draws_23 : decode cX12_draws 23 = .ok (.iload_n 1, 1) := by decide +kernel
theorem dX12_draws_24 : decode cX12_draws 24 = .ok (.irem, 1) := by decide +kernel
theorem dX12_draws_25 : decode cX12_draws 25 = .ok (.ireturn, 1) := by decide +kernel
def f_X12_draws (a0 : Nat) (x1 : Int32) (μ : jM) : Option (Int32 × jM) :=
  jbd (jsi μ a0 38 (((μ.1 a0 38) * (1103515245 : Int32)) + (12345 : Int32))) (fun m1 => jnz x1 (some (((jushr (m1.1 a0 38) (16 : Int32)) - (jushr (m1.1 a0 38) (16 : Int32)) / x1 * x1, m1))))
set_option maxHeartbeats 4000000 in
set_option maxRecDepth 100000 in
theorem c_X12_draws {l : Launch} {G : jG} {L : jL} (hL : jOKL L) {a0 : Nat} {x1 : Int32} (ka0 : jK L a0 12) {μ μ' : jM} {r : Int32} (h : f_X12_draws a0 x1 μ = some ((r, μ'))) : jCt l G L 3 yX12_draws cX12_draws 2 (some .int) [.ref (L.2.2 a0), .int x1] μ (some (.int r)) μ' := by
  refine jCt_of (by decide) (Nat.le_of_ble_eq_true rfl) (fun X hC hX hR => ?_)
  subst hX
  have hC : jC X G cX12_draws 2 RX12 (some .int) := hC
  unfold f_X12_draws at h
  show jJ X G 2 L 0 0 (jQM X G L (some (.int r)) μ' 0 0) 0 [(0, .ref (L.2.2 a0)), (1, .int x1)] [] μ
  refine j_aload_n (pc := 0) hC 0 0 dX12_draws_0 rfl rfl ?_
  refine j_aload_n (pc := 1) hC 0 0 dX12_draws_1 rfl rfl ?_
  refine jgi_12 (pc := 2) hC 38 (by decide) rfl kf_X12_420 dX12_draws_2 ka0 ?_
  refine j_ldcw (pc := 5) hC dX12_draws_5 kc_X12_423 ?_
  refine j_imul (pc := 8) hC dX12_draws_8 ?_
  refine j_sipush (pc := 9) hC (12345 : Int32) dX12_draws_9 (by decide) ?_
  refine j_iadd (pc := 12) hC dX12_draws_12 ?_
  obtain ⟨m1, e2, h⟩ := jbd_ex h
  refine jpi_12 (pc := 13) hC 38 (by decide) rfl kf_X12_420 dX12_draws_13 rfl (by decide) ka0 e2 ?_
  refine j_aload_n (pc := 16) hC 0 0 dX12_draws_16 rfl rfl ?_
  refine jgi_12 (pc := 17) hC 38 (by decide) rfl kf_X12_420 dX12_draws_17 ka0 ?_
  refine j_bipush (pc := 20) hC (16 : Int32) dX12_draws_20 (by decide) ?_
  refine j_iushr (pc := 22) hC dX12_draws_22 ?_
  refine j_iload_n (pc := 23) hC 1 1 dX12_draws_23 rfl rfl ?_
  obtain ⟨nz3, h⟩ := jnz_some h
  refine j_irem (pc := 24) hC dX12_draws_24 nz3 ?_
  obtain ⟨rfl, rfl⟩ := Prod.mk.inj (Option.some.inj h)
  exact j_iret (pc := 25) hC dX12_draws_25 rfl
theorem dX12_drawnAct_0 : decode cX12_drawnAct 0 = .ok (.aload_n 0, 1) := by decide +kernel
theorem dX12_drawnAct_1 : decode cX12_drawnAct 1 = .ok (.invokevirtual 170, 3) := by decide +kernel
theorem dX12_drawnAct_4 : decode cX12_drawnAct 4 = .ok (.aload_n 0, 1) := by decide +kernel
theorem dX12_drawnAct_5 : decode cX12_drawnAct 5 = .ok (.bipush 8, 2) := by decide +kernel
theorem dX12_drawnAct_7 : decode cX12_drawnAct 7 = .ok (.invokevirtual 424, 3) := by decide +kernel
theorem dX12_drawnAct_10 : decode cX12_drawnAct 10 = .ok (.tableswitch 164 0 6 #[42, 71, 96, 122, 140, 148, 156], 42) := by decide +kernel
theorem dX12_drawnAct_52 : decode cX12_drawnAct 52 = .ok (.aload_n 0, 1) := by decide +kernel
theorem dX12_drawnAct_53 : decode cX12_drawnAct 53 = .ok (.bipush 6, 2) := by decide +kernel
theorem dX12_drawnAct_55 : decode cX12_drawnAct 55 = .ok (.invokevirtual 424, 3) := by decide +kernel
theorem dX12_drawnAct_58 : decode cX12_drawnAct 58 = .ok (.istore_n 1, 1) := by decide +kernel
theorem dX12_drawnAct_59 : decode cX12_drawnAct 59 = .ok (.aload_n 0, 1) := by decide +kernel
theorem dX12_drawnAct_60 : decode cX12_drawnAct 60 = .ok (.aload_n 0, 1) := by decide +kernel
theorem dX12_drawnAct_61 : decode cX12_drawnAct 61 = .ok (.iload_n 1, 1) := by decide +kernel
theorem dX12_drawnAct_62 : decode cX12_drawnAct 62 = .ok (.aload_n 0, 1) := by decide +kernel
theorem dX12_drawnAct_63 : decode cX12_drawnAct 63 = .ok (.bipush 41, 2) := by decide +kernel
theorem dX12_drawnAct_65 : decode cX12_drawnAct 65 = .ok (.invokevirtual 424, 3) := by decide +kernel
theorem dX12_drawnAct_68 : decode cX12_drawnAct 68 = .ok (.bipush 20, 2) := by decide +kernel
theorem dX12_drawnAct_70 : decode cX12_drawnAct 70 = .ok (.isub, 1) := by decide +kernel
theorem dX12_drawnAct_71 : decode cX12_drawnAct 71 = .ok (.invokevirtual 219, 3) := by decide +kernel
theorem dX12_drawnAct_74 : decode cX12_drawnAct 74 = .ok (.invokevirtual 195, 3) := by decide +kernel
theorem dX12_drawnAct_77 : decode cX12_drawnAct 77 = .ok (.pop, 1) := by decide +kernel
theorem dX12_drawnAct_78 : decode cX12_drawnAct 78 = .ok (.goto 105, 3) := by decide +kernel
theorem dX12_drawnAct_81 : decode cX12_drawnAct 81 = .ok (.aload_n 0, 1) := by decide +kernel
theorem dX12_drawnAct_82 : decode cX12_drawnAct 82 = .ok (.iconst 5, 1) := by decide +kernel
theorem dX12_drawnAct_83 : decode cX12_drawnAct 83 = .ok (.invokevirtual 424, 3) := by decide +kernel
theorem dX12_drawnAct_86 : decode cX12_drawnAct 86 = .ok (.istore_n 1, 1) := by decide +kernel
theorem dX12_drawnAct_87 : decode cX12_drawnAct 87 = .ok (.aload_n 0, 1) := by decide +kernel
theorem dX12_drawnAct_88 : decode cX12_drawnAct 88 = .ok (.aload_n 0, 1) := by decide +kernel
theorem dX12_drawnAct_89 : decode cX12_drawnAct 89 = .ok (.iload_n 1, 1) := by decide +kernel
theorem dX12_drawnAct_90 : decode cX12_drawnAct 90 = .ok (.aload_n 0, 1) := by decide +kernel
theorem dX12_drawnAct_91 : decode cX12_drawnAct 91 = .ok (.bipush 6, 2) := by decide +kernel
theorem dX12_drawnAct_93 : decode cX12_drawnAct 93 = .ok (.invokevirtual 424, 3) := by decide +kernel
theorem dX12_drawnAct_96 : decode cX12_drawnAct 96 = .ok (.invokevirtual 222, 3) := by decide +kernel
theorem dX12_drawnAct_99 : decode cX12_drawnAct 99 = .ok (.invokevirtual 195, 3) := by decide +kernel
theorem dX12_drawnAct_102 : decode cX12_drawnAct 102 = .ok (.pop, 1) := by decide +kernel
theorem dX12_drawnAct_103 : decode cX12_drawnAct 103 = .ok (.goto 80, 3) := by decide +kernel
theorem dX12_drawnAct_106 : decode cX12_drawnAct 106 = .ok (.aload_n 0, 1) := by decide +kernel
theorem dX12_drawnAct_107 : decode cX12_drawnAct 107 = .ok (.bipush 10, 2) := by decide +kernel
theorem dX12_drawnAct_109 : decode cX12_drawnAct 109 = .ok (.invokevirtual 424, 3) := by decide +kernel
theorem dX12_drawnAct_112 : decode cX12_drawnAct 112 = .ok (.istore_n 1, 1) := by decide +kernel
theorem dX12_drawnAct_113 : decode cX12_drawnAct 113 = .ok (.aload_n 0, 1) := by decide +kernel
theorem dX12_drawnAct_114 : decode cX12_drawnAct 114 = .ok (.aload_n 0, 1) := by decide +kernel
theorem dX12_drawnAct_115 : decode cX12_drawnAct 115 = .ok (.iload_n 1, 1) := by decide +kernel
theorem dX12_drawnAct_116 : decode cX12_drawnAct 116 = .ok (.aload_n 0, 1) := by decide +kernel
theorem dX12_drawnAct_117 : decode cX12_drawnAct 117 = .ok (.bipush 100, 2) := by decide +kernel
theorem dX12_drawnAct_119 : decode cX12_drawnAct 119 = .ok (.invokevirtual 424, 3) := by decide +kernel
theorem dX12_drawnAct_122 : decode cX12_drawnAct 122 = .ok (.invokevirtual 232, 3) := by decide +kernel
theorem dX12_drawnAct_125 : decode cX12_drawnAct 125 = .ok (.invokevirtual 195, 3) := by decide +kernel
theorem dX12_drawnAct_128 : decode cX12_drawnAct 128 = .ok (.pop, 1) := by decide +kernel
theorem dX12_drawnAct_129 : decode cX12_drawnAct 129 = .ok (.goto 54, 3) := by decide +kernel
theorem dX12_drawnAct_132 : decode cX12_drawnAct 132 = .ok (.aload_n 0, 1) := by decide +kernel
theorem dX12_drawnAct_133 : decode cX12_drawnAct 133 = .ok (.aload_n 0, 1) := by decide +kernel
theorem dX12_drawnAct_134 : decode cX12_drawnAct 134 = .ok (.aload_n 0, 1) := by decide +kernel
theorem dX12_drawnAct_135 : decode cX12_drawnAct 135 = .ok (.bipush 10, 2) := by decide +kernel
theorem dX12_drawnAct_137 : decode cX12_drawnAct 137 = .ok (.invokevirtual 424, 3) := by decide +kernel
theorem dX12_drawnAct_140 : decode cX12_drawnAct 140 = .ok (.invokevirtual 235, 3) := by decide +kernel
theorem dX12_drawnAct_143 : decode cX12_drawnAct 143 = .ok (.invokevirtual 195, 3) := by decide +kernel
theorem dX12_drawnAct_146 : decode cX12_drawnAct 146 = .ok (.pop, 1) := by decide +kernel
theorem dX12_drawnAct_147 : decode cX12_drawnAct 147 = .ok (.goto 36, 3) := by decide +kernel
theorem dX12_drawnAct_150 : decode cX12_drawnAct 150 = .ok (.aload_n 0, 1) := by decide +kernel
theorem dX12_drawnAct_151 : decode cX12_drawnAct 151 = .ok (.invokevirtual 167, 3) := by decide +kernel
theorem dX12_drawnAct_154 : decode cX12_drawnAct 154 = .ok (.pop, 1) := by decide +kernel
theorem dX12_drawnAct_155 : decode cX12_drawnAct 155 = .ok (.goto 28, 3) := by decide +kernel
theorem dX12_drawnAct_158 : decode cX12_drawnAct 158 = .ok (.aload_n 0, 1) := by decide +kernel
theorem dX12_drawnAct_159 : decode cX12_drawnAct 159 = .ok (.invokevirtual 173, 3) := by decide +kernel
theorem dX12_drawnAct_162 : decode cX12_drawnAct 162 = .ok (.pop, 1) := by decide +kernel
theorem dX12_drawnAct_163 : decode cX12_drawnAct 163 = .ok (.goto 20, 3) := by decide +kernel
theorem dX12_drawnAct_166 : decode cX12_drawnAct 166 = .ok (.aload_n 0, 1) := by decide +kernel
theorem dX12_drawnAct_167 : decode cX12_drawnAct 167 = .ok (.invokevirtual 179, 3) := by decide +kernel
theorem dX12_drawnAct_170 : decode cX12_drawnAct 170 = .ok (.pop, 1) := by decide +kernel
theorem dX12_drawnAct_171 : decode cX12_drawnAct 171 = .ok (.goto 12, 3) := by decide +kernel
theorem dX12_drawnAct_174 : decode cX12_drawnAct 174 = .ok (.aload_n 0, 1) := by decide +kernel
theorem dX12_drawnAct_175 : decode cX12_drawnAct 175 = .ok (.aload_n 0, 1) := by decide +kernel
theorem dX12_drawnAct_176 : decode cX12_drawnAct 176 = .ok (.invokevirtual 290, 3) := by decide +kernel
theorem dX12_drawnAct_179 : decode cX12_drawnAct 179 = .ok (.invokevirtual 195, 3) := by decide +kernel
theorem dX12_drawnAct_182 : decode cX12_drawnAct 182 = .ok (.pop, 1) := by decide +kernel
theorem dX12_drawnAct_183 : decode cX12_drawnAct 183 = .ok (.return_, 1) := by decide +kernel
def f_X12_drawnAct (a0 : Nat) (μ : jM) : Option (jM) :=
  jcl (f_X12_begins a0 μ) (fun m1 => jcl2 (f_X12_draws a0 (8 : Int32) m1) (fun v3 m4 => (if v3 = (0 : Int32) then jcl2 (f_X12_draws a0 (6 : Int32) m4) (fun v7 m8 => jcl2 (f_X12_draws a0 (41 : Int32) m8) (fun v10 m11 => jcl2 (f_X12_addsOne a0 v7 (v10 - (20 : Int32)) m11) (fun v13 m14 => jcl2 (f_X12_ends a0 v13 m14) (fun v16 m17 => some m17)))) else (if v3 = (1 : Int32) then jcl2 (f_X12_draws a0 (5 : Int32) m4) (fun v20 m21 => jcl2 (f_X12_draws a0 (6 : Int32) m21) (fun v23 m24 => jcl2 (f_X12_removesOne a0 v20 v23 m24) (fun v26 m27 => jcl2 (f_X12_ends a0 v26 m27) (fun v29 m30 => some m30)))) else (if v3 = (2 : Int32) then jcl2 (f_X12_draws a0 (10 : Int32) m4) (fun v33 m34 => jcl2 (f_X12_draws a0 (100 : Int32) m34) (fun v36 m37 => jcl2 (f_X12_putsOne a0 v33 v36 m37) (fun v39 m40 => jcl2 (f_X12_ends a0 v39 m40) (fun v42 m43 => some m43)))) else (if v3 = (3 : Int32) then jcl2 (f_X12_draws a0 (10 : Int32) m4) (fun v46 m47 => jcl2 (f_X12_dropsOne a0 v46 m47) (fun v49 m50 => jcl2 (f_X12_ends a0 v49 m50) (fun v52 m53 => some m53))) else (if v3 = (4 : Int32) then jcl2 (f_X12_opensOne a0 m4) (fun v56 m57 => some m57) else (if v3 = (5 : Int32) then jcl2 (f_X12_closesOne a0 m4) (fun v60 m61 => some m61) else (if v3 = (6 : Int32) then jcl2 (f_X12_commitsOne a0 m4) (fun v64 m65 => some m65) else jcl2 (f_X12_spreadsOne a0 m4) (fun v67 m68 => jcl2 (f_X12_ends a0 v67 m68) (fun v70 m71 => some m71)))))))))))
set_option maxHeartbeats 4000000 in
set_option maxRecDepth 100000 in
theorem c_X12_drawnAct {l : Launch} {G : jG} {L : jL} (hL : jOKL L) {a0 : Nat} (ka0 : jK L a0 12) {μ μ' : jM} (h : f_X12_drawnAct a0 μ = some μ') : jCt l G L 15 yX12_drawnAct cX12_drawnAct 2 none [.ref (L.2.2 a0)] μ none μ' := by
  refine jCt_of (by decide) (Nat.le_of_ble_eq_true rfl) (fun X hC hX hR => ?_)
  subst hX
  have hC : jC X G cX12_drawnAct 2 RX12 none := hC
  unfold f_X12_drawnAct at h
  show jJ X G 2 L 0 0 (jQM X G L none μ' 0 0) 0 [(0, .ref (L.2.2 a0))] [] μ
  refine j_aload_n (pc := 0) hC 0 0 dX12_drawnAct_0 rfl rfl ?_
  obtain ⟨m1, e2, h⟩ := jcl_some h
  refine j_vv (pc := 1) hC hR [] iy_X12_begins (q := (RX12, TX12, 40)) (ci := 12) rfl rfl (by decide) km_X12_170 dX12_drawnAct_1 rfl (by decide) ka0 (c_X12_begins hL ka0 e2) (by decide) (Nat.le_of_ble_eq_true rfl) rfl ?_
  refine j_aload_n (pc := 4) hC 0 0 dX12_drawnAct_4 rfl rfl ?_
  refine j_bipush (pc := 5) hC (8 : Int32) dX12_drawnAct_5 (by decide) ?_
  obtain ⟨v3, m4, e5, h⟩ := jcl2_some h
  refine j_vi (pc := 7) hC hR [.int (8 : Int32)] iy_X12_draws (q := (RX12, TX12, 40)) (ci := 12) rfl rfl (by decide) km_X12_424 dX12_drawnAct_7 rfl (by decide) ka0 (c_X12_draws hL ka0 e5) (by decide) (Nat.le_of_ble_eq_true rfl) rfl ?_
  by_cases c6 : v3 = (0 : Int32)
  · rw [if_pos c6] at h
    refine j_tableIn (pc := 10) hC 52 dX12_drawnAct_10 (by rw [c6]; decide) (by rw [c6]; decide) (by rw [c6]; rfl) (by decide) ?_
    refine j_aload_n (pc := 52) hC 0 0 dX12_drawnAct_52 rfl rfl ?_
    refine j_bipush (pc := 53) hC (6 : Int32) dX12_drawnAct_53 (by decide) ?_
    obtain ⟨v7, m8, e9, h⟩ := jcl2_some h
    refine j_vi (pc := 55) hC hR [.int (6 : Int32)] iy_X12_draws (q := (RX12, TX12, 40)) (ci := 12) rfl rfl (by decide) km_X12_424 dX12_drawnAct_55 rfl (by decide) ka0 (c_X12_draws hL ka0 e9) (by decide) (Nat.le_of_ble_eq_true rfl) rfl ?_
    refine j_istore_n (pc := 58) hC 1 [(1, .int v7), (0, .ref (L.2.2 a0))] dX12_drawnAct_58 rfl (by decide) rfl rfl ?_
    refine j_aload_n (pc := 59) hC 0 1 dX12_drawnAct_59 rfl rfl ?_
    refine j_aload_n (pc := 60) hC 0 1 dX12_drawnAct_60 rfl rfl ?_
    refine j_iload_n (pc := 61) hC 1 0 dX12_drawnAct_61 rfl rfl ?_
    refine j_aload_n (pc := 62) hC 0 1 dX12_drawnAct_62 rfl rfl ?_
    refine j_bipush (pc := 63) hC (41 : Int32) dX12_drawnAct_63 (by decide) ?_
    obtain ⟨v10, m11, e12, h⟩ := jcl2_some h
    refine j_vi (pc := 65) hC hR [.int (41 : Int32)] iy_X12_draws (q := (RX12, TX12, 40)) (ci := 12) rfl rfl (by decide) km_X12_424 dX12_drawnAct_65 rfl (by decide) ka0 (c_X12_draws hL ka0 e12) (by decide) (Nat.le_of_ble_eq_true rfl) rfl ?_
    refine j_bipush (pc := 68) hC (20 : Int32) dX12_drawnAct_68 (by decide) ?_
    refine j_isub (pc := 70) hC dX12_drawnAct_70 ?_
    obtain ⟨v13, m14, e15, h⟩ := jcl2_some h
    refine j_vi (pc := 71) hC hR [.int v7, .int (v10 - (20 : Int32))] iy_X12_addsOne (q := (RX12, TX12, 40)) (ci := 12) rfl rfl (by decide) km_X12_219 dX12_drawnAct_71 rfl (by decide) ka0 (c_X12_addsOne hL ka0 e15) (by decide) (Nat.le_of_ble_eq_true rfl) rfl ?_
    obtain ⟨v16, m17, e18, h⟩ := jcl2_some h
    refine j_vi (pc := 74) hC hR [.int v13] iy_X12_ends (q := (RX12, TX12, 40)) (ci := 12) rfl rfl (by decide) km_X12_195 dX12_drawnAct_74 rfl (by decide) ka0 (c_X12_ends hL ka0 e18) (by decide) (Nat.le_of_ble_eq_true rfl) rfl ?_
    refine j_pop (pc := 77) hC dX12_drawnAct_77 rfl ?_
    refine j_goto (pc := 78) hC 183 dX12_drawnAct_78 (by decide) ?_
    obtain rfl := Option.some.inj h
    exact j_vret (pc := 183) hC dX12_drawnAct_183 rfl
  · rw [if_neg c6] at h
    by_cases c19 : v3 = (1 : Int32)
    · rw [if_pos c19] at h
      refine j_tableIn (pc := 10) hC 81 dX12_drawnAct_10 (by rw [c19]; decide) (by rw [c19]; decide) (by rw [c19]; rfl) (by decide) ?_
      refine j_aload_n (pc := 81) hC 0 0 dX12_drawnAct_81 rfl rfl ?_
      refine j_iconst (pc := 82) hC (5 : Int32) dX12_drawnAct_82 (by decide) ?_
      obtain ⟨v20, m21, e22, h⟩ := jcl2_some h
      refine j_vi (pc := 83) hC hR [.int (5 : Int32)] iy_X12_draws (q := (RX12, TX12, 40)) (ci := 12) rfl rfl (by decide) km_X12_424 dX12_drawnAct_83 rfl (by decide) ka0 (c_X12_draws hL ka0 e22) (by decide) (Nat.le_of_ble_eq_true rfl) rfl ?_
      refine j_istore_n (pc := 86) hC 1 [(1, .int v20), (0, .ref (L.2.2 a0))] dX12_drawnAct_86 rfl (by decide) rfl rfl ?_
      refine j_aload_n (pc := 87) hC 0 1 dX12_drawnAct_87 rfl rfl ?_
      refine j_aload_n (pc := 88) hC 0 1 dX12_drawnAct_88 rfl rfl ?_
      refine j_iload_n (pc := 89) hC 1 0 dX12_drawnAct_89 rfl rfl ?_
      refine j_aload_n (pc := 90) hC 0 1 dX12_drawnAct_90 rfl rfl ?_
      refine j_bipush (pc := 91) hC (6 : Int32) dX12_drawnAct_91 (by decide) ?_
      obtain ⟨v23, m24, e25, h⟩ := jcl2_some h
      refine j_vi (pc := 93) hC hR [.int (6 : Int32)] iy_X12_draws (q := (RX12, TX12, 40)) (ci := 12) rfl rfl (by decide) km_X12_424 dX12_drawnAct_93 rfl (by decide) ka0 (c_X12_draws hL ka0 e25) (by decide) (Nat.le_of_ble_eq_true rfl) rfl ?_
      obtain ⟨v26, m27, e28, h⟩ := jcl2_some h
      refine j_vi (pc := 96) hC hR [.int v20, .int v23] iy_X12_removesOne (q := (RX12, TX12, 40)) (ci := 12) rfl rfl (by decide) km_X12_222 dX12_drawnAct_96 rfl (by decide) ka0 (c_X12_removesOne hL ka0 e28) (by decide) (Nat.le_of_ble_eq_true rfl) rfl ?_
      obtain ⟨v29, m30, e31, h⟩ := jcl2_some h
      refine j_vi (pc := 99) hC hR [.int v26] iy_X12_ends (q := (RX12, TX12, 40)) (ci := 12) rfl rfl (by decide) km_X12_195 dX12_drawnAct_99 rfl (by decide) ka0 (c_X12_ends hL ka0 e31) (by decide) (Nat.le_of_ble_eq_true rfl) rfl ?_
      refine j_pop (pc := 102) hC dX12_drawnAct_102 rfl ?_
      refine j_goto (pc := 103) hC 183 dX12_drawnAct_103 (by decide) ?_
      obtain rfl := Option.some.inj h
      exact j_vret (pc := 183) hC dX12_drawnAct_183 rfl
    · rw [if_neg c19] at h
      by_cases c32 : v3 = (2 : Int32)
      · rw [if_pos c32] at h
        refine j_tableIn (pc := 10) hC 106 dX12_drawnAct_10 (by rw [c32]; decide) (by rw [c32]; decide) (by rw [c32]; rfl) (by decide) ?_
        refine j_aload_n (pc := 106) hC 0 0 dX12_drawnAct_106 rfl rfl ?_
        refine j_bipush (pc := 107) hC (10 : Int32) dX12_drawnAct_107 (by decide) ?_
        obtain ⟨v33, m34, e35, h⟩ := jcl2_some h
        refine j_vi (pc := 109) hC hR [.int (10 : Int32)] iy_X12_draws (q := (RX12, TX12, 40)) (ci := 12) rfl rfl (by decide) km_X12_424 dX12_drawnAct_109 rfl (by decide) ka0 (c_X12_draws hL ka0 e35) (by decide) (Nat.le_of_ble_eq_true rfl) rfl ?_
        refine j_istore_n (pc := 112) hC 1 [(1, .int v33), (0, .ref (L.2.2 a0))] dX12_drawnAct_112 rfl (by decide) rfl rfl ?_
        refine j_aload_n (pc := 113) hC 0 1 dX12_drawnAct_113 rfl rfl ?_
        refine j_aload_n (pc := 114) hC 0 1 dX12_drawnAct_114 rfl rfl ?_
        refine j_iload_n (pc := 115) hC 1 0 dX12_drawnAct_115 rfl rfl ?_
        refine j_aload_n (pc := 116) hC 0 1 dX12_drawnAct_116 rfl rfl ?_
        refine j_bipush (pc := 117) hC (100 : Int32) dX12_drawnAct_117 (by decide) ?_
        obtain ⟨v36, m37, e38, h⟩ := jcl2_some h
        refine j_vi (pc := 119) hC hR [.int (100 : Int32)] iy_X12_draws (q := (RX12, TX12, 40)) (ci := 12) rfl rfl (by decide) km_X12_424 dX12_drawnAct_119 rfl (by decide) ka0 (c_X12_draws hL ka0 e38) (by decide) (Nat.le_of_ble_eq_true rfl) rfl ?_
        obtain ⟨v39, m40, e41, h⟩ := jcl2_some h
        refine j_vi (pc := 122) hC hR [.int v33, .int v36] iy_X12_putsOne (q := (RX12, TX12, 40)) (ci := 12) rfl rfl (by decide) km_X12_232 dX12_drawnAct_122 rfl (by decide) ka0 (c_X12_putsOne hL ka0 e41) (by decide) (Nat.le_of_ble_eq_true rfl) rfl ?_
        obtain ⟨v42, m43, e44, h⟩ := jcl2_some h
        refine j_vi (pc := 125) hC hR [.int v39] iy_X12_ends (q := (RX12, TX12, 40)) (ci := 12) rfl rfl (by decide) km_X12_195 dX12_drawnAct_125 rfl (by decide) ka0 (c_X12_ends hL ka0 e44) (by decide) (Nat.le_of_ble_eq_true rfl) rfl ?_
        refine j_pop (pc := 128) hC dX12_drawnAct_128 rfl ?_
        refine j_goto (pc := 129) hC 183 dX12_drawnAct_129 (by decide) ?_
        obtain rfl := Option.some.inj h
        exact j_vret (pc := 183) hC dX12_drawnAct_183 rfl
      · rw [if_neg c32] at h
        by_cases c45 : v3 = (3 : Int32)
        · rw [if_pos c45] at h
          refine j_tableIn (pc := 10) hC 132 dX12_drawnAct_10 (by rw [c45]; decide) (by rw [c45]; decide) (by rw [c45]; rfl) (by decide) ?_
          refine j_aload_n (pc := 132) hC 0 0 dX12_drawnAct_132 rfl rfl ?_
          refine j_aload_n (pc := 133) hC 0 0 dX12_drawnAct_133 rfl rfl ?_
          refine j_aload_n (pc := 134) hC 0 0 dX12_drawnAct_134 rfl rfl ?_
          refine j_bipush (pc := 135) hC (10 : Int32) dX12_drawnAct_135 (by decide) ?_
          obtain ⟨v46, m47, e48, h⟩ := jcl2_some h
          refine j_vi (pc := 137) hC hR [.int (10 : Int32)] iy_X12_draws (q := (RX12, TX12, 40)) (ci := 12) rfl rfl (by decide) km_X12_424 dX12_drawnAct_137 rfl (by decide) ka0 (c_X12_draws hL ka0 e48) (by decide) (Nat.le_of_ble_eq_true rfl) rfl ?_
          obtain ⟨v49, m50, e51, h⟩ := jcl2_some h
          refine j_vi (pc := 140) hC hR [.int v46] iy_X12_dropsOne (q := (RX12, TX12, 40)) (ci := 12) rfl rfl (by decide) km_X12_235 dX12_drawnAct_140 rfl (by decide) ka0 (c_X12_dropsOne hL ka0 e51) (by decide) (Nat.le_of_ble_eq_true rfl) rfl ?_
          obtain ⟨v52, m53, e54, h⟩ := jcl2_some h
          refine j_vi (pc := 143) hC hR [.int v49] iy_X12_ends (q := (RX12, TX12, 40)) (ci := 12) rfl rfl (by decide) km_X12_195 dX12_drawnAct_143 rfl (by decide) ka0 (c_X12_ends hL ka0 e54) (by decide) (Nat.le_of_ble_eq_true rfl) rfl ?_
          refine j_pop (pc := 146) hC dX12_drawnAct_146 rfl ?_
          refine j_goto (pc := 147) hC 183 dX12_drawnAct_147 (by decide) ?_
          obtain rfl := Option.some.inj h
          exact j_vret (pc := 183) hC dX12_drawnAct_183 rfl
        · rw [if_neg c45] at h
          by_cases c55 : v3 = (4 : Int32)
          · rw [if_pos c55] at h
            refine j_tableIn (pc := 10) hC 150 dX12_drawnAct_10 (by rw [c55]; decide) (by rw [c55]; decide) (by rw [c55]; rfl) (by decide) ?_
            refine j_aload_n (pc := 150) hC 0 0 dX12_drawnAct_150 rfl rfl ?_
            obtain ⟨v56, m57, e58, h⟩ := jcl2_some h
            refine j_vi (pc := 151) hC hR [] iy_X12_opensOne (q := (RX12, TX12, 40)) (ci := 12) rfl rfl (by decide) km_X12_167 dX12_drawnAct_151 rfl (by decide) ka0 (c_X12_opensOne hL ka0 e58) (by decide) (Nat.le_of_ble_eq_true rfl) rfl ?_
            refine j_pop (pc := 154) hC dX12_drawnAct_154 rfl ?_
            refine j_goto (pc := 155) hC 183 dX12_drawnAct_155 (by decide) ?_
            obtain rfl := Option.some.inj h
            exact j_vret (pc := 183) hC dX12_drawnAct_183 rfl
          · rw [if_neg c55] at h
            by_cases c59 : v3 = (5 : Int32)
            · rw [if_pos c59] at h
              refine j_tableIn (pc := 10) hC 158 dX12_drawnAct_10 (by rw [c59]; decide) (by rw [c59]; decide) (by rw [c59]; rfl) (by decide) ?_
              refine j_aload_n (pc := 158) hC 0 0 dX12_drawnAct_158 rfl rfl ?_
              obtain ⟨v60, m61, e62, h⟩ := jcl2_some h
              refine j_vi (pc := 159) hC hR [] iy_X12_closesOne (q := (RX12, TX12, 40)) (ci := 12) rfl rfl (by decide) km_X12_173 dX12_drawnAct_159 rfl (by decide) ka0 (c_X12_closesOne hL ka0 e62) (by decide) (Nat.le_of_ble_eq_true rfl) rfl ?_
              refine j_pop (pc := 162) hC dX12_drawnAct_162 rfl ?_
              refine j_goto (pc := 163) hC 183 dX12_drawnAct_163 (by decide) ?_
              obtain rfl := Option.some.inj h
              exact j_vret (pc := 183) hC dX12_drawnAct_183 rfl
            · rw [if_neg c59] at h
              by_cases c63 : v3 = (6 : Int32)
              · rw [if_pos c63] at h
                refine j_tableIn (pc := 10) hC 166 dX12_drawnAct_10 (by rw [c63]; decide) (by rw [c63]; decide) (by rw [c63]; rfl) (by decide) ?_
                refine j_aload_n (pc := 166) hC 0 0 dX12_drawnAct_166 rfl rfl ?_
                obtain ⟨v64, m65, e66, h⟩ := jcl2_some h
                refine j_vi (pc := 167) hC hR [] iy_X12_commitsOne (q := (RX12, TX12, 40)) (ci := 12) rfl rfl (by decide) km_X12_179 dX12_drawnAct_167 rfl (by decide) ka0 (c_X12_commitsOne hL ka0 e66) (by decide) (Nat.le_of_ble_eq_true rfl) rfl ?_
                refine j_pop (pc := 170) hC dX12_drawnAct_170 rfl ?_
                refine j_goto (pc := 171) hC 183 dX12_drawnAct_171 (by decide) ?_
                obtain rfl := Option.some.inj h
                exact j_vret (pc := 183) hC dX12_drawnAct_183 rfl
              · rw [if_neg c63] at h
                refine j_tableOut (pc := 10) hC 174 dX12_drawnAct_10 (by have := lv_neT c6 (show (0 : Int32).toInt = 0 by decide); have := lv_neT c19 (show (1 : Int32).toInt = 1 by decide); have := lv_neT c32 (show (2 : Int32).toInt = 2 by decide); have := lv_neT c45 (show (3 : Int32).toInt = 3 by decide); have := lv_neT c55 (show (4 : Int32).toInt = 4 by decide); have := lv_neT c59 (show (5 : Int32).toInt = 5 by decide); have := lv_neT c63 (show (6 : Int32).toInt = 6 by decide); omega) (by decide) ?_
                refine j_aload_n (pc := 174) hC 0 0 dX12_drawnAct_174 rfl rfl ?_
                refine j_aload_n (pc := 175) hC 0 0 dX12_drawnAct_175 rfl rfl ?_
                obtain ⟨v67, m68, e69, h⟩ := jcl2_some h
                refine j_vi (pc := 176) hC hR [] iy_X12_spreadsOne (q := (RX12, TX12, 40)) (ci := 12) rfl rfl (by decide) km_X12_290 dX12_drawnAct_176 rfl (by decide) ka0 (c_X12_spreadsOne hL ka0 e69) (by decide) (Nat.le_of_ble_eq_true rfl) rfl ?_
                obtain ⟨v70, m71, e72, h⟩ := jcl2_some h
                refine j_vi (pc := 179) hC hR [.int v67] iy_X12_ends (q := (RX12, TX12, 40)) (ci := 12) rfl rfl (by decide) km_X12_195 dX12_drawnAct_179 rfl (by decide) ka0 (c_X12_ends hL ka0 e72) (by decide) (Nat.le_of_ble_eq_true rfl) rfl ?_
                refine j_pop (pc := 182) hC dX12_drawnAct_182 rfl ?_
                obtain rfl := Option.some.inj h
                exact j_vret (pc := 183) hC dX12_drawnAct_183 rfl
theorem dX12_years_0 : decode cX12_years 0 = .ok (.aload_n 0, 1) := by decide +kernel
theorem dX12_years_1 : decode cX12_years 1 = .ok (.iconst 0, 1) := by decide +kernel
theorem dX12_years_2 : decode cX12_years 2 = .ok (.putfield 1, 3) := by decide +kernel
theorem dX12_years_5 : decode cX12_years 5 = .ok (.iload_n 2, 1) := by decide +kernel
theorem dX12_years_6 : decode cX12_years 6 = .ok (.i2l, 1) := by decide +kernel
theorem dX12_years_7 : decode cX12_years 7 = .ok (.lconst 1, 1) := by decide +kernel
theorem dX12_years_8 : decode cX12_years 8 = .ok (.ldc2_w 427, 3) := by decide +kernel
theorem dX12_years_11 : decode cX12_years 11 = .ok (.invokestatic 21, 3) := by decide +kernel
theorem dX12_years_14 : decode cX12_years 14 = .ok (.ifCond .ne 5, 3) := by decide +kernel
theorem dX12_years_17 : decode cX12_years 17 = .ok (.iconst (-1), 1) := by decide +kernel
theorem dX12_years_18 : decode cX12_years 18 = .ok (.ireturn, 1) := by decide +kernel
theorem dX12_years_19 : decode cX12_years 19 = .ok (.aload_n 0, 1) := by decide +kernel
theorem dX12_years_20 : decode cX12_years 20 = .ok (.iload_n 1, 1) := by decide +kernel
theorem dX12_years_21 : decode cX12_years 21 = .ok (.putfield 420, 3) := by decide +kernel
theorem dX12_years_24 : decode cX12_years 24 = .ok (.aload_n 0, 1) := by decide +kernel
theorem dX12_years_25 : decode cX12_years 25 = .ok (.bipush 23, 2) := by decide +kernel
theorem dX12_years_27 : decode cX12_years 27 = .ok (.invokevirtual 353, 3) := by decide +kernel
theorem dX12_years_30 : decode cX12_years 30 = .ok (.iconst 0, 1) := by decide +kernel
theorem dX12_years_31 : decode cX12_years 31 = .ok (.istore_n 3, 1) := by decide +kernel
theorem dX12_years_32 : decode cX12_years 32 = .ok (.iload_n 3, 1) := by decide +kernel
theorem dX12_years_33 : decode cX12_years 33 = .ok (.iload_n 2, 1) := by decide +kernel
theorem dX12_years_34 : decode cX12_years 34 = .ok (.if_icmp .ge 13, 3) := by decide +kernel
theorem dX12_years_37 : decode cX12_years 37 = .ok (.aload_n 0, 1) := by decide +kernel
theorem dX12_years_38 : decode cX12_years 38 = .ok (.invokevirtual 429, 3) := by decide +kernel
theorem dX12_years_41 : decode cX12_years 41 = .ok (.iinc 3 1, 3) := by decide +kernel
theorem dX12_years_44 : decode cX12_years 44 = .ok (.goto (-12), 3) := by decide +kernel
theorem dX12_years_47 : decode cX12_years 47 = .ok (.iconst 0, 1) := by decide +kernel
theorem dX12_years_48 : decode cX12_years 48 = .ok (.istore_n 3, 1) := by decide +kernel
theorem dX12_years_49 : decode cX12_years 49 = .ok (.iconst 0, 1) := by decide +kernel
theorem dX12_years_50 : decode cX12_years 50 = .ok (.istore 4, 2) := by decide +kernel
theorem dX12_years_52 : decode cX12_years 52 = .ok (.iload 4, 2) := by decide +kernel
theorem dX12_years_54 : decode cX12_years 54 = .ok (.bipush 6, 2) := by decide +kernel
theorem dX12_years_56 : decode cX12_years 56 = .ok (.if_icmp .ge 19, 3) := by decide +kernel
theorem dX12_years_59 : decode cX12_years 59 = .ok (.iload_n 3, 1) := by decide +kernel
theorem dX12_years_60 : decode cX12_years 60 = .ok (.aload_n 0, 1) := by decide +kernel
theorem dX12_years_61 : decode cX12_years 61 = .ok (.getfield 60, 3) := by decide +kernel
theorem dX12_years_64 : decode cX12_years 64 = .ok (.iload 4, 2) := by decide +kernel
theorem dX12_years_66 : decode cX12_years 66 = .ok (.iaload, 1) := by decide +kernel
theorem dX12_years_67 : decode cX12_years 67 = .ok (.iadd, 1) := by decide +kernel
theorem dX12_years_68 : decode cX12_years 68 = .ok (.istore_n 3, 1) := by decide +kernel
theorem dX12_years_69 : decode cX12_years 69 = .ok (.iinc 4 1, 3) := by decide +kernel
theorem dX12_years_72 : decode cX12_years 72 = .ok (.goto (-20), 3) := by decide +kernel
theorem dX12_years_75 : decode cX12_years 75 = .ok (.aload_n 0, 1) := by decide +kernel
theorem dX12_years_76 : decode cX12_years 76 = .ok (.iconst 0, 1) := by decide +kernel
theorem dX12_years_77 : decode cX12_years 77 = .ok (.putfield 11, 3) := by decide +kernel
theorem dX12_years_80 : decode cX12_years 80 = .ok (.aload_n 0, 1) := by decide +kernel
theorem dX12_years_81 : decode cX12_years 81 = .ok (.iload_n 3, 1) := by decide +kernel
theorem dX12_years_82 : decode cX12_years 82 = .ok (.i2l, 1) := by decide +kernel
theorem dX12_years_83 : decode cX12_years 83 = .ok (.invokevirtual 146, 3) := by decide +kernel
theorem dX12_years_86 : decode cX12_years 86 = .ok (.aload_n 0, 1) := by decide +kernel
theorem dX12_years_87 : decode cX12_years 87 = .ok (.aload_n 0, 1) := by decide +kernel
theorem dX12_years_88 : decode cX12_years 88 = .ok (.invokevirtual 283, 3) := by decide +kernel
theorem dX12_years_91 : decode cX12_years 91 = .ok (.i2l, 1) := by decide +kernel
theorem dX12_years_92 : decode cX12_years 92 = .ok (.invokevirtual 146, 3) := by decide +kernel
theorem dX12_years_95 : decode cX12_years 95 = .ok (.aload_n 0, 1) := by decide +kernel
theorem dX12_years_96 : decode cX12_years 96 = .ok (.aload_n 0, 1) := by decide +kernel
theorem dX12_years_97 : decode cX12_years 97 = .ok (.getfield 60, 3) := by decide +kernel
theorem dX12_years_100 : decode cX12_years 100 = .ok (.bipush 11, 2) := by decide +kernel
theorem dX12_years_102 : decode cX12_years 102 = .ok (.iaload, 1) := by decide +kernel
theorem dX12_years_103 : decode cX12_years 103 = .ok (.i2l, 1) := by decide +kernel
theorem dX12_years_104 : decode cX12_years 104 = .ok (.invokevirtual 146, 3) := by decide +kernel
theorem dX12_years_107 : decode cX12_years 107 = .ok (.aload_n 0, 1) := by decide +kernel
theorem dX12_years_108 : decode cX12_years 108 = .ok (.aload_n 0, 1) := by decide +kernel
theorem dX12_years_109 : decode cX12_years 109 = .ok (.invokevirtual 432, 3) := by decide +kernel
theorem dX12_years_112 : decode cX12_years 112 = .ok (.i2l, 1) := by decide +kernel
theorem dX12_years_113 : decode cX12_years 113 = .ok (.invokevirtual 146, 3) := by decide +kernel
theorem dX12_years_116 : decode cX12_years 116 = .ok (.aload_n 0, 1) := by decide +kernel
theorem dX12_years_117 : decode cX12_years 117 = .ok (.getfield 158, 3) := by decide +kernel
theorem dX12_years_120 : decode cX12_years 120 = .ok (.istore 4, 2) := by decide +kernel
theorem dX12_years_122 : decode cX12_years 122 = .ok (.aload_n 0, 1) := by decide +kernel
theorem dX12_years_123 : decode cX12_years 123 = .ok (.bipush 23, 2) := by decide +kernel
theorem dX12_years_125 : decode cX12_years 125 = .ok (.invokevirtual 357, 3) := by decide +kernel
theorem dX12_years_128 : decode cX12_years 128 = .ok (.iload 4, 2) := by decide +kernel
theorem dX12_years_130 : decode cX12_years 130 = .ok (.ireturn, 1) := by decide +kernel
def f_X12_years_L32 (a0 : Nat) (x2 : Int32) (u8 : Int32) (m9 : jM) : Option ((Int32 × jM) ⊕ (jM)) :=
  (if x2 ≤ u8 then some (.inr m9) else jcl (f_X12_drawnAct a0 m9) (fun m11 => some (.inl ((u8 + (1 : Int32), m11)))))
def f_X12_years_L52 (a0 : Nat) (m16 : jM) (u17 : Int32) (u18 : Int32) : Option ((Int32 × Int32) ⊕ (Int32)) :=
  (if (6 : Int32) ≤ u18 then some (.inr u17) else jrd (m16.1 (a0 + 3)) u18 2074 (fun v21 => some (.inl ((u17 + v21, u18 + (1 : Int32))))))
def f_X12_years (a0 : Nat) (x1 : Int32) (x2 : Int32) (μ : jM) : Option (Int32 × jM) :=
  jbd (jsi μ a0 0 (0 : Int32)) (fun m1 => (if (f_X12_in x2.toInt64 (1 : Int64) (40 : Int64)) = (0 : Int32) then some (((-1 : Int32), m1)) else jbd (jsi m1 a0 38 x1) (fun m4 => jcl (f_X12_saves a0 (23 : Int32) m4) (fun m6 => jcl (jloop (fun (s : Int32 × jM) => f_X12_years_L32 a0 x2 s.1 s.2) jfu (((0 : Int32), m6))) (fun w13 => jcl (jloop (fun (s : Int32 × Int32) => f_X12_years_L52 a0 w13 s.1 s.2) jfu (((0 : Int32), (0 : Int32)))) (fun w23 => jbd (jsi w13 a0 1 (0 : Int32)) (fun m27 => jcl (f_X12_enters a0 w23.toInt64 m27) (fun m29 => jcl (f_X12_valuesMany a0 m29) (fun v31 => jcl (f_X12_enters a0 v31.toInt64 m29) (fun m33 => jrd (m33.1 (a0 + 3)) (11 : Int32) 2074 (fun v36 => jcl (f_X12_enters a0 v36.toInt64 m33) (fun m38 => jcl (f_X12_trailsMany a0 m38) (fun v40 => jcl (f_X12_enters a0 v40.toInt64 m38) (fun m42 => jcl (f_X12_restores a0 (23 : Int32) m42) (fun m44 => some ((m42.1 a0 9, m44)))))))))))))))))
set_option maxHeartbeats 4000000 in
set_option maxRecDepth 100000 in
theorem c_X12_years {l : Launch} {G : jG} {L : jL} (hL : jOKL L) {a0 : Nat} {x1 : Int32} {x2 : Int32} (ka0 : jK L a0 12) {μ μ' : jM} {r : Int32} (h : f_X12_years a0 x1 x2 μ = some ((r, μ'))) : jCt l G L 16 yX12_years cX12_years 5 (some .int) [.ref (L.2.2 a0), .int x1, .int x2] μ (some (.int r)) μ' := by
  refine jCt_of (by decide) (Nat.le_of_ble_eq_true rfl) (fun X hC hX hR => ?_)
  subst hX
  have hC : jC X G cX12_years 5 RX12 (some .int) := hC
  unfold f_X12_years at h
  show jJ X G 5 L 0 0 (jQM X G L (some (.int r)) μ' 0 0) 0 [(0, .ref (L.2.2 a0)), (1, .int x1), (2, .int x2)] [] μ
  refine j_aload_n (pc := 0) hC 0 0 dX12_years_0 rfl rfl ?_
  refine j_iconst (pc := 1) hC (0 : Int32) dX12_years_1 (by decide) ?_
  obtain ⟨m1, e2, h⟩ := jbd_ex h
  refine jpi_12 (pc := 2) hC 0 (by decide) rfl kf_X12_1 dX12_years_2 rfl (by decide) ka0 e2 ?_
  refine j_iload_n (pc := 5) hC 2 2 dX12_years_5 rfl rfl ?_
  refine j_i2l (pc := 6) hC dX12_years_6 ?_
  refine j_lconst (pc := 7) hC (1 : Int64) dX12_years_7 (by decide) ?_
  refine j_ldc2 (pc := 8) hC dX12_years_8 kl_X12_427 ?_
  refine j_si (pc := 11) hC hR [.long x2.toInt64, .long (1 : Int64), .long (40 : Int64)] iy_X12_in km_X12_21 dX12_years_11 rfl (by decide) (c_X12_in hL  rfl) (by decide) (Nat.le_of_ble_eq_true rfl) rfl ?_
  refine j_if_ne (pc := 14) hC 19 dX12_years_14 (by decide) (fun c3 => ?_) (fun c3 => ?_)
  · rw [if_neg c3] at h
    refine j_aload_n (pc := 19) hC 0 0 dX12_years_19 rfl rfl ?_
    refine j_iload_n (pc := 20) hC 1 1 dX12_years_20 rfl rfl ?_
    obtain ⟨m4, e5, h⟩ := jbd_ex h
    refine jpi_12 (pc := 21) hC 38 (by decide) rfl kf_X12_420 dX12_years_21 rfl (by decide) ka0 e5 ?_
    refine j_aload_n (pc := 24) hC 0 0 dX12_years_24 rfl rfl ?_
    refine j_bipush (pc := 25) hC (23 : Int32) dX12_years_25 (by decide) ?_
    obtain ⟨m6, e7, h⟩ := jcl_some h
    refine j_vv (pc := 27) hC hR [.int (23 : Int32)] iy_X12_saves (q := (RX12, TX12, 40)) (ci := 12) rfl rfl (by decide) km_X12_353 dX12_years_27 rfl (by decide) ka0 (c_X12_saves hL ka0 e7) (by decide) (Nat.le_of_ble_eq_true rfl) rfl ?_
    refine j_iconst (pc := 30) hC (0 : Int32) dX12_years_30 (by decide) ?_
    refine j_istore_n (pc := 31) hC 3 [(3, .int (0 : Int32)), (0, .ref (L.2.2 a0)), (1, .int x1), (2, .int x2)] dX12_years_31 rfl (by decide) rfl rfl ?_
    obtain ⟨w13, hw14, h⟩ := jcl_some h
    refine j_lv [1, 3, 0] rfl ?_
    refine j_loop (step := (fun (s : Int32 × jM) => f_X12_years_L32 a0 x2 s.1 s.2)) (P := (fun (s : Int32 × jM) => jJ X G 5 L 0 0 (jQM X G L (some (.int r)) μ' 0 0) 32 [(0, .ref (L.2.2 a0)), (2, .int x2), (3, .int s.1)] [] s.2)) (R := (fun (e : jM) => jJ X G 5 L 0 0 (jQM X G L (some (.int r)) μ' 0 0) 47 [(0, .ref (L.2.2 a0))] [] e)) ?_ jfu (((0 : Int32), m6)) w13 hw14 ?_
    · intro s15 o h hk
      obtain ⟨u8, m9⟩ := s15
      change f_X12_years_L32 a0 x2 u8 m9 = some o at h
      unfold f_X12_years_L32 at h
      show jJ X G 5 L 0 0 (jQM X G L (some (.int r)) μ' 0 0) 32 [(0, .ref (L.2.2 a0)), (2, .int x2), (3, .int u8)] [] m9
      refine j_iload_n (pc := 32) hC 3 2 dX12_years_32 rfl rfl ?_
      refine j_iload_n (pc := 33) hC 2 1 dX12_years_33 rfl rfl ?_
      refine j_icmp_ge (pc := 34) hC 47 dX12_years_34 (by decide) (fun c10 => ?_) (fun c10 => ?_)
      · rw [if_pos c10] at h
        obtain rfl := Option.some.inj h
        have hk : jJ X G 5 L 0 0 (jQM X G L (some (.int r)) μ' 0 0) 47 [(0, .ref (L.2.2 a0))] [] m9 := hk
        exact j_lv [0] rfl hk
      · rw [if_neg c10] at h
        refine j_aload_n (pc := 37) hC 0 0 dX12_years_37 rfl rfl ?_
        obtain ⟨m11, e12, h⟩ := jcl_some h
        refine j_vv (pc := 38) hC hR [] iy_X12_drawnAct (q := (RX12, TX12, 40)) (ci := 12) rfl rfl (by decide) km_X12_429 dX12_years_38 rfl (by decide) ka0 (c_X12_drawnAct hL ka0 e12) (by decide) (Nat.le_of_ble_eq_true rfl) rfl ?_
        refine j_iinc (pc := 41) hC 2 (u8 + (1 : Int32)) [(3, .int (u8 + (1 : Int32))), (0, .ref (L.2.2 a0)), (2, .int x2)] dX12_years_41 rfl rfl (by decide) rfl ?_
        refine j_goto (pc := 44) hC 32 dX12_years_44 (by decide) ?_
        obtain rfl := Option.some.inj h
        have hk : jJ X G 5 L 0 0 (jQM X G L (some (.int r)) μ' 0 0) 32 [(0, .ref (L.2.2 a0)), (2, .int x2), (3, .int (u8 + (1 : Int32)))] [] m11 := hk
        exact j_lv [1, 2, 0] rfl hk
    · obtain ⟨m16, rfl⟩ : ∃ y, y = w13 := ⟨_, rfl⟩
      try dsimp only at h
      show jJ X G 5 L 0 0 (jQM X G L (some (.int r)) μ' 0 0) 47 [(0, .ref (L.2.2 a0))] [] m16
      refine j_iconst (pc := 47) hC (0 : Int32) dX12_years_47 (by decide) ?_
      refine j_istore_n (pc := 48) hC 3 [(3, .int (0 : Int32)), (0, .ref (L.2.2 a0))] dX12_years_48 rfl (by decide) rfl rfl ?_
      refine j_iconst (pc := 49) hC (0 : Int32) dX12_years_49 (by decide) ?_
      refine j_istore (pc := 50) hC [(4, .int (0 : Int32)), (3, .int (0 : Int32)), (0, .ref (L.2.2 a0))] dX12_years_50 (by decide) rfl rfl ?_
      obtain ⟨w23, hw24, h⟩ := jcl_some h
      refine j_lv [2, 1, 0] rfl ?_
      refine j_loop (step := (fun (s : Int32 × Int32) => f_X12_years_L52 a0 m16 s.1 s.2)) (P := (fun (s : Int32 × Int32) => jJ X G 5 L 0 0 (jQM X G L (some (.int r)) μ' 0 0) 52 [(0, .ref (L.2.2 a0)), (3, .int s.1), (4, .int s.2)] [] m16)) (R := (fun (e : Int32) => jJ X G 5 L 0 0 (jQM X G L (some (.int r)) μ' 0 0) 75 [(0, .ref (L.2.2 a0)), (3, .int e)] [] m16)) ?_ jfu (((0 : Int32), (0 : Int32))) w23 hw24 ?_
      · intro s25 o h hk
        obtain ⟨u17, u18⟩ := s25
        change f_X12_years_L52 a0 m16 u17 u18 = some o at h
        unfold f_X12_years_L52 at h
        show jJ X G 5 L 0 0 (jQM X G L (some (.int r)) μ' 0 0) 52 [(0, .ref (L.2.2 a0)), (3, .int u17), (4, .int u18)] [] m16
        refine j_iload (pc := 52) hC 2 dX12_years_52 rfl ?_
        refine j_bipush (pc := 54) hC (6 : Int32) dX12_years_54 (by decide) ?_
        refine j_icmp_ge (pc := 56) hC 75 dX12_years_56 (by decide) (fun c19 => ?_) (fun c19 => ?_)
        · rw [if_pos c19] at h
          obtain rfl := Option.some.inj h
          have hk : jJ X G 5 L 0 0 (jQM X G L (some (.int r)) μ' 0 0) 75 [(0, .ref (L.2.2 a0)), (3, .int u17)] [] m16 := hk
          exact j_lv [0, 1] rfl hk
        · rw [if_neg c19] at h
          refine j_iload_n (pc := 59) hC 3 1 dX12_years_59 rfl rfl ?_
          refine j_aload_n (pc := 60) hC 0 0 dX12_years_60 rfl rfl ?_
          refine jgr_12 (pc := 61) hC 8 (by decide) rfl kf_X12_60 dX12_years_61 ka0 (ly_12_8 hL ka0).1 ?_
          refine j_iload (pc := 64) hC 2 dX12_years_64 rfl ?_
          obtain ⟨i20, v21, e22, h⟩ := jrd_some h
          refine j_iald (pc := 66) hC dX12_years_66 (ly_12_8 hL ka0).2.1 (ly_12_8 hL ka0).2.2 i20 e22 ?_
          refine j_iadd (pc := 67) hC dX12_years_67 ?_
          refine j_istore_n (pc := 68) hC 3 [(3, .int (u17 + v21)), (0, .ref (L.2.2 a0)), (4, .int u18)] dX12_years_68 rfl (by decide) rfl rfl ?_
          refine j_iinc (pc := 69) hC 2 (u18 + (1 : Int32)) [(4, .int (u18 + (1 : Int32))), (3, .int (u17 + v21)), (0, .ref (L.2.2 a0))] dX12_years_69 rfl rfl (by decide) rfl ?_
          refine j_goto (pc := 72) hC 52 dX12_years_72 (by decide) ?_
          obtain rfl := Option.some.inj h
          have hk : jJ X G 5 L 0 0 (jQM X G L (some (.int r)) μ' 0 0) 52 [(0, .ref (L.2.2 a0)), (3, .int (u17 + v21)), (4, .int (u18 + (1 : Int32)))] [] m16 := hk
          exact j_lv [2, 1, 0] rfl hk
      · obtain ⟨z26, rfl⟩ : ∃ y, y = w23 := ⟨_, rfl⟩
        try dsimp only at h
        show jJ X G 5 L 0 0 (jQM X G L (some (.int r)) μ' 0 0) 75 [(0, .ref (L.2.2 a0)), (3, .int z26)] [] m16
        refine j_aload_n (pc := 75) hC 0 0 dX12_years_75 rfl rfl ?_
        refine j_iconst (pc := 76) hC (0 : Int32) dX12_years_76 (by decide) ?_
        obtain ⟨m27, e28, h⟩ := jbd_ex h
        refine jpi_12 (pc := 77) hC 1 (by decide) rfl kf_X12_11 dX12_years_77 rfl (by decide) ka0 e28 ?_
        refine j_aload_n (pc := 80) hC 0 0 dX12_years_80 rfl rfl ?_
        refine j_iload_n (pc := 81) hC 3 1 dX12_years_81 rfl rfl ?_
        refine j_i2l (pc := 82) hC dX12_years_82 ?_
        obtain ⟨m29, e30, h⟩ := jcl_some h
        refine j_vv (pc := 83) hC hR [.long z26.toInt64] iy_X12_enters (q := (RX12, TX12, 40)) (ci := 12) rfl rfl (by decide) km_X12_146 dX12_years_83 rfl (by decide) ka0 (c_X12_enters hL ka0 e30) (by decide) (Nat.le_of_ble_eq_true rfl) rfl ?_
        refine j_aload_n (pc := 86) hC 0 0 dX12_years_86 rfl rfl ?_
        refine j_aload_n (pc := 87) hC 0 0 dX12_years_87 rfl rfl ?_
        obtain ⟨v31, e32, h⟩ := jcl_some h
        refine j_vi (pc := 88) hC hR [] iy_X12_valuesMany (q := (RX12, TX12, 40)) (ci := 12) rfl rfl (by decide) km_X12_283 dX12_years_88 rfl (by decide) ka0 (c_X12_valuesMany hL ka0 e32) (by decide) (Nat.le_of_ble_eq_true rfl) rfl ?_
        refine j_i2l (pc := 91) hC dX12_years_91 ?_
        obtain ⟨m33, e34, h⟩ := jcl_some h
        refine j_vv (pc := 92) hC hR [.long v31.toInt64] iy_X12_enters (q := (RX12, TX12, 40)) (ci := 12) rfl rfl (by decide) km_X12_146 dX12_years_92 rfl (by decide) ka0 (c_X12_enters hL ka0 e34) (by decide) (Nat.le_of_ble_eq_true rfl) rfl ?_
        refine j_aload_n (pc := 95) hC 0 0 dX12_years_95 rfl rfl ?_
        refine j_aload_n (pc := 96) hC 0 0 dX12_years_96 rfl rfl ?_
        refine jgr_12 (pc := 97) hC 8 (by decide) rfl kf_X12_60 dX12_years_97 ka0 (ly_12_8 hL ka0).1 ?_
        refine j_bipush (pc := 100) hC (11 : Int32) dX12_years_100 (by decide) ?_
        obtain ⟨i35, v36, e37, h⟩ := jrd_some h
        refine j_iald (pc := 102) hC dX12_years_102 (ly_12_8 hL ka0).2.1 (ly_12_8 hL ka0).2.2 i35 e37 ?_
        refine j_i2l (pc := 103) hC dX12_years_103 ?_
        obtain ⟨m38, e39, h⟩ := jcl_some h
        refine j_vv (pc := 104) hC hR [.long v36.toInt64] iy_X12_enters (q := (RX12, TX12, 40)) (ci := 12) rfl rfl (by decide) km_X12_146 dX12_years_104 rfl (by decide) ka0 (c_X12_enters hL ka0 e39) (by decide) (Nat.le_of_ble_eq_true rfl) rfl ?_
        refine j_aload_n (pc := 107) hC 0 0 dX12_years_107 rfl rfl ?_
        refine j_aload_n (pc := 108) hC 0 0 dX12_years_108 rfl rfl ?_
        obtain ⟨v40, e41, h⟩ := jcl_some h
        refine j_vi (pc := 109) hC hR [] iy_X12_trailsMany (q := (RX12, TX12, 40)) (ci := 12) rfl rfl (by decide) km_X12_432 dX12_years_109 rfl (by decide) ka0 (c_X12_trailsMany hL ka0 e41) (by decide) (Nat.le_of_ble_eq_true rfl) rfl ?_
        refine j_i2l (pc := 112) hC dX12_years_112 ?_
        obtain ⟨m42, e43, h⟩ := jcl_some h
        refine j_vv (pc := 113) hC hR [.long v40.toInt64] iy_X12_enters (q := (RX12, TX12, 40)) (ci := 12) rfl rfl (by decide) km_X12_146 dX12_years_113 rfl (by decide) ka0 (c_X12_enters hL ka0 e43) (by decide) (Nat.le_of_ble_eq_true rfl) rfl ?_
        refine j_aload_n (pc := 116) hC 0 0 dX12_years_116 rfl rfl ?_
        refine jgi_12 (pc := 117) hC 9 (by decide) rfl kf_X12_158 dX12_years_117 ka0 ?_
        refine j_istore (pc := 120) hC [(4, .int (m42.1 a0 9)), (0, .ref (L.2.2 a0)), (3, .int z26)] dX12_years_120 (by decide) rfl rfl ?_
        refine j_aload_n (pc := 122) hC 0 1 dX12_years_122 rfl rfl ?_
        refine j_bipush (pc := 123) hC (23 : Int32) dX12_years_123 (by decide) ?_
        obtain ⟨m44, e45, h⟩ := jcl_some h
        refine j_vv (pc := 125) hC hR [.int (23 : Int32)] iy_X12_restores (q := (RX12, TX12, 40)) (ci := 12) rfl rfl (by decide) km_X12_357 dX12_years_125 rfl (by decide) ka0 (c_X12_restores hL ka0 e45) (by decide) (Nat.le_of_ble_eq_true rfl) rfl ?_
        refine j_iload (pc := 128) hC 0 dX12_years_128 rfl ?_
        obtain ⟨rfl, rfl⟩ := Prod.mk.inj (Option.some.inj h)
        exact j_iret (pc := 130) hC dX12_years_130 rfl
  · rw [if_pos c3] at h
    refine j_iconst (pc := 17) hC (-1 : Int32) dX12_years_17 (by decide) ?_
    obtain ⟨rfl, rfl⟩ := Prod.mk.inj (Option.some.inj h)
    exact j_iret (pc := 18) hC dX12_years_18 rfl
