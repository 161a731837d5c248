theorem dX12_keep_0 : decode cX12_keep 0 = .ok (.aload_n 0, 1) := by decide +kernel
theorem dX12_keep_1 : decode cX12_keep 1 = .ok (.iconst 0, 1) := by decide +kernel
theorem dX12_keep_2 : decode cX12_keep 2 = .ok (.putfield 1, 3) := by decide +kernel
theorem dX12_keep_5 : decode cX12_keep 5 = .ok (.iload_n 1, 1) := by decide +kernel
theorem dX12_keep_6 : decode cX12_keep 6 = .ok (.i2l, 1) := by decide +kernel
theorem dX12_keep_7 : decode cX12_keep 7 = .ok (.lconst 0, 1) := by decide +kernel
theorem dX12_keep_8 : decode cX12_keep 8 = .ok (.lconst 1, 1) := by decide +kernel
theorem dX12_keep_9 : decode cX12_keep 9 = .ok (.invokestatic 21, 3) := by decide +kernel
theorem dX12_keep_12 : decode cX12_keep 12 = .ok (.ifCond .ne 5, 3) := by decide +kernel
theorem dX12_keep_15 : decode cX12_keep 15 = .ok (.iconst 0, 1) := by decide +kernel
theorem dX12_keep_16 : decode cX12_keep 16 = .ok (.ireturn, 1) := by decide +kernel
theorem dX12_keep_17 : decode cX12_keep 17 = .ok (.aload_n 0, 1) := by decide +kernel
theorem dX12_keep_18 : decode cX12_keep 18 = .ok (.getfield 117, 3) := by decide +kernel
theorem dX12_keep_21 : decode cX12_keep 21 = .ok (.iload_n 1, 1) := by decide +kernel
theorem dX12_keep_22 : decode cX12_keep 22 = .ok (.iconst 1, 1) := by decide +kernel
theorem dX12_keep_23 : decode cX12_keep 23 = .ok (.bastore, 1) := by decide +kernel
theorem dX12_keep_24 : decode cX12_keep 24 = .ok (.aload_n 0, 1) := by decide +kernel
theorem dX12_keep_25 : decode cX12_keep 25 = .ok (.iconst 0, 1) := by decide +kernel
theorem dX12_keep_26 : decode cX12_keep 26 = .ok (.bipush 11, 2) := by decide +kernel
theorem dX12_keep_28 : decode cX12_keep 28 = .ok (.iload_n 1, 1) := by decide +kernel
theorem dX12_keep_29 : decode cX12_keep 29 = .ok (.iadd, 1) := by decide +kernel
theorem dX12_keep_30 : decode cX12_keep 30 = .ok (.invokevirtual 154, 3) := by decide +kernel
theorem dX12_keep_33 : decode cX12_keep 33 = .ok (.iconst 1, 1) := by decide +kernel
theorem dX12_keep_34 : decode cX12_keep 34 = .ok (.ireturn, 1) := by decide +kernel
def f_X12_keep (a0 : Nat) (x1 : Int32) (μ : jM) : Option (Int32 × jM) :=
  jbd (jsi μ a0 0 (0 : Int32)) (fun m1 => (if (f_X12_in x1.toInt64 (0 : Int64) (1 : Int64)) = (0 : Int32) then some (((0 : Int32), m1)) else jin x1 2 (jbd (jsi m1 (a0 + 22) x1.toNatClampNeg (1 : Int32)) (fun m5 => jcl (f_X12_copies a0 (0 : Int32) ((11 : Int32) + x1) m5) (fun m7 => some (((1 : Int32), m7)))))))
set_option maxHeartbeats 4000000 in
set_option maxRecDepth 100000 in
theorem c_X12_keep {l : Launch} {G : jG} {L : jL} (hL : jOKL L) {a0 : Nat} {x1 : Int32} (ka0 : jK L a0 12) {μ μ' : jM} {r : Int32} (h : f_X12_keep a0 x1 μ = some ((r, μ'))) : jCt l G L 4 yX12_keep cX12_keep 2 (some .boolean) [.ref (L.2.2 a0), .int x1] μ (some (.int r)) μ' := by
  refine jCt_of (by decide) (Nat.le_of_ble_eq_true rfl) (fun X hC hX hR => ?_)
  subst hX
  have hC : jC X G cX12_keep 2 RX12 (some .boolean) := hC
  unfold f_X12_keep at h
  show jJ X G 2 L 0 0 (jQM X G L (some (.int r)) μ' 0 0) 0 [(0, .ref (L.2.2 a0)), (1, .int x1)] [] μ
  refine j_aload_n (pc := 0) hC 0 0 dX12_keep_0 rfl rfl ?_
  refine j_iconst (pc := 1) hC (0 : Int32) dX12_keep_1 (by decide) ?_
  obtain ⟨m1, e2, h⟩ := jbd_ex h
  refine jpi_12 (pc := 2) hC 0 (by decide) rfl kf_X12_1 dX12_keep_2 rfl (by decide) ka0 e2 ?_
  refine j_iload_n (pc := 5) hC 1 1 dX12_keep_5 rfl rfl ?_
  refine j_i2l (pc := 6) hC dX12_keep_6 ?_
  refine j_lconst (pc := 7) hC (0 : Int64) dX12_keep_7 (by decide) ?_
  refine j_lconst (pc := 8) hC (1 : Int64) dX12_keep_8 (by decide) ?_
  refine j_si (pc := 9) hC hR [.long x1.toInt64, .long (0 : Int64), .long (1 : Int64)] iy_X12_in km_X12_21 dX12_keep_9 rfl (by decide) (c_X12_in hL  rfl) (by decide) (Nat.le_of_ble_eq_true rfl) rfl ?_
  refine j_if_ne (pc := 12) hC 17 dX12_keep_12 (by decide) (fun c3 => ?_) (fun c3 => ?_)
  · rw [if_neg c3] at h
    refine j_aload_n (pc := 17) hC 0 0 dX12_keep_17 rfl rfl ?_
    refine jgr_12 (pc := 18) hC 39 (by decide) rfl kf_X12_117 dX12_keep_18 ka0 (ly_12_39 hL ka0).1 ?_
    refine j_iload_n (pc := 21) hC 1 1 dX12_keep_21 rfl rfl ?_
    refine j_iconst (pc := 22) hC (1 : Int32) dX12_keep_22 (by decide) ?_
    obtain ⟨i4, h⟩ := jin_some h
    obtain ⟨m5, e6, h⟩ := jbd_ex h
    refine j_zast (pc := 23) hC dX12_keep_23 (ly_12_39 hL ka0).2.1 (ly_12_39 hL ka0).2.2 i4 (by decide) e6 ?_
    refine j_aload_n (pc := 24) hC 0 0 dX12_keep_24 rfl rfl ?_
    refine j_iconst (pc := 25) hC (0 : Int32) dX12_keep_25 (by decide) ?_
    refine j_bipush (pc := 26) hC (11 : Int32) dX12_keep_26 (by decide) ?_
    refine j_iload_n (pc := 28) hC 1 1 dX12_keep_28 rfl rfl ?_
    refine j_iadd (pc := 29) hC dX12_keep_29 ?_
    obtain ⟨m7, e8, h⟩ := jcl_some h
    refine j_vv (pc := 30) hC hR [.int (0 : Int32), .int ((11 : Int32) + x1)] iy_X12_copies (q := (RX12, TX12, 40)) (ci := 12) rfl rfl (by decide) km_X12_154 dX12_keep_30 rfl (by decide) ka0 (c_X12_copies hL ka0 e8) (by decide) (Nat.le_of_ble_eq_true rfl) rfl ?_
    refine j_iconst (pc := 33) hC (1 : Int32) dX12_keep_33 (by decide) ?_
    obtain ⟨rfl, rfl⟩ := Prod.mk.inj (Option.some.inj h)
    exact j_bret (pc := 34) hC dX12_keep_34 rfl rfl
  · rw [if_pos c3] at h
    refine j_iconst (pc := 15) hC (0 : Int32) dX12_keep_15 (by decide) ?_
    obtain ⟨rfl, rfl⟩ := Prod.mk.inj (Option.some.inj h)
    exact j_bret (pc := 16) hC dX12_keep_16 rfl rfl
theorem dX12_again_0 : decode cX12_again 0 = .ok (.aload_n 0, 1) := by decide +kernel
theorem dX12_again_1 : decode cX12_again 1 = .ok (.iconst 0, 1) := by decide +kernel
theorem dX12_again_2 : decode cX12_again 2 = .ok (.putfield 1, 3) := by decide +kernel
theorem dX12_again_5 : decode cX12_again 5 = .ok (.iload_n 1, 1) := by decide +kernel
theorem dX12_again_6 : decode cX12_again 6 = .ok (.i2l, 1) := by decide +kernel
theorem dX12_again_7 : decode cX12_again 7 = .ok (.lconst 0, 1) := by decide +kernel
theorem dX12_again_8 : decode cX12_again 8 = .ok (.lconst 1, 1) := by decide +kernel
theorem dX12_again_9 : decode cX12_again 9 = .ok (.invokestatic 21, 3) := by decide +kernel
theorem dX12_again_12 : decode cX12_again 12 = .ok (.ifCond .eq 12, 3) := by decide +kernel
theorem dX12_again_15 : decode cX12_again 15 = .ok (.aload_n 0, 1) := by decide +kernel
theorem dX12_again_16 : decode cX12_again 16 = .ok (.getfield 117, 3) := by decide +kernel
theorem dX12_again_19 : decode cX12_again 19 = .ok (.iload_n 1, 1) := by decide +kernel
theorem dX12_again_20 : decode cX12_again 20 = .ok (.baload, 1) := by decide +kernel
theorem dX12_again_21 : decode cX12_again 21 = .ok (.ifCond .ne 5, 3) := by decide +kernel
theorem dX12_again_24 : decode cX12_again 24 = .ok (.iconst 0, 1) := by decide +kernel
theorem dX12_again_25 : decode cX12_again 25 = .ok (.ireturn, 1) := by decide +kernel
theorem dX12_again_26 : decode cX12_again 26 = .ok (.aload_n 0, 1) := by decide +kernel
theorem dX12_again_27 : decode cX12_again 27 = .ok (.bipush 11, 2) := by decide +kernel
theorem dX12_again_29 : decode cX12_again 29 = .ok (.iload_n 1, 1) := by decide +kernel
theorem dX12_again_30 : decode cX12_again 30 = .ok (.iadd, 1) := by decide +kernel
theorem dX12_again_31 : decode cX12_again 31 = .ok (.iconst 0, 1) := by decide +kernel
theorem dX12_again_32 : decode cX12_again 32 = .ok (.invokevirtual 154, 3) := by decide +kernel
theorem dX12_again_35 : decode cX12_again 35 = .ok (.aload_n 0, 1) := by decide +kernel
theorem dX12_again_36 : decode cX12_again 36 = .ok (.iconst 0, 1) := by decide +kernel
theorem dX12_again_37 : decode cX12_again 37 = .ok (.putfield 158, 3) := by decide +kernel
theorem dX12_again_40 : decode cX12_again 40 = .ok (.iconst 1, 1) := by decide +kernel
theorem dX12_again_41 : decode cX12_again 41 = .ok (.ireturn, 1) := by decide +kernel
def f_X12_again (a0 : Nat) (x1 : Int32) (μ : jM) : Option (Int32 × jM) :=
  jbd (jsi μ a0 0 (0 : Int32)) (fun m1 => (if (f_X12_in x1.toInt64 (0 : Int64) (1 : Int64)) = (0 : Int32) then some (((0 : Int32), m1)) else jrd (m1.1 (a0 + 22)) x1 2 (fun v5 => (if v5 = (0 : Int32) then some (((0 : Int32), m1)) else jcl (f_X12_copies a0 ((11 : Int32) + x1) (0 : Int32) m1) (fun m8 => jbd (jsi m8 a0 9 (0 : Int32)) (fun m10 => some (((1 : Int32), m10))))))))
set_option maxHeartbeats 4000000 in
set_option maxRecDepth 100000 in
theorem c_X12_again {l : Launch} {G : jG} {L : jL} (hL : jOKL L) {a0 : Nat} {x1 : Int32} (ka0 : jK L a0 12) {μ μ' : jM} {r : Int32} (h : f_X12_again a0 x1 μ = some ((r, μ'))) : jCt l G L 4 yX12_again cX12_again 2 (some .boolean) [.ref (L.2.2 a0), .int x1] μ (some (.int r)) μ' := by
  refine jCt_of (by decide) (Nat.le_of_ble_eq_true rfl) (fun X hC hX hR => ?_)
  subst hX
  have hC : jC X G cX12_again 2 RX12 (some .boolean) := hC
  unfold f_X12_again at h
  show jJ X G 2 L 0 0 (jQM X G L (some (.int r)) μ' 0 0) 0 [(0, .ref (L.2.2 a0)), (1, .int x1)] [] μ
  refine j_aload_n (pc := 0) hC 0 0 dX12_again_0 rfl rfl ?_
  refine j_iconst (pc := 1) hC (0 : Int32) dX12_again_1 (by decide) ?_
  obtain ⟨m1, e2, h⟩ := jbd_ex h
  refine jpi_12 (pc := 2) hC 0 (by decide) rfl kf_X12_1 dX12_again_2 rfl (by decide) ka0 e2 ?_
  refine j_iload_n (pc := 5) hC 1 1 dX12_again_5 rfl rfl ?_
  refine j_i2l (pc := 6) hC dX12_again_6 ?_
  refine j_lconst (pc := 7) hC (0 : Int64) dX12_again_7 (by decide) ?_
  refine j_lconst (pc := 8) hC (1 : Int64) dX12_again_8 (by decide) ?_
  refine j_si (pc := 9) hC hR [.long x1.toInt64, .long (0 : Int64), .long (1 : Int64)] iy_X12_in km_X12_21 dX12_again_9 rfl (by decide) (c_X12_in hL  rfl) (by decide) (Nat.le_of_ble_eq_true rfl) rfl ?_
  refine j_if_eq (pc := 12) hC 24 dX12_again_12 (by decide) (fun c3 => ?_) (fun c3 => ?_)
  · rw [if_pos c3] at h
    refine j_iconst (pc := 24) hC (0 : Int32) dX12_again_24 (by decide) ?_
    obtain ⟨rfl, rfl⟩ := Prod.mk.inj (Option.some.inj h)
    exact j_bret (pc := 25) hC dX12_again_25 rfl rfl
  · rw [if_neg c3] at h
    refine j_aload_n (pc := 15) hC 0 0 dX12_again_15 rfl rfl ?_
    refine jgr_12 (pc := 16) hC 39 (by decide) rfl kf_X12_117 dX12_again_16 ka0 (ly_12_39 hL ka0).1 ?_
    refine j_iload_n (pc := 19) hC 1 1 dX12_again_19 rfl rfl ?_
    obtain ⟨i4, v5, e6, h⟩ := jrd_some h
    refine j_zald (pc := 20) hC dX12_again_20 (ly_12_39 hL ka0).2.1 (ly_12_39 hL ka0).2.2 i4 e6 ?_
    refine j_if_ne (pc := 21) hC 26 dX12_again_21 (by decide) (fun c7 => ?_) (fun c7 => ?_)
    · rw [if_neg c7] at h
      refine j_aload_n (pc := 26) hC 0 0 dX12_again_26 rfl rfl ?_
      refine j_bipush (pc := 27) hC (11 : Int32) dX12_again_27 (by decide) ?_
      refine j_iload_n (pc := 29) hC 1 1 dX12_again_29 rfl rfl ?_
      refine j_iadd (pc := 30) hC dX12_again_30 ?_
      refine j_iconst (pc := 31) hC (0 : Int32) dX12_again_31 (by decide) ?_
      obtain ⟨m8, e9, h⟩ := jcl_some h
      refine j_vv (pc := 32) hC hR [.int ((11 : Int32) + x1), .int (0 : Int32)] iy_X12_copies (q := (RX12, TX12, 40)) (ci := 12) rfl rfl (by decide) km_X12_154 dX12_again_32 rfl (by decide) ka0 (c_X12_copies hL ka0 e9) (by decide) (Nat.le_of_ble_eq_true rfl) rfl ?_
      refine j_aload_n (pc := 35) hC 0 0 dX12_again_35 rfl rfl ?_
      refine j_iconst (pc := 36) hC (0 : Int32) dX12_again_36 (by decide) ?_
      obtain ⟨m10, e11, h⟩ := jbd_ex h
      refine jpi_12 (pc := 37) hC 9 (by decide) rfl kf_X12_158 dX12_again_37 rfl (by decide) ka0 e11 ?_
      refine j_iconst (pc := 40) hC (1 : Int32) dX12_again_40 (by decide) ?_
      obtain ⟨rfl, rfl⟩ := Prod.mk.inj (Option.some.inj h)
      exact j_bret (pc := 41) hC dX12_again_41 rfl rfl
    · rw [if_pos c7] at h
      refine j_iconst (pc := 24) hC (0 : Int32) dX12_again_24 (by decide) ?_
      obtain ⟨rfl, rfl⟩ := Prod.mk.inj (Option.some.inj h)
      exact j_bret (pc := 25) hC dX12_again_25 rfl rfl
theorem dX12_differs_0 : decode cX12_differs 0 = .ok (.aload_n 0, 1) := by decide +kernel
theorem dX12_differs_1 : decode cX12_differs 1 = .ok (.iconst 0, 1) := by decide +kernel
theorem dX12_differs_2 : decode cX12_differs 2 = .ok (.putfield 1, 3) := by decide +kernel
theorem dX12_differs_5 : decode cX12_differs 5 = .ok (.iload_n 1, 1) := by decide +kernel
theorem dX12_differs_6 : decode cX12_differs 6 = .ok (.i2l, 1) := by decide +kernel
theorem dX12_differs_7 : decode cX12_differs 7 = .ok (.lconst 0, 1) := by decide +kernel
theorem dX12_differs_8 : decode cX12_differs 8 = .ok (.lconst 1, 1) := by decide +kernel
theorem dX12_differs_9 : decode cX12_differs 9 = .ok (.invokestatic 21, 3) := by decide +kernel
theorem dX12_differs_12 : decode cX12_differs 12 = .ok (.ifCond .ne 5, 3) := by decide +kernel
theorem dX12_differs_15 : decode cX12_differs 15 = .ok (.iconst (-1), 1) := by decide +kernel
theorem dX12_differs_16 : decode cX12_differs 16 = .ok (.ireturn, 1) := by decide +kernel
theorem dX12_differs_17 : decode cX12_differs 17 = .ok (.aload_n 0, 1) := by decide +kernel
theorem dX12_differs_18 : decode cX12_differs 18 = .ok (.getfield 117, 3) := by decide +kernel
theorem dX12_differs_21 : decode cX12_differs 21 = .ok (.iload_n 1, 1) := by decide +kernel
theorem dX12_differs_22 : decode cX12_differs 22 = .ok (.baload, 1) := by decide +kernel
theorem dX12_differs_23 : decode cX12_differs 23 = .ok (.ifCond .eq 15, 3) := by decide +kernel
theorem dX12_differs_26 : decode cX12_differs 26 = .ok (.aload_n 0, 1) := by decide +kernel
theorem dX12_differs_27 : decode cX12_differs 27 = .ok (.bipush 11, 2) := by decide +kernel
theorem dX12_differs_29 : decode cX12_differs 29 = .ok (.iload_n 1, 1) := by decide +kernel
theorem dX12_differs_30 : decode cX12_differs 30 = .ok (.iadd, 1) := by decide +kernel
theorem dX12_differs_31 : decode cX12_differs 31 = .ok (.iconst 0, 1) := by decide +kernel
theorem dX12_differs_32 : decode cX12_differs 32 = .ok (.invokevirtual 360, 3) := by decide +kernel
theorem dX12_differs_35 : decode cX12_differs 35 = .ok (.goto 5, 3) := by decide +kernel
theorem dX12_differs_38 : decode cX12_differs 38 = .ok (.bipush (-2), 2) := by decide +kernel
theorem dX12_differs_40 : decode cX12_differs 40 = .ok (.ireturn, 1) := by decide +kernel
def f_X12_differs (a0 : Nat) (x1 : Int32) (μ : jM) : Option (Int32 × jM) :=
  jbd (jsi μ a0 0 (0 : Int32)) (fun m1 => (if (f_X12_in x1.toInt64 (0 : Int64) (1 : Int64)) = (0 : Int32) then some (((-1 : Int32), m1)) else jrd (m1.1 (a0 + 22)) x1 2 (fun v5 => (if v5 = (0 : Int32) then some (((-2 : Int32), m1)) else jcl2 (f_X12_others a0 ((11 : Int32) + x1) (0 : Int32) m1) (fun v8 m9 => some ((v8, m9)))))))
set_option maxHeartbeats 4000000 in
set_option maxRecDepth 100000 in
theorem c_X12_differs {l : Launch} {G : jG} {L : jL} (hL : jOKL L) {a0 : Nat} {x1 : Int32} (ka0 : jK L a0 12) {μ μ' : jM} {r : Int32} (h : f_X12_differs a0 x1 μ = some ((r, μ'))) : jCt l G L 7 yX12_differs cX12_differs 2 (some .int) [.ref (L.2.2 a0), .int x1] μ (some (.int r)) μ' := by
  refine jCt_of (by decide) (Nat.le_of_ble_eq_true rfl) (fun X hC hX hR => ?_)
  subst hX
  have hC : jC X G cX12_differs 2 RX12 (some .int) := hC
  unfold f_X12_differs at h
  show jJ X G 2 L 0 0 (jQM X G L (some (.int r)) μ' 0 0) 0 [(0, .ref (L.2.2 a0)), (1, .int x1)] [] μ
  refine j_aload_n (pc := 0) hC 0 0 dX12_differs_0 rfl rfl ?_
  refine j_iconst (pc := 1) hC (0 : Int32) dX12_differs_1 (by decide) ?_
  obtain ⟨m1, e2, h⟩ := jbd_ex h
  refine jpi_12 (pc := 2) hC 0 (by decide) rfl kf_X12_1 dX12_differs_2 rfl (by decide) ka0 e2 ?_
  refine j_iload_n (pc := 5) hC 1 1 dX12_differs_5 rfl rfl ?_
  refine j_i2l (pc := 6) hC dX12_differs_6 ?_
  refine j_lconst (pc := 7) hC (0 : Int64) dX12_differs_7 (by decide) ?_
  refine j_lconst (pc := 8) hC (1 : Int64) dX12_differs_8 (by decide) ?_
  refine j_si (pc := 9) hC hR [.long x1.toInt64, .long (0 : Int64), .long (1 : Int64)] iy_X12_in km_X12_21 dX12_differs_9 rfl (by decide) (c_X12_in hL  rfl) (by decide) (Nat.le_of_ble_eq_true rfl) rfl ?_
  refine j_if_ne (pc := 12) hC 17 dX12_differs_12 (by decide) (fun c3 => ?_) (fun c3 => ?_)
  · rw [if_neg c3] at h
    refine j_aload_n (pc := 17) hC 0 0 dX12_differs_17 rfl rfl ?_
    refine jgr_12 (pc := 18) hC 39 (by decide) rfl kf_X12_117 dX12_differs_18 ka0 (ly_12_39 hL ka0).1 ?_
    refine j_iload_n (pc := 21) hC 1 1 dX12_differs_21 rfl rfl ?_
    obtain ⟨i4, v5, e6, h⟩ := jrd_some h
    refine j_zald (pc := 22) hC dX12_differs_22 (ly_12_39 hL ka0).2.1 (ly_12_39 hL ka0).2.2 i4 e6 ?_
    refine j_if_eq (pc := 23) hC 38 dX12_differs_23 (by decide) (fun c7 => ?_) (fun c7 => ?_)
    · rw [if_pos c7] at h
      refine j_bipush (pc := 38) hC (-2 : Int32) dX12_differs_38 (by decide) ?_
      obtain ⟨rfl, rfl⟩ := Prod.mk.inj (Option.some.inj h)
      exact j_iret (pc := 40) hC dX12_differs_40 rfl
    · rw [if_neg c7] at h
      refine j_aload_n (pc := 26) hC 0 0 dX12_differs_26 rfl rfl ?_
      refine j_bipush (pc := 27) hC (11 : Int32) dX12_differs_27 (by decide) ?_
      refine j_iload_n (pc := 29) hC 1 1 dX12_differs_29 rfl rfl ?_
      refine j_iadd (pc := 30) hC dX12_differs_30 ?_
      refine j_iconst (pc := 31) hC (0 : Int32) dX12_differs_31 (by decide) ?_
      obtain ⟨v8, m9, e10, h⟩ := jcl2_some h
      refine j_vi (pc := 32) hC hR [.int ((11 : Int32) + x1), .int (0 : Int32)] iy_X12_others (q := (RX12, TX12, 40)) (ci := 12) rfl rfl (by decide) km_X12_360 dX12_differs_32 rfl (by decide) ka0 (c_X12_others hL ka0 e10) (by decide) (Nat.le_of_ble_eq_true rfl) rfl ?_
      refine j_goto (pc := 35) hC 40 dX12_differs_35 (by decide) ?_
      obtain ⟨rfl, rfl⟩ := Prod.mk.inj (Option.some.inj h)
      exact j_iret (pc := 40) hC dX12_differs_40 rfl
  · rw [if_pos c3] at h
    refine j_iconst (pc := 15) hC (-1 : Int32) dX12_differs_15 (by decide) ?_
    obtain ⟨rfl, rfl⟩ := Prod.mk.inj (Option.some.inj h)
    exact j_iret (pc := 16) hC dX12_differs_16 rfl
theorem dX12_count_0 : decode cX12_count 0 = .ok (.aload_n 0, 1) := by decide +kernel
theorem dX12_count_1 : decode cX12_count 1 = .ok (.iconst 0, 1) := by decide +kernel
theorem dX12_count_2 : decode cX12_count 2 = .ok (.putfield 1, 3) := by decide +kernel
theorem dX12_count_5 : decode cX12_count 5 = .ok (.iconst 0, 1) := by decide +kernel
theorem dX12_count_6 : decode cX12_count 6 = .ok (.istore_n 2, 1) := by decide +kernel
theorem dX12_count_7 : decode cX12_count 7 = .ok (.iconst 0, 1) := by decide +kernel
theorem dX12_count_8 : decode cX12_count 8 = .ok (.istore_n 3, 1) := by decide +kernel
theorem dX12_count_9 : decode cX12_count 9 = .ok (.iconst 0, 1) := by decide +kernel
theorem dX12_count_10 : decode cX12_count 10 = .ok (.istore 4, 2) := by decide +kernel
theorem dX12_count_12 : decode cX12_count 12 = .ok (.iload 4, 2) := by decide +kernel
theorem dX12_count_14 : decode cX12_count 14 = .ok (.bipush 6, 2) := by decide +kernel
theorem dX12_count_16 : decode cX12_count 16 = .ok (.if_icmp .ge 19, 3) := by decide +kernel
theorem dX12_count_19 : decode cX12_count 19 = .ok (.iload_n 2, 1) := by decide +kernel
theorem dX12_count_20 : decode cX12_count 20 = .ok (.aload_n 0, 1) := by decide +kernel
theorem dX12_count_21 : decode cX12_count 21 = .ok (.getfield 60, 3) := by decide +kernel
theorem dX12_count_24 : decode cX12_count 24 = .ok (.iload 4, 2) := by decide +kernel
theorem dX12_count_26 : decode cX12_count 26 = .ok (.iaload, 1) := by decide +kernel
theorem dX12_count_27 : decode cX12_count 27 = .ok (.iadd, 1) := by decide +kernel
theorem dX12_count_28 : decode cX12_count 28 = .ok (.istore_n 2, 1) := by decide +kernel
theorem dX12_count_29 : decode cX12_count 29 = .ok (.iinc 4 1, 3) := by decide +kernel
theorem dX12_count_32 : decode cX12_count 32 = .ok (.goto (-20), 3) := by decide +kernel
theorem dX12_count_35 : decode cX12_count 35 = .ok (.iconst 0, 1) := by decide +kernel
theorem dX12_count_36 : decode cX12_count 36 = .ok (.istore 4, 2) := by decide +kernel
theorem dX12_count_38 : decode cX12_count 38 = .ok (.iload 4, 2) := by decide +kernel
theorem dX12_count_40 : decode cX12_count 40 = .ok (.iconst 5, 1) := by decide +kernel
theorem dX12_count_41 : decode cX12_count 41 = .ok (.if_icmp .ge 37, 3) := by decide +kernel
theorem dX12_count_44 : decode cX12_count 44 = .ok (.iload_n 3, 1) := by decide +kernel
theorem dX12_count_45 : decode cX12_count 45 = .ok (.aload_n 0, 1) := by decide +kernel
theorem dX12_count_46 : decode cX12_count 46 = .ok (.getfield 60, 3) := by decide +kernel
theorem dX12_count_49 : decode cX12_count 49 = .ok (.bipush 6, 2) := by decide +kernel
theorem dX12_count_51 : decode cX12_count 51 = .ok (.iload 4, 2) := by decide +kernel
theorem dX12_count_53 : decode cX12_count 53 = .ok (.iadd, 1) := by decide +kernel
theorem dX12_count_54 : decode cX12_count 54 = .ok (.iaload, 1) := by decide +kernel
theorem dX12_count_55 : decode cX12_count 55 = .ok (.invokestatic 211, 3) := by decide +kernel
theorem dX12_count_58 : decode cX12_count 58 = .ok (.iconst 1, 1) := by decide +kernel
theorem dX12_count_59 : decode cX12_count 59 = .ok (.if_icmp .ne 10, 3) := by decide +kernel
theorem dX12_count_62 : decode cX12_count 62 = .ok (.iconst 1, 1) := by decide +kernel
theorem dX12_count_63 : decode cX12_count 63 = .ok (.iload 4, 2) := by decide +kernel
theorem dX12_count_65 : decode cX12_count 65 = .ok (.ishl, 1) := by decide +kernel
theorem dX12_count_66 : decode cX12_count 66 = .ok (.goto 4, 3) := by decide +kernel
theorem dX12_count_69 : decode cX12_count 69 = .ok (.iconst 0, 1) := by decide +kernel
theorem dX12_count_70 : decode cX12_count 70 = .ok (.ior, 1) := by decide +kernel
theorem dX12_count_71 : decode cX12_count 71 = .ok (.istore_n 3, 1) := by decide +kernel
theorem dX12_count_72 : decode cX12_count 72 = .ok (.iinc 4 1, 3) := by decide +kernel
theorem dX12_count_75 : decode cX12_count 75 = .ok (.goto (-37), 3) := by decide +kernel
theorem dX12_count_78 : decode cX12_count 78 = .ok (.iload_n 1, 1) := by decide +kernel
theorem dX12_count_79 : decode cX12_count 79 = .ok (.tableswitch 107 0 9 #[53, 58, 63, 71, 79, 85, 90, 95, 100, 105], 53) := by decide +kernel
theorem dX12_count_132 : decode cX12_count 132 = .ok (.aload_n 0, 1) := by decide +kernel
theorem dX12_count_133 : decode cX12_count 133 = .ok (.getfield 158, 3) := by decide +kernel
theorem dX12_count_136 : decode cX12_count 136 = .ok (.ireturn, 1) := by decide +kernel
theorem dX12_count_137 : decode cX12_count 137 = .ok (.aload_n 0, 1) := by decide +kernel
theorem dX12_count_138 : decode cX12_count 138 = .ok (.invokevirtual 283, 3) := by decide +kernel
theorem dX12_count_141 : decode cX12_count 141 = .ok (.ireturn, 1) := by decide +kernel
theorem dX12_count_142 : decode cX12_count 142 = .ok (.aload_n 0, 1) := by decide +kernel
theorem dX12_count_143 : decode cX12_count 143 = .ok (.getfield 60, 3) := by decide +kernel
theorem dX12_count_146 : decode cX12_count 146 = .ok (.bipush 11, 2) := by decide +kernel
theorem dX12_count_148 : decode cX12_count 148 = .ok (.iaload, 1) := by decide +kernel
theorem dX12_count_149 : decode cX12_count 149 = .ok (.ireturn, 1) := by decide +kernel
theorem dX12_count_150 : decode cX12_count 150 = .ok (.aload_n 0, 1) := by decide +kernel
theorem dX12_count_151 : decode cX12_count 151 = .ok (.getfield 60, 3) := by decide +kernel
theorem dX12_count_154 : decode cX12_count 154 = .ok (.bipush 28, 2) := by decide +kernel
theorem dX12_count_156 : decode cX12_count 156 = .ok (.iaload, 1) := by decide +kernel
theorem dX12_count_157 : decode cX12_count 157 = .ok (.ireturn, 1) := by decide +kernel
theorem dX12_count_158 : decode cX12_count 158 = .ok (.sipush 10000, 3) := by decide +kernel
theorem dX12_count_161 : decode cX12_count 161 = .ok (.iload_n 2, 1) := by decide +kernel
theorem dX12_count_162 : decode cX12_count 162 = .ok (.iadd, 1) := by decide +kernel
theorem dX12_count_163 : decode cX12_count 163 = .ok (.ireturn, 1) := by decide +kernel
theorem dX12_count_164 : decode cX12_count 164 = .ok (.aload_n 0, 1) := by decide +kernel
theorem dX12_count_165 : decode cX12_count 165 = .ok (.invokevirtual 432, 3) := by decide +kernel
theorem dX12_count_168 : decode cX12_count 168 = .ok (.ireturn, 1) := by decide +kernel
theorem dX12_count_169 : decode cX12_count 169 = .ok (.aload_n 0, 1) := by decide +kernel
theorem dX12_count_170 : decode cX12_count 170 = .ok (.getfield 414, 3) := by decide +kernel
theorem dX12_count_173 : decode cX12_count 173 = .ok (.ireturn, 1) := by decide +kernel
theorem dX12_count_174 : decode cX12_count 174 = .ok (.aload_n 0, 1) := by decide +kernel
theorem dX12_count_175 : decode cX12_count 175 = .ok (.getfield 11, 3) := by decide +kernel
theorem dX12_count_178 : decode cX12_count 178 = .ok (.ireturn, 1) := by decide +kernel
theorem dX12_count_179 : decode cX12_count 179 = .ok (.aload_n 0, 1) := by decide +kernel
theorem dX12_count_180 : decode cX12_count 180 = .ok (.getfield 14, 3) := by decide +kernel
theorem dX12_count_183 : decode cX12_count 183 = .ok (.ireturn, 1) := by decide +kernel
theorem dX12_count_184 : decode cX12_count 184 = .ok (.iload_n 3, 1) := by decide +kernel
theorem dX12_count_185 : decode cX12_count 185 = .ok (.ireturn, 1) := by decide +kernel
theorem dX12_count_186 : decode cX12_count 186 = .ok (.bipush (-100), 2) := by decide +kernel
theorem dX12_count_188 : decode cX12_count 188 = .ok (.ireturn, 1) := by decide +kernel
def f_X12_count_L12 (a0 : Nat) (m1 : jM) (u3 : Int32) (u4 : Int32) : Option ((Int32 × Int32) ⊕ (Int32)) :=
  (if (6 : Int32) ≤ u4 then some (.inr u3) else jrd (m1.1 (a0 + 3)) u4 2074 (fun v7 => some (.inl ((u3 + v7, u4 + (1 : Int32))))))
def f_X12_count_L38 (a0 : Nat) (m1 : jM) (u13 : Int32) (u14 : Int32) : Option ((Int32 × Int32) ⊕ (Int32)) :=
  (if (5 : Int32) ≤ u14 then some (.inr u13) else jrd (m1.1 (a0 + 3)) ((6 : Int32) + u14) 2074 (fun v17 => jcl (f_X12_bitsOf v17) (fun v19 => jbd (u13 ||| ((if v19 = (1 : Int32) then (1 : Int32) <<< (u14 &&& 31) else (0 : Int32))) : Int32) (fun v22 => some (.inl ((v22, u14 + (1 : Int32))))))))
def f_X12_count (a0 : Nat) (x1 : Int32) (μ : jM) : Option (Int32 × jM) :=
  jbd (jsi μ a0 0 (0 : Int32)) (fun m1 => jcl (jloop (fun (s : Int32 × Int32) => f_X12_count_L12 a0 m1 s.1 s.2) jfu (((0 : Int32), (0 : Int32)))) (fun w9 => jcl (jloop (fun (s : Int32 × Int32) => f_X12_count_L38 a0 m1 s.1 s.2) jfu (((0 : Int32), (0 : Int32)))) (fun w24 => (if x1 = (0 : Int32) then some ((m1.1 a0 9, m1)) else (if x1 = (1 : Int32) then jcl (f_X12_valuesMany a0 m1) (fun v30 => some ((v30, m1))) else (if x1 = (2 : Int32) then jrd (m1.1 (a0 + 3)) (11 : Int32) 2074 (fun v34 => some ((v34, m1))) else (if x1 = (3 : Int32) then jrd (m1.1 (a0 + 3)) (28 : Int32) 2074 (fun v38 => some ((v38, m1))) else (if x1 = (4 : Int32) then some (((10000 : Int32) + w9, m1)) else (if x1 = (5 : Int32) then jcl (f_X12_trailsMany a0 m1) (fun v42 => some ((v42, m1))) else (if x1 = (6 : Int32) then some ((m1.1 a0 37, m1)) else (if x1 = (7 : Int32) then some ((m1.1 a0 1, m1)) else (if x1 = (8 : Int32) then some ((m1.1 a0 4, m1)) else (if x1 = (9 : Int32) then some ((w24, m1)) else some (((-100 : Int32), m1)))))))))))))))
set_option maxHeartbeats 4000000 in
set_option maxRecDepth 100000 in
theorem c_X12_count {l : Launch} {G : jG} {L : jL} (hL : jOKL L) {a0 : Nat} {x1 : Int32} (ka0 : jK L a0 12) {μ μ' : jM} {r : Int32} (h : f_X12_count a0 x1 μ = some ((r, μ'))) : jCt l G L 5 yX12_count cX12_count 5 (some .int) [.ref (L.2.2 a0), .int x1] μ (some (.int r)) μ' := by
  refine jCt_of (by decide) (Nat.le_of_ble_eq_true rfl) (fun X hC hX hR => ?_)
  subst hX
  have hC : jC X G cX12_count 5 RX12 (some .int) := hC
  unfold f_X12_count at h
  show jJ X G 5 L 0 0 (jQM X G L (some (.int r)) μ' 0 0) 0 [(0, .ref (L.2.2 a0)), (1, .int x1)] [] μ
  refine j_aload_n (pc := 0) hC 0 0 dX12_count_0 rfl rfl ?_
  refine j_iconst (pc := 1) hC (0 : Int32) dX12_count_1 (by decide) ?_
  obtain ⟨m1, e2, h⟩ := jbd_ex h
  refine jpi_12 (pc := 2) hC 0 (by decide) rfl kf_X12_1 dX12_count_2 rfl (by decide) ka0 e2 ?_
  refine j_iconst (pc := 5) hC (0 : Int32) dX12_count_5 (by decide) ?_
  refine j_istore_n (pc := 6) hC 2 [(2, .int (0 : Int32)), (0, .ref (L.2.2 a0)), (1, .int x1)] dX12_count_6 rfl (by decide) rfl rfl ?_
  refine j_iconst (pc := 7) hC (0 : Int32) dX12_count_7 (by decide) ?_
  refine j_istore_n (pc := 8) hC 3 [(3, .int (0 : Int32)), (2, .int (0 : Int32)), (0, .ref (L.2.2 a0)), (1, .int x1)] dX12_count_8 rfl (by decide) rfl rfl ?_
  refine j_iconst (pc := 9) hC (0 : Int32) dX12_count_9 (by decide) ?_
  refine j_istore (pc := 10) hC [(4, .int (0 : Int32)), (3, .int (0 : Int32)), (2, .int (0 : Int32)), (0, .ref (L.2.2 a0)), (1, .int x1)] dX12_count_10 (by decide) rfl rfl ?_
  obtain ⟨w9, hw10, h⟩ := jcl_some h
  refine j_lv [3, 4, 2, 1, 0] rfl ?_
  refine j_loop (step := (fun (s : Int32 × Int32) => f_X12_count_L12 a0 m1 s.1 s.2)) (P := (fun (s : Int32 × Int32) => jJ X G 5 L 0 0 (jQM X G L (some (.int r)) μ' 0 0) 12 [(0, .ref (L.2.2 a0)), (1, .int x1), (2, .int s.1), (3, .int (0 : Int32)), (4, .int s.2)] [] m1)) (R := (fun (e : Int32) => jJ X G 5 L 0 0 (jQM X G L (some (.int r)) μ' 0 0) 35 [(0, .ref (L.2.2 a0)), (1, .int x1), (2, .int e), (3, .int (0 : Int32))] [] m1)) ?_ jfu (((0 : Int32), (0 : Int32))) w9 hw10 ?_
  · intro s11 o h hk
    obtain ⟨u3, u4⟩ := s11
    change f_X12_count_L12 a0 m1 u3 u4 = some o at h
    unfold f_X12_count_L12 at h
    show jJ X G 5 L 0 0 (jQM X G L (some (.int r)) μ' 0 0) 12 [(0, .ref (L.2.2 a0)), (1, .int x1), (2, .int u3), (3, .int (0 : Int32)), (4, .int u4)] [] m1
    refine j_iload (pc := 12) hC 4 dX12_count_12 rfl ?_
    refine j_bipush (pc := 14) hC (6 : Int32) dX12_count_14 (by decide) ?_
    refine j_icmp_ge (pc := 16) hC 35 dX12_count_16 (by decide) (fun c5 => ?_) (fun c5 => ?_)
    · rw [if_pos c5] at h
      obtain rfl := Option.some.inj h
      have hk : jJ X G 5 L 0 0 (jQM X G L (some (.int r)) μ' 0 0) 35 [(0, .ref (L.2.2 a0)), (1, .int x1), (2, .int u3), (3, .int (0 : Int32))] [] m1 := hk
      exact j_lv [0, 1, 2, 3] rfl hk
    · rw [if_neg c5] at h
      refine j_iload_n (pc := 19) hC 2 2 dX12_count_19 rfl rfl ?_
      refine j_aload_n (pc := 20) hC 0 0 dX12_count_20 rfl rfl ?_
      refine jgr_12 (pc := 21) hC 8 (by decide) rfl kf_X12_60 dX12_count_21 ka0 (ly_12_8 hL ka0).1 ?_
      refine j_iload (pc := 24) hC 4 dX12_count_24 rfl ?_
      obtain ⟨i6, v7, e8, h⟩ := jrd_some h
      refine j_iald (pc := 26) hC dX12_count_26 (ly_12_8 hL ka0).2.1 (ly_12_8 hL ka0).2.2 i6 e8 ?_
      refine j_iadd (pc := 27) hC dX12_count_27 ?_
      refine j_istore_n (pc := 28) hC 2 [(2, .int (u3 + v7)), (0, .ref (L.2.2 a0)), (1, .int x1), (3, .int (0 : Int32)), (4, .int u4)] dX12_count_28 rfl (by decide) rfl rfl ?_
      refine j_iinc (pc := 29) hC 4 (u4 + (1 : Int32)) [(4, .int (u4 + (1 : Int32))), (2, .int (u3 + v7)), (0, .ref (L.2.2 a0)), (1, .int x1), (3, .int (0 : Int32))] dX12_count_29 rfl rfl (by decide) rfl ?_
      refine j_goto (pc := 32) hC 12 dX12_count_32 (by decide) ?_
      obtain rfl := Option.some.inj h
      have hk : jJ X G 5 L 0 0 (jQM X G L (some (.int r)) μ' 0 0) 12 [(0, .ref (L.2.2 a0)), (1, .int x1), (2, .int (u3 + v7)), (3, .int (0 : Int32)), (4, .int (u4 + (1 : Int32)))] [] m1 := hk
      exact j_lv [2, 3, 1, 4, 0] rfl hk
  · obtain ⟨z12, rfl⟩ : ∃ y, y = w9 := ⟨_, rfl⟩
    try dsimp only at h
    show jJ X G 5 L 0 0 (jQM X G L (some (.int r)) μ' 0 0) 35 [(0, .ref (L.2.2 a0)), (1, .int x1), (2, .int z12), (3, .int (0 : Int32))] [] m1
    refine j_iconst (pc := 35) hC (0 : Int32) dX12_count_35 (by decide) ?_
    refine j_istore (pc := 36) hC [(4, .int (0 : Int32)), (0, .ref (L.2.2 a0)), (1, .int x1), (2, .int z12), (3, .int (0 : Int32))] dX12_count_36 (by decide) rfl rfl ?_
    obtain ⟨w24, hw25, h⟩ := jcl_some h
    refine j_lv [1, 2, 3, 4, 0] rfl ?_
    refine j_loop (step := (fun (s : Int32 × Int32) => f_X12_count_L38 a0 m1 s.1 s.2)) (P := (fun (s : Int32 × Int32) => jJ X G 5 L 0 0 (jQM X G L (some (.int r)) μ' 0 0) 38 [(0, .ref (L.2.2 a0)), (1, .int x1), (2, .int z12), (3, .int s.1), (4, .int s.2)] [] m1)) (R := (fun (e : Int32) => jJ X G 5 L 0 0 (jQM X G L (some (.int r)) μ' 0 0) 78 [(0, .ref (L.2.2 a0)), (1, .int x1), (2, .int z12), (3, .int e)] [] m1)) ?_ jfu (((0 : Int32), (0 : Int32))) w24 hw25 ?_
    · intro s26 o h hk
      obtain ⟨u13, u14⟩ := s26
      change f_X12_count_L38 a0 m1 u13 u14 = some o at h
      unfold f_X12_count_L38 at h
      show jJ X G 5 L 0 0 (jQM X G L (some (.int r)) μ' 0 0) 38 [(0, .ref (L.2.2 a0)), (1, .int x1), (2, .int z12), (3, .int u13), (4, .int u14)] [] m1
      refine j_iload (pc := 38) hC 4 dX12_count_38 rfl ?_
      refine j_iconst (pc := 40) hC (5 : Int32) dX12_count_40 (by decide) ?_
      refine j_icmp_ge (pc := 41) hC 78 dX12_count_41 (by decide) (fun c15 => ?_) (fun c15 => ?_)
      · rw [if_pos c15] at h
        obtain rfl := Option.some.inj h
        have hk : jJ X G 5 L 0 0 (jQM X G L (some (.int r)) μ' 0 0) 78 [(0, .ref (L.2.2 a0)), (1, .int x1), (2, .int z12), (3, .int u13)] [] m1 := hk
        exact j_lv [0, 1, 2, 3] rfl hk
      · rw [if_neg c15] at h
        refine j_iload_n (pc := 44) hC 3 3 dX12_count_44 rfl rfl ?_
        refine j_aload_n (pc := 45) hC 0 0 dX12_count_45 rfl rfl ?_
        refine jgr_12 (pc := 46) hC 8 (by decide) rfl kf_X12_60 dX12_count_46 ka0 (ly_12_8 hL ka0).1 ?_
        refine j_bipush (pc := 49) hC (6 : Int32) dX12_count_49 (by decide) ?_
        refine j_iload (pc := 51) hC 4 dX12_count_51 rfl ?_
        refine j_iadd (pc := 53) hC dX12_count_53 ?_
        obtain ⟨i16, v17, e18, h⟩ := jrd_some h
        refine j_iald (pc := 54) hC dX12_count_54 (ly_12_8 hL ka0).2.1 (ly_12_8 hL ka0).2.2 i16 e18 ?_
        obtain ⟨v19, e20, h⟩ := jcl_some h
        refine j_si (pc := 55) hC hR [.int v17] iy_X12_bitsOf km_X12_211 dX12_count_55 rfl (by decide) (c_X12_bitsOf hL  e20) (by decide) (Nat.le_of_ble_eq_true rfl) rfl ?_
        refine j_iconst (pc := 58) hC (1 : Int32) dX12_count_58 (by decide) ?_
        refine jmg (B := jJ X G 5 L 0 0 (jQM X G L (some (.int r)) μ' 0 0) 70 [(0, .ref (L.2.2 a0)), (1, .int x1), (2, .int z12), (3, .int u13), (4, .int u14)] [.int ((if v19 = (1 : Int32) then (1 : Int32) <<< (u14 &&& 31) else (0 : Int32))), .int u13] m1) (fun hj => ?_) ?_
        · refine j_icmp_ne (pc := 59) hC 69 dX12_count_59 (by decide) (fun c21 => ?_) (fun c21 => ?_)
          · rw [if_neg c21] at hj
            refine j_iconst (pc := 69) hC (0 : Int32) dX12_count_69 (by decide) ?_
            exact hj
          · rw [if_pos c21] at hj
            refine j_iconst (pc := 62) hC (1 : Int32) dX12_count_62 (by decide) ?_
            refine j_iload (pc := 63) hC 4 dX12_count_63 rfl ?_
            refine j_ishl (pc := 65) hC dX12_count_65 ?_
            refine j_goto (pc := 66) hC 70 dX12_count_66 (by decide) ?_
            exact hj
        refine j_ior (pc := 70) hC dX12_count_70 ?_
        obtain ⟨v22, e23, h⟩ := jbd_ex h
        refine j_istore_n (pc := 71) hC 3 [(3, .int v22), (0, .ref (L.2.2 a0)), (1, .int x1), (2, .int z12), (4, .int u14)] dX12_count_71 rfl (by decide) e23 rfl ?_
        refine j_iinc (pc := 72) hC 4 (u14 + (1 : Int32)) [(4, .int (u14 + (1 : Int32))), (3, .int v22), (0, .ref (L.2.2 a0)), (1, .int x1), (2, .int z12)] dX12_count_72 rfl rfl (by decide) rfl ?_
        refine j_goto (pc := 75) hC 38 dX12_count_75 (by decide) ?_
        obtain rfl := Option.some.inj h
        have hk : jJ X G 5 L 0 0 (jQM X G L (some (.int r)) μ' 0 0) 38 [(0, .ref (L.2.2 a0)), (1, .int x1), (2, .int z12), (3, .int v22), (4, .int (u14 + (1 : Int32)))] [] m1 := hk
        exact j_lv [2, 3, 4, 1, 0] rfl hk
    · obtain ⟨z27, rfl⟩ : ∃ y, y = w24 := ⟨_, rfl⟩
      try dsimp only at h
      show jJ X G 5 L 0 0 (jQM X G L (some (.int r)) μ' 0 0) 78 [(0, .ref (L.2.2 a0)), (1, .int x1), (2, .int z12), (3, .int z27)] [] m1
      refine j_iload_n (pc := 78) hC 1 1 dX12_count_78 rfl rfl ?_
      by_cases c28 : x1 = (0 : Int32)
      · rw [if_pos c28] at h
        refine j_tableIn (pc := 79) hC 132 dX12_count_79 (by rw [c28]; decide) (by rw [c28]; decide) (by rw [c28]; rfl) (by decide) ?_
        refine j_aload_n (pc := 132) hC 0 0 dX12_count_132 rfl rfl ?_
        refine jgi_12 (pc := 133) hC 9 (by decide) rfl kf_X12_158 dX12_count_133 ka0 ?_
        obtain ⟨rfl, rfl⟩ := Prod.mk.inj (Option.some.inj h)
        exact j_iret (pc := 136) hC dX12_count_136 rfl
      · rw [if_neg c28] at h
        by_cases c29 : x1 = (1 : Int32)
        · rw [if_pos c29] at h
          refine j_tableIn (pc := 79) hC 137 dX12_count_79 (by rw [c29]; decide) (by rw [c29]; decide) (by rw [c29]; rfl) (by decide) ?_
          refine j_aload_n (pc := 137) hC 0 0 dX12_count_137 rfl rfl ?_
          obtain ⟨v30, e31, h⟩ := jcl_some h
          refine j_vi (pc := 138) hC hR [] iy_X12_valuesMany (q := (RX12, TX12, 40)) (ci := 12) rfl rfl (by decide) km_X12_283 dX12_count_138 rfl (by decide) ka0 (c_X12_valuesMany hL ka0 e31) (by decide) (Nat.le_of_ble_eq_true rfl) rfl ?_
          obtain ⟨rfl, rfl⟩ := Prod.mk.inj (Option.some.inj h)
          exact j_iret (pc := 141) hC dX12_count_141 rfl
        · rw [if_neg c29] at h
          by_cases c32 : x1 = (2 : Int32)
          · rw [if_pos c32] at h
            refine j_tableIn (pc := 79) hC 142 dX12_count_79 (by rw [c32]; decide) (by rw [c32]; decide) (by rw [c32]; rfl) (by decide) ?_
            refine j_aload_n (pc := 142) hC 0 0 dX12_count_142 rfl rfl ?_
            refine jgr_12 (pc := 143) hC 8 (by decide) rfl kf_X12_60 dX12_count_143 ka0 (ly_12_8 hL ka0).1 ?_
            refine j_bipush (pc := 146) hC (11 : Int32) dX12_count_146 (by decide) ?_
            obtain ⟨i33, v34, e35, h⟩ := jrd_some h
            refine j_iald (pc := 148) hC dX12_count_148 (ly_12_8 hL ka0).2.1 (ly_12_8 hL ka0).2.2 i33 e35 ?_
            obtain ⟨rfl, rfl⟩ := Prod.mk.inj (Option.some.inj h)
            exact j_iret (pc := 149) hC dX12_count_149 rfl
          · rw [if_neg c32] at h
            by_cases c36 : x1 = (3 : Int32)
            · rw [if_pos c36] at h
              refine j_tableIn (pc := 79) hC 150 dX12_count_79 (by rw [c36]; decide) (by rw [c36]; decide) (by rw [c36]; rfl) (by decide) ?_
              refine j_aload_n (pc := 150) hC 0 0 dX12_count_150 rfl rfl ?_
              refine jgr_12 (pc := 151) hC 8 (by decide) rfl kf_X12_60 dX12_count_151 ka0 (ly_12_8 hL ka0).1 ?_
              refine j_bipush (pc := 154) hC (28 : Int32) dX12_count_154 (by decide) ?_
              obtain ⟨i37, v38, e39, h⟩ := jrd_some h
              refine j_iald (pc := 156) hC dX12_count_156 (ly_12_8 hL ka0).2.1 (ly_12_8 hL ka0).2.2 i37 e39 ?_
              obtain ⟨rfl, rfl⟩ := Prod.mk.inj (Option.some.inj h)
              exact j_iret (pc := 157) hC dX12_count_157 rfl
            · rw [if_neg c36] at h
              by_cases c40 : x1 = (4 : Int32)
              · rw [if_pos c40] at h
                refine j_tableIn (pc := 79) hC 158 dX12_count_79 (by rw [c40]; decide) (by rw [c40]; decide) (by rw [c40]; rfl) (by decide) ?_
                refine j_sipush (pc := 158) hC (10000 : Int32) dX12_count_158 (by decide) ?_
                refine j_iload_n (pc := 161) hC 2 2 dX12_count_161 rfl rfl ?_
                refine j_iadd (pc := 162) hC dX12_count_162 ?_
                obtain ⟨rfl, rfl⟩ := Prod.mk.inj (Option.some.inj h)
                exact j_iret (pc := 163) hC dX12_count_163 rfl
              · rw [if_neg c40] at h
                by_cases c41 : x1 = (5 : Int32)
                · rw [if_pos c41] at h
                  refine j_tableIn (pc := 79) hC 164 dX12_count_79 (by rw [c41]; decide) (by rw [c41]; decide) (by rw [c41]; rfl) (by decide) ?_
                  refine j_aload_n (pc := 164) hC 0 0 dX12_count_164 rfl rfl ?_
                  obtain ⟨v42, e43, h⟩ := jcl_some h
                  refine j_vi (pc := 165) hC hR [] iy_X12_trailsMany (q := (RX12, TX12, 40)) (ci := 12) rfl rfl (by decide) km_X12_432 dX12_count_165 rfl (by decide) ka0 (c_X12_trailsMany hL ka0 e43) (by decide) (Nat.le_of_ble_eq_true rfl) rfl ?_
                  obtain ⟨rfl, rfl⟩ := Prod.mk.inj (Option.some.inj h)
                  exact j_iret (pc := 168) hC dX12_count_168 rfl
                · rw [if_neg c41] at h
                  by_cases c44 : x1 = (6 : Int32)
                  · rw [if_pos c44] at h
                    refine j_tableIn (pc := 79) hC 169 dX12_count_79 (by rw [c44]; decide) (by rw [c44]; decide) (by rw [c44]; rfl) (by decide) ?_
                    refine j_aload_n (pc := 169) hC 0 0 dX12_count_169 rfl rfl ?_
                    refine jgi_12 (pc := 170) hC 37 (by decide) rfl kf_X12_414 dX12_count_170 ka0 ?_
                    obtain ⟨rfl, rfl⟩ := Prod.mk.inj (Option.some.inj h)
                    exact j_iret (pc := 173) hC dX12_count_173 rfl
                  · rw [if_neg c44] at h
                    by_cases c45 : x1 = (7 : Int32)
                    · rw [if_pos c45] at h
                      refine j_tableIn (pc := 79) hC 174 dX12_count_79 (by rw [c45]; decide) (by rw [c45]; decide) (by rw [c45]; rfl) (by decide) ?_
                      refine j_aload_n (pc := 174) hC 0 0 dX12_count_174 rfl rfl ?_
                      refine jgi_12 (pc := 175) hC 1 (by decide) rfl kf_X12_11 dX12_count_175 ka0 ?_
                      obtain ⟨rfl, rfl⟩ := Prod.mk.inj (Option.some.inj h)
                      exact j_iret (pc := 178) hC dX12_count_178 rfl
                    · rw [if_neg c45] at h
                      by_cases c46 : x1 = (8 : Int32)
                      · rw [if_pos c46] at h
                        refine j_tableIn (pc := 79) hC 179 dX12_count_79 (by rw [c46]; decide) (by rw [c46]; decide) (by rw [c46]; rfl) (by decide) ?_
                        refine j_aload_n (pc := 179) hC 0 0 dX12_count_179 rfl rfl ?_
                        refine jgi_12 (pc := 180) hC 4 (by decide) rfl kf_X12_14 dX12_count_180 ka0 ?_
                        obtain ⟨rfl, rfl⟩ := Prod.mk.inj (Option.some.inj h)
                        exact j_iret (pc := 183) hC dX12_count_183 rfl
                      · rw [if_neg c46] at h
                        by_cases c47 : x1 = (9 : Int32)
                        · rw [if_pos c47] at h
                          refine j_tableIn (pc := 79) hC 184 dX12_count_79 (by rw [c47]; decide) (by rw [c47]; decide) (by rw [c47]; rfl) (by decide) ?_
                          refine j_iload_n (pc := 184) hC 3 3 dX12_count_184 rfl rfl ?_
                          obtain ⟨rfl, rfl⟩ := Prod.mk.inj (Option.some.inj h)
                          exact j_iret (pc := 185) hC dX12_count_185 rfl
                        · rw [if_neg c47] at h
                          refine j_tableOut (pc := 79) hC 186 dX12_count_79 (by have := lv_neT c28 (show (0 : Int32).toInt = 0 by decide); have := lv_neT c29 (show (1 : Int32).toInt = 1 by decide); have := lv_neT c32 (show (2 : Int32).toInt = 2 by decide); have := lv_neT c36 (show (3 : Int32).toInt = 3 by decide); have := lv_neT c40 (show (4 : Int32).toInt = 4 by decide); have := lv_neT c41 (show (5 : Int32).toInt = 5 by decide); have := lv_neT c44 (show (6 : Int32).toInt = 6 by decide); have := lv_neT c45 (show (7 : Int32).toInt = 7 by decide); have := lv_neT c46 (show (8 : Int32).toInt = 8 by decide); have := lv_neT c47 (show (9 : Int32).toInt = 9 by decide); omega) (by decide) ?_
                          refine j_bipush (pc := 186) hC (-100 : Int32) dX12_count_186 (by decide) ?_
                          obtain ⟨rfl, rfl⟩ := Prod.mk.inj (Option.some.inj h)
                          exact j_iret (pc := 188) hC dX12_count_188 rfl
theorem dX12_row_0 : decode cX12_row 0 = .ok (.aload_n 0, 1) := by decide +kernel
theorem dX12_row_1 : decode cX12_row 1 = .ok (.iload_n 1, 1) := by decide +kernel
theorem dX12_row_2 : decode cX12_row 2 = .ok (.i2l, 1) := by decide +kernel
theorem dX12_row_3 : decode cX12_row 3 = .ok (.lconst 0, 1) := by decide +kernel
theorem dX12_row_4 : decode cX12_row 4 = .ok (.aload_n 0, 1) := by decide +kernel
theorem dX12_row_5 : decode cX12_row 5 = .ok (.getfield 11, 3) := by decide +kernel
theorem dX12_row_8 : decode cX12_row 8 = .ok (.iconst 1, 1) := by decide +kernel
theorem dX12_row_9 : decode cX12_row 9 = .ok (.isub, 1) := by decide +kernel
theorem dX12_row_10 : decode cX12_row 10 = .ok (.i2l, 1) := by decide +kernel
theorem dX12_row_11 : decode cX12_row 11 = .ok (.invokestatic 21, 3) := by decide +kernel
theorem dX12_row_14 : decode cX12_row 14 = .ok (.ifCond .ne 7, 3) := by decide +kernel
theorem dX12_row_17 : decode cX12_row 17 = .ok (.iconst 1, 1) := by decide +kernel
theorem dX12_row_18 : decode cX12_row 18 = .ok (.goto 4, 3) := by decide +kernel
theorem dX12_row_21 : decode cX12_row 21 = .ok (.iconst 0, 1) := by decide +kernel
theorem dX12_row_22 : decode cX12_row 22 = .ok (.invokestatic 34, 3) := by decide +kernel
theorem dX12_row_25 : decode cX12_row 25 = .ok (.putfield 1, 3) := by decide +kernel
theorem dX12_row_28 : decode cX12_row 28 = .ok (.aload_n 0, 1) := by decide +kernel
theorem dX12_row_29 : decode cX12_row 29 = .ok (.getfield 1, 3) := by decide +kernel
theorem dX12_row_32 : decode cX12_row 32 = .ok (.iconst 1, 1) := by decide +kernel
theorem dX12_row_33 : decode cX12_row 33 = .ok (.if_icmp .ne 7, 3) := by decide +kernel
theorem dX12_row_36 : decode cX12_row 36 = .ok (.lconst 0, 1) := by decide +kernel
theorem dX12_row_37 : decode cX12_row 37 = .ok (.goto 9, 3) := by decide +kernel
theorem dX12_row_40 : decode cX12_row 40 = .ok (.aload_n 0, 1) := by decide +kernel
theorem dX12_row_41 : decode cX12_row 41 = .ok (.getfield 7, 3) := by decide +kernel
theorem dX12_row_44 : decode cX12_row 44 = .ok (.iload_n 1, 1) := by decide +kernel
theorem dX12_row_45 : decode cX12_row 45 = .ok (.laload, 1) := by decide +kernel
theorem dX12_row_46 : decode cX12_row 46 = .ok (.lreturn, 1) := by decide +kernel
def f_X12_row (a0 : Nat) (x1 : Int32) (μ : jM) : Option (Int64 × jM) :=
  jbd (jsi μ a0 0 (f_X12_flag ((if (f_X12_in x1.toInt64 (0 : Int64) (((μ.1 a0 1) - (1 : Int32)).toInt64)) = (0 : Int32) then (1 : Int32) else (0 : Int32))))) (fun m2 => (if (m2.1 a0 0) = (1 : Int32) then some (((0 : Int64), m2)) else jrd (m2.2 (a0 + 1)) x1 40 (fun v6 => some ((v6, m2)))))
set_option maxHeartbeats 4000000 in
set_option maxRecDepth 100000 in
theorem c_X12_row {l : Launch} {G : jG} {L : jL} (hL : jOKL L) {a0 : Nat} {x1 : Int32} (ka0 : jK L a0 12) {μ μ' : jM} {r : Int64} (h : f_X12_row a0 x1 μ = some ((r, μ'))) : jCt l G L 4 yX12_row cX12_row 2 (some .long) [.ref (L.2.2 a0), .int x1] μ (some (.long r)) μ' := by
  refine jCt_of (by decide) (Nat.le_of_ble_eq_true rfl) (fun X hC hX hR => ?_)
  subst hX
  have hC : jC X G cX12_row 2 RX12 (some .long) := hC
  unfold f_X12_row at h
  show jJ X G 2 L 0 0 (jQM X G L (some (.long r)) μ' 0 0) 0 [(0, .ref (L.2.2 a0)), (1, .int x1)] [] μ
  refine j_aload_n (pc := 0) hC 0 0 dX12_row_0 rfl rfl ?_
  refine j_iload_n (pc := 1) hC 1 1 dX12_row_1 rfl rfl ?_
  refine j_i2l (pc := 2) hC dX12_row_2 ?_
  refine j_lconst (pc := 3) hC (0 : Int64) dX12_row_3 (by decide) ?_
  refine j_aload_n (pc := 4) hC 0 0 dX12_row_4 rfl rfl ?_
  refine jgi_12 (pc := 5) hC 1 (by decide) rfl kf_X12_11 dX12_row_5 ka0 ?_
  refine j_iconst (pc := 8) hC (1 : Int32) dX12_row_8 (by decide) ?_
  refine j_isub (pc := 9) hC dX12_row_9 ?_
  refine j_i2l (pc := 10) hC dX12_row_10 ?_
  refine j_si (pc := 11) hC hR [.long x1.toInt64, .long (0 : Int64), .long (((μ.1 a0 1) - (1 : Int32)).toInt64)] iy_X12_in km_X12_21 dX12_row_11 rfl (by decide) (c_X12_in hL  rfl) (by decide) (Nat.le_of_ble_eq_true rfl) rfl ?_
  refine jmg (B := jJ X G 2 L 0 0 (jQM X G L (some (.long r)) μ' 0 0) 22 [(0, .ref (L.2.2 a0)), (1, .int x1)] [.int ((if (f_X12_in x1.toInt64 (0 : Int64) (((μ.1 a0 1) - (1 : Int32)).toInt64)) = (0 : Int32) then (1 : Int32) else (0 : Int32))), .ref (L.2.2 a0)] μ) (fun hj => ?_) ?_
  · refine j_if_ne (pc := 14) hC 21 dX12_row_14 (by decide) (fun c1 => ?_) (fun c1 => ?_)
    · rw [if_neg c1] at hj
      refine j_iconst (pc := 21) hC (0 : Int32) dX12_row_21 (by decide) ?_
      exact hj
    · rw [if_pos c1] at hj
      refine j_iconst (pc := 17) hC (1 : Int32) dX12_row_17 (by decide) ?_
      refine j_goto (pc := 18) hC 22 dX12_row_18 (by decide) ?_
      exact hj
  refine j_si (pc := 22) hC hR [.int ((if (f_X12_in x1.toInt64 (0 : Int64) (((μ.1 a0 1) - (1 : Int32)).toInt64)) = (0 : Int32) then (1 : Int32) else (0 : Int32)))] iy_X12_flag km_X12_34 dX12_row_22 rfl (by decide) (c_X12_flag hL  rfl) (by decide) (Nat.le_of_ble_eq_true rfl) rfl ?_
  obtain ⟨m2, e3, h⟩ := jbd_ex h
  refine jpi_12 (pc := 25) hC 0 (by decide) rfl kf_X12_1 dX12_row_25 rfl (by decide) ka0 e3 ?_
  refine j_aload_n (pc := 28) hC 0 0 dX12_row_28 rfl rfl ?_
  refine jgi_12 (pc := 29) hC 0 (by decide) rfl kf_X12_1 dX12_row_29 ka0 ?_
  refine j_iconst (pc := 32) hC (1 : Int32) dX12_row_32 (by decide) ?_
  refine j_icmp_ne (pc := 33) hC 40 dX12_row_33 (by decide) (fun c4 => ?_) (fun c4 => ?_)
  · rw [if_neg c4] at h
    refine j_aload_n (pc := 40) hC 0 0 dX12_row_40 rfl rfl ?_
    refine jgr_12 (pc := 41) hC 2 (by decide) rfl kf_X12_7 dX12_row_41 ka0 (ly_12_2 hL ka0).1 ?_
    refine j_iload_n (pc := 44) hC 1 1 dX12_row_44 rfl rfl ?_
    obtain ⟨i5, v6, e7, h⟩ := jrd_some h
    refine j_lald (pc := 45) hC dX12_row_45 (ly_12_2 hL ka0).2.1 (ly_12_2 hL ka0).2.2 i5 e7 ?_
    obtain ⟨rfl, rfl⟩ := Prod.mk.inj (Option.some.inj h)
    exact j_lret (pc := 46) hC dX12_row_46 rfl
  · rw [if_pos c4] at h
    refine j_lconst (pc := 36) hC (0 : Int64) dX12_row_36 (by decide) ?_
    refine j_goto (pc := 37) hC 46 dX12_row_37 (by decide) ?_
    obtain ⟨rfl, rfl⟩ := Prod.mk.inj (Option.some.inj h)
    exact j_lret (pc := 46) hC dX12_row_46 rfl
