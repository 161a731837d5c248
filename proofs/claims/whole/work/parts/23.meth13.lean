theorem dX12_its_0 : decode cX12_its 0 = .ok (.aload_n 0, 1) := by decide +kernel
theorem dX12_its_1 : decode cX12_its 1 = .ok (.getfield 60, 3) := by decide +kernel
theorem dX12_its_4 : decode cX12_its 4 = .ok (.iload_n 1, 1) := by decide +kernel
theorem dX12_its_5 : decode cX12_its 5 = .ok (.bipush 61, 2) := by decide +kernel
theorem dX12_its_7 : decode cX12_its 7 = .ok (.imul, 1) := by decide +kernel
theorem dX12_its_8 : decode cX12_its 8 = .ok (.iload_n 2, 1) := by decide +kernel
theorem dX12_its_9 : decode cX12_its 9 = .ok (.iadd, 1) := by decide +kernel
theorem dX12_its_10 : decode cX12_its 10 = .ok (.iaload, 1) := by decide +kernel
theorem dX12_its_11 : decode cX12_its 11 = .ok (.ireturn, 1) := by decide +kernel
def f_X12_its (a0 : Nat) (x1 : Int32) (x2 : Int32) (μ : jM) : Option (Int32) :=
  jrd (μ.1 (a0 + 3)) ((x1 * (61 : Int32)) + x2) 2074 (fun v2 => some v2)
set_option maxHeartbeats 4000000 in
set_option maxRecDepth 100000 in
theorem c_X12_its {l : Launch} {G : jG} {L : jL} (hL : jOKL L) {a0 : Nat} {x1 : Int32} {x2 : Int32} (ka0 : jK L a0 12) {μ : jM} {r : Int32} (h : f_X12_its a0 x1 x2 μ = some r) : jCt l G L 3 yX12_its cX12_its 3 (some .int) [.ref (L.2.2 a0), .int x1, .int x2] μ (some (.int r)) μ := by
  refine jCt_of (by decide) (Nat.le_of_ble_eq_true rfl) (fun X hC hX hR => ?_)
  subst hX
  have hC : jC X G cX12_its 3 RX12 (some .int) := hC
  unfold f_X12_its at h
  show jJ X G 3 L 0 0 (jQM X G L (some (.int r)) μ 0 0) 0 [(0, .ref (L.2.2 a0)), (1, .int x1), (2, .int x2)] [] μ
  refine j_aload_n (pc := 0) hC 0 0 dX12_its_0 rfl rfl ?_
  refine jgr_12 (pc := 1) hC 8 (by decide) rfl kf_X12_60 dX12_its_1 ka0 (ly_12_8 hL ka0).1 ?_
  refine j_iload_n (pc := 4) hC 1 1 dX12_its_4 rfl rfl ?_
  refine j_bipush (pc := 5) hC (61 : Int32) dX12_its_5 (by decide) ?_
  refine j_imul (pc := 7) hC dX12_its_7 ?_
  refine j_iload_n (pc := 8) hC 2 2 dX12_its_8 rfl rfl ?_
  refine j_iadd (pc := 9) hC dX12_its_9 ?_
  obtain ⟨i1, v2, e3, h⟩ := jrd_some h
  refine j_iald (pc := 10) hC dX12_its_10 (ly_12_8 hL ka0).2.1 (ly_12_8 hL ka0).2.2 i1 e3 ?_
  obtain rfl := Option.some.inj h
  exact j_iret (pc := 11) hC dX12_its_11 rfl
theorem dX12_placeOf_0 : decode cX12_placeOf 0 = .ok (.iconst 0, 1) := by decide +kernel
theorem dX12_placeOf_1 : decode cX12_placeOf 1 = .ok (.istore_n 3, 1) := by decide +kernel
theorem dX12_placeOf_2 : decode cX12_placeOf 2 = .ok (.iload_n 3, 1) := by decide +kernel
theorem dX12_placeOf_3 : decode cX12_placeOf 3 = .ok (.aload_n 0, 1) := by decide +kernel
theorem dX12_placeOf_4 : decode cX12_placeOf 4 = .ok (.iload_n 1, 1) := by decide +kernel
theorem dX12_placeOf_5 : decode cX12_placeOf 5 = .ok (.bipush 11, 2) := by decide +kernel
theorem dX12_placeOf_7 : decode cX12_placeOf 7 = .ok (.invokevirtual 121, 3) := by decide +kernel
theorem dX12_placeOf_10 : decode cX12_placeOf 10 = .ok (.if_icmp .ge 24, 3) := by decide +kernel
theorem dX12_placeOf_13 : decode cX12_placeOf 13 = .ok (.aload_n 0, 1) := by decide +kernel
theorem dX12_placeOf_14 : decode cX12_placeOf 14 = .ok (.iload_n 1, 1) := by decide +kernel
theorem dX12_placeOf_15 : decode cX12_placeOf 15 = .ok (.bipush 12, 2) := by decide +kernel
theorem dX12_placeOf_17 : decode cX12_placeOf 17 = .ok (.iload_n 3, 1) := by decide +kernel
theorem dX12_placeOf_18 : decode cX12_placeOf 18 = .ok (.iadd, 1) := by decide +kernel
theorem dX12_placeOf_19 : decode cX12_placeOf 19 = .ok (.invokevirtual 121, 3) := by decide +kernel
theorem dX12_placeOf_22 : decode cX12_placeOf 22 = .ok (.iload_n 2, 1) := by decide +kernel
theorem dX12_placeOf_23 : decode cX12_placeOf 23 = .ok (.if_icmp .ne 5, 3) := by decide +kernel
theorem dX12_placeOf_26 : decode cX12_placeOf 26 = .ok (.iload_n 3, 1) := by decide +kernel
theorem dX12_placeOf_27 : decode cX12_placeOf 27 = .ok (.ireturn, 1) := by decide +kernel
theorem dX12_placeOf_28 : decode cX12_placeOf 28 = .ok (.iinc 3 1, 3) := by decide +kernel
theorem dX12_placeOf_31 : decode cX12_placeOf 31 = .ok (.goto (-29), 3) := by decide +kernel
theorem dX12_placeOf_34 : decode cX12_placeOf 34 = .ok (.iconst (-1), 1) := by decide +kernel
theorem dX12_placeOf_35 : decode cX12_placeOf 35 = .ok (.ireturn, 1) := by decide +kernel
def f_X12_placeOf_L2 (a0 : Nat) (x1 : Int32) (x2 : Int32) (μ : jM) (u1 : Int32) : Option ((Int32) ⊕ ((Int32) ⊕ (Unit))) :=
  jcl (f_X12_its a0 x1 (11 : Int32) μ) (fun v2 => (if v2 ≤ u1 then some (.inr (.inr (()))) else jcl (f_X12_its a0 x1 ((12 : Int32) + u1) μ) (fun v5 => (if v5 = x2 then some (.inr (.inl u1)) else some (.inl (u1 + (1 : Int32)))))))
def f_X12_placeOf (a0 : Nat) (x1 : Int32) (x2 : Int32) (μ : jM) : Option (Int32) :=
  jcl (jloop (fun (s : Int32) => f_X12_placeOf_L2 a0 x1 x2 μ s) jfu (0 : Int32)) (fun w8 => match w8 with | .inl w8 => some w8 | .inr w8 => some (-1 : Int32))
set_option maxHeartbeats 4000000 in
set_option maxRecDepth 100000 in
theorem c_X12_placeOf {l : Launch} {G : jG} {L : jL} (hL : jOKL L) {a0 : Nat} {x1 : Int32} {x2 : Int32} (ka0 : jK L a0 12) {μ : jM} {r : Int32} (h : f_X12_placeOf a0 x1 x2 μ = some r) : jCt l G L 4 yX12_placeOf cX12_placeOf 4 (some .int) [.ref (L.2.2 a0), .int x1, .int x2] μ (some (.int r)) μ := by
  refine jCt_of (by decide) (Nat.le_of_ble_eq_true rfl) (fun X hC hX hR => ?_)
  subst hX
  have hC : jC X G cX12_placeOf 4 RX12 (some .int) := hC
  unfold f_X12_placeOf at h
  show jJ X G 4 L 0 0 (jQM X G L (some (.int r)) μ 0 0) 0 [(0, .ref (L.2.2 a0)), (1, .int x1), (2, .int x2)] [] μ
  refine j_iconst (pc := 0) hC (0 : Int32) dX12_placeOf_0 (by decide) ?_
  refine j_istore_n (pc := 1) hC 3 [(3, .int (0 : Int32)), (0, .ref (L.2.2 a0)), (1, .int x1), (2, .int x2)] dX12_placeOf_1 rfl (by decide) rfl rfl ?_
  obtain ⟨w8, hw9, h⟩ := jcl_some h
  refine j_lv [1, 2, 3, 0] rfl ?_
  refine j_loop (step := (fun (s : Int32) => f_X12_placeOf_L2 a0 x1 x2 μ s)) (P := (fun (s : Int32) => jJ X G 4 L 0 0 (jQM X G L (some (.int r)) μ 0 0) 2 [(0, .ref (L.2.2 a0)), (1, .int x1), (2, .int x2), (3, .int s)] [] μ)) (R := (fun (e : (Int32) ⊕ (Unit)) => match e with | .inl e => jJ X G 4 L 0 0 (jQM X G L (some (.int r)) μ 0 0) 26 [(3, .int e)] [] μ | .inr e => jJ X G 4 L 0 0 (jQM X G L (some (.int r)) μ 0 0) 34 [] [] μ)) ?_ jfu (0 : Int32) w8 hw9 ?_
  · intro u1 o h hk
    change f_X12_placeOf_L2 a0 x1 x2 μ u1 = some o at h
    unfold f_X12_placeOf_L2 at h
    show jJ X G 4 L 0 0 (jQM X G L (some (.int r)) μ 0 0) 2 [(0, .ref (L.2.2 a0)), (1, .int x1), (2, .int x2), (3, .int u1)] [] μ
    refine j_iload_n (pc := 2) hC 3 3 dX12_placeOf_2 rfl rfl ?_
    refine j_aload_n (pc := 3) hC 0 0 dX12_placeOf_3 rfl rfl ?_
    refine j_iload_n (pc := 4) hC 1 1 dX12_placeOf_4 rfl rfl ?_
    refine j_bipush (pc := 5) hC (11 : Int32) dX12_placeOf_5 (by decide) ?_
    obtain ⟨v2, e3, h⟩ := jcl_some h
    refine j_vi (pc := 7) hC hR [.int x1, .int (11 : Int32)] iy_X12_its (q := (RX12, TX12, 40)) (ci := 12) rfl rfl (by decide) km_X12_121 dX12_placeOf_7 rfl (by decide) ka0 (c_X12_its hL ka0 e3) (by decide) (Nat.le_of_ble_eq_true rfl) rfl ?_
    refine j_icmp_ge (pc := 10) hC 34 dX12_placeOf_10 (by decide) (fun c4 => ?_) (fun c4 => ?_)
    · rw [if_pos c4] at h
      obtain rfl := Option.some.inj h
      have hk : jJ X G 4 L 0 0 (jQM X G L (some (.int r)) μ 0 0) 34 [] [] μ := hk
      exact j_lv [] rfl hk
    · rw [if_neg c4] at h
      refine j_aload_n (pc := 13) hC 0 0 dX12_placeOf_13 rfl rfl ?_
      refine j_iload_n (pc := 14) hC 1 1 dX12_placeOf_14 rfl rfl ?_
      refine j_bipush (pc := 15) hC (12 : Int32) dX12_placeOf_15 (by decide) ?_
      refine j_iload_n (pc := 17) hC 3 3 dX12_placeOf_17 rfl rfl ?_
      refine j_iadd (pc := 18) hC dX12_placeOf_18 ?_
      obtain ⟨v5, e6, h⟩ := jcl_some h
      refine j_vi (pc := 19) hC hR [.int x1, .int ((12 : Int32) + u1)] iy_X12_its (q := (RX12, TX12, 40)) (ci := 12) rfl rfl (by decide) km_X12_121 dX12_placeOf_19 rfl (by decide) ka0 (c_X12_its hL ka0 e6) (by decide) (Nat.le_of_ble_eq_true rfl) rfl ?_
      refine j_iload_n (pc := 22) hC 2 2 dX12_placeOf_22 rfl rfl ?_
      refine j_icmp_ne (pc := 23) hC 28 dX12_placeOf_23 (by decide) (fun c7 => ?_) (fun c7 => ?_)
      · rw [if_neg c7] at h
        refine j_iinc (pc := 28) hC 3 (u1 + (1 : Int32)) [(3, .int (u1 + (1 : Int32))), (0, .ref (L.2.2 a0)), (1, .int x1), (2, .int x2)] dX12_placeOf_28 rfl rfl (by decide) rfl ?_
        refine j_goto (pc := 31) hC 2 dX12_placeOf_31 (by decide) ?_
        obtain rfl := Option.some.inj h
        have hk : jJ X G 4 L 0 0 (jQM X G L (some (.int r)) μ 0 0) 2 [(0, .ref (L.2.2 a0)), (1, .int x1), (2, .int x2), (3, .int (u1 + (1 : Int32)))] [] μ := hk
        exact j_lv [1, 2, 3, 0] rfl hk
      · rw [if_pos c7] at h
        obtain rfl := Option.some.inj h
        have hk : jJ X G 4 L 0 0 (jQM X G L (some (.int r)) μ 0 0) 26 [(3, .int u1)] [] μ := hk
        exact j_lv [3] rfl hk
  · cases w8 with
    | inl w8 =>
      try dsimp only at h
      obtain ⟨z11, rfl⟩ : ∃ y, y = w8 := ⟨_, rfl⟩
      try dsimp only at h
      show jJ X G 4 L 0 0 (jQM X G L (some (.int r)) μ 0 0) 26 [(3, .int z11)] [] μ
      refine j_iload_n (pc := 26) hC 3 0 dX12_placeOf_26 rfl rfl ?_
      obtain rfl := Option.some.inj h
      exact j_iret (pc := 27) hC dX12_placeOf_27 rfl
    | inr w8 =>
      try dsimp only at h
      try dsimp only at h
      show jJ X G 4 L 0 0 (jQM X G L (some (.int r)) μ 0 0) 34 [] [] μ
      refine j_iconst (pc := 34) hC (-1 : Int32) dX12_placeOf_34 (by decide) ?_
      obtain rfl := Option.some.inj h
      exact j_iret (pc := 35) hC dX12_placeOf_35 rfl
theorem dX12_isThing_0 : decode cX12_isThing 0 = .ok (.iload_n 0, 1) := by decide +kernel
theorem dX12_isThing_1 : decode cX12_isThing 1 = .ok (.i2l, 1) := by decide +kernel
theorem dX12_isThing_2 : decode cX12_isThing 2 = .ok (.lconst 0, 1) := by decide +kernel
theorem dX12_isThing_3 : decode cX12_isThing 3 = .ok (.ldc2_w 125, 3) := by decide +kernel
theorem dX12_isThing_6 : decode cX12_isThing 6 = .ok (.invokestatic 21, 3) := by decide +kernel
theorem dX12_isThing_9 : decode cX12_isThing 9 = .ok (.ifCond .ne 31, 3) := by decide +kernel
theorem dX12_isThing_12 : decode cX12_isThing 12 = .ok (.iload_n 0, 1) := by decide +kernel
theorem dX12_isThing_13 : decode cX12_isThing 13 = .ok (.i2l, 1) := by decide +kernel
theorem dX12_isThing_14 : decode cX12_isThing 14 = .ok (.ldc2_w 127, 3) := by decide +kernel
theorem dX12_isThing_17 : decode cX12_isThing 17 = .ok (.ldc2_w 129, 3) := by decide +kernel
theorem dX12_isThing_20 : decode cX12_isThing 20 = .ok (.invokestatic 21, 3) := by decide +kernel
theorem dX12_isThing_23 : decode cX12_isThing 23 = .ok (.ifCond .ne 17, 3) := by decide +kernel
theorem dX12_isThing_26 : decode cX12_isThing 26 = .ok (.iload_n 0, 1) := by decide +kernel
theorem dX12_isThing_27 : decode cX12_isThing 27 = .ok (.i2l, 1) := by decide +kernel
theorem dX12_isThing_28 : decode cX12_isThing 28 = .ok (.ldc2_w 131, 3) := by decide +kernel
theorem dX12_isThing_31 : decode cX12_isThing 31 = .ok (.ldc2_w 133, 3) := by decide +kernel
theorem dX12_isThing_34 : decode cX12_isThing 34 = .ok (.invokestatic 21, 3) := by decide +kernel
theorem dX12_isThing_37 : decode cX12_isThing 37 = .ok (.ifCond .eq 7, 3) := by decide +kernel
theorem dX12_isThing_40 : decode cX12_isThing 40 = .ok (.iconst 1, 1) := by decide +kernel
theorem dX12_isThing_41 : decode cX12_isThing 41 = .ok (.goto 4, 3) := by decide +kernel
theorem dX12_isThing_44 : decode cX12_isThing 44 = .ok (.iconst 0, 1) := by decide +kernel
theorem dX12_isThing_45 : decode cX12_isThing 45 = .ok (.ireturn, 1) := by decide +kernel
def f_X12_isThing (x0 : Int32) : Int32 :=
  (if (f_X12_in x0.toInt64 (0 : Int64) (5 : Int64)) = (0 : Int32) then (if (f_X12_in x0.toInt64 (10 : Int64) (14 : Int64)) = (0 : Int32) then (if (f_X12_in x0.toInt64 (20 : Int64) (30 : Int64)) = (0 : Int32) then (0 : Int32) else (1 : Int32)) else (1 : Int32)) else (1 : Int32))
set_option maxHeartbeats 4000000 in
set_option maxRecDepth 100000 in
theorem c_X12_isThing {l : Launch} {G : jG} {L : jL} (hL : jOKL L) {x0 : Int32}  {μ : jM} {r : Int32} (h : f_X12_isThing x0 = r) : jCt l G L 4 yX12_isThing cX12_isThing 1 (some .boolean) [.int x0] μ (some (.int r)) μ := by
  refine jCt_of (by decide) (Nat.le_of_ble_eq_true rfl) (fun X hC hX hR => ?_)
  subst hX
  have hC : jC X G cX12_isThing 1 RX12 (some .boolean) := hC
  unfold f_X12_isThing at h
  show jJ X G 1 L 0 0 (jQM X G L (some (.int r)) μ 0 0) 0 [(0, .int x0)] [] μ
  refine j_iload_n (pc := 0) hC 0 0 dX12_isThing_0 rfl rfl ?_
  refine j_i2l (pc := 1) hC dX12_isThing_1 ?_
  refine j_lconst (pc := 2) hC (0 : Int64) dX12_isThing_2 (by decide) ?_
  refine j_ldc2 (pc := 3) hC dX12_isThing_3 kl_X12_125 ?_
  refine j_si (pc := 6) hC hR [.long x0.toInt64, .long (0 : Int64), .long (5 : Int64)] iy_X12_in km_X12_21 dX12_isThing_6 rfl (by decide) (c_X12_in hL  rfl) (by decide) (Nat.le_of_ble_eq_true rfl) rfl ?_
  refine j_if_ne (pc := 9) hC 40 dX12_isThing_9 (by decide) (fun c1 => ?_) (fun c1 => ?_)
  · rw [if_neg c1] at h
    refine j_iconst (pc := 40) hC (1 : Int32) dX12_isThing_40 (by decide) ?_
    refine j_goto (pc := 41) hC 45 dX12_isThing_41 (by decide) ?_
    subst h
    exact j_bret (pc := 45) hC dX12_isThing_45 rfl rfl
  · rw [if_pos c1] at h
    refine j_iload_n (pc := 12) hC 0 0 dX12_isThing_12 rfl rfl ?_
    refine j_i2l (pc := 13) hC dX12_isThing_13 ?_
    refine j_ldc2 (pc := 14) hC dX12_isThing_14 kl_X12_127 ?_
    refine j_ldc2 (pc := 17) hC dX12_isThing_17 kl_X12_129 ?_
    refine j_si (pc := 20) hC hR [.long x0.toInt64, .long (10 : Int64), .long (14 : Int64)] iy_X12_in km_X12_21 dX12_isThing_20 rfl (by decide) (c_X12_in hL  rfl) (by decide) (Nat.le_of_ble_eq_true rfl) rfl ?_
    refine j_if_ne (pc := 23) hC 40 dX12_isThing_23 (by decide) (fun c2 => ?_) (fun c2 => ?_)
    · rw [if_neg c2] at h
      refine j_iconst (pc := 40) hC (1 : Int32) dX12_isThing_40 (by decide) ?_
      refine j_goto (pc := 41) hC 45 dX12_isThing_41 (by decide) ?_
      subst h
      exact j_bret (pc := 45) hC dX12_isThing_45 rfl rfl
    · rw [if_pos c2] at h
      refine j_iload_n (pc := 26) hC 0 0 dX12_isThing_26 rfl rfl ?_
      refine j_i2l (pc := 27) hC dX12_isThing_27 ?_
      refine j_ldc2 (pc := 28) hC dX12_isThing_28 kl_X12_131 ?_
      refine j_ldc2 (pc := 31) hC dX12_isThing_31 kl_X12_133 ?_
      refine j_si (pc := 34) hC hR [.long x0.toInt64, .long (20 : Int64), .long (30 : Int64)] iy_X12_in km_X12_21 dX12_isThing_34 rfl (by decide) (c_X12_in hL  rfl) (by decide) (Nat.le_of_ble_eq_true rfl) rfl ?_
      refine j_if_eq (pc := 37) hC 44 dX12_isThing_37 (by decide) (fun c3 => ?_) (fun c3 => ?_)
      · rw [if_pos c3] at h
        refine j_iconst (pc := 44) hC (0 : Int32) dX12_isThing_44 (by decide) ?_
        subst h
        exact j_bret (pc := 45) hC dX12_isThing_45 rfl rfl
      · rw [if_neg c3] at h
        refine j_iconst (pc := 40) hC (1 : Int32) dX12_isThing_40 (by decide) ?_
        refine j_goto (pc := 41) hC 45 dX12_isThing_41 (by decide) ?_
        subst h
        exact j_bret (pc := 45) hC dX12_isThing_45 rfl rfl
theorem dX12_isOther_0 : decode cX12_isOther 0 = .ok (.iload_n 3, 1) := by decide +kernel
theorem dX12_isOther_1 : decode cX12_isOther 1 = .ok (.bipush 10, 2) := by decide +kernel
theorem dX12_isOther_3 : decode cX12_isOther 3 = .ok (.if_icmp .ge 24, 3) := by decide +kernel
theorem dX12_isOther_6 : decode cX12_isOther 6 = .ok (.aload_n 0, 1) := by decide +kernel
theorem dX12_isOther_7 : decode cX12_isOther 7 = .ok (.iload_n 1, 1) := by decide +kernel
theorem dX12_isOther_8 : decode cX12_isOther 8 = .ok (.iload_n 3, 1) := by decide +kernel
theorem dX12_isOther_9 : decode cX12_isOther 9 = .ok (.invokevirtual 121, 3) := by decide +kernel
theorem dX12_isOther_12 : decode cX12_isOther 12 = .ok (.aload_n 0, 1) := by decide +kernel
theorem dX12_isOther_13 : decode cX12_isOther 13 = .ok (.iload_n 2, 1) := by decide +kernel
theorem dX12_isOther_14 : decode cX12_isOther 14 = .ok (.iload_n 3, 1) := by decide +kernel
theorem dX12_isOther_15 : decode cX12_isOther 15 = .ok (.invokevirtual 121, 3) := by decide +kernel
theorem dX12_isOther_18 : decode cX12_isOther 18 = .ok (.if_icmp .eq 7, 3) := by decide +kernel
theorem dX12_isOther_21 : decode cX12_isOther 21 = .ok (.iconst 1, 1) := by decide +kernel
theorem dX12_isOther_22 : decode cX12_isOther 22 = .ok (.goto 4, 3) := by decide +kernel
theorem dX12_isOther_25 : decode cX12_isOther 25 = .ok (.iconst 0, 1) := by decide +kernel
theorem dX12_isOther_26 : decode cX12_isOther 26 = .ok (.ireturn, 1) := by decide +kernel
theorem dX12_isOther_27 : decode cX12_isOther 27 = .ok (.iload_n 3, 1) := by decide +kernel
theorem dX12_isOther_28 : decode cX12_isOther 28 = .ok (.bipush 20, 2) := by decide +kernel
theorem dX12_isOther_30 : decode cX12_isOther 30 = .ok (.if_icmp .ge 36, 3) := by decide +kernel
theorem dX12_isOther_33 : decode cX12_isOther 33 = .ok (.aload_n 0, 1) := by decide +kernel
theorem dX12_isOther_34 : decode cX12_isOther 34 = .ok (.iload_n 1, 1) := by decide +kernel
theorem dX12_isOther_35 : decode cX12_isOther 35 = .ok (.bipush 6, 2) := by decide +kernel
theorem dX12_isOther_37 : decode cX12_isOther 37 = .ok (.iload_n 3, 1) := by decide +kernel
theorem dX12_isOther_38 : decode cX12_isOther 38 = .ok (.iadd, 1) := by decide +kernel
theorem dX12_isOther_39 : decode cX12_isOther 39 = .ok (.bipush 10, 2) := by decide +kernel
theorem dX12_isOther_41 : decode cX12_isOther 41 = .ok (.isub, 1) := by decide +kernel
theorem dX12_isOther_42 : decode cX12_isOther 42 = .ok (.invokevirtual 121, 3) := by decide +kernel
theorem dX12_isOther_45 : decode cX12_isOther 45 = .ok (.aload_n 0, 1) := by decide +kernel
theorem dX12_isOther_46 : decode cX12_isOther 46 = .ok (.iload_n 2, 1) := by decide +kernel
theorem dX12_isOther_47 : decode cX12_isOther 47 = .ok (.bipush 6, 2) := by decide +kernel
theorem dX12_isOther_49 : decode cX12_isOther 49 = .ok (.iload_n 3, 1) := by decide +kernel
theorem dX12_isOther_50 : decode cX12_isOther 50 = .ok (.iadd, 1) := by decide +kernel
theorem dX12_isOther_51 : decode cX12_isOther 51 = .ok (.bipush 10, 2) := by decide +kernel
theorem dX12_isOther_53 : decode cX12_isOther 53 = .ok (.isub, 1) := by decide +kernel
theorem dX12_isOther_54 : decode cX12_isOther 54 = .ok (.invokevirtual 121, 3) := by decide +kernel
theorem dX12_isOther_57 : decode cX12_isOther 57 = .ok (.if_icmp .eq 7, 3) := by decide +kernel
theorem dX12_isOther_60 : decode cX12_isOther 60 = .ok (.iconst 1, 1) := by decide +kernel
theorem dX12_isOther_61 : decode cX12_isOther 61 = .ok (.goto 4, 3) := by decide +kernel
theorem dX12_isOther_64 : decode cX12_isOther 64 = .ok (.iconst 0, 1) := by decide +kernel
theorem dX12_isOther_65 : decode cX12_isOther 65 = .ok (.ireturn, 1) := by decide +kernel
theorem dX12_isOther_66 : decode cX12_isOther 66 = .ok (.iload_n 3, 1) := by decide +kernel
theorem dX12_isOther_67 : decode cX12_isOther 67 = .ok (.bipush 30, 2) := by decide +kernel
theorem dX12_isOther_69 : decode cX12_isOther 69 = .ok (.if_icmp .ge 82, 3) := by decide +kernel
theorem dX12_isOther_72 : decode cX12_isOther 72 = .ok (.aload_n 0, 1) := by decide +kernel
theorem dX12_isOther_73 : decode cX12_isOther 73 = .ok (.iload_n 1, 1) := by decide +kernel
theorem dX12_isOther_74 : decode cX12_isOther 74 = .ok (.iload_n 3, 1) := by decide +kernel
theorem dX12_isOther_75 : decode cX12_isOther 75 = .ok (.bipush 20, 2) := by decide +kernel
theorem dX12_isOther_77 : decode cX12_isOther 77 = .ok (.isub, 1) := by decide +kernel
theorem dX12_isOther_78 : decode cX12_isOther 78 = .ok (.invokevirtual 135, 3) := by decide +kernel
theorem dX12_isOther_81 : decode cX12_isOther 81 = .ok (.istore 4, 2) := by decide +kernel
theorem dX12_isOther_83 : decode cX12_isOther 83 = .ok (.aload_n 0, 1) := by decide +kernel
theorem dX12_isOther_84 : decode cX12_isOther 84 = .ok (.iload_n 2, 1) := by decide +kernel
theorem dX12_isOther_85 : decode cX12_isOther 85 = .ok (.iload_n 3, 1) := by decide +kernel
theorem dX12_isOther_86 : decode cX12_isOther 86 = .ok (.bipush 20, 2) := by decide +kernel
theorem dX12_isOther_88 : decode cX12_isOther 88 = .ok (.isub, 1) := by decide +kernel
theorem dX12_isOther_89 : decode cX12_isOther 89 = .ok (.invokevirtual 135, 3) := by decide +kernel
theorem dX12_isOther_92 : decode cX12_isOther 92 = .ok (.istore 5, 2) := by decide +kernel
theorem dX12_isOther_94 : decode cX12_isOther 94 = .ok (.iload 4, 2) := by decide +kernel
theorem dX12_isOther_96 : decode cX12_isOther 96 = .ok (.ifCond .lt 8, 3) := by decide +kernel
theorem dX12_isOther_99 : decode cX12_isOther 99 = .ok (.iload 5, 2) := by decide +kernel
theorem dX12_isOther_101 : decode cX12_isOther 101 = .ok (.ifCond .ge 21, 3) := by decide +kernel
theorem dX12_isOther_104 : decode cX12_isOther 104 = .ok (.iload 4, 2) := by decide +kernel
theorem dX12_isOther_106 : decode cX12_isOther 106 = .ok (.ifCond .ge 8, 3) := by decide +kernel
theorem dX12_isOther_109 : decode cX12_isOther 109 = .ok (.iload 5, 2) := by decide +kernel
theorem dX12_isOther_111 : decode cX12_isOther 111 = .ok (.ifCond .lt 7, 3) := by decide +kernel
theorem dX12_isOther_114 : decode cX12_isOther 114 = .ok (.iconst 1, 1) := by decide +kernel
theorem dX12_isOther_115 : decode cX12_isOther 115 = .ok (.goto 35, 3) := by decide +kernel
theorem dX12_isOther_118 : decode cX12_isOther 118 = .ok (.iconst 0, 1) := by decide +kernel
theorem dX12_isOther_119 : decode cX12_isOther 119 = .ok (.goto 31, 3) := by decide +kernel
theorem dX12_isOther_122 : decode cX12_isOther 122 = .ok (.aload_n 0, 1) := by decide +kernel
theorem dX12_isOther_123 : decode cX12_isOther 123 = .ok (.iload_n 1, 1) := by decide +kernel
theorem dX12_isOther_124 : decode cX12_isOther 124 = .ok (.bipush 20, 2) := by decide +kernel
theorem dX12_isOther_126 : decode cX12_isOther 126 = .ok (.iload 4, 2) := by decide +kernel
theorem dX12_isOther_128 : decode cX12_isOther 128 = .ok (.iadd, 1) := by decide +kernel
theorem dX12_isOther_129 : decode cX12_isOther 129 = .ok (.invokevirtual 121, 3) := by decide +kernel
theorem dX12_isOther_132 : decode cX12_isOther 132 = .ok (.aload_n 0, 1) := by decide +kernel
theorem dX12_isOther_133 : decode cX12_isOther 133 = .ok (.iload_n 2, 1) := by decide +kernel
theorem dX12_isOther_134 : decode cX12_isOther 134 = .ok (.bipush 20, 2) := by decide +kernel
theorem dX12_isOther_136 : decode cX12_isOther 136 = .ok (.iload 5, 2) := by decide +kernel
theorem dX12_isOther_138 : decode cX12_isOther 138 = .ok (.iadd, 1) := by decide +kernel
theorem dX12_isOther_139 : decode cX12_isOther 139 = .ok (.invokevirtual 121, 3) := by decide +kernel
theorem dX12_isOther_142 : decode cX12_isOther 142 = .ok (.if_icmp .eq 7, 3) := by decide +kernel
theorem dX12_isOther_145 : decode cX12_isOther 145 = .ok (.iconst 1, 1) := by decide +kernel
theorem dX12_isOther_146 : decode cX12_isOther 146 = .ok (.goto 4, 3) := by decide +kernel
theorem dX12_isOther_149 : decode cX12_isOther 149 = .ok (.iconst 0, 1) := by decide +kernel
theorem dX12_isOther_150 : decode cX12_isOther 150 = .ok (.ireturn, 1) := by decide +kernel
theorem dX12_isOther_151 : decode cX12_isOther 151 = .ok (.aload_n 0, 1) := by decide +kernel
theorem dX12_isOther_152 : decode cX12_isOther 152 = .ok (.iload_n 1, 1) := by decide +kernel
theorem dX12_isOther_153 : decode cX12_isOther 153 = .ok (.bipush 28, 2) := by decide +kernel
theorem dX12_isOther_155 : decode cX12_isOther 155 = .ok (.invokevirtual 121, 3) := by decide +kernel
theorem dX12_isOther_158 : decode cX12_isOther 158 = .ok (.aload_n 0, 1) := by decide +kernel
theorem dX12_isOther_159 : decode cX12_isOther 159 = .ok (.iload_n 2, 1) := by decide +kernel
theorem dX12_isOther_160 : decode cX12_isOther 160 = .ok (.bipush 28, 2) := by decide +kernel
theorem dX12_isOther_162 : decode cX12_isOther 162 = .ok (.invokevirtual 121, 3) := by decide +kernel
theorem dX12_isOther_165 : decode cX12_isOther 165 = .ok (.if_icmp .eq 7, 3) := by decide +kernel
theorem dX12_isOther_168 : decode cX12_isOther 168 = .ok (.iconst 1, 1) := by decide +kernel
theorem dX12_isOther_169 : decode cX12_isOther 169 = .ok (.goto 4, 3) := by decide +kernel
theorem dX12_isOther_172 : decode cX12_isOther 172 = .ok (.iconst 0, 1) := by decide +kernel
theorem dX12_isOther_173 : decode cX12_isOther 173 = .ok (.istore 4, 2) := by decide +kernel
theorem dX12_isOther_175 : decode cX12_isOther 175 = .ok (.iconst 0, 1) := by decide +kernel
theorem dX12_isOther_176 : decode cX12_isOther 176 = .ok (.istore 5, 2) := by decide +kernel
theorem dX12_isOther_178 : decode cX12_isOther 178 = .ok (.iload 5, 2) := by decide +kernel
theorem dX12_isOther_180 : decode cX12_isOther 180 = .ok (.iconst 4, 1) := by decide +kernel
theorem dX12_isOther_181 : decode cX12_isOther 181 = .ok (.aload_n 0, 1) := by decide +kernel
theorem dX12_isOther_182 : decode cX12_isOther 182 = .ok (.iload_n 1, 1) := by decide +kernel
theorem dX12_isOther_183 : decode cX12_isOther 183 = .ok (.bipush 28, 2) := by decide +kernel
theorem dX12_isOther_185 : decode cX12_isOther 185 = .ok (.invokevirtual 121, 3) := by decide +kernel
theorem dX12_isOther_188 : decode cX12_isOther 188 = .ok (.imul, 1) := by decide +kernel
theorem dX12_isOther_189 : decode cX12_isOther 189 = .ok (.if_icmp .ge 44, 3) := by decide +kernel
theorem dX12_isOther_192 : decode cX12_isOther 192 = .ok (.iload 4, 2) := by decide +kernel
theorem dX12_isOther_194 : decode cX12_isOther 194 = .ok (.ifCond .ne 39, 3) := by decide +kernel
theorem dX12_isOther_197 : decode cX12_isOther 197 = .ok (.aload_n 0, 1) := by decide +kernel
theorem dX12_isOther_198 : decode cX12_isOther 198 = .ok (.iload_n 1, 1) := by decide +kernel
theorem dX12_isOther_199 : decode cX12_isOther 199 = .ok (.bipush 29, 2) := by decide +kernel
theorem dX12_isOther_201 : decode cX12_isOther 201 = .ok (.iload 5, 2) := by decide +kernel
theorem dX12_isOther_203 : decode cX12_isOther 203 = .ok (.iadd, 1) := by decide +kernel
theorem dX12_isOther_204 : decode cX12_isOther 204 = .ok (.invokevirtual 121, 3) := by decide +kernel
theorem dX12_isOther_207 : decode cX12_isOther 207 = .ok (.aload_n 0, 1) := by decide +kernel
theorem dX12_isOther_208 : decode cX12_isOther 208 = .ok (.iload_n 2, 1) := by decide +kernel
theorem dX12_isOther_209 : decode cX12_isOther 209 = .ok (.bipush 29, 2) := by decide +kernel
theorem dX12_isOther_211 : decode cX12_isOther 211 = .ok (.iload 5, 2) := by decide +kernel
theorem dX12_isOther_213 : decode cX12_isOther 213 = .ok (.iadd, 1) := by decide +kernel
theorem dX12_isOther_214 : decode cX12_isOther 214 = .ok (.invokevirtual 121, 3) := by decide +kernel
theorem dX12_isOther_217 : decode cX12_isOther 217 = .ok (.if_icmp .eq 7, 3) := by decide +kernel
theorem dX12_isOther_220 : decode cX12_isOther 220 = .ok (.iconst 1, 1) := by decide +kernel
theorem dX12_isOther_221 : decode cX12_isOther 221 = .ok (.goto 4, 3) := by decide +kernel
theorem dX12_isOther_224 : decode cX12_isOther 224 = .ok (.iconst 0, 1) := by decide +kernel
theorem dX12_isOther_225 : decode cX12_isOther 225 = .ok (.istore 4, 2) := by decide +kernel
theorem dX12_isOther_227 : decode cX12_isOther 227 = .ok (.iinc 5 1, 3) := by decide +kernel
theorem dX12_isOther_230 : decode cX12_isOther 230 = .ok (.goto (-52), 3) := by decide +kernel
theorem dX12_isOther_233 : decode cX12_isOther 233 = .ok (.iload 4, 2) := by decide +kernel
theorem dX12_isOther_235 : decode cX12_isOther 235 = .ok (.ireturn, 1) := by decide +kernel
def f_X12_isOther_L178 (a0 : Nat) (x1 : Int32) (x2 : Int32) (μ : jM) (u11 : Int32) (u12 : Int32) : Option ((Int32 × Int32) ⊕ (Int32)) :=
  jcl (f_X12_its a0 x1 (28 : Int32) μ) (fun v13 => (if ((4 : Int32) * v13) ≤ u12 then some (.inr u11) else (if u11 = (0 : Int32) then jcl (f_X12_its a0 x1 ((29 : Int32) + u12) μ) (fun v17 => jcl (f_X12_its a0 x2 ((29 : Int32) + u12) μ) (fun v19 => jbd ((if v17 = v19 then (0 : Int32) else (1 : Int32)) : Int32) (fun v22 => some (.inl ((v22, u12 + (1 : Int32))))))) else some (.inr u11))))
def f_X12_isOther (a0 : Nat) (x1 : Int32) (x2 : Int32) (x3 : Int32) (μ : jM) : Option (Int32) :=
  (if (10 : Int32) ≤ x3 then (if (20 : Int32) ≤ x3 then (if (30 : Int32) ≤ x3 then jcl (f_X12_its a0 x1 (28 : Int32) μ) (fun v4 => jcl (f_X12_its a0 x2 (28 : Int32) μ) (fun v6 => jbd ((if v4 = v6 then (0 : Int32) else (1 : Int32)) : Int32) (fun v9 => jcl (jloop (fun (s : Int32 × Int32) => f_X12_isOther_L178 a0 x1 x2 μ s.1 s.2) jfu ((v9, (0 : Int32)))) (fun w24 => some (w24 &&& 1))))) else jcl (f_X12_placeOf a0 x1 (x3 - (20 : Int32)) μ) (fun v28 => jcl (f_X12_placeOf a0 x2 (x3 - (20 : Int32)) μ) (fun v30 => jbd ((if (0 : Int32) ≤ v28 then some (1 : Int32) else (if v30 < (0 : Int32) then some (0 : Int32) else some (1 : Int32)))) (fun k32 => (if v28 < (0 : Int32) then k32 else (if (0 : Int32) ≤ v30 then jcl (f_X12_its a0 x1 ((20 : Int32) + v28) μ) (fun v39 => jcl (f_X12_its a0 x2 ((20 : Int32) + v30) μ) (fun v41 => (if v39 = v41 then some (0 : Int32) else some (1 : Int32)))) else k32)))))) else jcl (f_X12_its a0 x1 (((6 : Int32) + x3) - (10 : Int32)) μ) (fun v44 => jcl (f_X12_its a0 x2 (((6 : Int32) + x3) - (10 : Int32)) μ) (fun v46 => some (((if v44 = v46 then (0 : Int32) else (1 : Int32))) &&& 1)))) else jcl (f_X12_its a0 x1 x3 μ) (fun v49 => jcl (f_X12_its a0 x2 x3 μ) (fun v51 => some (((if v49 = v51 then (0 : Int32) else (1 : Int32))) &&& 1))))
set_option maxHeartbeats 4000000 in
set_option maxRecDepth 100000 in
theorem c_X12_isOther {l : Launch} {G : jG} {L : jL} (hL : jOKL L) {a0 : Nat} {x1 : Int32} {x2 : Int32} {x3 : Int32} (ka0 : jK L a0 12) {μ : jM} {r : Int32} (h : f_X12_isOther a0 x1 x2 x3 μ = some r) : jCt l G L 5 yX12_isOther cX12_isOther 6 (some .boolean) [.ref (L.2.2 a0), .int x1, .int x2, .int x3] μ (some (.int r)) μ := by
  refine jCt_of (by decide) (Nat.le_of_ble_eq_true rfl) (fun X hC hX hR => ?_)
  subst hX
  have hC : jC X G cX12_isOther 6 RX12 (some .boolean) := hC
  unfold f_X12_isOther at h
  show jJ X G 6 L 0 0 (jQM X G L (some (.int r)) μ 0 0) 0 [(0, .ref (L.2.2 a0)), (1, .int x1), (2, .int x2), (3, .int x3)] [] μ
  refine j_iload_n (pc := 0) hC 3 3 dX12_isOther_0 rfl rfl ?_
  refine j_bipush (pc := 1) hC (10 : Int32) dX12_isOther_1 (by decide) ?_
  refine j_icmp_ge (pc := 3) hC 27 dX12_isOther_3 (by decide) (fun c1 => ?_) (fun c1 => ?_)
  · rw [if_pos c1] at h
    refine j_iload_n (pc := 27) hC 3 3 dX12_isOther_27 rfl rfl ?_
    refine j_bipush (pc := 28) hC (20 : Int32) dX12_isOther_28 (by decide) ?_
    refine j_icmp_ge (pc := 30) hC 66 dX12_isOther_30 (by decide) (fun c2 => ?_) (fun c2 => ?_)
    · rw [if_pos c2] at h
      refine j_iload_n (pc := 66) hC 3 3 dX12_isOther_66 rfl rfl ?_
      refine j_bipush (pc := 67) hC (30 : Int32) dX12_isOther_67 (by decide) ?_
      refine j_icmp_ge (pc := 69) hC 151 dX12_isOther_69 (by decide) (fun c3 => ?_) (fun c3 => ?_)
      · rw [if_pos c3] at h
        refine j_aload_n (pc := 151) hC 0 0 dX12_isOther_151 rfl rfl ?_
        refine j_iload_n (pc := 152) hC 1 1 dX12_isOther_152 rfl rfl ?_
        refine j_bipush (pc := 153) hC (28 : Int32) dX12_isOther_153 (by decide) ?_
        obtain ⟨v4, e5, h⟩ := jcl_some h
        refine j_vi (pc := 155) hC hR [.int x1, .int (28 : Int32)] iy_X12_its (q := (RX12, TX12, 40)) (ci := 12) rfl rfl (by decide) km_X12_121 dX12_isOther_155 rfl (by decide) ka0 (c_X12_its hL ka0 e5) (by decide) (Nat.le_of_ble_eq_true rfl) rfl ?_
        refine j_aload_n (pc := 158) hC 0 0 dX12_isOther_158 rfl rfl ?_
        refine j_iload_n (pc := 159) hC 2 2 dX12_isOther_159 rfl rfl ?_
        refine j_bipush (pc := 160) hC (28 : Int32) dX12_isOther_160 (by decide) ?_
        obtain ⟨v6, e7, h⟩ := jcl_some h
        refine j_vi (pc := 162) hC hR [.int x2, .int (28 : Int32)] iy_X12_its (q := (RX12, TX12, 40)) (ci := 12) rfl rfl (by decide) km_X12_121 dX12_isOther_162 rfl (by decide) ka0 (c_X12_its hL ka0 e7) (by decide) (Nat.le_of_ble_eq_true rfl) rfl ?_
        refine jmg (B := jJ X G 6 L 0 0 (jQM X G L (some (.int r)) μ 0 0) 173 [(0, .ref (L.2.2 a0)), (1, .int x1), (2, .int x2), (3, .int x3)] [.int ((if v4 = v6 then (0 : Int32) else (1 : Int32)))] μ) (fun hj => ?_) ?_
        · refine j_icmp_eq (pc := 165) hC 172 dX12_isOther_165 (by decide) (fun c8 => ?_) (fun c8 => ?_)
          · rw [if_pos c8] at hj
            refine j_iconst (pc := 172) hC (0 : Int32) dX12_isOther_172 (by decide) ?_
            exact hj
          · rw [if_neg c8] at hj
            refine j_iconst (pc := 168) hC (1 : Int32) dX12_isOther_168 (by decide) ?_
            refine j_goto (pc := 169) hC 173 dX12_isOther_169 (by decide) ?_
            exact hj
        obtain ⟨v9, e10, h⟩ := jbd_ex h
        refine j_istore (pc := 173) hC [(4, .int v9), (0, .ref (L.2.2 a0)), (1, .int x1), (2, .int x2), (3, .int x3)] dX12_isOther_173 (by decide) e10 rfl ?_
        refine j_iconst (pc := 175) hC (0 : Int32) dX12_isOther_175 (by decide) ?_
        refine j_istore (pc := 176) hC [(5, .int (0 : Int32)), (4, .int v9), (0, .ref (L.2.2 a0)), (1, .int x1), (2, .int x2), (3, .int x3)] dX12_isOther_176 (by decide) rfl rfl ?_
        obtain ⟨w24, hw25, h⟩ := jcl_some h
        refine j_lv [2, 3, 4, 1, 0] rfl ?_
        refine j_loop (step := (fun (s : Int32 × Int32) => f_X12_isOther_L178 a0 x1 x2 μ s.1 s.2)) (P := (fun (s : Int32 × Int32) => jJ X G 6 L 0 0 (jQM X G L (some (.int r)) μ 0 0) 178 [(0, .ref (L.2.2 a0)), (1, .int x1), (2, .int x2), (4, .int s.1), (5, .int s.2)] [] μ)) (R := (fun (e : Int32) => jJ X G 6 L 0 0 (jQM X G L (some (.int r)) μ 0 0) 233 [(4, .int e)] [] μ)) ?_ jfu ((v9, (0 : Int32))) w24 hw25 ?_
        · intro s26 o h hk
          obtain ⟨u11, u12⟩ := s26
          change f_X12_isOther_L178 a0 x1 x2 μ u11 u12 = some o at h
          unfold f_X12_isOther_L178 at h
          show jJ X G 6 L 0 0 (jQM X G L (some (.int r)) μ 0 0) 178 [(0, .ref (L.2.2 a0)), (1, .int x1), (2, .int x2), (4, .int u11), (5, .int u12)] [] μ
          refine j_iload (pc := 178) hC 4 dX12_isOther_178 rfl ?_
          refine j_iconst (pc := 180) hC (4 : Int32) dX12_isOther_180 (by decide) ?_
          refine j_aload_n (pc := 181) hC 0 0 dX12_isOther_181 rfl rfl ?_
          refine j_iload_n (pc := 182) hC 1 1 dX12_isOther_182 rfl rfl ?_
          refine j_bipush (pc := 183) hC (28 : Int32) dX12_isOther_183 (by decide) ?_
          obtain ⟨v13, e14, h⟩ := jcl_some h
          refine j_vi (pc := 185) hC hR [.int x1, .int (28 : Int32)] iy_X12_its (q := (RX12, TX12, 40)) (ci := 12) rfl rfl (by decide) km_X12_121 dX12_isOther_185 rfl (by decide) ka0 (c_X12_its hL ka0 e14) (by decide) (Nat.le_of_ble_eq_true rfl) rfl ?_
          refine j_imul (pc := 188) hC dX12_isOther_188 ?_
          refine j_icmp_ge (pc := 189) hC 233 dX12_isOther_189 (by decide) (fun c15 => ?_) (fun c15 => ?_)
          · rw [if_pos c15] at h
            obtain rfl := Option.some.inj h
            have hk : jJ X G 6 L 0 0 (jQM X G L (some (.int r)) μ 0 0) 233 [(4, .int u11)] [] μ := hk
            exact j_lv [3] rfl hk
          · rw [if_neg c15] at h
            refine j_iload (pc := 192) hC 3 dX12_isOther_192 rfl ?_
            refine j_if_ne (pc := 194) hC 233 dX12_isOther_194 (by decide) (fun c16 => ?_) (fun c16 => ?_)
            · rw [if_neg c16] at h
              obtain rfl := Option.some.inj h
              have hk : jJ X G 6 L 0 0 (jQM X G L (some (.int r)) μ 0 0) 233 [(4, .int u11)] [] μ := hk
              exact j_lv [3] rfl hk
            · rw [if_pos c16] at h
              refine j_aload_n (pc := 197) hC 0 0 dX12_isOther_197 rfl rfl ?_
              refine j_iload_n (pc := 198) hC 1 1 dX12_isOther_198 rfl rfl ?_
              refine j_bipush (pc := 199) hC (29 : Int32) dX12_isOther_199 (by decide) ?_
              refine j_iload (pc := 201) hC 4 dX12_isOther_201 rfl ?_
              refine j_iadd (pc := 203) hC dX12_isOther_203 ?_
              obtain ⟨v17, e18, h⟩ := jcl_some h
              refine j_vi (pc := 204) hC hR [.int x1, .int ((29 : Int32) + u12)] iy_X12_its (q := (RX12, TX12, 40)) (ci := 12) rfl rfl (by decide) km_X12_121 dX12_isOther_204 rfl (by decide) ka0 (c_X12_its hL ka0 e18) (by decide) (Nat.le_of_ble_eq_true rfl) rfl ?_
              refine j_aload_n (pc := 207) hC 0 0 dX12_isOther_207 rfl rfl ?_
              refine j_iload_n (pc := 208) hC 2 2 dX12_isOther_208 rfl rfl ?_
              refine j_bipush (pc := 209) hC (29 : Int32) dX12_isOther_209 (by decide) ?_
              refine j_iload (pc := 211) hC 4 dX12_isOther_211 rfl ?_
              refine j_iadd (pc := 213) hC dX12_isOther_213 ?_
              obtain ⟨v19, e20, h⟩ := jcl_some h
              refine j_vi (pc := 214) hC hR [.int x2, .int ((29 : Int32) + u12)] iy_X12_its (q := (RX12, TX12, 40)) (ci := 12) rfl rfl (by decide) km_X12_121 dX12_isOther_214 rfl (by decide) ka0 (c_X12_its hL ka0 e20) (by decide) (Nat.le_of_ble_eq_true rfl) rfl ?_
              refine jmg (B := jJ X G 6 L 0 0 (jQM X G L (some (.int r)) μ 0 0) 225 [(0, .ref (L.2.2 a0)), (1, .int x1), (2, .int x2), (4, .int u11), (5, .int u12)] [.int ((if v17 = v19 then (0 : Int32) else (1 : Int32)))] μ) (fun hj => ?_) ?_
              · refine j_icmp_eq (pc := 217) hC 224 dX12_isOther_217 (by decide) (fun c21 => ?_) (fun c21 => ?_)
                · rw [if_pos c21] at hj
                  refine j_iconst (pc := 224) hC (0 : Int32) dX12_isOther_224 (by decide) ?_
                  exact hj
                · rw [if_neg c21] at hj
                  refine j_iconst (pc := 220) hC (1 : Int32) dX12_isOther_220 (by decide) ?_
                  refine j_goto (pc := 221) hC 225 dX12_isOther_221 (by decide) ?_
                  exact hj
              obtain ⟨v22, e23, h⟩ := jbd_ex h
              refine j_istore (pc := 225) hC [(4, .int v22), (0, .ref (L.2.2 a0)), (1, .int x1), (2, .int x2), (5, .int u12)] dX12_isOther_225 (by decide) e23 rfl ?_
              refine j_iinc (pc := 227) hC 4 (u12 + (1 : Int32)) [(5, .int (u12 + (1 : Int32))), (4, .int v22), (0, .ref (L.2.2 a0)), (1, .int x1), (2, .int x2)] dX12_isOther_227 rfl rfl (by decide) rfl ?_
              refine j_goto (pc := 230) hC 178 dX12_isOther_230 (by decide) ?_
              obtain rfl := Option.some.inj h
              have hk : jJ X G 6 L 0 0 (jQM X G L (some (.int r)) μ 0 0) 178 [(0, .ref (L.2.2 a0)), (1, .int x1), (2, .int x2), (4, .int v22), (5, .int (u12 + (1 : Int32)))] [] μ := hk
              exact j_lv [2, 3, 4, 1, 0] rfl hk
        · obtain ⟨z27, rfl⟩ : ∃ y, y = w24 := ⟨_, rfl⟩
          try dsimp only at h
          show jJ X G 6 L 0 0 (jQM X G L (some (.int r)) μ 0 0) 233 [(4, .int z27)] [] μ
          refine j_iload (pc := 233) hC 0 dX12_isOther_233 rfl ?_
          obtain rfl := Option.some.inj h
          exact j_bret (pc := 235) hC dX12_isOther_235 rfl (j_nz _)
      · rw [if_neg c3] at h
        refine j_aload_n (pc := 72) hC 0 0 dX12_isOther_72 rfl rfl ?_
        refine j_iload_n (pc := 73) hC 1 1 dX12_isOther_73 rfl rfl ?_
        refine j_iload_n (pc := 74) hC 3 3 dX12_isOther_74 rfl rfl ?_
        refine j_bipush (pc := 75) hC (20 : Int32) dX12_isOther_75 (by decide) ?_
        refine j_isub (pc := 77) hC dX12_isOther_77 ?_
        obtain ⟨v28, e29, h⟩ := jcl_some h
        refine j_vi (pc := 78) hC hR [.int x1, .int (x3 - (20 : Int32))] iy_X12_placeOf (q := (RX12, TX12, 40)) (ci := 12) rfl rfl (by decide) km_X12_135 dX12_isOther_78 rfl (by decide) ka0 (c_X12_placeOf hL ka0 e29) (by decide) (Nat.le_of_ble_eq_true rfl) rfl ?_
        refine j_istore (pc := 81) hC [(4, .int v28), (0, .ref (L.2.2 a0)), (1, .int x1), (2, .int x2), (3, .int x3)] dX12_isOther_81 (by decide) rfl rfl ?_
        refine j_aload_n (pc := 83) hC 0 1 dX12_isOther_83 rfl rfl ?_
        refine j_iload_n (pc := 84) hC 2 3 dX12_isOther_84 rfl rfl ?_
        refine j_iload_n (pc := 85) hC 3 4 dX12_isOther_85 rfl rfl ?_
        refine j_bipush (pc := 86) hC (20 : Int32) dX12_isOther_86 (by decide) ?_
        refine j_isub (pc := 88) hC dX12_isOther_88 ?_
        obtain ⟨v30, e31, h⟩ := jcl_some h
        refine j_vi (pc := 89) hC hR [.int x2, .int (x3 - (20 : Int32))] iy_X12_placeOf (q := (RX12, TX12, 40)) (ci := 12) rfl rfl (by decide) km_X12_135 dX12_isOther_89 rfl (by decide) ka0 (c_X12_placeOf hL ka0 e31) (by decide) (Nat.le_of_ble_eq_true rfl) rfl ?_
        refine j_istore (pc := 92) hC [(5, .int v30), (4, .int v28), (0, .ref (L.2.2 a0)), (1, .int x1), (2, .int x2), (3, .int x3)] dX12_isOther_92 (by decide) rfl rfl ?_
        refine j_iload (pc := 94) hC 1 dX12_isOther_94 rfl ?_
        obtain ⟨k32, e34, h⟩ := jbd_ex h
        have q33 : k32 = some r → jJ X G 6 L 0 0 (jQM X G L (some (.int r)) μ 0 0) 104 [(4, .int v28), (5, .int v30)] [] μ := by
          intro h
          rw [e34] at h
          refine j_iload (pc := 104) hC 0 dX12_isOther_104 rfl ?_
          refine j_if_ge (pc := 106) hC 114 dX12_isOther_106 (by decide) (fun c35 => ?_) (fun c35 => ?_)
          · rw [if_pos c35] at h
            refine j_iconst (pc := 114) hC (1 : Int32) dX12_isOther_114 (by decide) ?_
            refine j_goto (pc := 115) hC 150 dX12_isOther_115 (by decide) ?_
            obtain rfl := Option.some.inj h
            exact j_bret (pc := 150) hC dX12_isOther_150 rfl rfl
          · rw [if_neg c35] at h
            refine j_iload (pc := 109) hC 1 dX12_isOther_109 rfl ?_
            refine j_if_lt (pc := 111) hC 118 dX12_isOther_111 (by decide) (fun c36 => ?_) (fun c36 => ?_)
            · rw [if_pos c36] at h
              refine j_iconst (pc := 118) hC (0 : Int32) dX12_isOther_118 (by decide) ?_
              refine j_goto (pc := 119) hC 150 dX12_isOther_119 (by decide) ?_
              obtain rfl := Option.some.inj h
              exact j_bret (pc := 150) hC dX12_isOther_150 rfl rfl
            · rw [if_neg c36] at h
              refine j_iconst (pc := 114) hC (1 : Int32) dX12_isOther_114 (by decide) ?_
              refine j_goto (pc := 115) hC 150 dX12_isOther_115 (by decide) ?_
              obtain rfl := Option.some.inj h
              exact j_bret (pc := 150) hC dX12_isOther_150 rfl rfl
        refine j_if_lt (pc := 96) hC 104 dX12_isOther_96 (by decide) (fun c37 => ?_) (fun c37 => ?_)
        · rw [if_pos c37] at h
          exact j_lv [1, 0] rfl (q33 h)
        · rw [if_neg c37] at h
          refine j_iload (pc := 99) hC 0 dX12_isOther_99 rfl ?_
          refine j_if_ge (pc := 101) hC 122 dX12_isOther_101 (by decide) (fun c38 => ?_) (fun c38 => ?_)
          · rw [if_pos c38] at h
            refine j_aload_n (pc := 122) hC 0 2 dX12_isOther_122 rfl rfl ?_
            refine j_iload_n (pc := 123) hC 1 3 dX12_isOther_123 rfl rfl ?_
            refine j_bipush (pc := 124) hC (20 : Int32) dX12_isOther_124 (by decide) ?_
            refine j_iload (pc := 126) hC 1 dX12_isOther_126 rfl ?_
            refine j_iadd (pc := 128) hC dX12_isOther_128 ?_
            obtain ⟨v39, e40, h⟩ := jcl_some h
            refine j_vi (pc := 129) hC hR [.int x1, .int ((20 : Int32) + v28)] iy_X12_its (q := (RX12, TX12, 40)) (ci := 12) rfl rfl (by decide) km_X12_121 dX12_isOther_129 rfl (by decide) ka0 (c_X12_its hL ka0 e40) (by decide) (Nat.le_of_ble_eq_true rfl) rfl ?_
            refine j_aload_n (pc := 132) hC 0 2 dX12_isOther_132 rfl rfl ?_
            refine j_iload_n (pc := 133) hC 2 4 dX12_isOther_133 rfl rfl ?_
            refine j_bipush (pc := 134) hC (20 : Int32) dX12_isOther_134 (by decide) ?_
            refine j_iload (pc := 136) hC 0 dX12_isOther_136 rfl ?_
            refine j_iadd (pc := 138) hC dX12_isOther_138 ?_
            obtain ⟨v41, e42, h⟩ := jcl_some h
            refine j_vi (pc := 139) hC hR [.int x2, .int ((20 : Int32) + v30)] iy_X12_its (q := (RX12, TX12, 40)) (ci := 12) rfl rfl (by decide) km_X12_121 dX12_isOther_139 rfl (by decide) ka0 (c_X12_its hL ka0 e42) (by decide) (Nat.le_of_ble_eq_true rfl) rfl ?_
            refine j_icmp_eq (pc := 142) hC 149 dX12_isOther_142 (by decide) (fun c43 => ?_) (fun c43 => ?_)
            · rw [if_pos c43] at h
              refine j_iconst (pc := 149) hC (0 : Int32) dX12_isOther_149 (by decide) ?_
              obtain rfl := Option.some.inj h
              exact j_bret (pc := 150) hC dX12_isOther_150 rfl rfl
            · rw [if_neg c43] at h
              refine j_iconst (pc := 145) hC (1 : Int32) dX12_isOther_145 (by decide) ?_
              refine j_goto (pc := 146) hC 150 dX12_isOther_146 (by decide) ?_
              obtain rfl := Option.some.inj h
              exact j_bret (pc := 150) hC dX12_isOther_150 rfl rfl
          · rw [if_neg c38] at h
            exact j_lv [1, 0] rfl (q33 h)
    · rw [if_neg c2] at h
      refine j_aload_n (pc := 33) hC 0 0 dX12_isOther_33 rfl rfl ?_
      refine j_iload_n (pc := 34) hC 1 1 dX12_isOther_34 rfl rfl ?_
      refine j_bipush (pc := 35) hC (6 : Int32) dX12_isOther_35 (by decide) ?_
      refine j_iload_n (pc := 37) hC 3 3 dX12_isOther_37 rfl rfl ?_
      refine j_iadd (pc := 38) hC dX12_isOther_38 ?_
      refine j_bipush (pc := 39) hC (10 : Int32) dX12_isOther_39 (by decide) ?_
      refine j_isub (pc := 41) hC dX12_isOther_41 ?_
      obtain ⟨v44, e45, h⟩ := jcl_some h
      refine j_vi (pc := 42) hC hR [.int x1, .int (((6 : Int32) + x3) - (10 : Int32))] iy_X12_its (q := (RX12, TX12, 40)) (ci := 12) rfl rfl (by decide) km_X12_121 dX12_isOther_42 rfl (by decide) ka0 (c_X12_its hL ka0 e45) (by decide) (Nat.le_of_ble_eq_true rfl) rfl ?_
      refine j_aload_n (pc := 45) hC 0 0 dX12_isOther_45 rfl rfl ?_
      refine j_iload_n (pc := 46) hC 2 2 dX12_isOther_46 rfl rfl ?_
      refine j_bipush (pc := 47) hC (6 : Int32) dX12_isOther_47 (by decide) ?_
      refine j_iload_n (pc := 49) hC 3 3 dX12_isOther_49 rfl rfl ?_
      refine j_iadd (pc := 50) hC dX12_isOther_50 ?_
      refine j_bipush (pc := 51) hC (10 : Int32) dX12_isOther_51 (by decide) ?_
      refine j_isub (pc := 53) hC dX12_isOther_53 ?_
      obtain ⟨v46, e47, h⟩ := jcl_some h
      refine j_vi (pc := 54) hC hR [.int x2, .int (((6 : Int32) + x3) - (10 : Int32))] iy_X12_its (q := (RX12, TX12, 40)) (ci := 12) rfl rfl (by decide) km_X12_121 dX12_isOther_54 rfl (by decide) ka0 (c_X12_its hL ka0 e47) (by decide) (Nat.le_of_ble_eq_true rfl) rfl ?_
      refine jmg (B := jJ X G 6 L 0 0 (jQM X G L (some (.int r)) μ 0 0) 65 [(0, .ref (L.2.2 a0)), (1, .int x1), (2, .int x2), (3, .int x3)] [.int ((if v44 = v46 then (0 : Int32) else (1 : Int32)))] μ) (fun hj => ?_) ?_
      · refine j_icmp_eq (pc := 57) hC 64 dX12_isOther_57 (by decide) (fun c48 => ?_) (fun c48 => ?_)
        · rw [if_pos c48] at hj
          refine j_iconst (pc := 64) hC (0 : Int32) dX12_isOther_64 (by decide) ?_
          exact hj
        · rw [if_neg c48] at hj
          refine j_iconst (pc := 60) hC (1 : Int32) dX12_isOther_60 (by decide) ?_
          refine j_goto (pc := 61) hC 65 dX12_isOther_61 (by decide) ?_
          exact hj
      obtain rfl := Option.some.inj h
      exact j_bret (pc := 65) hC dX12_isOther_65 rfl (j_nz _)
  · rw [if_neg c1] at h
    refine j_aload_n (pc := 6) hC 0 0 dX12_isOther_6 rfl rfl ?_
    refine j_iload_n (pc := 7) hC 1 1 dX12_isOther_7 rfl rfl ?_
    refine j_iload_n (pc := 8) hC 3 3 dX12_isOther_8 rfl rfl ?_
    obtain ⟨v49, e50, h⟩ := jcl_some h
    refine j_vi (pc := 9) hC hR [.int x1, .int x3] iy_X12_its (q := (RX12, TX12, 40)) (ci := 12) rfl rfl (by decide) km_X12_121 dX12_isOther_9 rfl (by decide) ka0 (c_X12_its hL ka0 e50) (by decide) (Nat.le_of_ble_eq_true rfl) rfl ?_
    refine j_aload_n (pc := 12) hC 0 0 dX12_isOther_12 rfl rfl ?_
    refine j_iload_n (pc := 13) hC 2 2 dX12_isOther_13 rfl rfl ?_
    refine j_iload_n (pc := 14) hC 3 3 dX12_isOther_14 rfl rfl ?_
    obtain ⟨v51, e52, h⟩ := jcl_some h
    refine j_vi (pc := 15) hC hR [.int x2, .int x3] iy_X12_its (q := (RX12, TX12, 40)) (ci := 12) rfl rfl (by decide) km_X12_121 dX12_isOther_15 rfl (by decide) ka0 (c_X12_its hL ka0 e52) (by decide) (Nat.le_of_ble_eq_true rfl) rfl ?_
    refine jmg (B := jJ X G 6 L 0 0 (jQM X G L (some (.int r)) μ 0 0) 26 [(0, .ref (L.2.2 a0)), (1, .int x1), (2, .int x2), (3, .int x3)] [.int ((if v49 = v51 then (0 : Int32) else (1 : Int32)))] μ) (fun hj => ?_) ?_
    · refine j_icmp_eq (pc := 18) hC 25 dX12_isOther_18 (by decide) (fun c53 => ?_) (fun c53 => ?_)
      · rw [if_pos c53] at hj
        refine j_iconst (pc := 25) hC (0 : Int32) dX12_isOther_25 (by decide) ?_
        exact hj
      · rw [if_neg c53] at hj
        refine j_iconst (pc := 21) hC (1 : Int32) dX12_isOther_21 (by decide) ?_
        refine j_goto (pc := 22) hC 26 dX12_isOther_22 (by decide) ?_
        exact hj
    obtain rfl := Option.some.inj h
    exact j_bret (pc := 26) hC dX12_isOther_26 rfl (j_nz _)
theorem dX12_othersMany_0 : decode cX12_othersMany 0 = .ok (.iconst 0, 1) := by decide +kernel
theorem dX12_othersMany_1 : decode cX12_othersMany 1 = .ok (.istore_n 3, 1) := by decide +kernel
theorem dX12_othersMany_2 : decode cX12_othersMany 2 = .ok (.iconst 0, 1) := by decide +kernel
theorem dX12_othersMany_3 : decode cX12_othersMany 3 = .ok (.istore 4, 2) := by decide +kernel
theorem dX12_othersMany_5 : decode cX12_othersMany 5 = .ok (.iload 4, 2) := by decide +kernel
theorem dX12_othersMany_7 : decode cX12_othersMany 7 = .ok (.bipush 30, 2) := by decide +kernel
theorem dX12_othersMany_9 : decode cX12_othersMany 9 = .ok (.if_icmp .gt 39, 3) := by decide +kernel
theorem dX12_othersMany_12 : decode cX12_othersMany 12 = .ok (.iload_n 3, 1) := by decide +kernel
theorem dX12_othersMany_13 : decode cX12_othersMany 13 = .ok (.iload 4, 2) := by decide +kernel
theorem dX12_othersMany_15 : decode cX12_othersMany 15 = .ok (.invokestatic 138, 3) := by decide +kernel
theorem dX12_othersMany_18 : decode cX12_othersMany 18 = .ok (.ifCond .eq 18, 3) := by decide +kernel
theorem dX12_othersMany_21 : decode cX12_othersMany 21 = .ok (.aload_n 0, 1) := by decide +kernel
theorem dX12_othersMany_22 : decode cX12_othersMany 22 = .ok (.iload_n 1, 1) := by decide +kernel
theorem dX12_othersMany_23 : decode cX12_othersMany 23 = .ok (.iload_n 2, 1) := by decide +kernel
theorem dX12_othersMany_24 : decode cX12_othersMany 24 = .ok (.iload 4, 2) := by decide +kernel
theorem dX12_othersMany_26 : decode cX12_othersMany 26 = .ok (.invokevirtual 142, 3) := by decide +kernel
theorem dX12_othersMany_29 : decode cX12_othersMany 29 = .ok (.ifCond .eq 7, 3) := by decide +kernel
theorem dX12_othersMany_32 : decode cX12_othersMany 32 = .ok (.iconst 1, 1) := by decide +kernel
theorem dX12_othersMany_33 : decode cX12_othersMany 33 = .ok (.goto 4, 3) := by decide +kernel
theorem dX12_othersMany_36 : decode cX12_othersMany 36 = .ok (.iconst 0, 1) := by decide +kernel
theorem dX12_othersMany_37 : decode cX12_othersMany 37 = .ok (.invokestatic 34, 3) := by decide +kernel
theorem dX12_othersMany_40 : decode cX12_othersMany 40 = .ok (.iadd, 1) := by decide +kernel
theorem dX12_othersMany_41 : decode cX12_othersMany 41 = .ok (.istore_n 3, 1) := by decide +kernel
theorem dX12_othersMany_42 : decode cX12_othersMany 42 = .ok (.iinc 4 1, 3) := by decide +kernel
theorem dX12_othersMany_45 : decode cX12_othersMany 45 = .ok (.goto (-40), 3) := by decide +kernel
theorem dX12_othersMany_48 : decode cX12_othersMany 48 = .ok (.iload_n 3, 1) := by decide +kernel
theorem dX12_othersMany_49 : decode cX12_othersMany 49 = .ok (.ireturn, 1) := by decide +kernel
def f_X12_othersMany_L5 (a0 : Nat) (x1 : Int32) (x2 : Int32) (μ : jM) (u1 : Int32) (u2 : Int32) : Option ((Int32 × Int32) ⊕ (Int32)) :=
  (if (30 : Int32) < u2 then some (.inr u1) else jbd (fun (t4 : Int32) => jbd (u1 + (f_X12_flag t4) : Int32) (fun v8 => some (.inl ((v8, u2 + (1 : Int32)))))) (fun k5 => jbd (k5 (0 : Int32)) (fun k10 => (if (f_X12_isThing u2) = (0 : Int32) then k10 else jcl (f_X12_isOther a0 x1 x2 u2 μ) (fun v14 => (if v14 = (0 : Int32) then k10 else k5 (1 : Int32)))))))
def f_X12_othersMany (a0 : Nat) (x1 : Int32) (x2 : Int32) (μ : jM) : Option (Int32) :=
  jcl (jloop (fun (s : Int32 × Int32) => f_X12_othersMany_L5 a0 x1 x2 μ s.1 s.2) jfu (((0 : Int32), (0 : Int32)))) (fun w17 => some w17)
set_option maxHeartbeats 4000000 in
set_option maxRecDepth 100000 in
theorem c_X12_othersMany {l : Launch} {G : jG} {L : jL} (hL : jOKL L) {a0 : Nat} {x1 : Int32} {x2 : Int32} (ka0 : jK L a0 12) {μ : jM} {r : Int32} (h : f_X12_othersMany a0 x1 x2 μ = some r) : jCt l G L 6 yX12_othersMany cX12_othersMany 5 (some .int) [.ref (L.2.2 a0), .int x1, .int x2] μ (some (.int r)) μ := by
  refine jCt_of (by decide) (Nat.le_of_ble_eq_true rfl) (fun X hC hX hR => ?_)
  subst hX
  have hC : jC X G cX12_othersMany 5 RX12 (some .int) := hC
  unfold f_X12_othersMany at h
  show jJ X G 5 L 0 0 (jQM X G L (some (.int r)) μ 0 0) 0 [(0, .ref (L.2.2 a0)), (1, .int x1), (2, .int x2)] [] μ
  refine j_iconst (pc := 0) hC (0 : Int32) dX12_othersMany_0 (by decide) ?_
  refine j_istore_n (pc := 1) hC 3 [(3, .int (0 : Int32)), (0, .ref (L.2.2 a0)), (1, .int x1), (2, .int x2)] dX12_othersMany_1 rfl (by decide) rfl rfl ?_
  refine j_iconst (pc := 2) hC (0 : Int32) dX12_othersMany_2 (by decide) ?_
  refine j_istore (pc := 3) hC [(4, .int (0 : Int32)), (3, .int (0 : Int32)), (0, .ref (L.2.2 a0)), (1, .int x1), (2, .int x2)] dX12_othersMany_3 (by decide) rfl rfl ?_
  obtain ⟨w17, hw18, h⟩ := jcl_some h
  refine j_lv [2, 3, 4, 1, 0] rfl ?_
  refine j_loop (step := (fun (s : Int32 × Int32) => f_X12_othersMany_L5 a0 x1 x2 μ s.1 s.2)) (P := (fun (s : Int32 × Int32) => jJ X G 5 L 0 0 (jQM X G L (some (.int r)) μ 0 0) 5 [(0, .ref (L.2.2 a0)), (1, .int x1), (2, .int x2), (3, .int s.1), (4, .int s.2)] [] μ)) (R := (fun (e : Int32) => jJ X G 5 L 0 0 (jQM X G L (some (.int r)) μ 0 0) 48 [(3, .int e)] [] μ)) ?_ jfu (((0 : Int32), (0 : Int32))) w17 hw18 ?_
  · intro s19 o h hk
    obtain ⟨u1, u2⟩ := s19
    change f_X12_othersMany_L5 a0 x1 x2 μ u1 u2 = some o at h
    unfold f_X12_othersMany_L5 at h
    show jJ X G 5 L 0 0 (jQM X G L (some (.int r)) μ 0 0) 5 [(0, .ref (L.2.2 a0)), (1, .int x1), (2, .int x2), (3, .int u1), (4, .int u2)] [] μ
    refine j_iload (pc := 5) hC 4 dX12_othersMany_5 rfl ?_
    refine j_bipush (pc := 7) hC (30 : Int32) dX12_othersMany_7 (by decide) ?_
    refine j_icmp_gt (pc := 9) hC 48 dX12_othersMany_9 (by decide) (fun c3 => ?_) (fun c3 => ?_)
    · rw [if_pos c3] at h
      obtain rfl := Option.some.inj h
      have hk : jJ X G 5 L 0 0 (jQM X G L (some (.int r)) μ 0 0) 48 [(3, .int u1)] [] μ := hk
      exact j_lv [3] rfl hk
    · rw [if_neg c3] at h
      refine j_iload_n (pc := 12) hC 3 3 dX12_othersMany_12 rfl rfl ?_
      refine j_iload (pc := 13) hC 4 dX12_othersMany_13 rfl ?_
      refine j_si (pc := 15) hC hR [.int u2] iy_X12_isThing km_X12_138 dX12_othersMany_15 rfl (by decide) (c_X12_isThing hL  rfl) (by decide) (Nat.le_of_ble_eq_true rfl) rfl ?_
      obtain ⟨k5, e7, h⟩ := jbd_ex h
      have q6 : ∀ (t4 : Int32), k5 t4 = some o → jJ X G 5 L 0 0 (jQM X G L (some (.int r)) μ 0 0) 37 [(0, .ref (L.2.2 a0)), (1, .int x1), (2, .int x2), (4, .int u2)] [.int t4, .int u1] μ := by
        intro t4 h
        rw [e7] at h
        try dsimp only at h
        refine j_si (pc := 37) hC hR [.int t4] iy_X12_flag km_X12_34 dX12_othersMany_37 rfl (by decide) (c_X12_flag hL  rfl) (by decide) (Nat.le_of_ble_eq_true rfl) rfl ?_
        refine j_iadd (pc := 40) hC dX12_othersMany_40 ?_
        obtain ⟨v8, e9, h⟩ := jbd_ex h
        refine j_istore_n (pc := 41) hC 3 [(3, .int v8), (0, .ref (L.2.2 a0)), (1, .int x1), (2, .int x2), (4, .int u2)] dX12_othersMany_41 rfl (by decide) e9 rfl ?_
        refine j_iinc (pc := 42) hC 4 (u2 + (1 : Int32)) [(4, .int (u2 + (1 : Int32))), (3, .int v8), (0, .ref (L.2.2 a0)), (1, .int x1), (2, .int x2)] dX12_othersMany_42 rfl rfl (by decide) rfl ?_
        refine j_goto (pc := 45) hC 5 dX12_othersMany_45 (by decide) ?_
        obtain rfl := Option.some.inj h
        have hk : jJ X G 5 L 0 0 (jQM X G L (some (.int r)) μ 0 0) 5 [(0, .ref (L.2.2 a0)), (1, .int x1), (2, .int x2), (3, .int v8), (4, .int (u2 + (1 : Int32)))] [] μ := hk
        exact j_lv [2, 3, 4, 1, 0] rfl hk
      obtain ⟨k10, e12, h⟩ := jbd_ex h
      have q11 : k10 = some o → jJ X G 5 L 0 0 (jQM X G L (some (.int r)) μ 0 0) 36 [(0, .ref (L.2.2 a0)), (1, .int x1), (2, .int x2), (4, .int u2)] [.int u1] μ := by
        intro h
        rw [e12] at h
        refine j_iconst (pc := 36) hC (0 : Int32) dX12_othersMany_36 (by decide) ?_
        exact j_lv [0, 1, 2, 3] rfl (q6 _ h)
      refine j_if_eq (pc := 18) hC 36 dX12_othersMany_18 (by decide) (fun c13 => ?_) (fun c13 => ?_)
      · rw [if_pos c13] at h
        exact j_lv [0, 1, 2, 4] rfl (q11 h)
      · rw [if_neg c13] at h
        refine j_aload_n (pc := 21) hC 0 0 dX12_othersMany_21 rfl rfl ?_
        refine j_iload_n (pc := 22) hC 1 1 dX12_othersMany_22 rfl rfl ?_
        refine j_iload_n (pc := 23) hC 2 2 dX12_othersMany_23 rfl rfl ?_
        refine j_iload (pc := 24) hC 4 dX12_othersMany_24 rfl ?_
        obtain ⟨v14, e15, h⟩ := jcl_some h
        refine j_vi (pc := 26) hC hR [.int x1, .int x2, .int u2] iy_X12_isOther (q := (RX12, TX12, 40)) (ci := 12) rfl rfl (by decide) km_X12_142 dX12_othersMany_26 rfl (by decide) ka0 (c_X12_isOther hL ka0 e15) (by decide) (Nat.le_of_ble_eq_true rfl) rfl ?_
        refine j_if_eq (pc := 29) hC 36 dX12_othersMany_29 (by decide) (fun c16 => ?_) (fun c16 => ?_)
        · rw [if_pos c16] at h
          exact j_lv [0, 1, 2, 4] rfl (q11 h)
        · rw [if_neg c16] at h
          refine j_iconst (pc := 32) hC (1 : Int32) dX12_othersMany_32 (by decide) ?_
          refine j_goto (pc := 33) hC 37 dX12_othersMany_33 (by decide) ?_
          exact j_lv [0, 1, 2, 4] rfl (q6 _ h)
  · obtain ⟨z20, rfl⟩ : ∃ y, y = w17 := ⟨_, rfl⟩
    try dsimp only at h
    show jJ X G 5 L 0 0 (jQM X G L (some (.int r)) μ 0 0) 48 [(3, .int z20)] [] μ
    refine j_iload_n (pc := 48) hC 3 0 dX12_othersMany_48 rfl rfl ?_
    obtain rfl := Option.some.inj h
    exact j_iret (pc := 49) hC dX12_othersMany_49 rfl
theorem dX12_others_0 : decode cX12_others 0 = .ok (.aload_n 0, 1) := by decide +kernel
theorem dX12_others_1 : decode cX12_others 1 = .ok (.iconst 0, 1) := by decide +kernel
theorem dX12_others_2 : decode cX12_others 2 = .ok (.putfield 11, 3) := by decide +kernel
theorem dX12_others_5 : decode cX12_others 5 = .ok (.iconst 0, 1) := by decide +kernel
theorem dX12_others_6 : decode cX12_others 6 = .ok (.istore_n 3, 1) := by decide +kernel
theorem dX12_others_7 : decode cX12_others 7 = .ok (.iload_n 3, 1) := by decide +kernel
theorem dX12_others_8 : decode cX12_others 8 = .ok (.bipush 30, 2) := by decide +kernel
theorem dX12_others_10 : decode cX12_others 10 = .ok (.if_icmp .gt 32, 3) := by decide +kernel
theorem dX12_others_13 : decode cX12_others 13 = .ok (.iload_n 3, 1) := by decide +kernel
theorem dX12_others_14 : decode cX12_others 14 = .ok (.invokestatic 138, 3) := by decide +kernel
theorem dX12_others_17 : decode cX12_others 17 = .ok (.ifCond .eq 19, 3) := by decide +kernel
theorem dX12_others_20 : decode cX12_others 20 = .ok (.aload_n 0, 1) := by decide +kernel
theorem dX12_others_21 : decode cX12_others 21 = .ok (.iload_n 1, 1) := by decide +kernel
theorem dX12_others_22 : decode cX12_others 22 = .ok (.iload_n 2, 1) := by decide +kernel
theorem dX12_others_23 : decode cX12_others 23 = .ok (.iload_n 3, 1) := by decide +kernel
theorem dX12_others_24 : decode cX12_others 24 = .ok (.invokevirtual 142, 3) := by decide +kernel
theorem dX12_others_27 : decode cX12_others 27 = .ok (.ifCond .eq 9, 3) := by decide +kernel
theorem dX12_others_30 : decode cX12_others 30 = .ok (.aload_n 0, 1) := by decide +kernel
theorem dX12_others_31 : decode cX12_others 31 = .ok (.iload_n 3, 1) := by decide +kernel
theorem dX12_others_32 : decode cX12_others 32 = .ok (.i2l, 1) := by decide +kernel
theorem dX12_others_33 : decode cX12_others 33 = .ok (.invokevirtual 146, 3) := by decide +kernel
theorem dX12_others_36 : decode cX12_others 36 = .ok (.iinc 3 1, 3) := by decide +kernel
theorem dX12_others_39 : decode cX12_others 39 = .ok (.goto (-32), 3) := by decide +kernel
theorem dX12_others_42 : decode cX12_others 42 = .ok (.aload_n 0, 1) := by decide +kernel
theorem dX12_others_43 : decode cX12_others 43 = .ok (.getfield 11, 3) := by decide +kernel
theorem dX12_others_46 : decode cX12_others 46 = .ok (.ireturn, 1) := by decide +kernel
def f_X12_others_L7 (a0 : Nat) (x1 : Int32) (x2 : Int32) (u3 : Int32) (m4 : jM) : Option ((Int32 × jM) ⊕ (jM)) :=
  (if (30 : Int32) < u3 then some (.inr m4) else (if (f_X12_isThing u3) = (0 : Int32) then some (.inl ((u3 + (1 : Int32), m4))) else jcl (f_X12_isOther a0 x1 x2 u3 m4) (fun v7 => (if v7 = (0 : Int32) then some (.inl ((u3 + (1 : Int32), m4))) else jcl (f_X12_enters a0 u3.toInt64 m4) (fun m10 => some (.inl ((u3 + (1 : Int32), m10))))))))
def f_X12_others (a0 : Nat) (x1 : Int32) (x2 : Int32) (μ : jM) : Option (Int32 × jM) :=
  jbd (jsi μ a0 1 (0 : Int32)) (fun m1 => jcl (jloop (fun (s : Int32 × jM) => f_X12_others_L7 a0 x1 x2 s.1 s.2) jfu (((0 : Int32), m1))) (fun w12 => some ((w12.1 a0 1, w12))))
set_option maxHeartbeats 4000000 in
set_option maxRecDepth 100000 in
theorem c_X12_others {l : Launch} {G : jG} {L : jL} (hL : jOKL L) {a0 : Nat} {x1 : Int32} {x2 : Int32} (ka0 : jK L a0 12) {μ μ' : jM} {r : Int32} (h : f_X12_others a0 x1 x2 μ = some ((r, μ'))) : jCt l G L 6 yX12_others cX12_others 4 (some .int) [.ref (L.2.2 a0), .int x1, .int x2] μ (some (.int r)) μ' := by
  refine jCt_of (by decide) (Nat.le_of_ble_eq_true rfl) (fun X hC hX hR => ?_)
  subst hX
  have hC : jC X G cX12_others 4 RX12 (some .int) := hC
  unfold f_X12_others at h
  show jJ X G 4 L 0 0 (jQM X G L (some (.int r)) μ' 0 0) 0 [(0, .ref (L.2.2 a0)), (1, .int x1), (2, .int x2)] [] μ
  refine j_aload_n (pc := 0) hC 0 0 dX12_others_0 rfl rfl ?_
  refine j_iconst (pc := 1) hC (0 : Int32) dX12_others_1 (by decide) ?_
  obtain ⟨m1, e2, h⟩ := jbd_ex h
  refine jpi_12 (pc := 2) hC 1 (by decide) rfl kf_X12_11 dX12_others_2 rfl (by decide) ka0 e2 ?_
  refine j_iconst (pc := 5) hC (0 : Int32) dX12_others_5 (by decide) ?_
  refine j_istore_n (pc := 6) hC 3 [(3, .int (0 : Int32)), (0, .ref (L.2.2 a0)), (1, .int x1), (2, .int x2)] dX12_others_6 rfl (by decide) rfl rfl ?_
  obtain ⟨w12, hw13, h⟩ := jcl_some h
  refine j_lv [1, 2, 3, 0] rfl ?_
  refine j_loop (step := (fun (s : Int32 × jM) => f_X12_others_L7 a0 x1 x2 s.1 s.2)) (P := (fun (s : Int32 × jM) => jJ X G 4 L 0 0 (jQM X G L (some (.int r)) μ' 0 0) 7 [(0, .ref (L.2.2 a0)), (1, .int x1), (2, .int x2), (3, .int s.1)] [] s.2)) (R := (fun (e : jM) => jJ X G 4 L 0 0 (jQM X G L (some (.int r)) μ' 0 0) 42 [(0, .ref (L.2.2 a0))] [] e)) ?_ jfu (((0 : Int32), m1)) w12 hw13 ?_
  · intro s14 o h hk
    obtain ⟨u3, m4⟩ := s14
    change f_X12_others_L7 a0 x1 x2 u3 m4 = some o at h
    unfold f_X12_others_L7 at h
    show jJ X G 4 L 0 0 (jQM X G L (some (.int r)) μ' 0 0) 7 [(0, .ref (L.2.2 a0)), (1, .int x1), (2, .int x2), (3, .int u3)] [] m4
    refine j_iload_n (pc := 7) hC 3 3 dX12_others_7 rfl rfl ?_
    refine j_bipush (pc := 8) hC (30 : Int32) dX12_others_8 (by decide) ?_
    refine j_icmp_gt (pc := 10) hC 42 dX12_others_10 (by decide) (fun c5 => ?_) (fun c5 => ?_)
    · rw [if_pos c5] at h
      obtain rfl := Option.some.inj h
      have hk : jJ X G 4 L 0 0 (jQM X G L (some (.int r)) μ' 0 0) 42 [(0, .ref (L.2.2 a0))] [] m4 := hk
      exact j_lv [0] rfl hk
    · rw [if_neg c5] at h
      refine j_iload_n (pc := 13) hC 3 3 dX12_others_13 rfl rfl ?_
      refine j_si (pc := 14) hC hR [.int u3] iy_X12_isThing km_X12_138 dX12_others_14 rfl (by decide) (c_X12_isThing hL  rfl) (by decide) (Nat.le_of_ble_eq_true rfl) rfl ?_
      refine j_if_eq (pc := 17) hC 36 dX12_others_17 (by decide) (fun c6 => ?_) (fun c6 => ?_)
      · rw [if_pos c6] at h
        refine j_iinc (pc := 36) hC 3 (u3 + (1 : Int32)) [(3, .int (u3 + (1 : Int32))), (0, .ref (L.2.2 a0)), (1, .int x1), (2, .int x2)] dX12_others_36 rfl rfl (by decide) rfl ?_
        refine j_goto (pc := 39) hC 7 dX12_others_39 (by decide) ?_
        obtain rfl := Option.some.inj h
        have hk : jJ X G 4 L 0 0 (jQM X G L (some (.int r)) μ' 0 0) 7 [(0, .ref (L.2.2 a0)), (1, .int x1), (2, .int x2), (3, .int (u3 + (1 : Int32)))] [] m4 := hk
        exact j_lv [1, 2, 3, 0] rfl hk
      · rw [if_neg c6] at h
        refine j_aload_n (pc := 20) hC 0 0 dX12_others_20 rfl rfl ?_
        refine j_iload_n (pc := 21) hC 1 1 dX12_others_21 rfl rfl ?_
        refine j_iload_n (pc := 22) hC 2 2 dX12_others_22 rfl rfl ?_
        refine j_iload_n (pc := 23) hC 3 3 dX12_others_23 rfl rfl ?_
        obtain ⟨v7, e8, h⟩ := jcl_some h
        refine j_vi (pc := 24) hC hR [.int x1, .int x2, .int u3] iy_X12_isOther (q := (RX12, TX12, 40)) (ci := 12) rfl rfl (by decide) km_X12_142 dX12_others_24 rfl (by decide) ka0 (c_X12_isOther hL ka0 e8) (by decide) (Nat.le_of_ble_eq_true rfl) rfl ?_
        refine j_if_eq (pc := 27) hC 36 dX12_others_27 (by decide) (fun c9 => ?_) (fun c9 => ?_)
        · rw [if_pos c9] at h
          refine j_iinc (pc := 36) hC 3 (u3 + (1 : Int32)) [(3, .int (u3 + (1 : Int32))), (0, .ref (L.2.2 a0)), (1, .int x1), (2, .int x2)] dX12_others_36 rfl rfl (by decide) rfl ?_
          refine j_goto (pc := 39) hC 7 dX12_others_39 (by decide) ?_
          obtain rfl := Option.some.inj h
          have hk : jJ X G 4 L 0 0 (jQM X G L (some (.int r)) μ' 0 0) 7 [(0, .ref (L.2.2 a0)), (1, .int x1), (2, .int x2), (3, .int (u3 + (1 : Int32)))] [] m4 := hk
          exact j_lv [1, 2, 3, 0] rfl hk
        · rw [if_neg c9] at h
          refine j_aload_n (pc := 30) hC 0 0 dX12_others_30 rfl rfl ?_
          refine j_iload_n (pc := 31) hC 3 3 dX12_others_31 rfl rfl ?_
          refine j_i2l (pc := 32) hC dX12_others_32 ?_
          obtain ⟨m10, e11, h⟩ := jcl_some h
          refine j_vv (pc := 33) hC hR [.long u3.toInt64] iy_X12_enters (q := (RX12, TX12, 40)) (ci := 12) rfl rfl (by decide) km_X12_146 dX12_others_33 rfl (by decide) ka0 (c_X12_enters hL ka0 e11) (by decide) (Nat.le_of_ble_eq_true rfl) rfl ?_
          refine j_iinc (pc := 36) hC 3 (u3 + (1 : Int32)) [(3, .int (u3 + (1 : Int32))), (0, .ref (L.2.2 a0)), (1, .int x1), (2, .int x2)] dX12_others_36 rfl rfl (by decide) rfl ?_
          refine j_goto (pc := 39) hC 7 dX12_others_39 (by decide) ?_
          obtain rfl := Option.some.inj h
          have hk : jJ X G 4 L 0 0 (jQM X G L (some (.int r)) μ' 0 0) 7 [(0, .ref (L.2.2 a0)), (1, .int x1), (2, .int x2), (3, .int (u3 + (1 : Int32)))] [] m10 := hk
          exact j_lv [1, 2, 3, 0] rfl hk
  · obtain ⟨m15, rfl⟩ : ∃ y, y = w12 := ⟨_, rfl⟩
    try dsimp only at h
    show jJ X G 4 L 0 0 (jQM X G L (some (.int r)) μ' 0 0) 42 [(0, .ref (L.2.2 a0))] [] m15
    refine j_aload_n (pc := 42) hC 0 0 dX12_others_42 rfl rfl ?_
    refine jgi_12 (pc := 43) hC 1 (by decide) rfl kf_X12_11 dX12_others_43 ka0 ?_
    obtain ⟨rfl, rfl⟩ := Prod.mk.inj (Option.some.inj h)
    exact j_iret (pc := 46) hC dX12_others_46 rfl
theorem dX12_isOn_0 : decode cX12_isOn 0 = .ok (.iconst 0, 1) := by decide +kernel
theorem dX12_isOn_1 : decode cX12_isOn 1 = .ok (.istore_n 3, 1) := by decide +kernel
theorem dX12_isOn_2 : decode cX12_isOn 2 = .ok (.iload_n 3, 1) := by decide +kernel
theorem dX12_isOn_3 : decode cX12_isOn 3 = .ok (.aload_n 0, 1) := by decide +kernel
theorem dX12_isOn_4 : decode cX12_isOn 4 = .ok (.getfield 66, 3) := by decide +kernel
theorem dX12_isOn_7 : decode cX12_isOn 7 = .ok (.iload_n 1, 1) := by decide +kernel
theorem dX12_isOn_8 : decode cX12_isOn 8 = .ok (.iaload, 1) := by decide +kernel
theorem dX12_isOn_9 : decode cX12_isOn 9 = .ok (.if_icmp .ge 26, 3) := by decide +kernel
theorem dX12_isOn_12 : decode cX12_isOn 12 = .ok (.aload_n 0, 1) := by decide +kernel
theorem dX12_isOn_13 : decode cX12_isOn 13 = .ok (.getfield 63, 3) := by decide +kernel
theorem dX12_isOn_16 : decode cX12_isOn 16 = .ok (.bipush 22, 2) := by decide +kernel
theorem dX12_isOn_18 : decode cX12_isOn 18 = .ok (.iload_n 1, 1) := by decide +kernel
theorem dX12_isOn_19 : decode cX12_isOn 19 = .ok (.imul, 1) := by decide +kernel
theorem dX12_isOn_20 : decode cX12_isOn 20 = .ok (.iload_n 3, 1) := by decide +kernel
theorem dX12_isOn_21 : decode cX12_isOn 21 = .ok (.iadd, 1) := by decide +kernel
theorem dX12_isOn_22 : decode cX12_isOn 22 = .ok (.iaload, 1) := by decide +kernel
theorem dX12_isOn_23 : decode cX12_isOn 23 = .ok (.iload_n 2, 1) := by decide +kernel
theorem dX12_isOn_24 : decode cX12_isOn 24 = .ok (.if_icmp .ne 5, 3) := by decide +kernel
theorem dX12_isOn_27 : decode cX12_isOn 27 = .ok (.iconst 1, 1) := by decide +kernel
theorem dX12_isOn_28 : decode cX12_isOn 28 = .ok (.ireturn, 1) := by decide +kernel
theorem dX12_isOn_29 : decode cX12_isOn 29 = .ok (.iinc 3 1, 3) := by decide +kernel
theorem dX12_isOn_32 : decode cX12_isOn 32 = .ok (.goto (-30), 3) := by decide +kernel
theorem dX12_isOn_35 : decode cX12_isOn 35 = .ok (.iconst 0, 1) := by decide +kernel
theorem dX12_isOn_36 : decode cX12_isOn 36 = .ok (.ireturn, 1) := by decide +kernel
def f_X12_isOn_L2 (a0 : Nat) (x1 : Int32) (x2 : Int32) (μ : jM) (u1 : Int32) : Option ((Int32) ⊕ ((Unit) ⊕ (Unit))) :=
  jrd (μ.1 (a0 + 5)) x1 10 (fun v3 => (if v3 ≤ u1 then some (.inr (.inr (()))) else jrd (μ.1 (a0 + 4)) (((22 : Int32) * x1) + u1) 220 (fun v7 => (if v7 = x2 then some (.inr (.inl (()))) else some (.inl (u1 + (1 : Int32)))))))
def f_X12_isOn (a0 : Nat) (x1 : Int32) (x2 : Int32) (μ : jM) : Option (Int32) :=
  jcl (jloop (fun (s : Int32) => f_X12_isOn_L2 a0 x1 x2 μ s) jfu (0 : Int32)) (fun w10 => match w10 with | .inl w10 => some (1 : Int32) | .inr w10 => some (0 : Int32))
set_option maxHeartbeats 4000000 in
set_option maxRecDepth 100000 in
theorem c_X12_isOn {l : Launch} {G : jG} {L : jL} (hL : jOKL L) {a0 : Nat} {x1 : Int32} {x2 : Int32} (ka0 : jK L a0 12) {μ : jM} {r : Int32} (h : f_X12_isOn a0 x1 x2 μ = some r) : jCt l G L 3 yX12_isOn cX12_isOn 4 (some .boolean) [.ref (L.2.2 a0), .int x1, .int x2] μ (some (.int r)) μ := by
  refine jCt_of (by decide) (Nat.le_of_ble_eq_true rfl) (fun X hC hX hR => ?_)
  subst hX
  have hC : jC X G cX12_isOn 4 RX12 (some .boolean) := hC
  unfold f_X12_isOn at h
  show jJ X G 4 L 0 0 (jQM X G L (some (.int r)) μ 0 0) 0 [(0, .ref (L.2.2 a0)), (1, .int x1), (2, .int x2)] [] μ
  refine j_iconst (pc := 0) hC (0 : Int32) dX12_isOn_0 (by decide) ?_
  refine j_istore_n (pc := 1) hC 3 [(3, .int (0 : Int32)), (0, .ref (L.2.2 a0)), (1, .int x1), (2, .int x2)] dX12_isOn_1 rfl (by decide) rfl rfl ?_
  obtain ⟨w10, hw11, h⟩ := jcl_some h
  refine j_lv [1, 2, 3, 0] rfl ?_
  refine j_loop (step := (fun (s : Int32) => f_X12_isOn_L2 a0 x1 x2 μ s)) (P := (fun (s : Int32) => jJ X G 4 L 0 0 (jQM X G L (some (.int r)) μ 0 0) 2 [(0, .ref (L.2.2 a0)), (1, .int x1), (2, .int x2), (3, .int s)] [] μ)) (R := (fun (e : (Unit) ⊕ (Unit)) => match e with | .inl e => jJ X G 4 L 0 0 (jQM X G L (some (.int r)) μ 0 0) 27 [] [] μ | .inr e => jJ X G 4 L 0 0 (jQM X G L (some (.int r)) μ 0 0) 35 [] [] μ)) ?_ jfu (0 : Int32) w10 hw11 ?_
  · intro u1 o h hk
    change f_X12_isOn_L2 a0 x1 x2 μ u1 = some o at h
    unfold f_X12_isOn_L2 at h
    show jJ X G 4 L 0 0 (jQM X G L (some (.int r)) μ 0 0) 2 [(0, .ref (L.2.2 a0)), (1, .int x1), (2, .int x2), (3, .int u1)] [] μ
    refine j_iload_n (pc := 2) hC 3 3 dX12_isOn_2 rfl rfl ?_
    refine j_aload_n (pc := 3) hC 0 0 dX12_isOn_3 rfl rfl ?_
    refine jgr_12 (pc := 4) hC 11 (by decide) rfl kf_X12_66 dX12_isOn_4 ka0 (ly_12_11 hL ka0).1 ?_
    refine j_iload_n (pc := 7) hC 1 1 dX12_isOn_7 rfl rfl ?_
    obtain ⟨i2, v3, e4, h⟩ := jrd_some h
    refine j_iald (pc := 8) hC dX12_isOn_8 (ly_12_11 hL ka0).2.1 (ly_12_11 hL ka0).2.2 i2 e4 ?_
    refine j_icmp_ge (pc := 9) hC 35 dX12_isOn_9 (by decide) (fun c5 => ?_) (fun c5 => ?_)
    · rw [if_pos c5] at h
      obtain rfl := Option.some.inj h
      have hk : jJ X G 4 L 0 0 (jQM X G L (some (.int r)) μ 0 0) 35 [] [] μ := hk
      exact j_lv [] rfl hk
    · rw [if_neg c5] at h
      refine j_aload_n (pc := 12) hC 0 0 dX12_isOn_12 rfl rfl ?_
      refine jgr_12 (pc := 13) hC 10 (by decide) rfl kf_X12_63 dX12_isOn_13 ka0 (ly_12_10 hL ka0).1 ?_
      refine j_bipush (pc := 16) hC (22 : Int32) dX12_isOn_16 (by decide) ?_
      refine j_iload_n (pc := 18) hC 1 1 dX12_isOn_18 rfl rfl ?_
      refine j_imul (pc := 19) hC dX12_isOn_19 ?_
      refine j_iload_n (pc := 20) hC 3 3 dX12_isOn_20 rfl rfl ?_
      refine j_iadd (pc := 21) hC dX12_isOn_21 ?_
      obtain ⟨i6, v7, e8, h⟩ := jrd_some h
      refine j_iald (pc := 22) hC dX12_isOn_22 (ly_12_10 hL ka0).2.1 (ly_12_10 hL ka0).2.2 i6 e8 ?_
      refine j_iload_n (pc := 23) hC 2 2 dX12_isOn_23 rfl rfl ?_
      refine j_icmp_ne (pc := 24) hC 29 dX12_isOn_24 (by decide) (fun c9 => ?_) (fun c9 => ?_)
      · rw [if_neg c9] at h
        refine j_iinc (pc := 29) hC 3 (u1 + (1 : Int32)) [(3, .int (u1 + (1 : Int32))), (0, .ref (L.2.2 a0)), (1, .int x1), (2, .int x2)] dX12_isOn_29 rfl rfl (by decide) rfl ?_
        refine j_goto (pc := 32) hC 2 dX12_isOn_32 (by decide) ?_
        obtain rfl := Option.some.inj h
        have hk : jJ X G 4 L 0 0 (jQM X G L (some (.int r)) μ 0 0) 2 [(0, .ref (L.2.2 a0)), (1, .int x1), (2, .int x2), (3, .int (u1 + (1 : Int32)))] [] μ := hk
        exact j_lv [1, 2, 3, 0] rfl hk
      · rw [if_pos c9] at h
        obtain rfl := Option.some.inj h
        have hk : jJ X G 4 L 0 0 (jQM X G L (some (.int r)) μ 0 0) 27 [] [] μ := hk
        exact j_lv [] rfl hk
  · cases w10 with
    | inl w10 =>
      try dsimp only at h
      try dsimp only at h
      show jJ X G 4 L 0 0 (jQM X G L (some (.int r)) μ 0 0) 27 [] [] μ
      refine j_iconst (pc := 27) hC (1 : Int32) dX12_isOn_27 (by decide) ?_
      obtain rfl := Option.some.inj h
      exact j_bret (pc := 28) hC dX12_isOn_28 rfl rfl
    | inr w10 =>
      try dsimp only at h
      try dsimp only at h
      show jJ X G 4 L 0 0 (jQM X G L (some (.int r)) μ 0 0) 35 [] [] μ
      refine j_iconst (pc := 35) hC (0 : Int32) dX12_isOn_35 (by decide) ?_
      obtain rfl := Option.some.inj h
      exact j_bret (pc := 36) hC dX12_isOn_36 rfl rfl
theorem dX12_comesOn_0 : decode cX12_comesOn 0 = .ok (.aload_n 0, 1) := by decide +kernel
theorem dX12_comesOn_1 : decode cX12_comesOn 1 = .ok (.iload_n 1, 1) := by decide +kernel
theorem dX12_comesOn_2 : decode cX12_comesOn 2 = .ok (.iload_n 2, 1) := by decide +kernel
theorem dX12_comesOn_3 : decode cX12_comesOn 3 = .ok (.invokevirtual 150, 3) := by decide +kernel
theorem dX12_comesOn_6 : decode cX12_comesOn 6 = .ok (.ifCond .ne 30, 3) := by decide +kernel
theorem dX12_comesOn_9 : decode cX12_comesOn 9 = .ok (.aload_n 0, 1) := by decide +kernel
theorem dX12_comesOn_10 : decode cX12_comesOn 10 = .ok (.getfield 63, 3) := by decide +kernel
theorem dX12_comesOn_13 : decode cX12_comesOn 13 = .ok (.bipush 22, 2) := by decide +kernel
theorem dX12_comesOn_15 : decode cX12_comesOn 15 = .ok (.iload_n 1, 1) := by decide +kernel
theorem dX12_comesOn_16 : decode cX12_comesOn 16 = .ok (.imul, 1) := by decide +kernel
theorem dX12_comesOn_17 : decode cX12_comesOn 17 = .ok (.aload_n 0, 1) := by decide +kernel
theorem dX12_comesOn_18 : decode cX12_comesOn 18 = .ok (.getfield 66, 3) := by decide +kernel
theorem dX12_comesOn_21 : decode cX12_comesOn 21 = .ok (.iload_n 1, 1) := by decide +kernel
theorem dX12_comesOn_22 : decode cX12_comesOn 22 = .ok (.iaload, 1) := by decide +kernel
theorem dX12_comesOn_23 : decode cX12_comesOn 23 = .ok (.iadd, 1) := by decide +kernel
theorem dX12_comesOn_24 : decode cX12_comesOn 24 = .ok (.iload_n 2, 1) := by decide +kernel
theorem dX12_comesOn_25 : decode cX12_comesOn 25 = .ok (.iastore, 1) := by decide +kernel
theorem dX12_comesOn_26 : decode cX12_comesOn 26 = .ok (.aload_n 0, 1) := by decide +kernel
theorem dX12_comesOn_27 : decode cX12_comesOn 27 = .ok (.getfield 66, 3) := by decide +kernel
theorem dX12_comesOn_30 : decode cX12_comesOn 30 = .ok (.iload_n 1, 1) := by decide +kernel
theorem dX12_comesOn_31 : decode cX12_comesOn 31 = .ok (.dup2, 1) := by decide +kernel
theorem dX12_comesOn_32 : decode cX12_comesOn 32 = .ok (.iaload, 1) := by decide +kernel
theorem dX12_comesOn_33 : decode cX12_comesOn 33 = .ok (.iconst 1, 1) := by decide +kernel
theorem dX12_comesOn_34 : decode cX12_comesOn 34 = .ok (.iadd, 1) := by decide +kernel
theorem dX12_comesOn_35 : decode cX12_comesOn 35 = .ok (.iastore, 1) := by decide +kernel
theorem dX12_comesOn_36 : decode cX12_comesOn 36 = .ok (.return_, 1) := by decide +kernel
def f_X12_comesOn (a0 : Nat) (x1 : Int32) (x2 : Int32) (μ : jM) : Option (jM) :=
  jcl (f_X12_isOn a0 x1 x2 μ) (fun v1 => (if v1 = (0 : Int32) then jrd (μ.1 (a0 + 5)) x1 10 (fun v5 => jin (((22 : Int32) * x1) + v5) 220 (jbd (jsi μ (a0 + 4) (((22 : Int32) * x1) + v5).toNatClampNeg x2) (fun m8 => jrd (m8.1 (a0 + 5)) x1 10 (fun v11 => jin x1 10 (jbd (jsi m8 (a0 + 5) x1.toNatClampNeg (v11 + (1 : Int32))) (fun m14 => some m14)))))) else some μ))
set_option maxHeartbeats 4000000 in
set_option maxRecDepth 100000 in
theorem c_X12_comesOn {l : Launch} {G : jG} {L : jL} (hL : jOKL L) {a0 : Nat} {x1 : Int32} {x2 : Int32} (ka0 : jK L a0 12) {μ μ' : jM} (h : f_X12_comesOn a0 x1 x2 μ = some μ') : jCt l G L 4 yX12_comesOn cX12_comesOn 3 none [.ref (L.2.2 a0), .int x1, .int x2] μ none μ' := by
  refine jCt_of (by decide) (Nat.le_of_ble_eq_true rfl) (fun X hC hX hR => ?_)
  subst hX
  have hC : jC X G cX12_comesOn 3 RX12 none := hC
  unfold f_X12_comesOn at h
  show jJ X G 3 L 0 0 (jQM X G L none μ' 0 0) 0 [(0, .ref (L.2.2 a0)), (1, .int x1), (2, .int x2)] [] μ
  refine j_aload_n (pc := 0) hC 0 0 dX12_comesOn_0 rfl rfl ?_
  refine j_iload_n (pc := 1) hC 1 1 dX12_comesOn_1 rfl rfl ?_
  refine j_iload_n (pc := 2) hC 2 2 dX12_comesOn_2 rfl rfl ?_
  obtain ⟨v1, e2, h⟩ := jcl_some h
  refine j_vi (pc := 3) hC hR [.int x1, .int x2] iy_X12_isOn (q := (RX12, TX12, 40)) (ci := 12) rfl rfl (by decide) km_X12_150 dX12_comesOn_3 rfl (by decide) ka0 (c_X12_isOn hL ka0 e2) (by decide) (Nat.le_of_ble_eq_true rfl) rfl ?_
  refine j_if_ne (pc := 6) hC 36 dX12_comesOn_6 (by decide) (fun c3 => ?_) (fun c3 => ?_)
  · rw [if_neg c3] at h
    obtain rfl := Option.some.inj h
    exact j_vret (pc := 36) hC dX12_comesOn_36 rfl
  · rw [if_pos c3] at h
    refine j_aload_n (pc := 9) hC 0 0 dX12_comesOn_9 rfl rfl ?_
    refine jgr_12 (pc := 10) hC 10 (by decide) rfl kf_X12_63 dX12_comesOn_10 ka0 (ly_12_10 hL ka0).1 ?_
    refine j_bipush (pc := 13) hC (22 : Int32) dX12_comesOn_13 (by decide) ?_
    refine j_iload_n (pc := 15) hC 1 1 dX12_comesOn_15 rfl rfl ?_
    refine j_imul (pc := 16) hC dX12_comesOn_16 ?_
    refine j_aload_n (pc := 17) hC 0 0 dX12_comesOn_17 rfl rfl ?_
    refine jgr_12 (pc := 18) hC 11 (by decide) rfl kf_X12_66 dX12_comesOn_18 ka0 (ly_12_11 hL ka0).1 ?_
    refine j_iload_n (pc := 21) hC 1 1 dX12_comesOn_21 rfl rfl ?_
    obtain ⟨i4, v5, e6, h⟩ := jrd_some h
    refine j_iald (pc := 22) hC dX12_comesOn_22 (ly_12_11 hL ka0).2.1 (ly_12_11 hL ka0).2.2 i4 e6 ?_
    refine j_iadd (pc := 23) hC dX12_comesOn_23 ?_
    refine j_iload_n (pc := 24) hC 2 2 dX12_comesOn_24 rfl rfl ?_
    obtain ⟨i7, h⟩ := jin_some h
    obtain ⟨m8, e9, h⟩ := jbd_ex h
    refine j_iast (pc := 25) hC dX12_comesOn_25 (ly_12_10 hL ka0).2.1 (ly_12_10 hL ka0).2.2 i7 e9 ?_
    refine j_aload_n (pc := 26) hC 0 0 dX12_comesOn_26 rfl rfl ?_
    refine jgr_12 (pc := 27) hC 11 (by decide) rfl kf_X12_66 dX12_comesOn_27 ka0 (ly_12_11 hL ka0).1 ?_
    refine j_iload_n (pc := 30) hC 1 1 dX12_comesOn_30 rfl rfl ?_
    refine j_dup2 (pc := 31) hC dX12_comesOn_31 rfl rfl ?_
    obtain ⟨i10, v11, e12, h⟩ := jrd_some h
    refine j_iald (pc := 32) hC dX12_comesOn_32 (ly_12_11 hL ka0).2.1 (ly_12_11 hL ka0).2.2 i10 e12 ?_
    refine j_iconst (pc := 33) hC (1 : Int32) dX12_comesOn_33 (by decide) ?_
    refine j_iadd (pc := 34) hC dX12_comesOn_34 ?_
    obtain ⟨i13, h⟩ := jin_some h
    obtain ⟨m14, e15, h⟩ := jbd_ex h
    refine j_iast (pc := 35) hC dX12_comesOn_35 (ly_12_11 hL ka0).2.1 (ly_12_11 hL ka0).2.2 i13 e15 ?_
    obtain rfl := Option.some.inj h
    exact j_vret (pc := 36) hC dX12_comesOn_36 rfl
theorem dX12_begins_0 : decode cX12_begins 0 = .ok (.aload_n 0, 1) := by decide +kernel
theorem dX12_begins_1 : decode cX12_begins 1 = .ok (.iconst 0, 1) := by decide +kernel
theorem dX12_begins_2 : decode cX12_begins 2 = .ok (.bipush 10, 2) := by decide +kernel
theorem dX12_begins_4 : decode cX12_begins 4 = .ok (.invokevirtual 154, 3) := by decide +kernel
theorem dX12_begins_7 : decode cX12_begins 7 = .ok (.return_, 1) := by decide +kernel
def f_X12_begins (a0 : Nat) (μ : jM) : Option (jM) :=
  jcl (f_X12_copies a0 (0 : Int32) (10 : Int32) μ) (fun m1 => some m1)
set_option maxHeartbeats 4000000 in
set_option maxRecDepth 100000 in
theorem c_X12_begins {l : Launch} {G : jG} {L : jL} (hL : jOKL L) {a0 : Nat} (ka0 : jK L a0 12) {μ μ' : jM} (h : f_X12_begins a0 μ = some μ') : jCt l G L 4 yX12_begins cX12_begins 1 none [.ref (L.2.2 a0)] μ none μ' := by
  refine jCt_of (by decide) (Nat.le_of_ble_eq_true rfl) (fun X hC hX hR => ?_)
  subst hX
  have hC : jC X G cX12_begins 1 RX12 none := hC
  unfold f_X12_begins at h
  show jJ X G 1 L 0 0 (jQM X G L none μ' 0 0) 0 [(0, .ref (L.2.2 a0))] [] μ
  refine j_aload_n (pc := 0) hC 0 0 dX12_begins_0 rfl rfl ?_
  refine j_iconst (pc := 1) hC (0 : Int32) dX12_begins_1 (by decide) ?_
  refine j_bipush (pc := 2) hC (10 : Int32) dX12_begins_2 (by decide) ?_
  obtain ⟨m1, e2, h⟩ := jcl_some h
  refine j_vv (pc := 4) hC hR [.int (0 : Int32), .int (10 : Int32)] iy_X12_copies (q := (RX12, TX12, 40)) (ci := 12) rfl rfl (by decide) km_X12_154 dX12_begins_4 rfl (by decide) ka0 (c_X12_copies hL ka0 e2) (by decide) (Nat.le_of_ble_eq_true rfl) rfl ?_
  obtain rfl := Option.some.inj h
  exact j_vret (pc := 7) hC dX12_begins_7 rfl
theorem dX12_ends_0 : decode cX12_ends 0 = .ok (.iconst 0, 1) := by decide +kernel
theorem dX12_ends_1 : decode cX12_ends 1 = .ok (.istore_n 2, 1) := by decide +kernel
theorem dX12_ends_2 : decode cX12_ends 2 = .ok (.iload_n 2, 1) := by decide +kernel
theorem dX12_ends_3 : decode cX12_ends 3 = .ok (.bipush 30, 2) := by decide +kernel
theorem dX12_ends_5 : decode cX12_ends 5 = .ok (.if_icmp .gt 43, 3) := by decide +kernel
theorem dX12_ends_8 : decode cX12_ends 8 = .ok (.aload_n 0, 1) := by decide +kernel
theorem dX12_ends_9 : decode cX12_ends 9 = .ok (.getfield 158, 3) := by decide +kernel
theorem dX12_ends_12 : decode cX12_ends 12 = .ok (.ifCond .le 36, 3) := by decide +kernel
theorem dX12_ends_15 : decode cX12_ends 15 = .ok (.iload_n 2, 1) := by decide +kernel
theorem dX12_ends_16 : decode cX12_ends 16 = .ok (.invokestatic 138, 3) := by decide +kernel
theorem dX12_ends_19 : decode cX12_ends 19 = .ok (.ifCond .eq 23, 3) := by decide +kernel
theorem dX12_ends_22 : decode cX12_ends 22 = .ok (.aload_n 0, 1) := by decide +kernel
theorem dX12_ends_23 : decode cX12_ends 23 = .ok (.bipush 10, 2) := by decide +kernel
theorem dX12_ends_25 : decode cX12_ends 25 = .ok (.iconst 0, 1) := by decide +kernel
theorem dX12_ends_26 : decode cX12_ends 26 = .ok (.iload_n 2, 1) := by decide +kernel
theorem dX12_ends_27 : decode cX12_ends 27 = .ok (.invokevirtual 142, 3) := by decide +kernel
theorem dX12_ends_30 : decode cX12_ends 30 = .ok (.ifCond .eq 12, 3) := by decide +kernel
theorem dX12_ends_33 : decode cX12_ends 33 = .ok (.aload_n 0, 1) := by decide +kernel
theorem dX12_ends_34 : decode cX12_ends 34 = .ok (.aload_n 0, 1) := by decide +kernel
theorem dX12_ends_35 : decode cX12_ends 35 = .ok (.getfield 158, 3) := by decide +kernel
theorem dX12_ends_38 : decode cX12_ends 38 = .ok (.iload_n 2, 1) := by decide +kernel
theorem dX12_ends_39 : decode cX12_ends 39 = .ok (.invokevirtual 161, 3) := by decide +kernel
theorem dX12_ends_42 : decode cX12_ends 42 = .ok (.iinc 2 1, 3) := by decide +kernel
theorem dX12_ends_45 : decode cX12_ends 45 = .ok (.goto (-43), 3) := by decide +kernel
theorem dX12_ends_48 : decode cX12_ends 48 = .ok (.iload_n 1, 1) := by decide +kernel
theorem dX12_ends_49 : decode cX12_ends 49 = .ok (.ireturn, 1) := by decide +kernel
def f_X12_ends_L2 (a0 : Nat) (u1 : Int32) (m2 : jM) : Option ((Int32 × jM) ⊕ (jM)) :=
  (if (30 : Int32) < u1 then some (.inr m2) else (if (m2.1 a0 9) ≤ (0 : Int32) then some (.inr m2) else (if (f_X12_isThing u1) = (0 : Int32) then some (.inl ((u1 + (1 : Int32), m2))) else jcl (f_X12_isOther a0 (10 : Int32) (0 : Int32) u1 m2) (fun v6 => (if v6 = (0 : Int32) then some (.inl ((u1 + (1 : Int32), m2))) else jcl (f_X12_comesOn a0 (m2.1 a0 9) u1 m2) (fun m9 => some (.inl ((u1 + (1 : Int32), m9)))))))))
def f_X12_ends (a0 : Nat) (x1 : Int32) (μ : jM) : Option (Int32 × jM) :=
  jcl (jloop (fun (s : Int32 × jM) => f_X12_ends_L2 a0 s.1 s.2) jfu (((0 : Int32), μ))) (fun w11 => some ((x1, w11)))
set_option maxHeartbeats 4000000 in
set_option maxRecDepth 100000 in
theorem c_X12_ends {l : Launch} {G : jG} {L : jL} (hL : jOKL L) {a0 : Nat} {x1 : Int32} (ka0 : jK L a0 12) {μ μ' : jM} {r : Int32} (h : f_X12_ends a0 x1 μ = some ((r, μ'))) : jCt l G L 6 yX12_ends cX12_ends 3 (some .int) [.ref (L.2.2 a0), .int x1] μ (some (.int r)) μ' := by
  refine jCt_of (by decide) (Nat.le_of_ble_eq_true rfl) (fun X hC hX hR => ?_)
  subst hX
  have hC : jC X G cX12_ends 3 RX12 (some .int) := hC
  unfold f_X12_ends at h
  show jJ X G 3 L 0 0 (jQM X G L (some (.int r)) μ' 0 0) 0 [(0, .ref (L.2.2 a0)), (1, .int x1)] [] μ
  refine j_iconst (pc := 0) hC (0 : Int32) dX12_ends_0 (by decide) ?_
  refine j_istore_n (pc := 1) hC 2 [(2, .int (0 : Int32)), (0, .ref (L.2.2 a0)), (1, .int x1)] dX12_ends_1 rfl (by decide) rfl rfl ?_
  obtain ⟨w11, hw12, h⟩ := jcl_some h
  refine j_lv [1, 2, 0] rfl ?_
  refine j_loop (step := (fun (s : Int32 × jM) => f_X12_ends_L2 a0 s.1 s.2)) (P := (fun (s : Int32 × jM) => jJ X G 3 L 0 0 (jQM X G L (some (.int r)) μ' 0 0) 2 [(0, .ref (L.2.2 a0)), (1, .int x1), (2, .int s.1)] [] s.2)) (R := (fun (e : jM) => jJ X G 3 L 0 0 (jQM X G L (some (.int r)) μ' 0 0) 48 [(1, .int x1)] [] e)) ?_ jfu (((0 : Int32), μ)) w11 hw12 ?_
  · intro s13 o h hk
    obtain ⟨u1, m2⟩ := s13
    change f_X12_ends_L2 a0 u1 m2 = some o at h
    unfold f_X12_ends_L2 at h
    show jJ X G 3 L 0 0 (jQM X G L (some (.int r)) μ' 0 0) 2 [(0, .ref (L.2.2 a0)), (1, .int x1), (2, .int u1)] [] m2
    refine j_iload_n (pc := 2) hC 2 2 dX12_ends_2 rfl rfl ?_
    refine j_bipush (pc := 3) hC (30 : Int32) dX12_ends_3 (by decide) ?_
    refine j_icmp_gt (pc := 5) hC 48 dX12_ends_5 (by decide) (fun c3 => ?_) (fun c3 => ?_)
    · rw [if_pos c3] at h
      obtain rfl := Option.some.inj h
      have hk : jJ X G 3 L 0 0 (jQM X G L (some (.int r)) μ' 0 0) 48 [(1, .int x1)] [] m2 := hk
      exact j_lv [1] rfl hk
    · rw [if_neg c3] at h
      refine j_aload_n (pc := 8) hC 0 0 dX12_ends_8 rfl rfl ?_
      refine jgi_12 (pc := 9) hC 9 (by decide) rfl kf_X12_158 dX12_ends_9 ka0 ?_
      refine j_if_le (pc := 12) hC 48 dX12_ends_12 (by decide) (fun c4 => ?_) (fun c4 => ?_)
      · rw [if_pos c4] at h
        obtain rfl := Option.some.inj h
        have hk : jJ X G 3 L 0 0 (jQM X G L (some (.int r)) μ' 0 0) 48 [(1, .int x1)] [] m2 := hk
        exact j_lv [1] rfl hk
      · rw [if_neg c4] at h
        refine j_iload_n (pc := 15) hC 2 2 dX12_ends_15 rfl rfl ?_
        refine j_si (pc := 16) hC hR [.int u1] iy_X12_isThing km_X12_138 dX12_ends_16 rfl (by decide) (c_X12_isThing hL  rfl) (by decide) (Nat.le_of_ble_eq_true rfl) rfl ?_
        refine j_if_eq (pc := 19) hC 42 dX12_ends_19 (by decide) (fun c5 => ?_) (fun c5 => ?_)
        · rw [if_pos c5] at h
          refine j_iinc (pc := 42) hC 2 (u1 + (1 : Int32)) [(2, .int (u1 + (1 : Int32))), (0, .ref (L.2.2 a0)), (1, .int x1)] dX12_ends_42 rfl rfl (by decide) rfl ?_
          refine j_goto (pc := 45) hC 2 dX12_ends_45 (by decide) ?_
          obtain rfl := Option.some.inj h
          have hk : jJ X G 3 L 0 0 (jQM X G L (some (.int r)) μ' 0 0) 2 [(0, .ref (L.2.2 a0)), (1, .int x1), (2, .int (u1 + (1 : Int32)))] [] m2 := hk
          exact j_lv [1, 2, 0] rfl hk
        · rw [if_neg c5] at h
          refine j_aload_n (pc := 22) hC 0 0 dX12_ends_22 rfl rfl ?_
          refine j_bipush (pc := 23) hC (10 : Int32) dX12_ends_23 (by decide) ?_
          refine j_iconst (pc := 25) hC (0 : Int32) dX12_ends_25 (by decide) ?_
          refine j_iload_n (pc := 26) hC 2 2 dX12_ends_26 rfl rfl ?_
          obtain ⟨v6, e7, h⟩ := jcl_some h
          refine j_vi (pc := 27) hC hR [.int (10 : Int32), .int (0 : Int32), .int u1] iy_X12_isOther (q := (RX12, TX12, 40)) (ci := 12) rfl rfl (by decide) km_X12_142 dX12_ends_27 rfl (by decide) ka0 (c_X12_isOther hL ka0 e7) (by decide) (Nat.le_of_ble_eq_true rfl) rfl ?_
          refine j_if_eq (pc := 30) hC 42 dX12_ends_30 (by decide) (fun c8 => ?_) (fun c8 => ?_)
          · rw [if_pos c8] at h
            refine j_iinc (pc := 42) hC 2 (u1 + (1 : Int32)) [(2, .int (u1 + (1 : Int32))), (0, .ref (L.2.2 a0)), (1, .int x1)] dX12_ends_42 rfl rfl (by decide) rfl ?_
            refine j_goto (pc := 45) hC 2 dX12_ends_45 (by decide) ?_
            obtain rfl := Option.some.inj h
            have hk : jJ X G 3 L 0 0 (jQM X G L (some (.int r)) μ' 0 0) 2 [(0, .ref (L.2.2 a0)), (1, .int x1), (2, .int (u1 + (1 : Int32)))] [] m2 := hk
            exact j_lv [1, 2, 0] rfl hk
          · rw [if_neg c8] at h
            refine j_aload_n (pc := 33) hC 0 0 dX12_ends_33 rfl rfl ?_
            refine j_aload_n (pc := 34) hC 0 0 dX12_ends_34 rfl rfl ?_
            refine jgi_12 (pc := 35) hC 9 (by decide) rfl kf_X12_158 dX12_ends_35 ka0 ?_
            refine j_iload_n (pc := 38) hC 2 2 dX12_ends_38 rfl rfl ?_
            obtain ⟨m9, e10, h⟩ := jcl_some h
            refine j_vv (pc := 39) hC hR [.int (m2.1 a0 9), .int u1] iy_X12_comesOn (q := (RX12, TX12, 40)) (ci := 12) rfl rfl (by decide) km_X12_161 dX12_ends_39 rfl (by decide) ka0 (c_X12_comesOn hL ka0 e10) (by decide) (Nat.le_of_ble_eq_true rfl) rfl ?_
            refine j_iinc (pc := 42) hC 2 (u1 + (1 : Int32)) [(2, .int (u1 + (1 : Int32))), (0, .ref (L.2.2 a0)), (1, .int x1)] dX12_ends_42 rfl rfl (by decide) rfl ?_
            refine j_goto (pc := 45) hC 2 dX12_ends_45 (by decide) ?_
            obtain rfl := Option.some.inj h
            have hk : jJ X G 3 L 0 0 (jQM X G L (some (.int r)) μ' 0 0) 2 [(0, .ref (L.2.2 a0)), (1, .int x1), (2, .int (u1 + (1 : Int32)))] [] m9 := hk
            exact j_lv [1, 2, 0] rfl hk
  · obtain ⟨m14, rfl⟩ : ∃ y, y = w11 := ⟨_, rfl⟩
    try dsimp only at h
    show jJ X G 3 L 0 0 (jQM X G L (some (.int r)) μ' 0 0) 48 [(1, .int x1)] [] m14
    refine j_iload_n (pc := 48) hC 1 0 dX12_ends_48 rfl rfl ?_
    obtain ⟨rfl, rfl⟩ := Prod.mk.inj (Option.some.inj h)
    exact j_iret (pc := 49) hC dX12_ends_49 rfl
theorem dX12_trailsMany_0 : decode cX12_trailsMany 0 = .ok (.iconst 0, 1) := by decide +kernel
theorem dX12_trailsMany_1 : decode cX12_trailsMany 1 = .ok (.istore_n 1, 1) := by decide +kernel
theorem dX12_trailsMany_2 : decode cX12_trailsMany 2 = .ok (.iconst 1, 1) := by decide +kernel
theorem dX12_trailsMany_3 : decode cX12_trailsMany 3 = .ok (.istore_n 2, 1) := by decide +kernel
theorem dX12_trailsMany_4 : decode cX12_trailsMany 4 = .ok (.iload_n 2, 1) := by decide +kernel
theorem dX12_trailsMany_5 : decode cX12_trailsMany 5 = .ok (.aload_n 0, 1) := by decide +kernel
theorem dX12_trailsMany_6 : decode cX12_trailsMany 6 = .ok (.getfield 158, 3) := by decide +kernel
theorem dX12_trailsMany_9 : decode cX12_trailsMany 9 = .ok (.if_icmp .gt 18, 3) := by decide +kernel
theorem dX12_trailsMany_12 : decode cX12_trailsMany 12 = .ok (.iload_n 1, 1) := by decide +kernel
theorem dX12_trailsMany_13 : decode cX12_trailsMany 13 = .ok (.aload_n 0, 1) := by decide +kernel
theorem dX12_trailsMany_14 : decode cX12_trailsMany 14 = .ok (.getfield 66, 3) := by decide +kernel
theorem dX12_trailsMany_17 : decode cX12_trailsMany 17 = .ok (.iload_n 2, 1) := by decide +kernel
theorem dX12_trailsMany_18 : decode cX12_trailsMany 18 = .ok (.iaload, 1) := by decide +kernel
theorem dX12_trailsMany_19 : decode cX12_trailsMany 19 = .ok (.iadd, 1) := by decide +kernel
theorem dX12_trailsMany_20 : decode cX12_trailsMany 20 = .ok (.istore_n 1, 1) := by decide +kernel
theorem dX12_trailsMany_21 : decode cX12_trailsMany 21 = .ok (.iinc 2 1, 3) := by decide +kernel
theorem dX12_trailsMany_24 : decode cX12_trailsMany 24 = .ok (.goto (-20), 3) := by decide +kernel
theorem dX12_trailsMany_27 : decode cX12_trailsMany 27 = .ok (.iload_n 1, 1) := by decide +kernel
theorem dX12_trailsMany_28 : decode cX12_trailsMany 28 = .ok (.ireturn, 1) := by decide +kernel
def f_X12_trailsMany_L4 (a0 : Nat) (μ : jM) (u1 : Int32) (u2 : Int32) : Option ((Int32 × Int32) ⊕ (Int32)) :=
  (if (μ.1 a0 9) < u2 then some (.inr u1) else jrd (μ.1 (a0 + 5)) u2 10 (fun v5 => some (.inl ((u1 + v5, u2 + (1 : Int32))))))
def f_X12_trailsMany (a0 : Nat) (μ : jM) : Option (Int32) :=
  jcl (jloop (fun (s : Int32 × Int32) => f_X12_trailsMany_L4 a0 μ s.1 s.2) jfu (((0 : Int32), (1 : Int32)))) (fun w7 => some w7)
set_option maxHeartbeats 4000000 in
set_option maxRecDepth 100000 in
theorem c_X12_trailsMany {l : Launch} {G : jG} {L : jL} (hL : jOKL L) {a0 : Nat} (ka0 : jK L a0 12) {μ : jM} {r : Int32} (h : f_X12_trailsMany a0 μ = some r) : jCt l G L 3 yX12_trailsMany cX12_trailsMany 3 (some .int) [.ref (L.2.2 a0)] μ (some (.int r)) μ := by
  refine jCt_of (by decide) (Nat.le_of_ble_eq_true rfl) (fun X hC hX hR => ?_)
  subst hX
  have hC : jC X G cX12_trailsMany 3 RX12 (some .int) := hC
  unfold f_X12_trailsMany at h
  show jJ X G 3 L 0 0 (jQM X G L (some (.int r)) μ 0 0) 0 [(0, .ref (L.2.2 a0))] [] μ
  refine j_iconst (pc := 0) hC (0 : Int32) dX12_trailsMany_0 (by decide) ?_
  refine j_istore_n (pc := 1) hC 1 [(1, .int (0 : Int32)), (0, .ref (L.2.2 a0))] dX12_trailsMany_1 rfl (by decide) rfl rfl ?_
  refine j_iconst (pc := 2) hC (1 : Int32) dX12_trailsMany_2 (by decide) ?_
  refine j_istore_n (pc := 3) hC 2 [(2, .int (1 : Int32)), (1, .int (0 : Int32)), (0, .ref (L.2.2 a0))] dX12_trailsMany_3 rfl (by decide) rfl rfl ?_
  obtain ⟨w7, hw8, h⟩ := jcl_some h
  refine j_lv [2, 1, 0] rfl ?_
  refine j_loop (step := (fun (s : Int32 × Int32) => f_X12_trailsMany_L4 a0 μ s.1 s.2)) (P := (fun (s : Int32 × Int32) => jJ X G 3 L 0 0 (jQM X G L (some (.int r)) μ 0 0) 4 [(0, .ref (L.2.2 a0)), (1, .int s.1), (2, .int s.2)] [] μ)) (R := (fun (e : Int32) => jJ X G 3 L 0 0 (jQM X G L (some (.int r)) μ 0 0) 27 [(1, .int e)] [] μ)) ?_ jfu (((0 : Int32), (1 : Int32))) w7 hw8 ?_
  · intro s9 o h hk
    obtain ⟨u1, u2⟩ := s9
    change f_X12_trailsMany_L4 a0 μ u1 u2 = some o at h
    unfold f_X12_trailsMany_L4 at h
    show jJ X G 3 L 0 0 (jQM X G L (some (.int r)) μ 0 0) 4 [(0, .ref (L.2.2 a0)), (1, .int u1), (2, .int u2)] [] μ
    refine j_iload_n (pc := 4) hC 2 2 dX12_trailsMany_4 rfl rfl ?_
    refine j_aload_n (pc := 5) hC 0 0 dX12_trailsMany_5 rfl rfl ?_
    refine jgi_12 (pc := 6) hC 9 (by decide) rfl kf_X12_158 dX12_trailsMany_6 ka0 ?_
    refine j_icmp_gt (pc := 9) hC 27 dX12_trailsMany_9 (by decide) (fun c3 => ?_) (fun c3 => ?_)
    · rw [if_pos c3] at h
      obtain rfl := Option.some.inj h
      have hk : jJ X G 3 L 0 0 (jQM X G L (some (.int r)) μ 0 0) 27 [(1, .int u1)] [] μ := hk
      exact j_lv [1] rfl hk
    · rw [if_neg c3] at h
      refine j_iload_n (pc := 12) hC 1 1 dX12_trailsMany_12 rfl rfl ?_
      refine j_aload_n (pc := 13) hC 0 0 dX12_trailsMany_13 rfl rfl ?_
      refine jgr_12 (pc := 14) hC 11 (by decide) rfl kf_X12_66 dX12_trailsMany_14 ka0 (ly_12_11 hL ka0).1 ?_
      refine j_iload_n (pc := 17) hC 2 2 dX12_trailsMany_17 rfl rfl ?_
      obtain ⟨i4, v5, e6, h⟩ := jrd_some h
      refine j_iald (pc := 18) hC dX12_trailsMany_18 (ly_12_11 hL ka0).2.1 (ly_12_11 hL ka0).2.2 i4 e6 ?_
      refine j_iadd (pc := 19) hC dX12_trailsMany_19 ?_
      refine j_istore_n (pc := 20) hC 1 [(1, .int (u1 + v5)), (0, .ref (L.2.2 a0)), (2, .int u2)] dX12_trailsMany_20 rfl (by decide) rfl rfl ?_
      refine j_iinc (pc := 21) hC 2 (u2 + (1 : Int32)) [(2, .int (u2 + (1 : Int32))), (1, .int (u1 + v5)), (0, .ref (L.2.2 a0))] dX12_trailsMany_21 rfl rfl (by decide) rfl ?_
      refine j_goto (pc := 24) hC 4 dX12_trailsMany_24 (by decide) ?_
      obtain rfl := Option.some.inj h
      have hk : jJ X G 3 L 0 0 (jQM X G L (some (.int r)) μ 0 0) 4 [(0, .ref (L.2.2 a0)), (1, .int (u1 + v5)), (2, .int (u2 + (1 : Int32)))] [] μ := hk
      exact j_lv [2, 1, 0] rfl hk
  · obtain ⟨z10, rfl⟩ : ∃ y, y = w7 := ⟨_, rfl⟩
    try dsimp only at h
    show jJ X G 3 L 0 0 (jQM X G L (some (.int r)) μ 0 0) 27 [(1, .int z10)] [] μ
    refine j_iload_n (pc := 27) hC 1 0 dX12_trailsMany_27 rfl rfl ?_
    obtain rfl := Option.some.inj h
    exact j_iret (pc := 28) hC dX12_trailsMany_28 rfl
theorem dX12_opensOne_0 : decode cX12_opensOne 0 = .ok (.aload_n 0, 1) := by decide +kernel
theorem dX12_opensOne_1 : decode cX12_opensOne 1 = .ok (.getfield 158, 3) := by decide +kernel
theorem dX12_opensOne_4 : decode cX12_opensOne 4 = .ok (.bipush 9, 2) := by decide +kernel
theorem dX12_opensOne_6 : decode cX12_opensOne 6 = .ok (.if_icmp .ne 6, 3) := by decide +kernel
theorem dX12_opensOne_9 : decode cX12_opensOne 9 = .ok (.bipush (-2), 2) := by decide +kernel
theorem dX12_opensOne_11 : decode cX12_opensOne 11 = .ok (.ireturn, 1) := by decide +kernel
theorem dX12_opensOne_12 : decode cX12_opensOne 12 = .ok (.aload_n 0, 1) := by decide +kernel
theorem dX12_opensOne_13 : decode cX12_opensOne 13 = .ok (.dup, 1) := by decide +kernel
theorem dX12_opensOne_14 : decode cX12_opensOne 14 = .ok (.getfield 158, 3) := by decide +kernel
theorem dX12_opensOne_17 : decode cX12_opensOne 17 = .ok (.iconst 1, 1) := by decide +kernel
theorem dX12_opensOne_18 : decode cX12_opensOne 18 = .ok (.iadd, 1) := by decide +kernel
theorem dX12_opensOne_19 : decode cX12_opensOne 19 = .ok (.putfield 158, 3) := by decide +kernel
theorem dX12_opensOne_22 : decode cX12_opensOne 22 = .ok (.aload_n 0, 1) := by decide +kernel
theorem dX12_opensOne_23 : decode cX12_opensOne 23 = .ok (.iconst 0, 1) := by decide +kernel
theorem dX12_opensOne_24 : decode cX12_opensOne 24 = .ok (.aload_n 0, 1) := by decide +kernel
theorem dX12_opensOne_25 : decode cX12_opensOne 25 = .ok (.getfield 158, 3) := by decide +kernel
theorem dX12_opensOne_28 : decode cX12_opensOne 28 = .ok (.invokevirtual 154, 3) := by decide +kernel
theorem dX12_opensOne_31 : decode cX12_opensOne 31 = .ok (.aload_n 0, 1) := by decide +kernel
theorem dX12_opensOne_32 : decode cX12_opensOne 32 = .ok (.getfield 66, 3) := by decide +kernel
theorem dX12_opensOne_35 : decode cX12_opensOne 35 = .ok (.aload_n 0, 1) := by decide +kernel
theorem dX12_opensOne_36 : decode cX12_opensOne 36 = .ok (.getfield 158, 3) := by decide +kernel
theorem dX12_opensOne_39 : decode cX12_opensOne 39 = .ok (.iconst 0, 1) := by decide +kernel
theorem dX12_opensOne_40 : decode cX12_opensOne 40 = .ok (.iastore, 1) := by decide +kernel
theorem dX12_opensOne_41 : decode cX12_opensOne 41 = .ok (.aload_n 0, 1) := by decide +kernel
theorem dX12_opensOne_42 : decode cX12_opensOne 42 = .ok (.getfield 158, 3) := by decide +kernel
theorem dX12_opensOne_45 : decode cX12_opensOne 45 = .ok (.ireturn, 1) := by decide +kernel
def f_X12_opensOne (a0 : Nat) (μ : jM) : Option (Int32 × jM) :=
  (if (μ.1 a0 9) = (9 : Int32) then some (((-2 : Int32), μ)) else jbd (jsi μ a0 9 ((μ.1 a0 9) + (1 : Int32))) (fun m2 => jcl (f_X12_copies a0 (0 : Int32) (m2.1 a0 9) m2) (fun m4 => jin (m4.1 a0 9) 10 (jbd (jsi m4 (a0 + 5) (m4.1 a0 9).toNatClampNeg (0 : Int32)) (fun m7 => some ((m7.1 a0 9, m7)))))))
set_option maxHeartbeats 4000000 in
set_option maxRecDepth 100000 in
theorem c_X12_opensOne {l : Launch} {G : jG} {L : jL} (hL : jOKL L) {a0 : Nat} (ka0 : jK L a0 12) {μ μ' : jM} {r : Int32} (h : f_X12_opensOne a0 μ = some ((r, μ'))) : jCt l G L 4 yX12_opensOne cX12_opensOne 1 (some .int) [.ref (L.2.2 a0)] μ (some (.int r)) μ' := by
  refine jCt_of (by decide) (Nat.le_of_ble_eq_true rfl) (fun X hC hX hR => ?_)
  subst hX
  have hC : jC X G cX12_opensOne 1 RX12 (some .int) := hC
  unfold f_X12_opensOne at h
  show jJ X G 1 L 0 0 (jQM X G L (some (.int r)) μ' 0 0) 0 [(0, .ref (L.2.2 a0))] [] μ
  refine j_aload_n (pc := 0) hC 0 0 dX12_opensOne_0 rfl rfl ?_
  refine jgi_12 (pc := 1) hC 9 (by decide) rfl kf_X12_158 dX12_opensOne_1 ka0 ?_
  refine j_bipush (pc := 4) hC (9 : Int32) dX12_opensOne_4 (by decide) ?_
  refine j_icmp_ne (pc := 6) hC 12 dX12_opensOne_6 (by decide) (fun c1 => ?_) (fun c1 => ?_)
  · rw [if_neg c1] at h
    refine j_aload_n (pc := 12) hC 0 0 dX12_opensOne_12 rfl rfl ?_
    refine j_dup (pc := 13) hC dX12_opensOne_13 rfl ?_
    refine jgi_12 (pc := 14) hC 9 (by decide) rfl kf_X12_158 dX12_opensOne_14 ka0 ?_
    refine j_iconst (pc := 17) hC (1 : Int32) dX12_opensOne_17 (by decide) ?_
    refine j_iadd (pc := 18) hC dX12_opensOne_18 ?_
    obtain ⟨m2, e3, h⟩ := jbd_ex h
    refine jpi_12 (pc := 19) hC 9 (by decide) rfl kf_X12_158 dX12_opensOne_19 rfl (by decide) ka0 e3 ?_
    refine j_aload_n (pc := 22) hC 0 0 dX12_opensOne_22 rfl rfl ?_
    refine j_iconst (pc := 23) hC (0 : Int32) dX12_opensOne_23 (by decide) ?_
    refine j_aload_n (pc := 24) hC 0 0 dX12_opensOne_24 rfl rfl ?_
    refine jgi_12 (pc := 25) hC 9 (by decide) rfl kf_X12_158 dX12_opensOne_25 ka0 ?_
    obtain ⟨m4, e5, h⟩ := jcl_some h
    refine j_vv (pc := 28) hC hR [.int (0 : Int32), .int (m2.1 a0 9)] iy_X12_copies (q := (RX12, TX12, 40)) (ci := 12) rfl rfl (by decide) km_X12_154 dX12_opensOne_28 rfl (by decide) ka0 (c_X12_copies hL ka0 e5) (by decide) (Nat.le_of_ble_eq_true rfl) rfl ?_
    refine j_aload_n (pc := 31) hC 0 0 dX12_opensOne_31 rfl rfl ?_
    refine jgr_12 (pc := 32) hC 11 (by decide) rfl kf_X12_66 dX12_opensOne_32 ka0 (ly_12_11 hL ka0).1 ?_
    refine j_aload_n (pc := 35) hC 0 0 dX12_opensOne_35 rfl rfl ?_
    refine jgi_12 (pc := 36) hC 9 (by decide) rfl kf_X12_158 dX12_opensOne_36 ka0 ?_
    refine j_iconst (pc := 39) hC (0 : Int32) dX12_opensOne_39 (by decide) ?_
    obtain ⟨i6, h⟩ := jin_some h
    obtain ⟨m7, e8, h⟩ := jbd_ex h
    refine j_iast (pc := 40) hC dX12_opensOne_40 (ly_12_11 hL ka0).2.1 (ly_12_11 hL ka0).2.2 i6 e8 ?_
    refine j_aload_n (pc := 41) hC 0 0 dX12_opensOne_41 rfl rfl ?_
    refine jgi_12 (pc := 42) hC 9 (by decide) rfl kf_X12_158 dX12_opensOne_42 ka0 ?_
    obtain ⟨rfl, rfl⟩ := Prod.mk.inj (Option.some.inj h)
    exact j_iret (pc := 45) hC dX12_opensOne_45 rfl
  · rw [if_pos c1] at h
    refine j_bipush (pc := 9) hC (-2 : Int32) dX12_opensOne_9 (by decide) ?_
    obtain ⟨rfl, rfl⟩ := Prod.mk.inj (Option.some.inj h)
    exact j_iret (pc := 11) hC dX12_opensOne_11 rfl
theorem dX12_closesOne_0 : decode cX12_closesOne 0 = .ok (.aload_n 0, 1) := by decide +kernel
theorem dX12_closesOne_1 : decode cX12_closesOne 1 = .ok (.getfield 158, 3) := by decide +kernel
theorem dX12_closesOne_4 : decode cX12_closesOne 4 = .ok (.ifCond .ne 6, 3) := by decide +kernel
theorem dX12_closesOne_7 : decode cX12_closesOne 7 = .ok (.bipush (-2), 2) := by decide +kernel
theorem dX12_closesOne_9 : decode cX12_closesOne 9 = .ok (.ireturn, 1) := by decide +kernel
theorem dX12_closesOne_10 : decode cX12_closesOne 10 = .ok (.aload_n 0, 1) := by decide +kernel
theorem dX12_closesOne_11 : decode cX12_closesOne 11 = .ok (.aload_n 0, 1) := by decide +kernel
theorem dX12_closesOne_12 : decode cX12_closesOne 12 = .ok (.getfield 158, 3) := by decide +kernel
theorem dX12_closesOne_15 : decode cX12_closesOne 15 = .ok (.iconst 0, 1) := by decide +kernel
theorem dX12_closesOne_16 : decode cX12_closesOne 16 = .ok (.invokevirtual 154, 3) := by decide +kernel
theorem dX12_closesOne_19 : decode cX12_closesOne 19 = .ok (.aload_n 0, 1) := by decide +kernel
theorem dX12_closesOne_20 : decode cX12_closesOne 20 = .ok (.dup, 1) := by decide +kernel
theorem dX12_closesOne_21 : decode cX12_closesOne 21 = .ok (.getfield 158, 3) := by decide +kernel
theorem dX12_closesOne_24 : decode cX12_closesOne 24 = .ok (.iconst 1, 1) := by decide +kernel
theorem dX12_closesOne_25 : decode cX12_closesOne 25 = .ok (.isub, 1) := by decide +kernel
theorem dX12_closesOne_26 : decode cX12_closesOne 26 = .ok (.putfield 158, 3) := by decide +kernel
theorem dX12_closesOne_29 : decode cX12_closesOne 29 = .ok (.aload_n 0, 1) := by decide +kernel
theorem dX12_closesOne_30 : decode cX12_closesOne 30 = .ok (.getfield 158, 3) := by decide +kernel
theorem dX12_closesOne_33 : decode cX12_closesOne 33 = .ok (.ireturn, 1) := by decide +kernel
def f_X12_closesOne (a0 : Nat) (μ : jM) : Option (Int32 × jM) :=
  (if (μ.1 a0 9) = (0 : Int32) then some (((-2 : Int32), μ)) else jcl (f_X12_copies a0 (μ.1 a0 9) (0 : Int32) μ) (fun m2 => jbd (jsi m2 a0 9 ((m2.1 a0 9) - (1 : Int32))) (fun m4 => some ((m4.1 a0 9, m4)))))
set_option maxHeartbeats 4000000 in
set_option maxRecDepth 100000 in
theorem c_X12_closesOne {l : Launch} {G : jG} {L : jL} (hL : jOKL L) {a0 : Nat} (ka0 : jK L a0 12) {μ μ' : jM} {r : Int32} (h : f_X12_closesOne a0 μ = some ((r, μ'))) : jCt l G L 4 yX12_closesOne cX12_closesOne 1 (some .int) [.ref (L.2.2 a0)] μ (some (.int r)) μ' := by
  refine jCt_of (by decide) (Nat.le_of_ble_eq_true rfl) (fun X hC hX hR => ?_)
  subst hX
  have hC : jC X G cX12_closesOne 1 RX12 (some .int) := hC
  unfold f_X12_closesOne at h
  show jJ X G 1 L 0 0 (jQM X G L (some (.int r)) μ' 0 0) 0 [(0, .ref (L.2.2 a0))] [] μ
  refine j_aload_n (pc := 0) hC 0 0 dX12_closesOne_0 rfl rfl ?_
  refine jgi_12 (pc := 1) hC 9 (by decide) rfl kf_X12_158 dX12_closesOne_1 ka0 ?_
  refine j_if_ne (pc := 4) hC 10 dX12_closesOne_4 (by decide) (fun c1 => ?_) (fun c1 => ?_)
  · rw [if_neg c1] at h
    refine j_aload_n (pc := 10) hC 0 0 dX12_closesOne_10 rfl rfl ?_
    refine j_aload_n (pc := 11) hC 0 0 dX12_closesOne_11 rfl rfl ?_
    refine jgi_12 (pc := 12) hC 9 (by decide) rfl kf_X12_158 dX12_closesOne_12 ka0 ?_
    refine j_iconst (pc := 15) hC (0 : Int32) dX12_closesOne_15 (by decide) ?_
    obtain ⟨m2, e3, h⟩ := jcl_some h
    refine j_vv (pc := 16) hC hR [.int (μ.1 a0 9), .int (0 : Int32)] iy_X12_copies (q := (RX12, TX12, 40)) (ci := 12) rfl rfl (by decide) km_X12_154 dX12_closesOne_16 rfl (by decide) ka0 (c_X12_copies hL ka0 e3) (by decide) (Nat.le_of_ble_eq_true rfl) rfl ?_
    refine j_aload_n (pc := 19) hC 0 0 dX12_closesOne_19 rfl rfl ?_
    refine j_dup (pc := 20) hC dX12_closesOne_20 rfl ?_
    refine jgi_12 (pc := 21) hC 9 (by decide) rfl kf_X12_158 dX12_closesOne_21 ka0 ?_
    refine j_iconst (pc := 24) hC (1 : Int32) dX12_closesOne_24 (by decide) ?_
    refine j_isub (pc := 25) hC dX12_closesOne_25 ?_
    obtain ⟨m4, e5, h⟩ := jbd_ex h
    refine jpi_12 (pc := 26) hC 9 (by decide) rfl kf_X12_158 dX12_closesOne_26 rfl (by decide) ka0 e5 ?_
    refine j_aload_n (pc := 29) hC 0 0 dX12_closesOne_29 rfl rfl ?_
    refine jgi_12 (pc := 30) hC 9 (by decide) rfl kf_X12_158 dX12_closesOne_30 ka0 ?_
    obtain ⟨rfl, rfl⟩ := Prod.mk.inj (Option.some.inj h)
    exact j_iret (pc := 33) hC dX12_closesOne_33 rfl
  · rw [if_pos c1] at h
    refine j_bipush (pc := 7) hC (-2 : Int32) dX12_closesOne_7 (by decide) ?_
    obtain ⟨rfl, rfl⟩ := Prod.mk.inj (Option.some.inj h)
    exact j_iret (pc := 9) hC dX12_closesOne_9 rfl
theorem dX12_commitsOne_0 : decode cX12_commitsOne 0 = .ok (.aload_n 0, 1) := by decide +kernel
theorem dX12_commitsOne_1 : decode cX12_commitsOne 1 = .ok (.getfield 158, 3) := by decide +kernel
theorem dX12_commitsOne_4 : decode cX12_commitsOne 4 = .ok (.ifCond .ne 6, 3) := by decide +kernel
theorem dX12_commitsOne_7 : decode cX12_commitsOne 7 = .ok (.bipush (-2), 2) := by decide +kernel
theorem dX12_commitsOne_9 : decode cX12_commitsOne 9 = .ok (.ireturn, 1) := by decide +kernel
theorem dX12_commitsOne_10 : decode cX12_commitsOne 10 = .ok (.aload_n 0, 1) := by decide +kernel
theorem dX12_commitsOne_11 : decode cX12_commitsOne 11 = .ok (.iconst 0, 1) := by decide +kernel
theorem dX12_commitsOne_12 : decode cX12_commitsOne 12 = .ok (.putfield 164, 3) := by decide +kernel
theorem dX12_commitsOne_15 : decode cX12_commitsOne 15 = .ok (.aload_n 0, 1) := by decide +kernel
theorem dX12_commitsOne_16 : decode cX12_commitsOne 16 = .ok (.getfield 158, 3) := by decide +kernel
theorem dX12_commitsOne_19 : decode cX12_commitsOne 19 = .ok (.iconst 1, 1) := by decide +kernel
theorem dX12_commitsOne_20 : decode cX12_commitsOne 20 = .ok (.isub, 1) := by decide +kernel
theorem dX12_commitsOne_21 : decode cX12_commitsOne 21 = .ok (.istore_n 1, 1) := by decide +kernel
theorem dX12_commitsOne_22 : decode cX12_commitsOne 22 = .ok (.iconst 0, 1) := by decide +kernel
theorem dX12_commitsOne_23 : decode cX12_commitsOne 23 = .ok (.istore_n 2, 1) := by decide +kernel
theorem dX12_commitsOne_24 : decode cX12_commitsOne 24 = .ok (.iload_n 2, 1) := by decide +kernel
theorem dX12_commitsOne_25 : decode cX12_commitsOne 25 = .ok (.aload_n 0, 1) := by decide +kernel
theorem dX12_commitsOne_26 : decode cX12_commitsOne 26 = .ok (.getfield 66, 3) := by decide +kernel
theorem dX12_commitsOne_29 : decode cX12_commitsOne 29 = .ok (.aload_n 0, 1) := by decide +kernel
theorem dX12_commitsOne_30 : decode cX12_commitsOne 30 = .ok (.getfield 158, 3) := by decide +kernel
theorem dX12_commitsOne_33 : decode cX12_commitsOne 33 = .ok (.iaload, 1) := by decide +kernel
theorem dX12_commitsOne_34 : decode cX12_commitsOne 34 = .ok (.if_icmp .ge 52, 3) := by decide +kernel
theorem dX12_commitsOne_37 : decode cX12_commitsOne 37 = .ok (.iload_n 1, 1) := by decide +kernel
theorem dX12_commitsOne_38 : decode cX12_commitsOne 38 = .ok (.ifCond .le 48, 3) := by decide +kernel
theorem dX12_commitsOne_41 : decode cX12_commitsOne 41 = .ok (.aload_n 0, 1) := by decide +kernel
theorem dX12_commitsOne_42 : decode cX12_commitsOne 42 = .ok (.getfield 63, 3) := by decide +kernel
theorem dX12_commitsOne_45 : decode cX12_commitsOne 45 = .ok (.bipush 22, 2) := by decide +kernel
theorem dX12_commitsOne_47 : decode cX12_commitsOne 47 = .ok (.aload_n 0, 1) := by decide +kernel
theorem dX12_commitsOne_48 : decode cX12_commitsOne 48 = .ok (.getfield 158, 3) := by decide +kernel
theorem dX12_commitsOne_51 : decode cX12_commitsOne 51 = .ok (.imul, 1) := by decide +kernel
theorem dX12_commitsOne_52 : decode cX12_commitsOne 52 = .ok (.iload_n 2, 1) := by decide +kernel
theorem dX12_commitsOne_53 : decode cX12_commitsOne 53 = .ok (.iadd, 1) := by decide +kernel
theorem dX12_commitsOne_54 : decode cX12_commitsOne 54 = .ok (.iaload, 1) := by decide +kernel
theorem dX12_commitsOne_55 : decode cX12_commitsOne 55 = .ok (.istore_n 3, 1) := by decide +kernel
theorem dX12_commitsOne_56 : decode cX12_commitsOne 56 = .ok (.aload_n 0, 1) := by decide +kernel
theorem dX12_commitsOne_57 : decode cX12_commitsOne 57 = .ok (.dup, 1) := by decide +kernel
theorem dX12_commitsOne_58 : decode cX12_commitsOne 58 = .ok (.getfield 164, 3) := by decide +kernel
theorem dX12_commitsOne_61 : decode cX12_commitsOne 61 = .ok (.aload_n 0, 1) := by decide +kernel
theorem dX12_commitsOne_62 : decode cX12_commitsOne 62 = .ok (.iload_n 1, 1) := by decide +kernel
theorem dX12_commitsOne_63 : decode cX12_commitsOne 63 = .ok (.iload_n 3, 1) := by decide +kernel
theorem dX12_commitsOne_64 : decode cX12_commitsOne 64 = .ok (.invokevirtual 150, 3) := by decide +kernel
theorem dX12_commitsOne_67 : decode cX12_commitsOne 67 = .ok (.invokestatic 34, 3) := by decide +kernel
theorem dX12_commitsOne_70 : decode cX12_commitsOne 70 = .ok (.iadd, 1) := by decide +kernel
theorem dX12_commitsOne_71 : decode cX12_commitsOne 71 = .ok (.putfield 164, 3) := by decide +kernel
theorem dX12_commitsOne_74 : decode cX12_commitsOne 74 = .ok (.aload_n 0, 1) := by decide +kernel
theorem dX12_commitsOne_75 : decode cX12_commitsOne 75 = .ok (.iload_n 1, 1) := by decide +kernel
theorem dX12_commitsOne_76 : decode cX12_commitsOne 76 = .ok (.iload_n 3, 1) := by decide +kernel
theorem dX12_commitsOne_77 : decode cX12_commitsOne 77 = .ok (.invokevirtual 161, 3) := by decide +kernel
theorem dX12_commitsOne_80 : decode cX12_commitsOne 80 = .ok (.iinc 2 1, 3) := by decide +kernel
theorem dX12_commitsOne_83 : decode cX12_commitsOne 83 = .ok (.goto (-59), 3) := by decide +kernel
theorem dX12_commitsOne_86 : decode cX12_commitsOne 86 = .ok (.aload_n 0, 1) := by decide +kernel
theorem dX12_commitsOne_87 : decode cX12_commitsOne 87 = .ok (.iload_n 1, 1) := by decide +kernel
theorem dX12_commitsOne_88 : decode cX12_commitsOne 88 = .ok (.putfield 158, 3) := by decide +kernel
theorem dX12_commitsOne_91 : decode cX12_commitsOne 91 = .ok (.iload_n 1, 1) := by decide +kernel
theorem dX12_commitsOne_92 : decode cX12_commitsOne 92 = .ok (.ireturn, 1) := by decide +kernel
def f_X12_commitsOne_L24 (a0 : Nat) (v4 : Int32) (u6 : Int32) (m7 : jM) : Option ((Int32 × jM) ⊕ (jM)) :=
  jrd (m7.1 (a0 + 5)) (m7.1 a0 9) 10 (fun v9 => (if v9 ≤ u6 then some (.inr m7) else (if v4 ≤ (0 : Int32) then some (.inr m7) else jrd (m7.1 (a0 + 4)) (((22 : Int32) * (m7.1 a0 9)) + u6) 220 (fun v14 => jcl (f_X12_isOn a0 v4 v14 m7) (fun v16 => jbd (jsi m7 a0 15 ((m7.1 a0 15) + (f_X12_flag v16))) (fun m18 => jcl (f_X12_comesOn a0 v4 v14 m18) (fun m20 => some (.inl ((u6 + (1 : Int32), m20))))))))))
def f_X12_commitsOne (a0 : Nat) (μ : jM) : Option (Int32 × jM) :=
  (if (μ.1 a0 9) = (0 : Int32) then some (((-2 : Int32), μ)) else jbd (jsi μ a0 15 (0 : Int32)) (fun m2 => jbd ((m2.1 a0 9) - (1 : Int32) : Int32) (fun v4 => jcl (jloop (fun (s : Int32 × jM) => f_X12_commitsOne_L24 a0 v4 s.1 s.2) jfu (((0 : Int32), m2))) (fun w22 => jbd (jsi w22 a0 9 v4) (fun m26 => some ((v4, m26)))))))
set_option maxHeartbeats 4000000 in
set_option maxRecDepth 100000 in
theorem c_X12_commitsOne {l : Launch} {G : jG} {L : jL} (hL : jOKL L) {a0 : Nat} (ka0 : jK L a0 12) {μ μ' : jM} {r : Int32} (h : f_X12_commitsOne a0 μ = some ((r, μ'))) : jCt l G L 5 yX12_commitsOne cX12_commitsOne 4 (some .int) [.ref (L.2.2 a0)] μ (some (.int r)) μ' := by
  refine jCt_of (by decide) (Nat.le_of_ble_eq_true rfl) (fun X hC hX hR => ?_)
  subst hX
  have hC : jC X G cX12_commitsOne 4 RX12 (some .int) := hC
  unfold f_X12_commitsOne at h
  show jJ X G 4 L 0 0 (jQM X G L (some (.int r)) μ' 0 0) 0 [(0, .ref (L.2.2 a0))] [] μ
  refine j_aload_n (pc := 0) hC 0 0 dX12_commitsOne_0 rfl rfl ?_
  refine jgi_12 (pc := 1) hC 9 (by decide) rfl kf_X12_158 dX12_commitsOne_1 ka0 ?_
  refine j_if_ne (pc := 4) hC 10 dX12_commitsOne_4 (by decide) (fun c1 => ?_) (fun c1 => ?_)
  · rw [if_neg c1] at h
    refine j_aload_n (pc := 10) hC 0 0 dX12_commitsOne_10 rfl rfl ?_
    refine j_iconst (pc := 11) hC (0 : Int32) dX12_commitsOne_11 (by decide) ?_
    obtain ⟨m2, e3, h⟩ := jbd_ex h
    refine jpi_12 (pc := 12) hC 15 (by decide) rfl kf_X12_164 dX12_commitsOne_12 rfl (by decide) ka0 e3 ?_
    refine j_aload_n (pc := 15) hC 0 0 dX12_commitsOne_15 rfl rfl ?_
    refine jgi_12 (pc := 16) hC 9 (by decide) rfl kf_X12_158 dX12_commitsOne_16 ka0 ?_
    refine j_iconst (pc := 19) hC (1 : Int32) dX12_commitsOne_19 (by decide) ?_
    refine j_isub (pc := 20) hC dX12_commitsOne_20 ?_
    obtain ⟨v4, e5, h⟩ := jbd_ex h
    refine j_istore_n (pc := 21) hC 1 [(1, .int v4), (0, .ref (L.2.2 a0))] dX12_commitsOne_21 rfl (by decide) e5 rfl ?_
    refine j_iconst (pc := 22) hC (0 : Int32) dX12_commitsOne_22 (by decide) ?_
    refine j_istore_n (pc := 23) hC 2 [(2, .int (0 : Int32)), (1, .int v4), (0, .ref (L.2.2 a0))] dX12_commitsOne_23 rfl (by decide) rfl rfl ?_
    obtain ⟨w22, hw23, h⟩ := jcl_some h
    refine j_lv [2, 1, 0] rfl ?_
    refine j_loop (step := (fun (s : Int32 × jM) => f_X12_commitsOne_L24 a0 v4 s.1 s.2)) (P := (fun (s : Int32 × jM) => jJ X G 4 L 0 0 (jQM X G L (some (.int r)) μ' 0 0) 24 [(0, .ref (L.2.2 a0)), (1, .int v4), (2, .int s.1)] [] s.2)) (R := (fun (e : jM) => jJ X G 4 L 0 0 (jQM X G L (some (.int r)) μ' 0 0) 86 [(0, .ref (L.2.2 a0)), (1, .int v4)] [] e)) ?_ jfu (((0 : Int32), m2)) w22 hw23 ?_
    · intro s24 o h hk
      obtain ⟨u6, m7⟩ := s24
      change f_X12_commitsOne_L24 a0 v4 u6 m7 = some o at h
      unfold f_X12_commitsOne_L24 at h
      show jJ X G 4 L 0 0 (jQM X G L (some (.int r)) μ' 0 0) 24 [(0, .ref (L.2.2 a0)), (1, .int v4), (2, .int u6)] [] m7
      refine j_iload_n (pc := 24) hC 2 2 dX12_commitsOne_24 rfl rfl ?_
      refine j_aload_n (pc := 25) hC 0 0 dX12_commitsOne_25 rfl rfl ?_
      refine jgr_12 (pc := 26) hC 11 (by decide) rfl kf_X12_66 dX12_commitsOne_26 ka0 (ly_12_11 hL ka0).1 ?_
      refine j_aload_n (pc := 29) hC 0 0 dX12_commitsOne_29 rfl rfl ?_
      refine jgi_12 (pc := 30) hC 9 (by decide) rfl kf_X12_158 dX12_commitsOne_30 ka0 ?_
      obtain ⟨i8, v9, e10, h⟩ := jrd_some h
      refine j_iald (pc := 33) hC dX12_commitsOne_33 (ly_12_11 hL ka0).2.1 (ly_12_11 hL ka0).2.2 i8 e10 ?_
      refine j_icmp_ge (pc := 34) hC 86 dX12_commitsOne_34 (by decide) (fun c11 => ?_) (fun c11 => ?_)
      · rw [if_pos c11] at h
        obtain rfl := Option.some.inj h
        have hk : jJ X G 4 L 0 0 (jQM X G L (some (.int r)) μ' 0 0) 86 [(0, .ref (L.2.2 a0)), (1, .int v4)] [] m7 := hk
        exact j_lv [0, 1] rfl hk
      · rw [if_neg c11] at h
        refine j_iload_n (pc := 37) hC 1 1 dX12_commitsOne_37 rfl rfl ?_
        refine j_if_le (pc := 38) hC 86 dX12_commitsOne_38 (by decide) (fun c12 => ?_) (fun c12 => ?_)
        · rw [if_pos c12] at h
          obtain rfl := Option.some.inj h
          have hk : jJ X G 4 L 0 0 (jQM X G L (some (.int r)) μ' 0 0) 86 [(0, .ref (L.2.2 a0)), (1, .int v4)] [] m7 := hk
          exact j_lv [0, 1] rfl hk
        · rw [if_neg c12] at h
          refine j_aload_n (pc := 41) hC 0 0 dX12_commitsOne_41 rfl rfl ?_
          refine jgr_12 (pc := 42) hC 10 (by decide) rfl kf_X12_63 dX12_commitsOne_42 ka0 (ly_12_10 hL ka0).1 ?_
          refine j_bipush (pc := 45) hC (22 : Int32) dX12_commitsOne_45 (by decide) ?_
          refine j_aload_n (pc := 47) hC 0 0 dX12_commitsOne_47 rfl rfl ?_
          refine jgi_12 (pc := 48) hC 9 (by decide) rfl kf_X12_158 dX12_commitsOne_48 ka0 ?_
          refine j_imul (pc := 51) hC dX12_commitsOne_51 ?_
          refine j_iload_n (pc := 52) hC 2 2 dX12_commitsOne_52 rfl rfl ?_
          refine j_iadd (pc := 53) hC dX12_commitsOne_53 ?_
          obtain ⟨i13, v14, e15, h⟩ := jrd_some h
          refine j_iald (pc := 54) hC dX12_commitsOne_54 (ly_12_10 hL ka0).2.1 (ly_12_10 hL ka0).2.2 i13 e15 ?_
          refine j_istore_n (pc := 55) hC 3 [(3, .int v14), (0, .ref (L.2.2 a0)), (1, .int v4), (2, .int u6)] dX12_commitsOne_55 rfl (by decide) rfl rfl ?_
          refine j_aload_n (pc := 56) hC 0 1 dX12_commitsOne_56 rfl rfl ?_
          refine j_dup (pc := 57) hC dX12_commitsOne_57 rfl ?_
          refine jgi_12 (pc := 58) hC 15 (by decide) rfl kf_X12_164 dX12_commitsOne_58 ka0 ?_
          refine j_aload_n (pc := 61) hC 0 1 dX12_commitsOne_61 rfl rfl ?_
          refine j_iload_n (pc := 62) hC 1 2 dX12_commitsOne_62 rfl rfl ?_
          refine j_iload_n (pc := 63) hC 3 0 dX12_commitsOne_63 rfl rfl ?_
          obtain ⟨v16, e17, h⟩ := jcl_some h
          refine j_vi (pc := 64) hC hR [.int v4, .int v14] iy_X12_isOn (q := (RX12, TX12, 40)) (ci := 12) rfl rfl (by decide) km_X12_150 dX12_commitsOne_64 rfl (by decide) ka0 (c_X12_isOn hL ka0 e17) (by decide) (Nat.le_of_ble_eq_true rfl) rfl ?_
          refine j_si (pc := 67) hC hR [.int v16] iy_X12_flag km_X12_34 dX12_commitsOne_67 rfl (by decide) (c_X12_flag hL  rfl) (by decide) (Nat.le_of_ble_eq_true rfl) rfl ?_
          refine j_iadd (pc := 70) hC dX12_commitsOne_70 ?_
          obtain ⟨m18, e19, h⟩ := jbd_ex h
          refine jpi_12 (pc := 71) hC 15 (by decide) rfl kf_X12_164 dX12_commitsOne_71 rfl (by decide) ka0 e19 ?_
          refine j_aload_n (pc := 74) hC 0 1 dX12_commitsOne_74 rfl rfl ?_
          refine j_iload_n (pc := 75) hC 1 2 dX12_commitsOne_75 rfl rfl ?_
          refine j_iload_n (pc := 76) hC 3 0 dX12_commitsOne_76 rfl rfl ?_
          obtain ⟨m20, e21, h⟩ := jcl_some h
          refine j_vv (pc := 77) hC hR [.int v4, .int v14] iy_X12_comesOn (q := (RX12, TX12, 40)) (ci := 12) rfl rfl (by decide) km_X12_161 dX12_commitsOne_77 rfl (by decide) ka0 (c_X12_comesOn hL ka0 e21) (by decide) (Nat.le_of_ble_eq_true rfl) rfl ?_
          refine j_iinc (pc := 80) hC 3 (u6 + (1 : Int32)) [(2, .int (u6 + (1 : Int32))), (3, .int v14), (0, .ref (L.2.2 a0)), (1, .int v4)] dX12_commitsOne_80 rfl rfl (by decide) rfl ?_
          refine j_goto (pc := 83) hC 24 dX12_commitsOne_83 (by decide) ?_
          obtain rfl := Option.some.inj h
          have hk : jJ X G 4 L 0 0 (jQM X G L (some (.int r)) μ' 0 0) 24 [(0, .ref (L.2.2 a0)), (1, .int v4), (2, .int (u6 + (1 : Int32)))] [] m20 := hk
          exact j_lv [2, 3, 0] rfl hk
    · obtain ⟨m25, rfl⟩ : ∃ y, y = w22 := ⟨_, rfl⟩
      try dsimp only at h
      show jJ X G 4 L 0 0 (jQM X G L (some (.int r)) μ' 0 0) 86 [(0, .ref (L.2.2 a0)), (1, .int v4)] [] m25
      refine j_aload_n (pc := 86) hC 0 0 dX12_commitsOne_86 rfl rfl ?_
      refine j_iload_n (pc := 87) hC 1 1 dX12_commitsOne_87 rfl rfl ?_
      obtain ⟨m26, e27, h⟩ := jbd_ex h
      refine jpi_12 (pc := 88) hC 9 (by decide) rfl kf_X12_158 dX12_commitsOne_88 rfl (by decide) ka0 e27 ?_
      refine j_iload_n (pc := 91) hC 1 1 dX12_commitsOne_91 rfl rfl ?_
      obtain ⟨rfl, rfl⟩ := Prod.mk.inj (Option.some.inj h)
      exact j_iret (pc := 92) hC dX12_commitsOne_92 rfl
  · rw [if_pos c1] at h
    refine j_bipush (pc := 7) hC (-2 : Int32) dX12_commitsOne_7 (by decide) ?_
    obtain ⟨rfl, rfl⟩ := Prod.mk.inj (Option.some.inj h)
    exact j_iret (pc := 9) hC dX12_commitsOne_9 rfl
