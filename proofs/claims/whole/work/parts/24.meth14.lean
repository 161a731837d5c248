theorem dX12_opens_0 : decode cX12_opens 0 = .ok (.aload_n 0, 1) := by decide +kernel
theorem dX12_opens_1 : decode cX12_opens 1 = .ok (.iconst 0, 1) := by decide +kernel
theorem dX12_opens_2 : decode cX12_opens 2 = .ok (.putfield 1, 3) := by decide +kernel
theorem dX12_opens_5 : decode cX12_opens 5 = .ok (.aload_n 0, 1) := by decide +kernel
theorem dX12_opens_6 : decode cX12_opens 6 = .ok (.invokevirtual 167, 3) := by decide +kernel
theorem dX12_opens_9 : decode cX12_opens 9 = .ok (.ireturn, 1) := by decide +kernel
def f_X12_opens (a0 : Nat) (μ : jM) : Option (Int32 × jM) :=
  jbd (jsi μ a0 0 (0 : Int32)) (fun m1 => jcl2 (f_X12_opensOne a0 m1) (fun v3 m4 => some ((v3, m4))))
set_option maxHeartbeats 4000000 in
set_option maxRecDepth 100000 in
theorem c_X12_opens {l : Launch} {G : jG} {L : jL} (hL : jOKL L) {a0 : Nat} (ka0 : jK L a0 12) {μ μ' : jM} {r : Int32} (h : f_X12_opens a0 μ = some ((r, μ'))) : jCt l G L 5 yX12_opens cX12_opens 1 (some .int) [.ref (L.2.2 a0)] μ (some (.int r)) μ' := by
  refine jCt_of (by decide) (Nat.le_of_ble_eq_true rfl) (fun X hC hX hR => ?_)
  subst hX
  have hC : jC X G cX12_opens 1 RX12 (some .int) := hC
  unfold f_X12_opens at h
  show jJ X G 1 L 0 0 (jQM X G L (some (.int r)) μ' 0 0) 0 [(0, .ref (L.2.2 a0))] [] μ
  refine j_aload_n (pc := 0) hC 0 0 dX12_opens_0 rfl rfl ?_
  refine j_iconst (pc := 1) hC (0 : Int32) dX12_opens_1 (by decide) ?_
  obtain ⟨m1, e2, h⟩ := jbd_ex h
  refine jpi_12 (pc := 2) hC 0 (by decide) rfl kf_X12_1 dX12_opens_2 rfl (by decide) ka0 e2 ?_
  refine j_aload_n (pc := 5) hC 0 0 dX12_opens_5 rfl rfl ?_
  obtain ⟨v3, m4, e5, h⟩ := jcl2_some h
  refine j_vi (pc := 6) hC hR [] iy_X12_opensOne (q := (RX12, TX12, 40)) (ci := 12) rfl rfl (by decide) km_X12_167 dX12_opens_6 rfl (by decide) ka0 (c_X12_opensOne hL ka0 e5) (by decide) (Nat.le_of_ble_eq_true rfl) rfl ?_
  obtain ⟨rfl, rfl⟩ := Prod.mk.inj (Option.some.inj h)
  exact j_iret (pc := 9) hC dX12_opens_9 rfl
theorem dX12_closes_0 : decode cX12_closes 0 = .ok (.aload_n 0, 1) := by decide +kernel
theorem dX12_closes_1 : decode cX12_closes 1 = .ok (.iconst 0, 1) := by decide +kernel
theorem dX12_closes_2 : decode cX12_closes 2 = .ok (.putfield 1, 3) := by decide +kernel
theorem dX12_closes_5 : decode cX12_closes 5 = .ok (.aload_n 0, 1) := by decide +kernel
theorem dX12_closes_6 : decode cX12_closes 6 = .ok (.invokevirtual 170, 3) := by decide +kernel
theorem dX12_closes_9 : decode cX12_closes 9 = .ok (.aload_n 0, 1) := by decide +kernel
theorem dX12_closes_10 : decode cX12_closes 10 = .ok (.invokevirtual 173, 3) := by decide +kernel
theorem dX12_closes_13 : decode cX12_closes 13 = .ok (.istore_n 1, 1) := by decide +kernel
theorem dX12_closes_14 : decode cX12_closes 14 = .ok (.iload_n 1, 1) := by decide +kernel
theorem dX12_closes_15 : decode cX12_closes 15 = .ok (.ifCond .lt 20, 3) := by decide +kernel
theorem dX12_closes_18 : decode cX12_closes 18 = .ok (.aload_n 0, 1) := by decide +kernel
theorem dX12_closes_19 : decode cX12_closes 19 = .ok (.iconst 0, 1) := by decide +kernel
theorem dX12_closes_20 : decode cX12_closes 20 = .ok (.putfield 11, 3) := by decide +kernel
theorem dX12_closes_23 : decode cX12_closes 23 = .ok (.aload_n 0, 1) := by decide +kernel
theorem dX12_closes_24 : decode cX12_closes 24 = .ok (.aload_n 0, 1) := by decide +kernel
theorem dX12_closes_25 : decode cX12_closes 25 = .ok (.bipush 10, 2) := by decide +kernel
theorem dX12_closes_27 : decode cX12_closes 27 = .ok (.iconst 0, 1) := by decide +kernel
theorem dX12_closes_28 : decode cX12_closes 28 = .ok (.invokevirtual 176, 3) := by decide +kernel
theorem dX12_closes_31 : decode cX12_closes 31 = .ok (.i2l, 1) := by decide +kernel
theorem dX12_closes_32 : decode cX12_closes 32 = .ok (.invokevirtual 146, 3) := by decide +kernel
theorem dX12_closes_35 : decode cX12_closes 35 = .ok (.iload_n 1, 1) := by decide +kernel
theorem dX12_closes_36 : decode cX12_closes 36 = .ok (.ireturn, 1) := by decide +kernel
def f_X12_closes (a0 : Nat) (μ : jM) : Option (Int32 × jM) :=
  jbd (jsi μ a0 0 (0 : Int32)) (fun m1 => jcl (f_X12_begins a0 m1) (fun m3 => jcl2 (f_X12_closesOne a0 m3) (fun v5 m6 => (if v5 < (0 : Int32) then some ((v5, m6)) else jbd (jsi m6 a0 1 (0 : Int32)) (fun m9 => jcl (f_X12_othersMany a0 (10 : Int32) (0 : Int32) m9) (fun v11 => jcl (f_X12_enters a0 v11.toInt64 m9) (fun m13 => some ((v5, m13)))))))))
set_option maxHeartbeats 4000000 in
set_option maxRecDepth 100000 in
theorem c_X12_closes {l : Launch} {G : jG} {L : jL} (hL : jOKL L) {a0 : Nat} (ka0 : jK L a0 12) {μ μ' : jM} {r : Int32} (h : f_X12_closes a0 μ = some ((r, μ'))) : jCt l G L 7 yX12_closes cX12_closes 2 (some .int) [.ref (L.2.2 a0)] μ (some (.int r)) μ' := by
  refine jCt_of (by decide) (Nat.le_of_ble_eq_true rfl) (fun X hC hX hR => ?_)
  subst hX
  have hC : jC X G cX12_closes 2 RX12 (some .int) := hC
  unfold f_X12_closes at h
  show jJ X G 2 L 0 0 (jQM X G L (some (.int r)) μ' 0 0) 0 [(0, .ref (L.2.2 a0))] [] μ
  refine j_aload_n (pc := 0) hC 0 0 dX12_closes_0 rfl rfl ?_
  refine j_iconst (pc := 1) hC (0 : Int32) dX12_closes_1 (by decide) ?_
  obtain ⟨m1, e2, h⟩ := jbd_ex h
  refine jpi_12 (pc := 2) hC 0 (by decide) rfl kf_X12_1 dX12_closes_2 rfl (by decide) ka0 e2 ?_
  refine j_aload_n (pc := 5) hC 0 0 dX12_closes_5 rfl rfl ?_
  obtain ⟨m3, e4, h⟩ := jcl_some h
  refine j_vv (pc := 6) hC hR [] iy_X12_begins (q := (RX12, TX12, 40)) (ci := 12) rfl rfl (by decide) km_X12_170 dX12_closes_6 rfl (by decide) ka0 (c_X12_begins hL ka0 e4) (by decide) (Nat.le_of_ble_eq_true rfl) rfl ?_
  refine j_aload_n (pc := 9) hC 0 0 dX12_closes_9 rfl rfl ?_
  obtain ⟨v5, m6, e7, h⟩ := jcl2_some h
  refine j_vi (pc := 10) hC hR [] iy_X12_closesOne (q := (RX12, TX12, 40)) (ci := 12) rfl rfl (by decide) km_X12_173 dX12_closes_10 rfl (by decide) ka0 (c_X12_closesOne hL ka0 e7) (by decide) (Nat.le_of_ble_eq_true rfl) rfl ?_
  refine j_istore_n (pc := 13) hC 1 [(1, .int v5), (0, .ref (L.2.2 a0))] dX12_closes_13 rfl (by decide) rfl rfl ?_
  refine j_iload_n (pc := 14) hC 1 0 dX12_closes_14 rfl rfl ?_
  refine j_if_lt (pc := 15) hC 35 dX12_closes_15 (by decide) (fun c8 => ?_) (fun c8 => ?_)
  · rw [if_pos c8] at h
    refine j_iload_n (pc := 35) hC 1 0 dX12_closes_35 rfl rfl ?_
    obtain ⟨rfl, rfl⟩ := Prod.mk.inj (Option.some.inj h)
    exact j_iret (pc := 36) hC dX12_closes_36 rfl
  · rw [if_neg c8] at h
    refine j_aload_n (pc := 18) hC 0 1 dX12_closes_18 rfl rfl ?_
    refine j_iconst (pc := 19) hC (0 : Int32) dX12_closes_19 (by decide) ?_
    obtain ⟨m9, e10, h⟩ := jbd_ex h
    refine jpi_12 (pc := 20) hC 1 (by decide) rfl kf_X12_11 dX12_closes_20 rfl (by decide) ka0 e10 ?_
    refine j_aload_n (pc := 23) hC 0 1 dX12_closes_23 rfl rfl ?_
    refine j_aload_n (pc := 24) hC 0 1 dX12_closes_24 rfl rfl ?_
    refine j_bipush (pc := 25) hC (10 : Int32) dX12_closes_25 (by decide) ?_
    refine j_iconst (pc := 27) hC (0 : Int32) dX12_closes_27 (by decide) ?_
    obtain ⟨v11, e12, h⟩ := jcl_some h
    refine j_vi (pc := 28) hC hR [.int (10 : Int32), .int (0 : Int32)] iy_X12_othersMany (q := (RX12, TX12, 40)) (ci := 12) rfl rfl (by decide) km_X12_176 dX12_closes_28 rfl (by decide) ka0 (c_X12_othersMany hL ka0 e12) (by decide) (Nat.le_of_ble_eq_true rfl) rfl ?_
    refine j_i2l (pc := 31) hC dX12_closes_31 ?_
    obtain ⟨m13, e14, h⟩ := jcl_some h
    refine j_vv (pc := 32) hC hR [.long v11.toInt64] iy_X12_enters (q := (RX12, TX12, 40)) (ci := 12) rfl rfl (by decide) km_X12_146 dX12_closes_32 rfl (by decide) ka0 (c_X12_enters hL ka0 e14) (by decide) (Nat.le_of_ble_eq_true rfl) rfl ?_
    refine j_iload_n (pc := 35) hC 1 0 dX12_closes_35 rfl rfl ?_
    obtain ⟨rfl, rfl⟩ := Prod.mk.inj (Option.some.inj h)
    exact j_iret (pc := 36) hC dX12_closes_36 rfl
theorem dX12_back_0 : decode cX12_back 0 = .ok (.aload_n 0, 1) := by decide +kernel
theorem dX12_back_1 : decode cX12_back 1 = .ok (.iconst 0, 1) := by decide +kernel
theorem dX12_back_2 : decode cX12_back 2 = .ok (.putfield 1, 3) := by decide +kernel
theorem dX12_back_5 : decode cX12_back 5 = .ok (.iload_n 1, 1) := by decide +kernel
theorem dX12_back_6 : decode cX12_back 6 = .ok (.i2l, 1) := by decide +kernel
theorem dX12_back_7 : decode cX12_back 7 = .ok (.lconst 0, 1) := by decide +kernel
theorem dX12_back_8 : decode cX12_back 8 = .ok (.aload_n 0, 1) := by decide +kernel
theorem dX12_back_9 : decode cX12_back 9 = .ok (.getfield 158, 3) := by decide +kernel
theorem dX12_back_12 : decode cX12_back 12 = .ok (.i2l, 1) := by decide +kernel
theorem dX12_back_13 : decode cX12_back 13 = .ok (.invokestatic 21, 3) := by decide +kernel
theorem dX12_back_16 : decode cX12_back 16 = .ok (.ifCond .ne 5, 3) := by decide +kernel
theorem dX12_back_19 : decode cX12_back 19 = .ok (.iconst (-1), 1) := by decide +kernel
theorem dX12_back_20 : decode cX12_back 20 = .ok (.ireturn, 1) := by decide +kernel
theorem dX12_back_21 : decode cX12_back 21 = .ok (.aload_n 0, 1) := by decide +kernel
theorem dX12_back_22 : decode cX12_back 22 = .ok (.invokevirtual 170, 3) := by decide +kernel
theorem dX12_back_25 : decode cX12_back 25 = .ok (.iconst 0, 1) := by decide +kernel
theorem dX12_back_26 : decode cX12_back 26 = .ok (.istore_n 2, 1) := by decide +kernel
theorem dX12_back_27 : decode cX12_back 27 = .ok (.aload_n 0, 1) := by decide +kernel
theorem dX12_back_28 : decode cX12_back 28 = .ok (.getfield 158, 3) := by decide +kernel
theorem dX12_back_31 : decode cX12_back 31 = .ok (.iload_n 1, 1) := by decide +kernel
theorem dX12_back_32 : decode cX12_back 32 = .ok (.if_icmp .le 14, 3) := by decide +kernel
theorem dX12_back_35 : decode cX12_back 35 = .ok (.aload_n 0, 1) := by decide +kernel
theorem dX12_back_36 : decode cX12_back 36 = .ok (.invokevirtual 173, 3) := by decide +kernel
theorem dX12_back_39 : decode cX12_back 39 = .ok (.pop, 1) := by decide +kernel
theorem dX12_back_40 : decode cX12_back 40 = .ok (.iinc 2 1, 3) := by decide +kernel
theorem dX12_back_43 : decode cX12_back 43 = .ok (.goto (-16), 3) := by decide +kernel
theorem dX12_back_46 : decode cX12_back 46 = .ok (.aload_n 0, 1) := by decide +kernel
theorem dX12_back_47 : decode cX12_back 47 = .ok (.iconst 0, 1) := by decide +kernel
theorem dX12_back_48 : decode cX12_back 48 = .ok (.putfield 11, 3) := by decide +kernel
theorem dX12_back_51 : decode cX12_back 51 = .ok (.aload_n 0, 1) := by decide +kernel
theorem dX12_back_52 : decode cX12_back 52 = .ok (.aload_n 0, 1) := by decide +kernel
theorem dX12_back_53 : decode cX12_back 53 = .ok (.bipush 10, 2) := by decide +kernel
theorem dX12_back_55 : decode cX12_back 55 = .ok (.iconst 0, 1) := by decide +kernel
theorem dX12_back_56 : decode cX12_back 56 = .ok (.invokevirtual 176, 3) := by decide +kernel
theorem dX12_back_59 : decode cX12_back 59 = .ok (.i2l, 1) := by decide +kernel
theorem dX12_back_60 : decode cX12_back 60 = .ok (.invokevirtual 146, 3) := by decide +kernel
theorem dX12_back_63 : decode cX12_back 63 = .ok (.iload_n 2, 1) := by decide +kernel
theorem dX12_back_64 : decode cX12_back 64 = .ok (.ireturn, 1) := by decide +kernel
def f_X12_back_L27 (a0 : Nat) (x1 : Int32) (u6 : Int32) (m7 : jM) : Option ((Int32 × jM) ⊕ (Int32 × jM)) :=
  (if (m7.1 a0 9) ≤ x1 then some (.inr ((u6, m7))) else jcl2 (f_X12_closesOne a0 m7) (fun v9 m10 => some (.inl ((u6 + (1 : Int32), m10)))))
def f_X12_back (a0 : Nat) (x1 : Int32) (μ : jM) : Option (Int32 × jM) :=
  jbd (jsi μ a0 0 (0 : Int32)) (fun m1 => (if (f_X12_in x1.toInt64 (0 : Int64) ((m1.1 a0 9).toInt64)) = (0 : Int32) then some (((-1 : Int32), m1)) else jcl (f_X12_begins a0 m1) (fun m4 => jcl (jloop (fun (s : Int32 × jM) => f_X12_back_L27 a0 x1 s.1 s.2) jfu (((0 : Int32), m4))) (fun w12 => jbd (jsi w12.2 a0 1 (0 : Int32)) (fun m17 => jcl (f_X12_othersMany a0 (10 : Int32) (0 : Int32) m17) (fun v19 => jcl (f_X12_enters a0 v19.toInt64 m17) (fun m21 => some ((w12.1, m21)))))))))
set_option maxHeartbeats 4000000 in
set_option maxRecDepth 100000 in
theorem c_X12_back {l : Launch} {G : jG} {L : jL} (hL : jOKL L) {a0 : Nat} {x1 : Int32} (ka0 : jK L a0 12) {μ μ' : jM} {r : Int32} (h : f_X12_back a0 x1 μ = some ((r, μ'))) : jCt l G L 7 yX12_back cX12_back 3 (some .int) [.ref (L.2.2 a0), .int x1] μ (some (.int r)) μ' := by
  refine jCt_of (by decide) (Nat.le_of_ble_eq_true rfl) (fun X hC hX hR => ?_)
  subst hX
  have hC : jC X G cX12_back 3 RX12 (some .int) := hC
  unfold f_X12_back at h
  show jJ X G 3 L 0 0 (jQM X G L (some (.int r)) μ' 0 0) 0 [(0, .ref (L.2.2 a0)), (1, .int x1)] [] μ
  refine j_aload_n (pc := 0) hC 0 0 dX12_back_0 rfl rfl ?_
  refine j_iconst (pc := 1) hC (0 : Int32) dX12_back_1 (by decide) ?_
  obtain ⟨m1, e2, h⟩ := jbd_ex h
  refine jpi_12 (pc := 2) hC 0 (by decide) rfl kf_X12_1 dX12_back_2 rfl (by decide) ka0 e2 ?_
  refine j_iload_n (pc := 5) hC 1 1 dX12_back_5 rfl rfl ?_
  refine j_i2l (pc := 6) hC dX12_back_6 ?_
  refine j_lconst (pc := 7) hC (0 : Int64) dX12_back_7 (by decide) ?_
  refine j_aload_n (pc := 8) hC 0 0 dX12_back_8 rfl rfl ?_
  refine jgi_12 (pc := 9) hC 9 (by decide) rfl kf_X12_158 dX12_back_9 ka0 ?_
  refine j_i2l (pc := 12) hC dX12_back_12 ?_
  refine j_si (pc := 13) hC hR [.long x1.toInt64, .long (0 : Int64), .long ((m1.1 a0 9).toInt64)] iy_X12_in km_X12_21 dX12_back_13 rfl (by decide) (c_X12_in hL  rfl) (by decide) (Nat.le_of_ble_eq_true rfl) rfl ?_
  refine j_if_ne (pc := 16) hC 21 dX12_back_16 (by decide) (fun c3 => ?_) (fun c3 => ?_)
  · rw [if_neg c3] at h
    refine j_aload_n (pc := 21) hC 0 0 dX12_back_21 rfl rfl ?_
    obtain ⟨m4, e5, h⟩ := jcl_some h
    refine j_vv (pc := 22) hC hR [] iy_X12_begins (q := (RX12, TX12, 40)) (ci := 12) rfl rfl (by decide) km_X12_170 dX12_back_22 rfl (by decide) ka0 (c_X12_begins hL ka0 e5) (by decide) (Nat.le_of_ble_eq_true rfl) rfl ?_
    refine j_iconst (pc := 25) hC (0 : Int32) dX12_back_25 (by decide) ?_
    refine j_istore_n (pc := 26) hC 2 [(2, .int (0 : Int32)), (0, .ref (L.2.2 a0)), (1, .int x1)] dX12_back_26 rfl (by decide) rfl rfl ?_
    obtain ⟨w12, hw13, h⟩ := jcl_some h
    refine j_lv [1, 2, 0] rfl ?_
    refine j_loop (step := (fun (s : Int32 × jM) => f_X12_back_L27 a0 x1 s.1 s.2)) (P := (fun (s : Int32 × jM) => jJ X G 3 L 0 0 (jQM X G L (some (.int r)) μ' 0 0) 27 [(0, .ref (L.2.2 a0)), (1, .int x1), (2, .int s.1)] [] s.2)) (R := (fun (e : Int32 × jM) => jJ X G 3 L 0 0 (jQM X G L (some (.int r)) μ' 0 0) 46 [(0, .ref (L.2.2 a0)), (2, .int e.1)] [] e.2)) ?_ jfu (((0 : Int32), m4)) w12 hw13 ?_
    · intro s14 o h hk
      obtain ⟨u6, m7⟩ := s14
      change f_X12_back_L27 a0 x1 u6 m7 = some o at h
      unfold f_X12_back_L27 at h
      show jJ X G 3 L 0 0 (jQM X G L (some (.int r)) μ' 0 0) 27 [(0, .ref (L.2.2 a0)), (1, .int x1), (2, .int u6)] [] m7
      refine j_aload_n (pc := 27) hC 0 0 dX12_back_27 rfl rfl ?_
      refine jgi_12 (pc := 28) hC 9 (by decide) rfl kf_X12_158 dX12_back_28 ka0 ?_
      refine j_iload_n (pc := 31) hC 1 1 dX12_back_31 rfl rfl ?_
      refine j_icmp_le (pc := 32) hC 46 dX12_back_32 (by decide) (fun c8 => ?_) (fun c8 => ?_)
      · rw [if_pos c8] at h
        obtain rfl := Option.some.inj h
        have hk : jJ X G 3 L 0 0 (jQM X G L (some (.int r)) μ' 0 0) 46 [(0, .ref (L.2.2 a0)), (2, .int u6)] [] m7 := hk
        exact j_lv [0, 2] rfl hk
      · rw [if_neg c8] at h
        refine j_aload_n (pc := 35) hC 0 0 dX12_back_35 rfl rfl ?_
        obtain ⟨v9, m10, e11, h⟩ := jcl2_some h
        refine j_vi (pc := 36) hC hR [] iy_X12_closesOne (q := (RX12, TX12, 40)) (ci := 12) rfl rfl (by decide) km_X12_173 dX12_back_36 rfl (by decide) ka0 (c_X12_closesOne hL ka0 e11) (by decide) (Nat.le_of_ble_eq_true rfl) rfl ?_
        refine j_pop (pc := 39) hC dX12_back_39 rfl ?_
        refine j_iinc (pc := 40) hC 2 (u6 + (1 : Int32)) [(2, .int (u6 + (1 : Int32))), (0, .ref (L.2.2 a0)), (1, .int x1)] dX12_back_40 rfl rfl (by decide) rfl ?_
        refine j_goto (pc := 43) hC 27 dX12_back_43 (by decide) ?_
        obtain rfl := Option.some.inj h
        have hk : jJ X G 3 L 0 0 (jQM X G L (some (.int r)) μ' 0 0) 27 [(0, .ref (L.2.2 a0)), (1, .int x1), (2, .int (u6 + (1 : Int32)))] [] m10 := hk
        exact j_lv [1, 2, 0] rfl hk
    · obtain ⟨z15, m16⟩ := w12
      try dsimp only at h
      show jJ X G 3 L 0 0 (jQM X G L (some (.int r)) μ' 0 0) 46 [(0, .ref (L.2.2 a0)), (2, .int z15)] [] m16
      refine j_aload_n (pc := 46) hC 0 0 dX12_back_46 rfl rfl ?_
      refine j_iconst (pc := 47) hC (0 : Int32) dX12_back_47 (by decide) ?_
      obtain ⟨m17, e18, h⟩ := jbd_ex h
      refine jpi_12 (pc := 48) hC 1 (by decide) rfl kf_X12_11 dX12_back_48 rfl (by decide) ka0 e18 ?_
      refine j_aload_n (pc := 51) hC 0 0 dX12_back_51 rfl rfl ?_
      refine j_aload_n (pc := 52) hC 0 0 dX12_back_52 rfl rfl ?_
      refine j_bipush (pc := 53) hC (10 : Int32) dX12_back_53 (by decide) ?_
      refine j_iconst (pc := 55) hC (0 : Int32) dX12_back_55 (by decide) ?_
      obtain ⟨v19, e20, h⟩ := jcl_some h
      refine j_vi (pc := 56) hC hR [.int (10 : Int32), .int (0 : Int32)] iy_X12_othersMany (q := (RX12, TX12, 40)) (ci := 12) rfl rfl (by decide) km_X12_176 dX12_back_56 rfl (by decide) ka0 (c_X12_othersMany hL ka0 e20) (by decide) (Nat.le_of_ble_eq_true rfl) rfl ?_
      refine j_i2l (pc := 59) hC dX12_back_59 ?_
      obtain ⟨m21, e22, h⟩ := jcl_some h
      refine j_vv (pc := 60) hC hR [.long v19.toInt64] iy_X12_enters (q := (RX12, TX12, 40)) (ci := 12) rfl rfl (by decide) km_X12_146 dX12_back_60 rfl (by decide) ka0 (c_X12_enters hL ka0 e22) (by decide) (Nat.le_of_ble_eq_true rfl) rfl ?_
      refine j_iload_n (pc := 63) hC 2 1 dX12_back_63 rfl rfl ?_
      obtain ⟨rfl, rfl⟩ := Prod.mk.inj (Option.some.inj h)
      exact j_iret (pc := 64) hC dX12_back_64 rfl
  · rw [if_pos c3] at h
    refine j_iconst (pc := 19) hC (-1 : Int32) dX12_back_19 (by decide) ?_
    obtain ⟨rfl, rfl⟩ := Prod.mk.inj (Option.some.inj h)
    exact j_iret (pc := 20) hC dX12_back_20 rfl
theorem dX12_commits_0 : decode cX12_commits 0 = .ok (.aload_n 0, 1) := by decide +kernel
theorem dX12_commits_1 : decode cX12_commits 1 = .ok (.iconst 0, 1) := by decide +kernel
theorem dX12_commits_2 : decode cX12_commits 2 = .ok (.putfield 1, 3) := by decide +kernel
theorem dX12_commits_5 : decode cX12_commits 5 = .ok (.aload_n 0, 1) := by decide +kernel
theorem dX12_commits_6 : decode cX12_commits 6 = .ok (.invokevirtual 179, 3) := by decide +kernel
theorem dX12_commits_9 : decode cX12_commits 9 = .ok (.istore_n 1, 1) := by decide +kernel
theorem dX12_commits_10 : decode cX12_commits 10 = .ok (.iload_n 1, 1) := by decide +kernel
theorem dX12_commits_11 : decode cX12_commits 11 = .ok (.ifCond .lt 36, 3) := by decide +kernel
theorem dX12_commits_14 : decode cX12_commits 14 = .ok (.aload_n 0, 1) := by decide +kernel
theorem dX12_commits_15 : decode cX12_commits 15 = .ok (.iconst 0, 1) := by decide +kernel
theorem dX12_commits_16 : decode cX12_commits 16 = .ok (.putfield 11, 3) := by decide +kernel
theorem dX12_commits_19 : decode cX12_commits 19 = .ok (.aload_n 0, 1) := by decide +kernel
theorem dX12_commits_20 : decode cX12_commits 20 = .ok (.iload_n 1, 1) := by decide +kernel
theorem dX12_commits_21 : decode cX12_commits 21 = .ok (.ifCond .ne 7, 3) := by decide +kernel
theorem dX12_commits_24 : decode cX12_commits 24 = .ok (.lconst 0, 1) := by decide +kernel
theorem dX12_commits_25 : decode cX12_commits 25 = .ok (.goto 10, 3) := by decide +kernel
theorem dX12_commits_28 : decode cX12_commits 28 = .ok (.aload_n 0, 1) := by decide +kernel
theorem dX12_commits_29 : decode cX12_commits 29 = .ok (.getfield 66, 3) := by decide +kernel
theorem dX12_commits_32 : decode cX12_commits 32 = .ok (.iload_n 1, 1) := by decide +kernel
theorem dX12_commits_33 : decode cX12_commits 33 = .ok (.iaload, 1) := by decide +kernel
theorem dX12_commits_34 : decode cX12_commits 34 = .ok (.i2l, 1) := by decide +kernel
theorem dX12_commits_35 : decode cX12_commits 35 = .ok (.invokevirtual 146, 3) := by decide +kernel
theorem dX12_commits_38 : decode cX12_commits 38 = .ok (.aload_n 0, 1) := by decide +kernel
theorem dX12_commits_39 : decode cX12_commits 39 = .ok (.aload_n 0, 1) := by decide +kernel
theorem dX12_commits_40 : decode cX12_commits 40 = .ok (.getfield 164, 3) := by decide +kernel
theorem dX12_commits_43 : decode cX12_commits 43 = .ok (.i2l, 1) := by decide +kernel
theorem dX12_commits_44 : decode cX12_commits 44 = .ok (.invokevirtual 146, 3) := by decide +kernel
theorem dX12_commits_47 : decode cX12_commits 47 = .ok (.iload_n 1, 1) := by decide +kernel
theorem dX12_commits_48 : decode cX12_commits 48 = .ok (.ireturn, 1) := by decide +kernel
def f_X12_commits (a0 : Nat) (μ : jM) : Option (Int32 × jM) :=
  jbd (jsi μ a0 0 (0 : Int32)) (fun m1 => jcl2 (f_X12_commitsOne a0 m1) (fun v3 m4 => (if v3 < (0 : Int32) then some ((v3, m4)) else jbd (jsi m4 a0 1 (0 : Int32)) (fun m7 => jbd (fun (t9 : Int64) => jcl (f_X12_enters a0 t9 m7) (fun m13 => jcl (f_X12_enters a0 ((m13.1 a0 15).toInt64) m13) (fun m15 => some ((v3, m15))))) (fun k10 => (if v3 = (0 : Int32) then k10 (0 : Int64) else jrd (m7.1 (a0 + 5)) v3 10 (fun v19 => k10 v19.toInt64)))))))
set_option maxHeartbeats 4000000 in
set_option maxRecDepth 100000 in
theorem c_X12_commits {l : Launch} {G : jG} {L : jL} (hL : jOKL L) {a0 : Nat} (ka0 : jK L a0 12) {μ μ' : jM} {r : Int32} (h : f_X12_commits a0 μ = some ((r, μ'))) : jCt l G L 6 yX12_commits cX12_commits 2 (some .int) [.ref (L.2.2 a0)] μ (some (.int r)) μ' := by
  refine jCt_of (by decide) (Nat.le_of_ble_eq_true rfl) (fun X hC hX hR => ?_)
  subst hX
  have hC : jC X G cX12_commits 2 RX12 (some .int) := hC
  unfold f_X12_commits at h
  show jJ X G 2 L 0 0 (jQM X G L (some (.int r)) μ' 0 0) 0 [(0, .ref (L.2.2 a0))] [] μ
  refine j_aload_n (pc := 0) hC 0 0 dX12_commits_0 rfl rfl ?_
  refine j_iconst (pc := 1) hC (0 : Int32) dX12_commits_1 (by decide) ?_
  obtain ⟨m1, e2, h⟩ := jbd_ex h
  refine jpi_12 (pc := 2) hC 0 (by decide) rfl kf_X12_1 dX12_commits_2 rfl (by decide) ka0 e2 ?_
  refine j_aload_n (pc := 5) hC 0 0 dX12_commits_5 rfl rfl ?_
  obtain ⟨v3, m4, e5, h⟩ := jcl2_some h
  refine j_vi (pc := 6) hC hR [] iy_X12_commitsOne (q := (RX12, TX12, 40)) (ci := 12) rfl rfl (by decide) km_X12_179 dX12_commits_6 rfl (by decide) ka0 (c_X12_commitsOne hL ka0 e5) (by decide) (Nat.le_of_ble_eq_true rfl) rfl ?_
  refine j_istore_n (pc := 9) hC 1 [(1, .int v3), (0, .ref (L.2.2 a0))] dX12_commits_9 rfl (by decide) rfl rfl ?_
  refine j_iload_n (pc := 10) hC 1 0 dX12_commits_10 rfl rfl ?_
  refine j_if_lt (pc := 11) hC 47 dX12_commits_11 (by decide) (fun c6 => ?_) (fun c6 => ?_)
  · rw [if_pos c6] at h
    refine j_iload_n (pc := 47) hC 1 0 dX12_commits_47 rfl rfl ?_
    obtain ⟨rfl, rfl⟩ := Prod.mk.inj (Option.some.inj h)
    exact j_iret (pc := 48) hC dX12_commits_48 rfl
  · rw [if_neg c6] at h
    refine j_aload_n (pc := 14) hC 0 1 dX12_commits_14 rfl rfl ?_
    refine j_iconst (pc := 15) hC (0 : Int32) dX12_commits_15 (by decide) ?_
    obtain ⟨m7, e8, h⟩ := jbd_ex h
    refine jpi_12 (pc := 16) hC 1 (by decide) rfl kf_X12_11 dX12_commits_16 rfl (by decide) ka0 e8 ?_
    refine j_aload_n (pc := 19) hC 0 1 dX12_commits_19 rfl rfl ?_
    refine j_iload_n (pc := 20) hC 1 0 dX12_commits_20 rfl rfl ?_
    obtain ⟨k10, e12, h⟩ := jbd_ex h
    have q11 : ∀ (t9 : Int64), k10 t9 = some ((r, μ')) → jJ X G 2 L 0 0 (jQM X G L (some (.int r)) μ' 0 0) 35 [(0, .ref (L.2.2 a0)), (1, .int v3)] [.long t9, .ref (L.2.2 a0)] m7 := by
      intro t9 h
      rw [e12] at h
      try dsimp only at h
      obtain ⟨m13, e14, h⟩ := jcl_some h
      refine j_vv (pc := 35) hC hR [.long t9] iy_X12_enters (q := (RX12, TX12, 40)) (ci := 12) rfl rfl (by decide) km_X12_146 dX12_commits_35 rfl (by decide) ka0 (c_X12_enters hL ka0 e14) (by decide) (Nat.le_of_ble_eq_true rfl) rfl ?_
      refine j_aload_n (pc := 38) hC 0 0 dX12_commits_38 rfl rfl ?_
      refine j_aload_n (pc := 39) hC 0 0 dX12_commits_39 rfl rfl ?_
      refine jgi_12 (pc := 40) hC 15 (by decide) rfl kf_X12_164 dX12_commits_40 ka0 ?_
      refine j_i2l (pc := 43) hC dX12_commits_43 ?_
      obtain ⟨m15, e16, h⟩ := jcl_some h
      refine j_vv (pc := 44) hC hR [.long ((m13.1 a0 15).toInt64)] iy_X12_enters (q := (RX12, TX12, 40)) (ci := 12) rfl rfl (by decide) km_X12_146 dX12_commits_44 rfl (by decide) ka0 (c_X12_enters hL ka0 e16) (by decide) (Nat.le_of_ble_eq_true rfl) rfl ?_
      refine j_iload_n (pc := 47) hC 1 1 dX12_commits_47 rfl rfl ?_
      obtain ⟨rfl, rfl⟩ := Prod.mk.inj (Option.some.inj h)
      exact j_iret (pc := 48) hC dX12_commits_48 rfl
    refine j_if_ne (pc := 21) hC 28 dX12_commits_21 (by decide) (fun c17 => ?_) (fun c17 => ?_)
    · rw [if_neg c17] at h
      refine j_aload_n (pc := 28) hC 0 1 dX12_commits_28 rfl rfl ?_
      refine jgr_12 (pc := 29) hC 11 (by decide) rfl kf_X12_66 dX12_commits_29 ka0 (ly_12_11 hL ka0).1 ?_
      refine j_iload_n (pc := 32) hC 1 0 dX12_commits_32 rfl rfl ?_
      obtain ⟨i18, v19, e20, h⟩ := jrd_some h
      refine j_iald (pc := 33) hC dX12_commits_33 (ly_12_11 hL ka0).2.1 (ly_12_11 hL ka0).2.2 i18 e20 ?_
      refine j_i2l (pc := 34) hC dX12_commits_34 ?_
      exact j_lv [1, 0] rfl (q11 _ h)
    · rw [if_pos c17] at h
      refine j_lconst (pc := 24) hC (0 : Int64) dX12_commits_24 (by decide) ?_
      refine j_goto (pc := 25) hC 35 dX12_commits_25 (by decide) ?_
      exact j_lv [1, 0] rfl (q11 _ h)
theorem dX12_cell_0 : decode cX12_cell 0 = .ok (.aload_n 0, 1) := by decide +kernel
theorem dX12_cell_1 : decode cX12_cell 1 = .ok (.iload_n 1, 1) := by decide +kernel
theorem dX12_cell_2 : decode cX12_cell 2 = .ok (.i2l, 1) := by decide +kernel
theorem dX12_cell_3 : decode cX12_cell 3 = .ok (.lconst 0, 1) := by decide +kernel
theorem dX12_cell_4 : decode cX12_cell 4 = .ok (.ldc2_w 125, 3) := by decide +kernel
theorem dX12_cell_7 : decode cX12_cell 7 = .ok (.invokestatic 21, 3) := by decide +kernel
theorem dX12_cell_10 : decode cX12_cell 10 = .ok (.ifCond .ne 7, 3) := by decide +kernel
theorem dX12_cell_13 : decode cX12_cell 13 = .ok (.iconst 1, 1) := by decide +kernel
theorem dX12_cell_14 : decode cX12_cell 14 = .ok (.goto 4, 3) := by decide +kernel
theorem dX12_cell_17 : decode cX12_cell 17 = .ok (.iconst 0, 1) := by decide +kernel
theorem dX12_cell_18 : decode cX12_cell 18 = .ok (.invokestatic 34, 3) := by decide +kernel
theorem dX12_cell_21 : decode cX12_cell 21 = .ok (.putfield 1, 3) := by decide +kernel
theorem dX12_cell_24 : decode cX12_cell 24 = .ok (.aload_n 0, 1) := by decide +kernel
theorem dX12_cell_25 : decode cX12_cell 25 = .ok (.getfield 1, 3) := by decide +kernel
theorem dX12_cell_28 : decode cX12_cell 28 = .ok (.iconst 1, 1) := by decide +kernel
theorem dX12_cell_29 : decode cX12_cell 29 = .ok (.if_icmp .ne 7, 3) := by decide +kernel
theorem dX12_cell_32 : decode cX12_cell 32 = .ok (.iconst 0, 1) := by decide +kernel
theorem dX12_cell_33 : decode cX12_cell 33 = .ok (.goto 9, 3) := by decide +kernel
theorem dX12_cell_36 : decode cX12_cell 36 = .ok (.aload_n 0, 1) := by decide +kernel
theorem dX12_cell_37 : decode cX12_cell 37 = .ok (.getfield 60, 3) := by decide +kernel
theorem dX12_cell_40 : decode cX12_cell 40 = .ok (.iload_n 1, 1) := by decide +kernel
theorem dX12_cell_41 : decode cX12_cell 41 = .ok (.iaload, 1) := by decide +kernel
theorem dX12_cell_42 : decode cX12_cell 42 = .ok (.ireturn, 1) := by decide +kernel
def f_X12_cell (a0 : Nat) (x1 : Int32) (μ : jM) : Option (Int32 × jM) :=
  jbd (jsi μ a0 0 (f_X12_flag ((if (f_X12_in x1.toInt64 (0 : Int64) (5 : Int64)) = (0 : Int32) then (1 : Int32) else (0 : Int32))))) (fun m2 => (if (m2.1 a0 0) = (1 : Int32) then some (((0 : Int32), m2)) else jrd (m2.1 (a0 + 3)) x1 2074 (fun v6 => some ((v6, m2)))))
set_option maxHeartbeats 4000000 in
set_option maxRecDepth 100000 in
theorem c_X12_cell {l : Launch} {G : jG} {L : jL} (hL : jOKL L) {a0 : Nat} {x1 : Int32} (ka0 : jK L a0 12) {μ μ' : jM} {r : Int32} (h : f_X12_cell a0 x1 μ = some ((r, μ'))) : jCt l G L 4 yX12_cell cX12_cell 2 (some .int) [.ref (L.2.2 a0), .int x1] μ (some (.int r)) μ' := by
  refine jCt_of (by decide) (Nat.le_of_ble_eq_true rfl) (fun X hC hX hR => ?_)
  subst hX
  have hC : jC X G cX12_cell 2 RX12 (some .int) := hC
  unfold f_X12_cell at h
  show jJ X G 2 L 0 0 (jQM X G L (some (.int r)) μ' 0 0) 0 [(0, .ref (L.2.2 a0)), (1, .int x1)] [] μ
  refine j_aload_n (pc := 0) hC 0 0 dX12_cell_0 rfl rfl ?_
  refine j_iload_n (pc := 1) hC 1 1 dX12_cell_1 rfl rfl ?_
  refine j_i2l (pc := 2) hC dX12_cell_2 ?_
  refine j_lconst (pc := 3) hC (0 : Int64) dX12_cell_3 (by decide) ?_
  refine j_ldc2 (pc := 4) hC dX12_cell_4 kl_X12_125 ?_
  refine j_si (pc := 7) hC hR [.long x1.toInt64, .long (0 : Int64), .long (5 : Int64)] iy_X12_in km_X12_21 dX12_cell_7 rfl (by decide) (c_X12_in hL  rfl) (by decide) (Nat.le_of_ble_eq_true rfl) rfl ?_
  refine jmg (B := jJ X G 2 L 0 0 (jQM X G L (some (.int r)) μ' 0 0) 18 [(0, .ref (L.2.2 a0)), (1, .int x1)] [.int ((if (f_X12_in x1.toInt64 (0 : Int64) (5 : Int64)) = (0 : Int32) then (1 : Int32) else (0 : Int32))), .ref (L.2.2 a0)] μ) (fun hj => ?_) ?_
  · refine j_if_ne (pc := 10) hC 17 dX12_cell_10 (by decide) (fun c1 => ?_) (fun c1 => ?_)
    · rw [if_neg c1] at hj
      refine j_iconst (pc := 17) hC (0 : Int32) dX12_cell_17 (by decide) ?_
      exact hj
    · rw [if_pos c1] at hj
      refine j_iconst (pc := 13) hC (1 : Int32) dX12_cell_13 (by decide) ?_
      refine j_goto (pc := 14) hC 18 dX12_cell_14 (by decide) ?_
      exact hj
  refine j_si (pc := 18) hC hR [.int ((if (f_X12_in x1.toInt64 (0 : Int64) (5 : Int64)) = (0 : Int32) then (1 : Int32) else (0 : Int32)))] iy_X12_flag km_X12_34 dX12_cell_18 rfl (by decide) (c_X12_flag hL  rfl) (by decide) (Nat.le_of_ble_eq_true rfl) rfl ?_
  obtain ⟨m2, e3, h⟩ := jbd_ex h
  refine jpi_12 (pc := 21) hC 0 (by decide) rfl kf_X12_1 dX12_cell_21 rfl (by decide) ka0 e3 ?_
  refine j_aload_n (pc := 24) hC 0 0 dX12_cell_24 rfl rfl ?_
  refine jgi_12 (pc := 25) hC 0 (by decide) rfl kf_X12_1 dX12_cell_25 ka0 ?_
  refine j_iconst (pc := 28) hC (1 : Int32) dX12_cell_28 (by decide) ?_
  refine j_icmp_ne (pc := 29) hC 36 dX12_cell_29 (by decide) (fun c4 => ?_) (fun c4 => ?_)
  · rw [if_neg c4] at h
    refine j_aload_n (pc := 36) hC 0 0 dX12_cell_36 rfl rfl ?_
    refine jgr_12 (pc := 37) hC 8 (by decide) rfl kf_X12_60 dX12_cell_37 ka0 (ly_12_8 hL ka0).1 ?_
    refine j_iload_n (pc := 40) hC 1 1 dX12_cell_40 rfl rfl ?_
    obtain ⟨i5, v6, e7, h⟩ := jrd_some h
    refine j_iald (pc := 41) hC dX12_cell_41 (ly_12_8 hL ka0).2.1 (ly_12_8 hL ka0).2.2 i5 e7 ?_
    obtain ⟨rfl, rfl⟩ := Prod.mk.inj (Option.some.inj h)
    exact j_iret (pc := 42) hC dX12_cell_42 rfl
  · rw [if_pos c4] at h
    refine j_iconst (pc := 32) hC (0 : Int32) dX12_cell_32 (by decide) ?_
    refine j_goto (pc := 33) hC 42 dX12_cell_33 (by decide) ?_
    obtain ⟨rfl, rfl⟩ := Prod.mk.inj (Option.some.inj h)
    exact j_iret (pc := 42) hC dX12_cell_42 rfl
theorem dX12_values_0 : decode cX12_values 0 = .ok (.aload_n 0, 1) := by decide +kernel
theorem dX12_values_1 : decode cX12_values 1 = .ok (.iload_n 1, 1) := by decide +kernel
theorem dX12_values_2 : decode cX12_values 2 = .ok (.i2l, 1) := by decide +kernel
theorem dX12_values_3 : decode cX12_values 3 = .ok (.lconst 0, 1) := by decide +kernel
theorem dX12_values_4 : decode cX12_values 4 = .ok (.ldc2_w 182, 3) := by decide +kernel
theorem dX12_values_7 : decode cX12_values 7 = .ok (.invokestatic 21, 3) := by decide +kernel
theorem dX12_values_10 : decode cX12_values 10 = .ok (.ifCond .ne 7, 3) := by decide +kernel
theorem dX12_values_13 : decode cX12_values 13 = .ok (.iconst 1, 1) := by decide +kernel
theorem dX12_values_14 : decode cX12_values 14 = .ok (.goto 4, 3) := by decide +kernel
theorem dX12_values_17 : decode cX12_values 17 = .ok (.iconst 0, 1) := by decide +kernel
theorem dX12_values_18 : decode cX12_values 18 = .ok (.invokestatic 34, 3) := by decide +kernel
theorem dX12_values_21 : decode cX12_values 21 = .ok (.putfield 1, 3) := by decide +kernel
theorem dX12_values_24 : decode cX12_values 24 = .ok (.aload_n 0, 1) := by decide +kernel
theorem dX12_values_25 : decode cX12_values 25 = .ok (.getfield 1, 3) := by decide +kernel
theorem dX12_values_28 : decode cX12_values 28 = .ok (.iconst 1, 1) := by decide +kernel
theorem dX12_values_29 : decode cX12_values 29 = .ok (.if_icmp .ne 7, 3) := by decide +kernel
theorem dX12_values_32 : decode cX12_values 32 = .ok (.iconst 0, 1) := by decide +kernel
theorem dX12_values_33 : decode cX12_values 33 = .ok (.goto 12, 3) := by decide +kernel
theorem dX12_values_36 : decode cX12_values 36 = .ok (.aload_n 0, 1) := by decide +kernel
theorem dX12_values_37 : decode cX12_values 37 = .ok (.getfield 60, 3) := by decide +kernel
theorem dX12_values_40 : decode cX12_values 40 = .ok (.bipush 6, 2) := by decide +kernel
theorem dX12_values_42 : decode cX12_values 42 = .ok (.iload_n 1, 1) := by decide +kernel
theorem dX12_values_43 : decode cX12_values 43 = .ok (.iadd, 1) := by decide +kernel
theorem dX12_values_44 : decode cX12_values 44 = .ok (.iaload, 1) := by decide +kernel
theorem dX12_values_45 : decode cX12_values 45 = .ok (.ireturn, 1) := by decide +kernel
def f_X12_values (a0 : Nat) (x1 : Int32) (μ : jM) : Option (Int32 × jM) :=
  jbd (jsi μ a0 0 (f_X12_flag ((if (f_X12_in x1.toInt64 (0 : Int64) (4 : Int64)) = (0 : Int32) then (1 : Int32) else (0 : Int32))))) (fun m2 => (if (m2.1 a0 0) = (1 : Int32) then some (((0 : Int32), m2)) else jrd (m2.1 (a0 + 3)) ((6 : Int32) + x1) 2074 (fun v6 => some ((v6, m2)))))
set_option maxHeartbeats 4000000 in
set_option maxRecDepth 100000 in
theorem c_X12_values {l : Launch} {G : jG} {L : jL} (hL : jOKL L) {a0 : Nat} {x1 : Int32} (ka0 : jK L a0 12) {μ μ' : jM} {r : Int32} (h : f_X12_values a0 x1 μ = some ((r, μ'))) : jCt l G L 4 yX12_values cX12_values 2 (some .int) [.ref (L.2.2 a0), .int x1] μ (some (.int r)) μ' := by
  refine jCt_of (by decide) (Nat.le_of_ble_eq_true rfl) (fun X hC hX hR => ?_)
  subst hX
  have hC : jC X G cX12_values 2 RX12 (some .int) := hC
  unfold f_X12_values at h
  show jJ X G 2 L 0 0 (jQM X G L (some (.int r)) μ' 0 0) 0 [(0, .ref (L.2.2 a0)), (1, .int x1)] [] μ
  refine j_aload_n (pc := 0) hC 0 0 dX12_values_0 rfl rfl ?_
  refine j_iload_n (pc := 1) hC 1 1 dX12_values_1 rfl rfl ?_
  refine j_i2l (pc := 2) hC dX12_values_2 ?_
  refine j_lconst (pc := 3) hC (0 : Int64) dX12_values_3 (by decide) ?_
  refine j_ldc2 (pc := 4) hC dX12_values_4 kl_X12_182 ?_
  refine j_si (pc := 7) hC hR [.long x1.toInt64, .long (0 : Int64), .long (4 : Int64)] iy_X12_in km_X12_21 dX12_values_7 rfl (by decide) (c_X12_in hL  rfl) (by decide) (Nat.le_of_ble_eq_true rfl) rfl ?_
  refine jmg (B := jJ X G 2 L 0 0 (jQM X G L (some (.int r)) μ' 0 0) 18 [(0, .ref (L.2.2 a0)), (1, .int x1)] [.int ((if (f_X12_in x1.toInt64 (0 : Int64) (4 : Int64)) = (0 : Int32) then (1 : Int32) else (0 : Int32))), .ref (L.2.2 a0)] μ) (fun hj => ?_) ?_
  · refine j_if_ne (pc := 10) hC 17 dX12_values_10 (by decide) (fun c1 => ?_) (fun c1 => ?_)
    · rw [if_neg c1] at hj
      refine j_iconst (pc := 17) hC (0 : Int32) dX12_values_17 (by decide) ?_
      exact hj
    · rw [if_pos c1] at hj
      refine j_iconst (pc := 13) hC (1 : Int32) dX12_values_13 (by decide) ?_
      refine j_goto (pc := 14) hC 18 dX12_values_14 (by decide) ?_
      exact hj
  refine j_si (pc := 18) hC hR [.int ((if (f_X12_in x1.toInt64 (0 : Int64) (4 : Int64)) = (0 : Int32) then (1 : Int32) else (0 : Int32)))] iy_X12_flag km_X12_34 dX12_values_18 rfl (by decide) (c_X12_flag hL  rfl) (by decide) (Nat.le_of_ble_eq_true rfl) rfl ?_
  obtain ⟨m2, e3, h⟩ := jbd_ex h
  refine jpi_12 (pc := 21) hC 0 (by decide) rfl kf_X12_1 dX12_values_21 rfl (by decide) ka0 e3 ?_
  refine j_aload_n (pc := 24) hC 0 0 dX12_values_24 rfl rfl ?_
  refine jgi_12 (pc := 25) hC 0 (by decide) rfl kf_X12_1 dX12_values_25 ka0 ?_
  refine j_iconst (pc := 28) hC (1 : Int32) dX12_values_28 (by decide) ?_
  refine j_icmp_ne (pc := 29) hC 36 dX12_values_29 (by decide) (fun c4 => ?_) (fun c4 => ?_)
  · rw [if_neg c4] at h
    refine j_aload_n (pc := 36) hC 0 0 dX12_values_36 rfl rfl ?_
    refine jgr_12 (pc := 37) hC 8 (by decide) rfl kf_X12_60 dX12_values_37 ka0 (ly_12_8 hL ka0).1 ?_
    refine j_bipush (pc := 40) hC (6 : Int32) dX12_values_40 (by decide) ?_
    refine j_iload_n (pc := 42) hC 1 1 dX12_values_42 rfl rfl ?_
    refine j_iadd (pc := 43) hC dX12_values_43 ?_
    obtain ⟨i5, v6, e7, h⟩ := jrd_some h
    refine j_iald (pc := 44) hC dX12_values_44 (ly_12_8 hL ka0).2.1 (ly_12_8 hL ka0).2.2 i5 e7 ?_
    obtain ⟨rfl, rfl⟩ := Prod.mk.inj (Option.some.inj h)
    exact j_iret (pc := 45) hC dX12_values_45 rfl
  · rw [if_pos c4] at h
    refine j_iconst (pc := 32) hC (0 : Int32) dX12_values_32 (by decide) ?_
    refine j_goto (pc := 33) hC 45 dX12_values_33 (by decide) ?_
    obtain ⟨rfl, rfl⟩ := Prod.mk.inj (Option.some.inj h)
    exact j_iret (pc := 45) hC dX12_values_45 rfl
theorem dX12_pair_0 : decode cX12_pair 0 = .ok (.aload_n 0, 1) := by decide +kernel
theorem dX12_pair_1 : decode cX12_pair 1 = .ok (.iload_n 1, 1) := by decide +kernel
theorem dX12_pair_2 : decode cX12_pair 2 = .ok (.i2l, 1) := by decide +kernel
theorem dX12_pair_3 : decode cX12_pair 3 = .ok (.lconst 0, 1) := by decide +kernel
theorem dX12_pair_4 : decode cX12_pair 4 = .ok (.aload_n 0, 1) := by decide +kernel
theorem dX12_pair_5 : decode cX12_pair 5 = .ok (.getfield 60, 3) := by decide +kernel
theorem dX12_pair_8 : decode cX12_pair 8 = .ok (.bipush 11, 2) := by decide +kernel
theorem dX12_pair_10 : decode cX12_pair 10 = .ok (.iaload, 1) := by decide +kernel
theorem dX12_pair_11 : decode cX12_pair 11 = .ok (.iconst 1, 1) := by decide +kernel
theorem dX12_pair_12 : decode cX12_pair 12 = .ok (.isub, 1) := by decide +kernel
theorem dX12_pair_13 : decode cX12_pair 13 = .ok (.i2l, 1) := by decide +kernel
theorem dX12_pair_14 : decode cX12_pair 14 = .ok (.invokestatic 21, 3) := by decide +kernel
theorem dX12_pair_17 : decode cX12_pair 17 = .ok (.ifCond .eq 13, 3) := by decide +kernel
theorem dX12_pair_20 : decode cX12_pair 20 = .ok (.iload_n 2, 1) := by decide +kernel
theorem dX12_pair_21 : decode cX12_pair 21 = .ok (.i2l, 1) := by decide +kernel
theorem dX12_pair_22 : decode cX12_pair 22 = .ok (.lconst 0, 1) := by decide +kernel
theorem dX12_pair_23 : decode cX12_pair 23 = .ok (.lconst 1, 1) := by decide +kernel
theorem dX12_pair_24 : decode cX12_pair 24 = .ok (.invokestatic 21, 3) := by decide +kernel
theorem dX12_pair_27 : decode cX12_pair 27 = .ok (.ifCond .ne 7, 3) := by decide +kernel
theorem dX12_pair_30 : decode cX12_pair 30 = .ok (.iconst 1, 1) := by decide +kernel
theorem dX12_pair_31 : decode cX12_pair 31 = .ok (.goto 4, 3) := by decide +kernel
theorem dX12_pair_34 : decode cX12_pair 34 = .ok (.iconst 0, 1) := by decide +kernel
theorem dX12_pair_35 : decode cX12_pair 35 = .ok (.invokestatic 34, 3) := by decide +kernel
theorem dX12_pair_38 : decode cX12_pair 38 = .ok (.putfield 1, 3) := by decide +kernel
theorem dX12_pair_41 : decode cX12_pair 41 = .ok (.aload_n 0, 1) := by decide +kernel
theorem dX12_pair_42 : decode cX12_pair 42 = .ok (.getfield 1, 3) := by decide +kernel
theorem dX12_pair_45 : decode cX12_pair 45 = .ok (.iconst 1, 1) := by decide +kernel
theorem dX12_pair_46 : decode cX12_pair 46 = .ok (.if_icmp .ne 7, 3) := by decide +kernel
theorem dX12_pair_49 : decode cX12_pair 49 = .ok (.iconst 0, 1) := by decide +kernel
theorem dX12_pair_50 : decode cX12_pair 50 = .ok (.goto 21, 3) := by decide +kernel
theorem dX12_pair_53 : decode cX12_pair 53 = .ok (.aload_n 0, 1) := by decide +kernel
theorem dX12_pair_54 : decode cX12_pair 54 = .ok (.getfield 60, 3) := by decide +kernel
theorem dX12_pair_57 : decode cX12_pair 57 = .ok (.iload_n 2, 1) := by decide +kernel
theorem dX12_pair_58 : decode cX12_pair 58 = .ok (.ifCond .ne 8, 3) := by decide +kernel
theorem dX12_pair_61 : decode cX12_pair 61 = .ok (.bipush 12, 2) := by decide +kernel
theorem dX12_pair_63 : decode cX12_pair 63 = .ok (.goto 5, 3) := by decide +kernel
theorem dX12_pair_66 : decode cX12_pair 66 = .ok (.bipush 20, 2) := by decide +kernel
theorem dX12_pair_68 : decode cX12_pair 68 = .ok (.iload_n 1, 1) := by decide +kernel
theorem dX12_pair_69 : decode cX12_pair 69 = .ok (.iadd, 1) := by decide +kernel
theorem dX12_pair_70 : decode cX12_pair 70 = .ok (.iaload, 1) := by decide +kernel
theorem dX12_pair_71 : decode cX12_pair 71 = .ok (.ireturn, 1) := by decide +kernel
def f_X12_pair (a0 : Nat) (x1 : Int32) (x2 : Int32) (μ : jM) : Option (Int32 × jM) :=
  jrd (μ.1 (a0 + 3)) (11 : Int32) 2074 (fun v2 => jbd (fun (t4 : Int32) => jbd (jsi μ a0 0 (f_X12_flag t4)) (fun m8 => (if (m8.1 a0 0) = (1 : Int32) then some (((0 : Int32), m8)) else jrd (m8.1 (a0 + 3)) (((if x2 = (0 : Int32) then (12 : Int32) else (20 : Int32))) + x1) 2074 (fun v13 => some ((v13, m8)))))) (fun k5 => jbd (k5 (1 : Int32)) (fun k15 => (if (f_X12_in x1.toInt64 (0 : Int64) ((v2 - (1 : Int32)).toInt64)) = (0 : Int32) then k15 else (if (f_X12_in x2.toInt64 (0 : Int64) (1 : Int64)) = (0 : Int32) then k15 else k5 (0 : Int32))))))
set_option maxHeartbeats 4000000 in
set_option maxRecDepth 100000 in
theorem c_X12_pair {l : Launch} {G : jG} {L : jL} (hL : jOKL L) {a0 : Nat} {x1 : Int32} {x2 : Int32} (ka0 : jK L a0 12) {μ μ' : jM} {r : Int32} (h : f_X12_pair a0 x1 x2 μ = some ((r, μ'))) : jCt l G L 4 yX12_pair cX12_pair 3 (some .int) [.ref (L.2.2 a0), .int x1, .int x2] μ (some (.int r)) μ' := by
  refine jCt_of (by decide) (Nat.le_of_ble_eq_true rfl) (fun X hC hX hR => ?_)
  subst hX
  have hC : jC X G cX12_pair 3 RX12 (some .int) := hC
  unfold f_X12_pair at h
  show jJ X G 3 L 0 0 (jQM X G L (some (.int r)) μ' 0 0) 0 [(0, .ref (L.2.2 a0)), (1, .int x1), (2, .int x2)] [] μ
  refine j_aload_n (pc := 0) hC 0 0 dX12_pair_0 rfl rfl ?_
  refine j_iload_n (pc := 1) hC 1 1 dX12_pair_1 rfl rfl ?_
  refine j_i2l (pc := 2) hC dX12_pair_2 ?_
  refine j_lconst (pc := 3) hC (0 : Int64) dX12_pair_3 (by decide) ?_
  refine j_aload_n (pc := 4) hC 0 0 dX12_pair_4 rfl rfl ?_
  refine jgr_12 (pc := 5) hC 8 (by decide) rfl kf_X12_60 dX12_pair_5 ka0 (ly_12_8 hL ka0).1 ?_
  refine j_bipush (pc := 8) hC (11 : Int32) dX12_pair_8 (by decide) ?_
  obtain ⟨i1, v2, e3, h⟩ := jrd_some h
  refine j_iald (pc := 10) hC dX12_pair_10 (ly_12_8 hL ka0).2.1 (ly_12_8 hL ka0).2.2 i1 e3 ?_
  refine j_iconst (pc := 11) hC (1 : Int32) dX12_pair_11 (by decide) ?_
  refine j_isub (pc := 12) hC dX12_pair_12 ?_
  refine j_i2l (pc := 13) hC dX12_pair_13 ?_
  refine j_si (pc := 14) hC hR [.long x1.toInt64, .long (0 : Int64), .long ((v2 - (1 : Int32)).toInt64)] iy_X12_in km_X12_21 dX12_pair_14 rfl (by decide) (c_X12_in hL  rfl) (by decide) (Nat.le_of_ble_eq_true rfl) rfl ?_
  obtain ⟨k5, e7, h⟩ := jbd_ex h
  have q6 : ∀ (t4 : Int32), k5 t4 = some ((r, μ')) → jJ X G 3 L 0 0 (jQM X G L (some (.int r)) μ' 0 0) 35 [(0, .ref (L.2.2 a0)), (1, .int x1), (2, .int x2)] [.int t4, .ref (L.2.2 a0)] μ := by
    intro t4 h
    rw [e7] at h
    try dsimp only at h
    refine j_si (pc := 35) hC hR [.int t4] iy_X12_flag km_X12_34 dX12_pair_35 rfl (by decide) (c_X12_flag hL  rfl) (by decide) (Nat.le_of_ble_eq_true rfl) rfl ?_
    obtain ⟨m8, e9, h⟩ := jbd_ex h
    refine jpi_12 (pc := 38) hC 0 (by decide) rfl kf_X12_1 dX12_pair_38 rfl (by decide) ka0 e9 ?_
    refine j_aload_n (pc := 41) hC 0 0 dX12_pair_41 rfl rfl ?_
    refine jgi_12 (pc := 42) hC 0 (by decide) rfl kf_X12_1 dX12_pair_42 ka0 ?_
    refine j_iconst (pc := 45) hC (1 : Int32) dX12_pair_45 (by decide) ?_
    refine j_icmp_ne (pc := 46) hC 53 dX12_pair_46 (by decide) (fun c10 => ?_) (fun c10 => ?_)
    · rw [if_neg c10] at h
      refine j_aload_n (pc := 53) hC 0 0 dX12_pair_53 rfl rfl ?_
      refine jgr_12 (pc := 54) hC 8 (by decide) rfl kf_X12_60 dX12_pair_54 ka0 (ly_12_8 hL ka0).1 ?_
      refine j_iload_n (pc := 57) hC 2 2 dX12_pair_57 rfl rfl ?_
      refine jmg (B := jJ X G 3 L 0 0 (jQM X G L (some (.int r)) μ' 0 0) 68 [(0, .ref (L.2.2 a0)), (1, .int x1), (2, .int x2)] [.int ((if x2 = (0 : Int32) then (12 : Int32) else (20 : Int32))), .ref (L.2.2 (a0 + 3))] m8) (fun hj => ?_) ?_
      · refine j_if_ne (pc := 58) hC 66 dX12_pair_58 (by decide) (fun c11 => ?_) (fun c11 => ?_)
        · rw [if_neg c11] at hj
          refine j_bipush (pc := 66) hC (20 : Int32) dX12_pair_66 (by decide) ?_
          exact hj
        · rw [if_pos c11] at hj
          refine j_bipush (pc := 61) hC (12 : Int32) dX12_pair_61 (by decide) ?_
          refine j_goto (pc := 63) hC 68 dX12_pair_63 (by decide) ?_
          exact hj
      refine j_iload_n (pc := 68) hC 1 1 dX12_pair_68 rfl rfl ?_
      refine j_iadd (pc := 69) hC dX12_pair_69 ?_
      obtain ⟨i12, v13, e14, h⟩ := jrd_some h
      refine j_iald (pc := 70) hC dX12_pair_70 (ly_12_8 hL ka0).2.1 (ly_12_8 hL ka0).2.2 i12 e14 ?_
      obtain ⟨rfl, rfl⟩ := Prod.mk.inj (Option.some.inj h)
      exact j_iret (pc := 71) hC dX12_pair_71 rfl
    · rw [if_pos c10] at h
      refine j_iconst (pc := 49) hC (0 : Int32) dX12_pair_49 (by decide) ?_
      refine j_goto (pc := 50) hC 71 dX12_pair_50 (by decide) ?_
      obtain ⟨rfl, rfl⟩ := Prod.mk.inj (Option.some.inj h)
      exact j_iret (pc := 71) hC dX12_pair_71 rfl
  obtain ⟨k15, e17, h⟩ := jbd_ex h
  have q16 : k15 = some ((r, μ')) → jJ X G 3 L 0 0 (jQM X G L (some (.int r)) μ' 0 0) 30 [(0, .ref (L.2.2 a0)), (1, .int x1), (2, .int x2)] [.ref (L.2.2 a0)] μ := by
    intro h
    rw [e17] at h
    refine j_iconst (pc := 30) hC (1 : Int32) dX12_pair_30 (by decide) ?_
    refine j_goto (pc := 31) hC 35 dX12_pair_31 (by decide) ?_
    exact j_lv [0, 1, 2] rfl (q6 _ h)
  refine j_if_eq (pc := 17) hC 30 dX12_pair_17 (by decide) (fun c18 => ?_) (fun c18 => ?_)
  · rw [if_pos c18] at h
    exact j_lv [0, 1, 2] rfl (q16 h)
  · rw [if_neg c18] at h
    refine j_iload_n (pc := 20) hC 2 2 dX12_pair_20 rfl rfl ?_
    refine j_i2l (pc := 21) hC dX12_pair_21 ?_
    refine j_lconst (pc := 22) hC (0 : Int64) dX12_pair_22 (by decide) ?_
    refine j_lconst (pc := 23) hC (1 : Int64) dX12_pair_23 (by decide) ?_
    refine j_si (pc := 24) hC hR [.long x2.toInt64, .long (0 : Int64), .long (1 : Int64)] iy_X12_in km_X12_21 dX12_pair_24 rfl (by decide) (c_X12_in hL  rfl) (by decide) (Nat.le_of_ble_eq_true rfl) rfl ?_
    refine j_if_ne (pc := 27) hC 34 dX12_pair_27 (by decide) (fun c19 => ?_) (fun c19 => ?_)
    · rw [if_neg c19] at h
      refine j_iconst (pc := 34) hC (0 : Int32) dX12_pair_34 (by decide) ?_
      exact j_lv [0, 1, 2] rfl (q6 _ h)
    · rw [if_pos c19] at h
      exact j_lv [0, 1, 2] rfl (q16 h)
theorem dX12_constraint_0 : decode cX12_constraint 0 = .ok (.aload_n 0, 1) := by decide +kernel
theorem dX12_constraint_1 : decode cX12_constraint 1 = .ok (.iload_n 1, 1) := by decide +kernel
theorem dX12_constraint_2 : decode cX12_constraint 2 = .ok (.i2l, 1) := by decide +kernel
theorem dX12_constraint_3 : decode cX12_constraint 3 = .ok (.lconst 0, 1) := by decide +kernel
theorem dX12_constraint_4 : decode cX12_constraint 4 = .ok (.aload_n 0, 1) := by decide +kernel
theorem dX12_constraint_5 : decode cX12_constraint 5 = .ok (.getfield 60, 3) := by decide +kernel
theorem dX12_constraint_8 : decode cX12_constraint 8 = .ok (.bipush 28, 2) := by decide +kernel
theorem dX12_constraint_10 : decode cX12_constraint 10 = .ok (.iaload, 1) := by decide +kernel
theorem dX12_constraint_11 : decode cX12_constraint 11 = .ok (.iconst 1, 1) := by decide +kernel
theorem dX12_constraint_12 : decode cX12_constraint 12 = .ok (.isub, 1) := by decide +kernel
theorem dX12_constraint_13 : decode cX12_constraint 13 = .ok (.i2l, 1) := by decide +kernel
theorem dX12_constraint_14 : decode cX12_constraint 14 = .ok (.invokestatic 21, 3) := by decide +kernel
theorem dX12_constraint_17 : decode cX12_constraint 17 = .ok (.ifCond .eq 15, 3) := by decide +kernel
theorem dX12_constraint_20 : decode cX12_constraint 20 = .ok (.iload_n 2, 1) := by decide +kernel
theorem dX12_constraint_21 : decode cX12_constraint 21 = .ok (.i2l, 1) := by decide +kernel
theorem dX12_constraint_22 : decode cX12_constraint 22 = .ok (.lconst 0, 1) := by decide +kernel
theorem dX12_constraint_23 : decode cX12_constraint 23 = .ok (.ldc2_w 184, 3) := by decide +kernel
theorem dX12_constraint_26 : decode cX12_constraint 26 = .ok (.invokestatic 21, 3) := by decide +kernel
theorem dX12_constraint_29 : decode cX12_constraint 29 = .ok (.ifCond .ne 7, 3) := by decide +kernel
theorem dX12_constraint_32 : decode cX12_constraint 32 = .ok (.iconst 1, 1) := by decide +kernel
theorem dX12_constraint_33 : decode cX12_constraint 33 = .ok (.goto 4, 3) := by decide +kernel
theorem dX12_constraint_36 : decode cX12_constraint 36 = .ok (.iconst 0, 1) := by decide +kernel
theorem dX12_constraint_37 : decode cX12_constraint 37 = .ok (.invokestatic 34, 3) := by decide +kernel
theorem dX12_constraint_40 : decode cX12_constraint 40 = .ok (.putfield 1, 3) := by decide +kernel
theorem dX12_constraint_43 : decode cX12_constraint 43 = .ok (.aload_n 0, 1) := by decide +kernel
theorem dX12_constraint_44 : decode cX12_constraint 44 = .ok (.getfield 1, 3) := by decide +kernel
theorem dX12_constraint_47 : decode cX12_constraint 47 = .ok (.iconst 1, 1) := by decide +kernel
theorem dX12_constraint_48 : decode cX12_constraint 48 = .ok (.if_icmp .ne 7, 3) := by decide +kernel
theorem dX12_constraint_51 : decode cX12_constraint 51 = .ok (.iconst 0, 1) := by decide +kernel
theorem dX12_constraint_52 : decode cX12_constraint 52 = .ok (.goto 16, 3) := by decide +kernel
theorem dX12_constraint_55 : decode cX12_constraint 55 = .ok (.aload_n 0, 1) := by decide +kernel
theorem dX12_constraint_56 : decode cX12_constraint 56 = .ok (.getfield 60, 3) := by decide +kernel
theorem dX12_constraint_59 : decode cX12_constraint 59 = .ok (.bipush 29, 2) := by decide +kernel
theorem dX12_constraint_61 : decode cX12_constraint 61 = .ok (.iconst 4, 1) := by decide +kernel
theorem dX12_constraint_62 : decode cX12_constraint 62 = .ok (.iload_n 1, 1) := by decide +kernel
theorem dX12_constraint_63 : decode cX12_constraint 63 = .ok (.imul, 1) := by decide +kernel
theorem dX12_constraint_64 : decode cX12_constraint 64 = .ok (.iadd, 1) := by decide +kernel
theorem dX12_constraint_65 : decode cX12_constraint 65 = .ok (.iload_n 2, 1) := by decide +kernel
theorem dX12_constraint_66 : decode cX12_constraint 66 = .ok (.iadd, 1) := by decide +kernel
theorem dX12_constraint_67 : decode cX12_constraint 67 = .ok (.iaload, 1) := by decide +kernel
theorem dX12_constraint_68 : decode cX12_constraint 68 = .ok (.ireturn, 1) := by decide +kernel
def f_X12_constraint (a0 : Nat) (x1 : Int32) (x2 : Int32) (μ : jM) : Option (Int32 × jM) :=
  jrd (μ.1 (a0 + 3)) (28 : Int32) 2074 (fun v2 => jbd (fun (t4 : Int32) => jbd (jsi μ a0 0 (f_X12_flag t4)) (fun m8 => (if (m8.1 a0 0) = (1 : Int32) then some (((0 : Int32), m8)) else jrd (m8.1 (a0 + 3)) (((29 : Int32) + ((4 : Int32) * x1)) + x2) 2074 (fun v12 => some ((v12, m8)))))) (fun k5 => jbd (k5 (1 : Int32)) (fun k14 => (if (f_X12_in x1.toInt64 (0 : Int64) ((v2 - (1 : Int32)).toInt64)) = (0 : Int32) then k14 else (if (f_X12_in x2.toInt64 (0 : Int64) (3 : Int64)) = (0 : Int32) then k14 else k5 (0 : Int32))))))
set_option maxHeartbeats 4000000 in
set_option maxRecDepth 100000 in
theorem c_X12_constraint {l : Launch} {G : jG} {L : jL} (hL : jOKL L) {a0 : Nat} {x1 : Int32} {x2 : Int32} (ka0 : jK L a0 12) {μ μ' : jM} {r : Int32} (h : f_X12_constraint a0 x1 x2 μ = some ((r, μ'))) : jCt l G L 4 yX12_constraint cX12_constraint 3 (some .int) [.ref (L.2.2 a0), .int x1, .int x2] μ (some (.int r)) μ' := by
  refine jCt_of (by decide) (Nat.le_of_ble_eq_true rfl) (fun X hC hX hR => ?_)
  subst hX
  have hC : jC X G cX12_constraint 3 RX12 (some .int) := hC
  unfold f_X12_constraint at h
  show jJ X G 3 L 0 0 (jQM X G L (some (.int r)) μ' 0 0) 0 [(0, .ref (L.2.2 a0)), (1, .int x1), (2, .int x2)] [] μ
  refine j_aload_n (pc := 0) hC 0 0 dX12_constraint_0 rfl rfl ?_
  refine j_iload_n (pc := 1) hC 1 1 dX12_constraint_1 rfl rfl ?_
  refine j_i2l (pc := 2) hC dX12_constraint_2 ?_
  refine j_lconst (pc := 3) hC (0 : Int64) dX12_constraint_3 (by decide) ?_
  refine j_aload_n (pc := 4) hC 0 0 dX12_constraint_4 rfl rfl ?_
  refine jgr_12 (pc := 5) hC 8 (by decide) rfl kf_X12_60 dX12_constraint_5 ka0 (ly_12_8 hL ka0).1 ?_
  refine j_bipush (pc := 8) hC (28 : Int32) dX12_constraint_8 (by decide) ?_
  obtain ⟨i1, v2, e3, h⟩ := jrd_some h
  refine j_iald (pc := 10) hC dX12_constraint_10 (ly_12_8 hL ka0).2.1 (ly_12_8 hL ka0).2.2 i1 e3 ?_
  refine j_iconst (pc := 11) hC (1 : Int32) dX12_constraint_11 (by decide) ?_
  refine j_isub (pc := 12) hC dX12_constraint_12 ?_
  refine j_i2l (pc := 13) hC dX12_constraint_13 ?_
  refine j_si (pc := 14) hC hR [.long x1.toInt64, .long (0 : Int64), .long ((v2 - (1 : Int32)).toInt64)] iy_X12_in km_X12_21 dX12_constraint_14 rfl (by decide) (c_X12_in hL  rfl) (by decide) (Nat.le_of_ble_eq_true rfl) rfl ?_
  obtain ⟨k5, e7, h⟩ := jbd_ex h
  have q6 : ∀ (t4 : Int32), k5 t4 = some ((r, μ')) → jJ X G 3 L 0 0 (jQM X G L (some (.int r)) μ' 0 0) 37 [(0, .ref (L.2.2 a0)), (1, .int x1), (2, .int x2)] [.int t4, .ref (L.2.2 a0)] μ := by
    intro t4 h
    rw [e7] at h
    try dsimp only at h
    refine j_si (pc := 37) hC hR [.int t4] iy_X12_flag km_X12_34 dX12_constraint_37 rfl (by decide) (c_X12_flag hL  rfl) (by decide) (Nat.le_of_ble_eq_true rfl) rfl ?_
    obtain ⟨m8, e9, h⟩ := jbd_ex h
    refine jpi_12 (pc := 40) hC 0 (by decide) rfl kf_X12_1 dX12_constraint_40 rfl (by decide) ka0 e9 ?_
    refine j_aload_n (pc := 43) hC 0 0 dX12_constraint_43 rfl rfl ?_
    refine jgi_12 (pc := 44) hC 0 (by decide) rfl kf_X12_1 dX12_constraint_44 ka0 ?_
    refine j_iconst (pc := 47) hC (1 : Int32) dX12_constraint_47 (by decide) ?_
    refine j_icmp_ne (pc := 48) hC 55 dX12_constraint_48 (by decide) (fun c10 => ?_) (fun c10 => ?_)
    · rw [if_neg c10] at h
      refine j_aload_n (pc := 55) hC 0 0 dX12_constraint_55 rfl rfl ?_
      refine jgr_12 (pc := 56) hC 8 (by decide) rfl kf_X12_60 dX12_constraint_56 ka0 (ly_12_8 hL ka0).1 ?_
      refine j_bipush (pc := 59) hC (29 : Int32) dX12_constraint_59 (by decide) ?_
      refine j_iconst (pc := 61) hC (4 : Int32) dX12_constraint_61 (by decide) ?_
      refine j_iload_n (pc := 62) hC 1 1 dX12_constraint_62 rfl rfl ?_
      refine j_imul (pc := 63) hC dX12_constraint_63 ?_
      refine j_iadd (pc := 64) hC dX12_constraint_64 ?_
      refine j_iload_n (pc := 65) hC 2 2 dX12_constraint_65 rfl rfl ?_
      refine j_iadd (pc := 66) hC dX12_constraint_66 ?_
      obtain ⟨i11, v12, e13, h⟩ := jrd_some h
      refine j_iald (pc := 67) hC dX12_constraint_67 (ly_12_8 hL ka0).2.1 (ly_12_8 hL ka0).2.2 i11 e13 ?_
      obtain ⟨rfl, rfl⟩ := Prod.mk.inj (Option.some.inj h)
      exact j_iret (pc := 68) hC dX12_constraint_68 rfl
    · rw [if_pos c10] at h
      refine j_iconst (pc := 51) hC (0 : Int32) dX12_constraint_51 (by decide) ?_
      refine j_goto (pc := 52) hC 68 dX12_constraint_52 (by decide) ?_
      obtain ⟨rfl, rfl⟩ := Prod.mk.inj (Option.some.inj h)
      exact j_iret (pc := 68) hC dX12_constraint_68 rfl
  obtain ⟨k14, e16, h⟩ := jbd_ex h
  have q15 : k14 = some ((r, μ')) → jJ X G 3 L 0 0 (jQM X G L (some (.int r)) μ' 0 0) 32 [(0, .ref (L.2.2 a0)), (1, .int x1), (2, .int x2)] [.ref (L.2.2 a0)] μ := by
    intro h
    rw [e16] at h
    refine j_iconst (pc := 32) hC (1 : Int32) dX12_constraint_32 (by decide) ?_
    refine j_goto (pc := 33) hC 37 dX12_constraint_33 (by decide) ?_
    exact j_lv [0, 1, 2] rfl (q6 _ h)
  refine j_if_eq (pc := 17) hC 32 dX12_constraint_17 (by decide) (fun c17 => ?_) (fun c17 => ?_)
  · rw [if_pos c17] at h
    exact j_lv [0, 1, 2] rfl (q15 h)
  · rw [if_neg c17] at h
    refine j_iload_n (pc := 20) hC 2 2 dX12_constraint_20 rfl rfl ?_
    refine j_i2l (pc := 21) hC dX12_constraint_21 ?_
    refine j_lconst (pc := 22) hC (0 : Int64) dX12_constraint_22 (by decide) ?_
    refine j_ldc2 (pc := 23) hC dX12_constraint_23 kl_X12_184 ?_
    refine j_si (pc := 26) hC hR [.long x2.toInt64, .long (0 : Int64), .long (3 : Int64)] iy_X12_in km_X12_21 dX12_constraint_26 rfl (by decide) (c_X12_in hL  rfl) (by decide) (Nat.le_of_ble_eq_true rfl) rfl ?_
    refine j_if_ne (pc := 29) hC 36 dX12_constraint_29 (by decide) (fun c18 => ?_) (fun c18 => ?_)
    · rw [if_neg c18] at h
      refine j_iconst (pc := 36) hC (0 : Int32) dX12_constraint_36 (by decide) ?_
      exact j_lv [0, 1, 2] rfl (q6 _ h)
    · rw [if_pos c18] at h
      exact j_lv [0, 1, 2] rfl (q15 h)
theorem dX12_put_0 : decode cX12_put 0 = .ok (.iload_n 0, 1) := by decide +kernel
theorem dX12_put_1 : decode cX12_put 1 = .ok (.sipush (-999), 3) := by decide +kernel
theorem dX12_put_4 : decode cX12_put 4 = .ok (.if_icmp .ge 9, 3) := by decide +kernel
theorem dX12_put_7 : decode cX12_put 7 = .ok (.sipush (-999), 3) := by decide +kernel
theorem dX12_put_10 : decode cX12_put 10 = .ok (.goto 10, 3) := by decide +kernel
theorem dX12_put_13 : decode cX12_put 13 = .ok (.sipush 999, 3) := by decide +kernel
theorem dX12_put_16 : decode cX12_put 16 = .ok (.iload_n 0, 1) := by decide +kernel
theorem dX12_put_17 : decode cX12_put 17 = .ok (.invokestatic 186, 3) := by decide +kernel
theorem dX12_put_20 : decode cX12_put 20 = .ok (.ireturn, 1) := by decide +kernel
def f_X12_put (x0 : Int32) : Int32 :=
  (if (-999 : Int32) ≤ x0 then jmin (999 : Int32) x0 else (-999 : Int32))
set_option maxHeartbeats 4000000 in
set_option maxRecDepth 100000 in
theorem c_X12_put {l : Launch} {G : jG} {L : jL} (hL : jOKL L) {x0 : Int32}  {μ : jM} {r : Int32} (h : f_X12_put x0 = r) : jCt l G L 3 yX12_put cX12_put 1 (some .int) [.int x0] μ (some (.int r)) μ := by
  refine jCt_of (by decide) (Nat.le_of_ble_eq_true rfl) (fun X hC hX hR => ?_)
  subst hX
  have hC : jC X G cX12_put 1 RX12 (some .int) := hC
  unfold f_X12_put at h
  show jJ X G 1 L 0 0 (jQM X G L (some (.int r)) μ 0 0) 0 [(0, .int x0)] [] μ
  refine j_iload_n (pc := 0) hC 0 0 dX12_put_0 rfl rfl ?_
  refine j_sipush (pc := 1) hC (-999 : Int32) dX12_put_1 (by decide) ?_
  refine j_icmp_ge (pc := 4) hC 13 dX12_put_4 (by decide) (fun c1 => ?_) (fun c1 => ?_)
  · rw [if_pos c1] at h
    refine j_sipush (pc := 13) hC (999 : Int32) dX12_put_13 (by decide) ?_
    refine j_iload_n (pc := 16) hC 0 0 dX12_put_16 rfl rfl ?_
    refine j_mmin (pc := 17) hC hR kx_X12_186 dX12_put_17 (by decide) (Nat.le_of_ble_eq_true rfl) ?_
    subst h
    exact j_iret (pc := 20) hC dX12_put_20 rfl
  · rw [if_neg c1] at h
    refine j_sipush (pc := 7) hC (-999 : Int32) dX12_put_7 (by decide) ?_
    refine j_goto (pc := 10) hC 20 dX12_put_10 (by decide) ?_
    subst h
    exact j_iret (pc := 20) hC dX12_put_20 rfl
theorem dX12_sheet_0 : decode cX12_sheet 0 = .ok (.aload_n 0, 1) := by decide +kernel
theorem dX12_sheet_1 : decode cX12_sheet 1 = .ok (.iconst 0, 1) := by decide +kernel
theorem dX12_sheet_2 : decode cX12_sheet 2 = .ok (.putfield 1, 3) := by decide +kernel
theorem dX12_sheet_5 : decode cX12_sheet 5 = .ok (.iload_n 1, 1) := by decide +kernel
theorem dX12_sheet_6 : decode cX12_sheet 6 = .ok (.i2l, 1) := by decide +kernel
theorem dX12_sheet_7 : decode cX12_sheet 7 = .ok (.lconst 0, 1) := by decide +kernel
theorem dX12_sheet_8 : decode cX12_sheet 8 = .ok (.ldc2_w 184, 3) := by decide +kernel
theorem dX12_sheet_11 : decode cX12_sheet 11 = .ok (.invokestatic 21, 3) := by decide +kernel
theorem dX12_sheet_14 : decode cX12_sheet 14 = .ok (.ifCond .eq 9, 3) := by decide +kernel
theorem dX12_sheet_17 : decode cX12_sheet 17 = .ok (.iload_n 2, 1) := by decide +kernel
theorem dX12_sheet_18 : decode cX12_sheet 18 = .ok (.bipush 6, 2) := by decide +kernel
theorem dX12_sheet_20 : decode cX12_sheet 20 = .ok (.if_icmp .le 5, 3) := by decide +kernel
theorem dX12_sheet_23 : decode cX12_sheet 23 = .ok (.iconst (-1), 1) := by decide +kernel
theorem dX12_sheet_24 : decode cX12_sheet 24 = .ok (.ireturn, 1) := by decide +kernel
theorem dX12_sheet_25 : decode cX12_sheet 25 = .ok (.iload_n 1, 1) := by decide +kernel
theorem dX12_sheet_26 : decode cX12_sheet 26 = .ok (.iconst 3, 1) := by decide +kernel
theorem dX12_sheet_27 : decode cX12_sheet 27 = .ok (.if_icmp .ge 10, 3) := by decide +kernel
theorem dX12_sheet_30 : decode cX12_sheet 30 = .ok (.iload_n 2, 1) := by decide +kernel
theorem dX12_sheet_31 : decode cX12_sheet 31 = .ok (.ifCond .ge 6, 3) := by decide +kernel
theorem dX12_sheet_34 : decode cX12_sheet 34 = .ok (.bipush (-2), 2) := by decide +kernel
theorem dX12_sheet_36 : decode cX12_sheet 36 = .ok (.ireturn, 1) := by decide +kernel
theorem dX12_sheet_37 : decode cX12_sheet 37 = .ok (.aload_n 0, 1) := by decide +kernel
theorem dX12_sheet_38 : decode cX12_sheet 38 = .ok (.invokevirtual 170, 3) := by decide +kernel
theorem dX12_sheet_41 : decode cX12_sheet 41 = .ok (.sipush 10000, 3) := by decide +kernel
theorem dX12_sheet_44 : decode cX12_sheet 44 = .ok (.istore 5, 2) := by decide +kernel
theorem dX12_sheet_46 : decode cX12_sheet 46 = .ok (.iconst 0, 1) := by decide +kernel
theorem dX12_sheet_47 : decode cX12_sheet 47 = .ok (.istore 6, 2) := by decide +kernel
theorem dX12_sheet_49 : decode cX12_sheet 49 = .ok (.iload 6, 2) := by decide +kernel
theorem dX12_sheet_51 : decode cX12_sheet 51 = .ok (.bipush 6, 2) := by decide +kernel
theorem dX12_sheet_53 : decode cX12_sheet 53 = .ok (.if_icmp .ge 82, 3) := by decide +kernel
theorem dX12_sheet_56 : decode cX12_sheet 56 = .ok (.iload_n 3, 1) := by decide +kernel
theorem dX12_sheet_57 : decode cX12_sheet 57 = .ok (.iload 6, 2) := by decide +kernel
theorem dX12_sheet_59 : decode cX12_sheet 59 = .ok (.iload 4, 2) := by decide +kernel
theorem dX12_sheet_61 : decode cX12_sheet 61 = .ok (.imul, 1) := by decide +kernel
theorem dX12_sheet_62 : decode cX12_sheet 62 = .ok (.iadd, 1) := by decide +kernel
theorem dX12_sheet_63 : decode cX12_sheet 63 = .ok (.istore 7, 2) := by decide +kernel
theorem dX12_sheet_65 : decode cX12_sheet 65 = .ok (.iload_n 1, 1) := by decide +kernel
theorem dX12_sheet_66 : decode cX12_sheet 66 = .ok (.ifCond .ne 9, 3) := by decide +kernel
theorem dX12_sheet_69 : decode cX12_sheet 69 = .ok (.iload 7, 2) := by decide +kernel
theorem dX12_sheet_71 : decode cX12_sheet 71 = .ok (.i2b, 1) := by decide +kernel
theorem dX12_sheet_72 : decode cX12_sheet 72 = .ok (.goto 16, 3) := by decide +kernel
theorem dX12_sheet_75 : decode cX12_sheet 75 = .ok (.iload_n 1, 1) := by decide +kernel
theorem dX12_sheet_76 : decode cX12_sheet 76 = .ok (.iconst 1, 1) := by decide +kernel
theorem dX12_sheet_77 : decode cX12_sheet 77 = .ok (.if_icmp .ne 9, 3) := by decide +kernel
theorem dX12_sheet_80 : decode cX12_sheet 80 = .ok (.iload 7, 2) := by decide +kernel
theorem dX12_sheet_82 : decode cX12_sheet 82 = .ok (.i2s, 1) := by decide +kernel
theorem dX12_sheet_83 : decode cX12_sheet 83 = .ok (.goto 5, 3) := by decide +kernel
theorem dX12_sheet_86 : decode cX12_sheet 86 = .ok (.iload 7, 2) := by decide +kernel
theorem dX12_sheet_88 : decode cX12_sheet 88 = .ok (.istore 8, 2) := by decide +kernel
theorem dX12_sheet_90 : decode cX12_sheet 90 = .ok (.aload_n 0, 1) := by decide +kernel
theorem dX12_sheet_91 : decode cX12_sheet 91 = .ok (.getfield 60, 3) := by decide +kernel
theorem dX12_sheet_94 : decode cX12_sheet 94 = .ok (.iload 6, 2) := by decide +kernel
theorem dX12_sheet_96 : decode cX12_sheet 96 = .ok (.iload_n 1, 1) := by decide +kernel
theorem dX12_sheet_97 : decode cX12_sheet 97 = .ok (.iconst 3, 1) := by decide +kernel
theorem dX12_sheet_98 : decode cX12_sheet 98 = .ok (.if_icmp .eq 9, 3) := by decide +kernel
theorem dX12_sheet_101 : decode cX12_sheet 101 = .ok (.iload 6, 2) := by decide +kernel
theorem dX12_sheet_103 : decode cX12_sheet 103 = .ok (.iload_n 2, 1) := by decide +kernel
theorem dX12_sheet_104 : decode cX12_sheet 104 = .ok (.if_icmp .lt 7, 3) := by decide +kernel
theorem dX12_sheet_107 : decode cX12_sheet 107 = .ok (.iconst 0, 1) := by decide +kernel
theorem dX12_sheet_108 : decode cX12_sheet 108 = .ok (.goto 8, 3) := by decide +kernel
theorem dX12_sheet_111 : decode cX12_sheet 111 = .ok (.iload 8, 2) := by decide +kernel
theorem dX12_sheet_113 : decode cX12_sheet 113 = .ok (.invokestatic 191, 3) := by decide +kernel
theorem dX12_sheet_116 : decode cX12_sheet 116 = .ok (.iastore, 1) := by decide +kernel
theorem dX12_sheet_117 : decode cX12_sheet 117 = .ok (.iload 5, 2) := by decide +kernel
theorem dX12_sheet_119 : decode cX12_sheet 119 = .ok (.aload_n 0, 1) := by decide +kernel
theorem dX12_sheet_120 : decode cX12_sheet 120 = .ok (.getfield 60, 3) := by decide +kernel
theorem dX12_sheet_123 : decode cX12_sheet 123 = .ok (.iload 6, 2) := by decide +kernel
theorem dX12_sheet_125 : decode cX12_sheet 125 = .ok (.iaload, 1) := by decide +kernel
theorem dX12_sheet_126 : decode cX12_sheet 126 = .ok (.iadd, 1) := by decide +kernel
theorem dX12_sheet_127 : decode cX12_sheet 127 = .ok (.istore 5, 2) := by decide +kernel
theorem dX12_sheet_129 : decode cX12_sheet 129 = .ok (.iinc 6 1, 3) := by decide +kernel
theorem dX12_sheet_132 : decode cX12_sheet 132 = .ok (.goto (-83), 3) := by decide +kernel
theorem dX12_sheet_135 : decode cX12_sheet 135 = .ok (.aload_n 0, 1) := by decide +kernel
theorem dX12_sheet_136 : decode cX12_sheet 136 = .ok (.iload_n 1, 1) := by decide +kernel
theorem dX12_sheet_137 : decode cX12_sheet 137 = .ok (.iconst 3, 1) := by decide +kernel
theorem dX12_sheet_138 : decode cX12_sheet 138 = .ok (.if_icmp .ne 8, 3) := by decide +kernel
theorem dX12_sheet_141 : decode cX12_sheet 141 = .ok (.bipush (-3), 2) := by decide +kernel
theorem dX12_sheet_143 : decode cX12_sheet 143 = .ok (.goto 5, 3) := by decide +kernel
theorem dX12_sheet_146 : decode cX12_sheet 146 = .ok (.iload 5, 2) := by decide +kernel
theorem dX12_sheet_148 : decode cX12_sheet 148 = .ok (.invokevirtual 195, 3) := by decide +kernel
theorem dX12_sheet_151 : decode cX12_sheet 151 = .ok (.ireturn, 1) := by decide +kernel
def f_X12_sheet_L49 (a0 : Nat) (x1 : Int32) (x2 : Int32) (x3 : Int32) (x4 : Int32) (u10 : Int32) (u11 : Int32) (m12 : jM) : Option ((Int32 × Int32 × jM) ⊕ (Int32 × jM)) :=
  (if (6 : Int32) ≤ u11 then some (.inr ((u10, m12))) else jbd (fun (t14 : Int32) => jbd (fun (t18 : Int32) => jin u11 2074 (jbd (jsi m12 (a0 + 3) u11.toNatClampNeg t18) (fun m23 => jrd (m23.1 (a0 + 3)) u11 2074 (fun v26 => some (.inl ((u10 + v26, u11 + (1 : Int32), m23))))))) (fun k19 => jbd (k19 (0 : Int32)) (fun k28 => (if x1 = (3 : Int32) then k28 else (if u11 < x2 then k19 (f_X12_put t14) else k28))))) (fun k15 => (if x1 = (0 : Int32) then k15 ((x3 + (u11 * x4)).toInt8.toInt32) else (if x1 = (1 : Int32) then k15 ((x3 + (u11 * x4)).toInt16.toInt32) else k15 (x3 + (u11 * x4))))))
def f_X12_sheet (a0 : Nat) (x1 : Int32) (x2 : Int32) (x3 : Int32) (x4 : Int32) (μ : jM) : Option (Int32 × jM) :=
  jbd (jsi μ a0 0 (0 : Int32)) (fun m1 => (if (f_X12_in x1.toInt64 (0 : Int64) (3 : Int64)) = (0 : Int32) then some (((-1 : Int32), m1)) else (if x2 ≤ (6 : Int32) then jbd (jcl (f_X12_begins a0 m1) (fun m8 => jcl (jloop (fun (s : Int32 × Int32 × jM) => f_X12_sheet_L49 a0 x1 x2 x3 x4 s.1 s.2.1 s.2.2) jfu (((10000 : Int32), (0 : Int32), m8))) (fun w35 => jcl2 (f_X12_ends a0 ((if x1 = (3 : Int32) then (-3 : Int32) else w35.1)) w35.2) (fun v41 m42 => some ((v41, m42)))))) (fun k5 => (if (3 : Int32) ≤ x1 then k5 else (if (0 : Int32) ≤ x2 then k5 else some (((-2 : Int32), m1))))) else some (((-1 : Int32), m1)))))
set_option maxHeartbeats 4000000 in
set_option maxRecDepth 100000 in
theorem c_X12_sheet {l : Launch} {G : jG} {L : jL} (hL : jOKL L) {a0 : Nat} {x1 : Int32} {x2 : Int32} {x3 : Int32} {x4 : Int32} (ka0 : jK L a0 12) {μ μ' : jM} {r : Int32} (h : f_X12_sheet a0 x1 x2 x3 x4 μ = some ((r, μ'))) : jCt l G L 7 yX12_sheet cX12_sheet 9 (some .int) [.ref (L.2.2 a0), .int x1, .int x2, .int x3, .int x4] μ (some (.int r)) μ' := by
  refine jCt_of (by decide) (Nat.le_of_ble_eq_true rfl) (fun X hC hX hR => ?_)
  subst hX
  have hC : jC X G cX12_sheet 9 RX12 (some .int) := hC
  unfold f_X12_sheet at h
  show jJ X G 9 L 0 0 (jQM X G L (some (.int r)) μ' 0 0) 0 [(0, .ref (L.2.2 a0)), (1, .int x1), (2, .int x2), (3, .int x3), (4, .int x4)] [] μ
  refine j_aload_n (pc := 0) hC 0 0 dX12_sheet_0 rfl rfl ?_
  refine j_iconst (pc := 1) hC (0 : Int32) dX12_sheet_1 (by decide) ?_
  obtain ⟨m1, e2, h⟩ := jbd_ex h
  refine jpi_12 (pc := 2) hC 0 (by decide) rfl kf_X12_1 dX12_sheet_2 rfl (by decide) ka0 e2 ?_
  refine j_iload_n (pc := 5) hC 1 1 dX12_sheet_5 rfl rfl ?_
  refine j_i2l (pc := 6) hC dX12_sheet_6 ?_
  refine j_lconst (pc := 7) hC (0 : Int64) dX12_sheet_7 (by decide) ?_
  refine j_ldc2 (pc := 8) hC dX12_sheet_8 kl_X12_184 ?_
  refine j_si (pc := 11) hC hR [.long x1.toInt64, .long (0 : Int64), .long (3 : Int64)] iy_X12_in km_X12_21 dX12_sheet_11 rfl (by decide) (c_X12_in hL  rfl) (by decide) (Nat.le_of_ble_eq_true rfl) rfl ?_
  refine j_if_eq (pc := 14) hC 23 dX12_sheet_14 (by decide) (fun c3 => ?_) (fun c3 => ?_)
  · rw [if_pos c3] at h
    refine j_iconst (pc := 23) hC (-1 : Int32) dX12_sheet_23 (by decide) ?_
    obtain ⟨rfl, rfl⟩ := Prod.mk.inj (Option.some.inj h)
    exact j_iret (pc := 24) hC dX12_sheet_24 rfl
  · rw [if_neg c3] at h
    refine j_iload_n (pc := 17) hC 2 2 dX12_sheet_17 rfl rfl ?_
    refine j_bipush (pc := 18) hC (6 : Int32) dX12_sheet_18 (by decide) ?_
    refine j_icmp_le (pc := 20) hC 25 dX12_sheet_20 (by decide) (fun c4 => ?_) (fun c4 => ?_)
    · rw [if_pos c4] at h
      refine j_iload_n (pc := 25) hC 1 1 dX12_sheet_25 rfl rfl ?_
      refine j_iconst (pc := 26) hC (3 : Int32) dX12_sheet_26 (by decide) ?_
      obtain ⟨k5, e7, h⟩ := jbd_ex h
      have q6 : k5 = some ((r, μ')) → jJ X G 9 L 0 0 (jQM X G L (some (.int r)) μ' 0 0) 37 [(0, .ref (L.2.2 a0)), (1, .int x1), (2, .int x2), (3, .int x3), (4, .int x4)] [] m1 := by
        intro h
        rw [e7] at h
        refine j_aload_n (pc := 37) hC 0 0 dX12_sheet_37 rfl rfl ?_
        obtain ⟨m8, e9, h⟩ := jcl_some h
        refine j_vv (pc := 38) hC hR [] iy_X12_begins (q := (RX12, TX12, 40)) (ci := 12) rfl rfl (by decide) km_X12_170 dX12_sheet_38 rfl (by decide) ka0 (c_X12_begins hL ka0 e9) (by decide) (Nat.le_of_ble_eq_true rfl) rfl ?_
        refine j_sipush (pc := 41) hC (10000 : Int32) dX12_sheet_41 (by decide) ?_
        refine j_istore (pc := 44) hC [(5, .int (10000 : Int32)), (0, .ref (L.2.2 a0)), (1, .int x1), (2, .int x2), (3, .int x3), (4, .int x4)] dX12_sheet_44 (by decide) rfl rfl ?_
        refine j_iconst (pc := 46) hC (0 : Int32) dX12_sheet_46 (by decide) ?_
        refine j_istore (pc := 47) hC [(6, .int (0 : Int32)), (5, .int (10000 : Int32)), (0, .ref (L.2.2 a0)), (1, .int x1), (2, .int x2), (3, .int x3), (4, .int x4)] dX12_sheet_47 (by decide) rfl rfl ?_
        obtain ⟨w35, hw36, h⟩ := jcl_some h
        refine j_lv [2, 3, 4, 5, 6, 1, 0] rfl ?_
        refine j_loop (step := (fun (s : Int32 × Int32 × jM) => f_X12_sheet_L49 a0 x1 x2 x3 x4 s.1 s.2.1 s.2.2)) (P := (fun (s : Int32 × Int32 × jM) => jJ X G 9 L 0 0 (jQM X G L (some (.int r)) μ' 0 0) 49 [(0, .ref (L.2.2 a0)), (1, .int x1), (2, .int x2), (3, .int x3), (4, .int x4), (5, .int s.1), (6, .int s.2.1)] [] s.2.2)) (R := (fun (e : Int32 × jM) => jJ X G 9 L 0 0 (jQM X G L (some (.int r)) μ' 0 0) 135 [(0, .ref (L.2.2 a0)), (1, .int x1), (5, .int e.1)] [] e.2)) ?_ jfu (((10000 : Int32), (0 : Int32), m8)) w35 hw36 ?_
        · intro s37 o h hk
          obtain ⟨u10, u11, m12⟩ := s37
          change f_X12_sheet_L49 a0 x1 x2 x3 x4 u10 u11 m12 = some o at h
          unfold f_X12_sheet_L49 at h
          show jJ X G 9 L 0 0 (jQM X G L (some (.int r)) μ' 0 0) 49 [(0, .ref (L.2.2 a0)), (1, .int x1), (2, .int x2), (3, .int x3), (4, .int x4), (5, .int u10), (6, .int u11)] [] m12
          refine j_iload (pc := 49) hC 6 dX12_sheet_49 rfl ?_
          refine j_bipush (pc := 51) hC (6 : Int32) dX12_sheet_51 (by decide) ?_
          refine j_icmp_ge (pc := 53) hC 135 dX12_sheet_53 (by decide) (fun c13 => ?_) (fun c13 => ?_)
          · rw [if_pos c13] at h
            obtain rfl := Option.some.inj h
            have hk : jJ X G 9 L 0 0 (jQM X G L (some (.int r)) μ' 0 0) 135 [(0, .ref (L.2.2 a0)), (1, .int x1), (5, .int u10)] [] m12 := hk
            exact j_lv [0, 1, 5] rfl hk
          · rw [if_neg c13] at h
            refine j_iload_n (pc := 56) hC 3 3 dX12_sheet_56 rfl rfl ?_
            refine j_iload (pc := 57) hC 6 dX12_sheet_57 rfl ?_
            refine j_iload (pc := 59) hC 4 dX12_sheet_59 rfl ?_
            refine j_imul (pc := 61) hC dX12_sheet_61 ?_
            refine j_iadd (pc := 62) hC dX12_sheet_62 ?_
            refine j_istore (pc := 63) hC [(7, .int (x3 + (u11 * x4))), (0, .ref (L.2.2 a0)), (1, .int x1), (2, .int x2), (3, .int x3), (4, .int x4), (5, .int u10), (6, .int u11)] dX12_sheet_63 (by decide) rfl rfl ?_
            refine j_iload_n (pc := 65) hC 1 2 dX12_sheet_65 rfl rfl ?_
            obtain ⟨k15, e17, h⟩ := jbd_ex h
            have q16 : ∀ (t14 : Int32), k15 t14 = some o → jJ X G 9 L 0 0 (jQM X G L (some (.int r)) μ' 0 0) 88 [(0, .ref (L.2.2 a0)), (1, .int x1), (2, .int x2), (3, .int x3), (4, .int x4), (5, .int u10), (6, .int u11)] [.int t14] m12 := by
              intro t14 h
              rw [e17] at h
              try dsimp only at h
              refine j_istore (pc := 88) hC [(8, .int t14), (0, .ref (L.2.2 a0)), (1, .int x1), (2, .int x2), (3, .int x3), (4, .int x4), (5, .int u10), (6, .int u11)] dX12_sheet_88 (by decide) rfl rfl ?_
              refine j_aload_n (pc := 90) hC 0 1 dX12_sheet_90 rfl rfl ?_
              refine jgr_12 (pc := 91) hC 8 (by decide) rfl kf_X12_60 dX12_sheet_91 ka0 (ly_12_8 hL ka0).1 ?_
              refine j_iload (pc := 94) hC 7 dX12_sheet_94 rfl ?_
              refine j_iload_n (pc := 96) hC 1 2 dX12_sheet_96 rfl rfl ?_
              refine j_iconst (pc := 97) hC (3 : Int32) dX12_sheet_97 (by decide) ?_
              obtain ⟨k19, e21, h⟩ := jbd_ex h
              have q20 : ∀ (t18 : Int32), k19 t18 = some o → jJ X G 9 L 0 0 (jQM X G L (some (.int r)) μ' 0 0) 116 [(0, .ref (L.2.2 a0)), (1, .int x1), (2, .int x2), (3, .int x3), (4, .int x4), (5, .int u10), (6, .int u11)] [.int t18, .int u11, .ref (L.2.2 (a0 + 3))] m12 := by
                intro t18 h
                rw [e21] at h
                try dsimp only at h
                obtain ⟨i22, h⟩ := jin_some h
                obtain ⟨m23, e24, h⟩ := jbd_ex h
                refine j_iast (pc := 116) hC dX12_sheet_116 (ly_12_8 hL ka0).2.1 (ly_12_8 hL ka0).2.2 i22 e24 ?_
                refine j_iload (pc := 117) hC 5 dX12_sheet_117 rfl ?_
                refine j_aload_n (pc := 119) hC 0 0 dX12_sheet_119 rfl rfl ?_
                refine jgr_12 (pc := 120) hC 8 (by decide) rfl kf_X12_60 dX12_sheet_120 ka0 (ly_12_8 hL ka0).1 ?_
                refine j_iload (pc := 123) hC 6 dX12_sheet_123 rfl ?_
                obtain ⟨i25, v26, e27, h⟩ := jrd_some h
                refine j_iald (pc := 125) hC dX12_sheet_125 (ly_12_8 hL ka0).2.1 (ly_12_8 hL ka0).2.2 i25 e27 ?_
                refine j_iadd (pc := 126) hC dX12_sheet_126 ?_
                refine j_istore (pc := 127) hC [(5, .int (u10 + v26)), (0, .ref (L.2.2 a0)), (1, .int x1), (2, .int x2), (3, .int x3), (4, .int x4), (6, .int u11)] dX12_sheet_127 (by decide) rfl rfl ?_
                refine j_iinc (pc := 129) hC 6 (u11 + (1 : Int32)) [(6, .int (u11 + (1 : Int32))), (5, .int (u10 + v26)), (0, .ref (L.2.2 a0)), (1, .int x1), (2, .int x2), (3, .int x3), (4, .int x4)] dX12_sheet_129 rfl rfl (by decide) rfl ?_
                refine j_goto (pc := 132) hC 49 dX12_sheet_132 (by decide) ?_
                obtain rfl := Option.some.inj h
                have hk : jJ X G 9 L 0 0 (jQM X G L (some (.int r)) μ' 0 0) 49 [(0, .ref (L.2.2 a0)), (1, .int x1), (2, .int x2), (3, .int x3), (4, .int x4), (5, .int (u10 + v26)), (6, .int (u11 + (1 : Int32)))] [] m23 := hk
                exact j_lv [2, 3, 4, 5, 6, 1, 0] rfl hk
              obtain ⟨k28, e30, h⟩ := jbd_ex h
              have q29 : k28 = some o → jJ X G 9 L 0 0 (jQM X G L (some (.int r)) μ' 0 0) 107 [(0, .ref (L.2.2 a0)), (1, .int x1), (2, .int x2), (3, .int x3), (4, .int x4), (5, .int u10), (6, .int u11)] [.int u11, .ref (L.2.2 (a0 + 3))] m12 := by
                intro h
                rw [e30] at h
                refine j_iconst (pc := 107) hC (0 : Int32) dX12_sheet_107 (by decide) ?_
                refine j_goto (pc := 108) hC 116 dX12_sheet_108 (by decide) ?_
                exact j_lv [0, 1, 2, 3, 4, 5, 6] rfl (q20 _ h)
              refine j_icmp_eq (pc := 98) hC 107 dX12_sheet_98 (by decide) (fun c31 => ?_) (fun c31 => ?_)
              · rw [if_pos c31] at h
                exact j_lv [1, 2, 3, 4, 5, 6, 7] rfl (q29 h)
              · rw [if_neg c31] at h
                refine j_iload (pc := 101) hC 7 dX12_sheet_101 rfl ?_
                refine j_iload_n (pc := 103) hC 2 3 dX12_sheet_103 rfl rfl ?_
                refine j_icmp_lt (pc := 104) hC 111 dX12_sheet_104 (by decide) (fun c32 => ?_) (fun c32 => ?_)
                · rw [if_pos c32] at h
                  refine j_iload (pc := 111) hC 0 dX12_sheet_111 rfl ?_
                  refine j_si (pc := 113) hC hR [.int t14] iy_X12_put km_X12_191 dX12_sheet_113 rfl (by decide) (c_X12_put hL  rfl) (by decide) (Nat.le_of_ble_eq_true rfl) rfl ?_
                  exact j_lv [1, 2, 3, 4, 5, 6, 7] rfl (q20 _ h)
                · rw [if_neg c32] at h
                  exact j_lv [1, 2, 3, 4, 5, 6, 7] rfl (q29 h)
            refine j_if_ne (pc := 66) hC 75 dX12_sheet_66 (by decide) (fun c33 => ?_) (fun c33 => ?_)
            · rw [if_neg c33] at h
              refine j_iload_n (pc := 75) hC 1 2 dX12_sheet_75 rfl rfl ?_
              refine j_iconst (pc := 76) hC (1 : Int32) dX12_sheet_76 (by decide) ?_
              refine j_icmp_ne (pc := 77) hC 86 dX12_sheet_77 (by decide) (fun c34 => ?_) (fun c34 => ?_)
              · rw [if_neg c34] at h
                refine j_iload (pc := 86) hC 0 dX12_sheet_86 rfl ?_
                exact j_lv [1, 2, 3, 4, 5, 6, 7] rfl (q16 _ h)
              · rw [if_pos c34] at h
                refine j_iload (pc := 80) hC 0 dX12_sheet_80 rfl ?_
                refine j_i2s (pc := 82) hC dX12_sheet_82 ?_
                refine j_goto (pc := 83) hC 88 dX12_sheet_83 (by decide) ?_
                exact j_lv [1, 2, 3, 4, 5, 6, 7] rfl (q16 _ h)
            · rw [if_pos c33] at h
              refine j_iload (pc := 69) hC 0 dX12_sheet_69 rfl ?_
              refine j_i2b (pc := 71) hC dX12_sheet_71 ?_
              refine j_goto (pc := 72) hC 88 dX12_sheet_72 (by decide) ?_
              exact j_lv [1, 2, 3, 4, 5, 6, 7] rfl (q16 _ h)
        · obtain ⟨z38, m39⟩ := w35
          try dsimp only at h
          show jJ X G 9 L 0 0 (jQM X G L (some (.int r)) μ' 0 0) 135 [(0, .ref (L.2.2 a0)), (1, .int x1), (5, .int z38)] [] m39
          refine j_aload_n (pc := 135) hC 0 0 dX12_sheet_135 rfl rfl ?_
          refine j_iload_n (pc := 136) hC 1 1 dX12_sheet_136 rfl rfl ?_
          refine j_iconst (pc := 137) hC (3 : Int32) dX12_sheet_137 (by decide) ?_
          refine jmg (B := jJ X G 9 L 0 0 (jQM X G L (some (.int r)) μ' 0 0) 148 [(0, .ref (L.2.2 a0)), (1, .int x1), (5, .int z38)] [.int ((if x1 = (3 : Int32) then (-3 : Int32) else z38)), .ref (L.2.2 a0)] m39) (fun hj => ?_) ?_
          · refine j_icmp_ne (pc := 138) hC 146 dX12_sheet_138 (by decide) (fun c40 => ?_) (fun c40 => ?_)
            · rw [if_neg c40] at hj
              refine j_iload (pc := 146) hC 2 dX12_sheet_146 rfl ?_
              exact hj
            · rw [if_pos c40] at hj
              refine j_bipush (pc := 141) hC (-3 : Int32) dX12_sheet_141 (by decide) ?_
              refine j_goto (pc := 143) hC 148 dX12_sheet_143 (by decide) ?_
              exact hj
          obtain ⟨v41, m42, e43, h⟩ := jcl2_some h
          refine j_vi (pc := 148) hC hR [.int ((if x1 = (3 : Int32) then (-3 : Int32) else z38))] iy_X12_ends (q := (RX12, TX12, 40)) (ci := 12) rfl rfl (by decide) km_X12_195 dX12_sheet_148 rfl (by decide) ka0 (c_X12_ends hL ka0 e43) (by decide) (Nat.le_of_ble_eq_true rfl) rfl ?_
          obtain ⟨rfl, rfl⟩ := Prod.mk.inj (Option.some.inj h)
          exact j_iret (pc := 151) hC dX12_sheet_151 rfl
      refine j_icmp_ge (pc := 27) hC 37 dX12_sheet_27 (by decide) (fun c44 => ?_) (fun c44 => ?_)
      · rw [if_pos c44] at h
        exact j_lv [0, 1, 2, 3, 4] rfl (q6 h)
      · rw [if_neg c44] at h
        refine j_iload_n (pc := 30) hC 2 2 dX12_sheet_30 rfl rfl ?_
        refine j_if_ge (pc := 31) hC 37 dX12_sheet_31 (by decide) (fun c45 => ?_) (fun c45 => ?_)
        · rw [if_pos c45] at h
          exact j_lv [0, 1, 2, 3, 4] rfl (q6 h)
        · rw [if_neg c45] at h
          refine j_bipush (pc := 34) hC (-2 : Int32) dX12_sheet_34 (by decide) ?_
          obtain ⟨rfl, rfl⟩ := Prod.mk.inj (Option.some.inj h)
          exact j_iret (pc := 36) hC dX12_sheet_36 rfl
    · rw [if_neg c4] at h
      refine j_iconst (pc := 23) hC (-1 : Int32) dX12_sheet_23 (by decide) ?_
      obtain ⟨rfl, rfl⟩ := Prod.mk.inj (Option.some.inj h)
      exact j_iret (pc := 24) hC dX12_sheet_24 rfl
theorem dX12_isVar_0 : decode cX12_isVar 0 = .ok (.iload_n 0, 1) := by decide +kernel
theorem dX12_isVar_1 : decode cX12_isVar 1 = .ok (.i2l, 1) := by decide +kernel
theorem dX12_isVar_2 : decode cX12_isVar 2 = .ok (.lconst 0, 1) := by decide +kernel
theorem dX12_isVar_3 : decode cX12_isVar 3 = .ok (.ldc2_w 182, 3) := by decide +kernel
theorem dX12_isVar_6 : decode cX12_isVar 6 = .ok (.invokestatic 21, 3) := by decide +kernel
theorem dX12_isVar_9 : decode cX12_isVar 9 = .ok (.ireturn, 1) := by decide +kernel
def f_X12_isVar (x0 : Int32) : Int32 :=
  (f_X12_in x0.toInt64 (0 : Int64) (4 : Int64)) &&& 1
set_option maxHeartbeats 4000000 in
set_option maxRecDepth 100000 in
theorem c_X12_isVar {l : Launch} {G : jG} {L : jL} (hL : jOKL L) {x0 : Int32}  {μ : jM} {r : Int32} (h : f_X12_isVar x0 = r) : jCt l G L 4 yX12_isVar cX12_isVar 1 (some .boolean) [.int x0] μ (some (.int r)) μ := by
  refine jCt_of (by decide) (Nat.le_of_ble_eq_true rfl) (fun X hC hX hR => ?_)
  subst hX
  have hC : jC X G cX12_isVar 1 RX12 (some .boolean) := hC
  unfold f_X12_isVar at h
  show jJ X G 1 L 0 0 (jQM X G L (some (.int r)) μ 0 0) 0 [(0, .int x0)] [] μ
  refine j_iload_n (pc := 0) hC 0 0 dX12_isVar_0 rfl rfl ?_
  refine j_i2l (pc := 1) hC dX12_isVar_1 ?_
  refine j_lconst (pc := 2) hC (0 : Int64) dX12_isVar_2 (by decide) ?_
  refine j_ldc2 (pc := 3) hC dX12_isVar_3 kl_X12_182 ?_
  refine j_si (pc := 6) hC hR [.long x0.toInt64, .long (0 : Int64), .long (4 : Int64)] iy_X12_in km_X12_21 dX12_isVar_6 rfl (by decide) (c_X12_in hL  rfl) (by decide) (Nat.le_of_ble_eq_true rfl) rfl ?_
  subst h
  exact j_bret (pc := 9) hC dX12_isVar_9 rfl (j_nz _)
theorem dX12_isValue_0 : decode cX12_isValue 0 = .ok (.iload_n 0, 1) := by decide +kernel
theorem dX12_isValue_1 : decode cX12_isValue 1 = .ok (.i2l, 1) := by decide +kernel
theorem dX12_isValue_2 : decode cX12_isValue 2 = .ok (.lconst 0, 1) := by decide +kernel
theorem dX12_isValue_3 : decode cX12_isValue 3 = .ok (.ldc2_w 125, 3) := by decide +kernel
theorem dX12_isValue_6 : decode cX12_isValue 6 = .ok (.invokestatic 21, 3) := by decide +kernel
theorem dX12_isValue_9 : decode cX12_isValue 9 = .ok (.ireturn, 1) := by decide +kernel
def f_X12_isValue (x0 : Int32) : Int32 :=
  (f_X12_in x0.toInt64 (0 : Int64) (5 : Int64)) &&& 1
set_option maxHeartbeats 4000000 in
set_option maxRecDepth 100000 in
theorem c_X12_isValue {l : Launch} {G : jG} {L : jL} (hL : jOKL L) {x0 : Int32}  {μ : jM} {r : Int32} (h : f_X12_isValue x0 = r) : jCt l G L 4 yX12_isValue cX12_isValue 1 (some .boolean) [.int x0] μ (some (.int r)) μ := by
  refine jCt_of (by decide) (Nat.le_of_ble_eq_true rfl) (fun X hC hX hR => ?_)
  subst hX
  have hC : jC X G cX12_isValue 1 RX12 (some .boolean) := hC
  unfold f_X12_isValue at h
  show jJ X G 1 L 0 0 (jQM X G L (some (.int r)) μ 0 0) 0 [(0, .int x0)] [] μ
  refine j_iload_n (pc := 0) hC 0 0 dX12_isValue_0 rfl rfl ?_
  refine j_i2l (pc := 1) hC dX12_isValue_1 ?_
  refine j_lconst (pc := 2) hC (0 : Int64) dX12_isValue_2 (by decide) ?_
  refine j_ldc2 (pc := 3) hC dX12_isValue_3 kl_X12_125 ?_
  refine j_si (pc := 6) hC hR [.long x0.toInt64, .long (0 : Int64), .long (5 : Int64)] iy_X12_in km_X12_21 dX12_isValue_6 rfl (by decide) (c_X12_in hL  rfl) (by decide) (Nat.le_of_ble_eq_true rfl) rfl ?_
  subst h
  exact j_bret (pc := 9) hC dX12_isValue_9 rfl (j_nz _)
theorem dX12_setsOne_0 : decode cX12_setsOne 0 = .ok (.iload_n 1, 1) := by decide +kernel
theorem dX12_setsOne_1 : decode cX12_setsOne 1 = .ok (.i2l, 1) := by decide +kernel
theorem dX12_setsOne_2 : decode cX12_setsOne 2 = .ok (.lconst 0, 1) := by decide +kernel
theorem dX12_setsOne_3 : decode cX12_setsOne 3 = .ok (.ldc2_w 125, 3) := by decide +kernel
theorem dX12_setsOne_6 : decode cX12_setsOne 6 = .ok (.invokestatic 21, 3) := by decide +kernel
theorem dX12_setsOne_9 : decode cX12_setsOne 9 = .ok (.ifCond .eq 17, 3) := by decide +kernel
theorem dX12_setsOne_12 : decode cX12_setsOne 12 = .ok (.iload_n 2, 1) := by decide +kernel
theorem dX12_setsOne_13 : decode cX12_setsOne 13 = .ok (.i2l, 1) := by decide +kernel
theorem dX12_setsOne_14 : decode cX12_setsOne 14 = .ok (.ldc2_w 198, 3) := by decide +kernel
theorem dX12_setsOne_17 : decode cX12_setsOne 17 = .ok (.ldc2_w 200, 3) := by decide +kernel
theorem dX12_setsOne_20 : decode cX12_setsOne 20 = .ok (.invokestatic 21, 3) := by decide +kernel
theorem dX12_setsOne_23 : decode cX12_setsOne 23 = .ok (.ifCond .ne 5, 3) := by decide +kernel
theorem dX12_setsOne_26 : decode cX12_setsOne 26 = .ok (.iconst (-1), 1) := by decide +kernel
theorem dX12_setsOne_27 : decode cX12_setsOne 27 = .ok (.ireturn, 1) := by decide +kernel
theorem dX12_setsOne_28 : decode cX12_setsOne 28 = .ok (.aload_n 0, 1) := by decide +kernel
theorem dX12_setsOne_29 : decode cX12_setsOne 29 = .ok (.getfield 60, 3) := by decide +kernel
theorem dX12_setsOne_32 : decode cX12_setsOne 32 = .ok (.iload_n 1, 1) := by decide +kernel
theorem dX12_setsOne_33 : decode cX12_setsOne 33 = .ok (.iaload, 1) := by decide +kernel
theorem dX12_setsOne_34 : decode cX12_setsOne 34 = .ok (.istore_n 3, 1) := by decide +kernel
theorem dX12_setsOne_35 : decode cX12_setsOne 35 = .ok (.aload_n 0, 1) := by decide +kernel
theorem dX12_setsOne_36 : decode cX12_setsOne 36 = .ok (.getfield 60, 3) := by decide +kernel
theorem dX12_setsOne_39 : decode cX12_setsOne 39 = .ok (.iload_n 1, 1) := by decide +kernel
theorem dX12_setsOne_40 : decode cX12_setsOne 40 = .ok (.iload_n 2, 1) := by decide +kernel
theorem dX12_setsOne_41 : decode cX12_setsOne 41 = .ok (.iastore, 1) := by decide +kernel
theorem dX12_setsOne_42 : decode cX12_setsOne 42 = .ok (.sipush 1000, 3) := by decide +kernel
theorem dX12_setsOne_45 : decode cX12_setsOne 45 = .ok (.iload_n 3, 1) := by decide +kernel
theorem dX12_setsOne_46 : decode cX12_setsOne 46 = .ok (.iadd, 1) := by decide +kernel
theorem dX12_setsOne_47 : decode cX12_setsOne 47 = .ok (.ireturn, 1) := by decide +kernel
def f_X12_setsOne (a0 : Nat) (x1 : Int32) (x2 : Int32) (μ : jM) : Option (Int32 × jM) :=
  (if (f_X12_in x1.toInt64 (0 : Int64) (5 : Int64)) = (0 : Int32) then some (((-1 : Int32), μ)) else (if (f_X12_in x2.toInt64 (-999 : Int64) (999 : Int64)) = (0 : Int32) then some (((-1 : Int32), μ)) else jrd (μ.1 (a0 + 3)) x1 2074 (fun v4 => jin x1 2074 (jbd (jsi μ (a0 + 3) x1.toNatClampNeg x2) (fun m7 => some (((1000 : Int32) + v4, m7)))))))
set_option maxHeartbeats 4000000 in
set_option maxRecDepth 100000 in
theorem c_X12_setsOne {l : Launch} {G : jG} {L : jL} (hL : jOKL L) {a0 : Nat} {x1 : Int32} {x2 : Int32} (ka0 : jK L a0 12) {μ μ' : jM} {r : Int32} (h : f_X12_setsOne a0 x1 x2 μ = some ((r, μ'))) : jCt l G L 4 yX12_setsOne cX12_setsOne 4 (some .int) [.ref (L.2.2 a0), .int x1, .int x2] μ (some (.int r)) μ' := by
  refine jCt_of (by decide) (Nat.le_of_ble_eq_true rfl) (fun X hC hX hR => ?_)
  subst hX
  have hC : jC X G cX12_setsOne 4 RX12 (some .int) := hC
  unfold f_X12_setsOne at h
  show jJ X G 4 L 0 0 (jQM X G L (some (.int r)) μ' 0 0) 0 [(0, .ref (L.2.2 a0)), (1, .int x1), (2, .int x2)] [] μ
  refine j_iload_n (pc := 0) hC 1 1 dX12_setsOne_0 rfl rfl ?_
  refine j_i2l (pc := 1) hC dX12_setsOne_1 ?_
  refine j_lconst (pc := 2) hC (0 : Int64) dX12_setsOne_2 (by decide) ?_
  refine j_ldc2 (pc := 3) hC dX12_setsOne_3 kl_X12_125 ?_
  refine j_si (pc := 6) hC hR [.long x1.toInt64, .long (0 : Int64), .long (5 : Int64)] iy_X12_in km_X12_21 dX12_setsOne_6 rfl (by decide) (c_X12_in hL  rfl) (by decide) (Nat.le_of_ble_eq_true rfl) rfl ?_
  refine j_if_eq (pc := 9) hC 26 dX12_setsOne_9 (by decide) (fun c1 => ?_) (fun c1 => ?_)
  · rw [if_pos c1] at h
    refine j_iconst (pc := 26) hC (-1 : Int32) dX12_setsOne_26 (by decide) ?_
    obtain ⟨rfl, rfl⟩ := Prod.mk.inj (Option.some.inj h)
    exact j_iret (pc := 27) hC dX12_setsOne_27 rfl
  · rw [if_neg c1] at h
    refine j_iload_n (pc := 12) hC 2 2 dX12_setsOne_12 rfl rfl ?_
    refine j_i2l (pc := 13) hC dX12_setsOne_13 ?_
    refine j_ldc2 (pc := 14) hC dX12_setsOne_14 kl_X12_198 ?_
    refine j_ldc2 (pc := 17) hC dX12_setsOne_17 kl_X12_200 ?_
    refine j_si (pc := 20) hC hR [.long x2.toInt64, .long (-999 : Int64), .long (999 : Int64)] iy_X12_in km_X12_21 dX12_setsOne_20 rfl (by decide) (c_X12_in hL  rfl) (by decide) (Nat.le_of_ble_eq_true rfl) rfl ?_
    refine j_if_ne (pc := 23) hC 28 dX12_setsOne_23 (by decide) (fun c2 => ?_) (fun c2 => ?_)
    · rw [if_neg c2] at h
      refine j_aload_n (pc := 28) hC 0 0 dX12_setsOne_28 rfl rfl ?_
      refine jgr_12 (pc := 29) hC 8 (by decide) rfl kf_X12_60 dX12_setsOne_29 ka0 (ly_12_8 hL ka0).1 ?_
      refine j_iload_n (pc := 32) hC 1 1 dX12_setsOne_32 rfl rfl ?_
      obtain ⟨i3, v4, e5, h⟩ := jrd_some h
      refine j_iald (pc := 33) hC dX12_setsOne_33 (ly_12_8 hL ka0).2.1 (ly_12_8 hL ka0).2.2 i3 e5 ?_
      refine j_istore_n (pc := 34) hC 3 [(3, .int v4), (0, .ref (L.2.2 a0)), (1, .int x1), (2, .int x2)] dX12_setsOne_34 rfl (by decide) rfl rfl ?_
      refine j_aload_n (pc := 35) hC 0 1 dX12_setsOne_35 rfl rfl ?_
      refine jgr_12 (pc := 36) hC 8 (by decide) rfl kf_X12_60 dX12_setsOne_36 ka0 (ly_12_8 hL ka0).1 ?_
      refine j_iload_n (pc := 39) hC 1 2 dX12_setsOne_39 rfl rfl ?_
      refine j_iload_n (pc := 40) hC 2 3 dX12_setsOne_40 rfl rfl ?_
      obtain ⟨i6, h⟩ := jin_some h
      obtain ⟨m7, e8, h⟩ := jbd_ex h
      refine j_iast (pc := 41) hC dX12_setsOne_41 (ly_12_8 hL ka0).2.1 (ly_12_8 hL ka0).2.2 i6 e8 ?_
      refine j_sipush (pc := 42) hC (1000 : Int32) dX12_setsOne_42 (by decide) ?_
      refine j_iload_n (pc := 45) hC 3 0 dX12_setsOne_45 rfl rfl ?_
      refine j_iadd (pc := 46) hC dX12_setsOne_46 ?_
      obtain ⟨rfl, rfl⟩ := Prod.mk.inj (Option.some.inj h)
      exact j_iret (pc := 47) hC dX12_setsOne_47 rfl
    · rw [if_pos c2] at h
      refine j_iconst (pc := 26) hC (-1 : Int32) dX12_setsOne_26 (by decide) ?_
      obtain ⟨rfl, rfl⟩ := Prod.mk.inj (Option.some.inj h)
      exact j_iret (pc := 27) hC dX12_setsOne_27 rfl
theorem dX12_addsOne_0 : decode cX12_addsOne 0 = .ok (.iload_n 1, 1) := by decide +kernel
theorem dX12_addsOne_1 : decode cX12_addsOne 1 = .ok (.i2l, 1) := by decide +kernel
theorem dX12_addsOne_2 : decode cX12_addsOne 2 = .ok (.lconst 0, 1) := by decide +kernel
theorem dX12_addsOne_3 : decode cX12_addsOne 3 = .ok (.ldc2_w 125, 3) := by decide +kernel
theorem dX12_addsOne_6 : decode cX12_addsOne 6 = .ok (.invokestatic 21, 3) := by decide +kernel
theorem dX12_addsOne_9 : decode cX12_addsOne 9 = .ok (.ifCond .ne 5, 3) := by decide +kernel
theorem dX12_addsOne_12 : decode cX12_addsOne 12 = .ok (.iconst (-1), 1) := by decide +kernel
theorem dX12_addsOne_13 : decode cX12_addsOne 13 = .ok (.ireturn, 1) := by decide +kernel
theorem dX12_addsOne_14 : decode cX12_addsOne 14 = .ok (.aload_n 0, 1) := by decide +kernel
theorem dX12_addsOne_15 : decode cX12_addsOne 15 = .ok (.getfield 60, 3) := by decide +kernel
theorem dX12_addsOne_18 : decode cX12_addsOne 18 = .ok (.iload_n 1, 1) := by decide +kernel
theorem dX12_addsOne_19 : decode cX12_addsOne 19 = .ok (.iaload, 1) := by decide +kernel
theorem dX12_addsOne_20 : decode cX12_addsOne 20 = .ok (.i2l, 1) := by decide +kernel
theorem dX12_addsOne_21 : decode cX12_addsOne 21 = .ok (.iload_n 2, 1) := by decide +kernel
theorem dX12_addsOne_22 : decode cX12_addsOne 22 = .ok (.i2l, 1) := by decide +kernel
theorem dX12_addsOne_23 : decode cX12_addsOne 23 = .ok (.ladd, 1) := by decide +kernel
theorem dX12_addsOne_24 : decode cX12_addsOne 24 = .ok (.lstore_n 3, 1) := by decide +kernel
theorem dX12_addsOne_25 : decode cX12_addsOne 25 = .ok (.lload_n 3, 1) := by decide +kernel
theorem dX12_addsOne_26 : decode cX12_addsOne 26 = .ok (.ldc2_w 198, 3) := by decide +kernel
theorem dX12_addsOne_29 : decode cX12_addsOne 29 = .ok (.ldc2_w 200, 3) := by decide +kernel
theorem dX12_addsOne_32 : decode cX12_addsOne 32 = .ok (.invokestatic 21, 3) := by decide +kernel
theorem dX12_addsOne_35 : decode cX12_addsOne 35 = .ok (.ifCond .ne 6, 3) := by decide +kernel
theorem dX12_addsOne_38 : decode cX12_addsOne 38 = .ok (.bipush (-2), 2) := by decide +kernel
theorem dX12_addsOne_40 : decode cX12_addsOne 40 = .ok (.ireturn, 1) := by decide +kernel
theorem dX12_addsOne_41 : decode cX12_addsOne 41 = .ok (.aload_n 0, 1) := by decide +kernel
theorem dX12_addsOne_42 : decode cX12_addsOne 42 = .ok (.getfield 60, 3) := by decide +kernel
theorem dX12_addsOne_45 : decode cX12_addsOne 45 = .ok (.iload_n 1, 1) := by decide +kernel
theorem dX12_addsOne_46 : decode cX12_addsOne 46 = .ok (.lload_n 3, 1) := by decide +kernel
theorem dX12_addsOne_47 : decode cX12_addsOne 47 = .ok (.l2i, 1) := by decide +kernel
theorem dX12_addsOne_48 : decode cX12_addsOne 48 = .ok (.iastore, 1) := by decide +kernel
theorem dX12_addsOne_49 : decode cX12_addsOne 49 = .ok (.sipush 1000, 3) := by decide +kernel
theorem dX12_addsOne_52 : decode cX12_addsOne 52 = .ok (.aload_n 0, 1) := by decide +kernel
theorem dX12_addsOne_53 : decode cX12_addsOne 53 = .ok (.getfield 60, 3) := by decide +kernel
theorem dX12_addsOne_56 : decode cX12_addsOne 56 = .ok (.iload_n 1, 1) := by decide +kernel
theorem dX12_addsOne_57 : decode cX12_addsOne 57 = .ok (.iaload, 1) := by decide +kernel
theorem dX12_addsOne_58 : decode cX12_addsOne 58 = .ok (.iadd, 1) := by decide +kernel
theorem dX12_addsOne_59 : decode cX12_addsOne 59 = .ok (.ireturn, 1) := by decide +kernel
def f_X12_addsOne (a0 : Nat) (x1 : Int32) (x2 : Int32) (μ : jM) : Option (Int32 × jM) :=
  (if (f_X12_in x1.toInt64 (0 : Int64) (5 : Int64)) = (0 : Int32) then some (((-1 : Int32), μ)) else jrd (μ.1 (a0 + 3)) x1 2074 (fun v3 => jbd (v3.toInt64 + x2.toInt64 : Int64) (fun v5 => (if (f_X12_in v5 (-999 : Int64) (999 : Int64)) = (0 : Int32) then some (((-2 : Int32), μ)) else jin x1 2074 (jbd (jsi μ (a0 + 3) x1.toNatClampNeg v5.toInt32) (fun m9 => jrd (m9.1 (a0 + 3)) x1 2074 (fun v12 => some (((1000 : Int32) + v12, m9)))))))))
set_option maxHeartbeats 4000000 in
set_option maxRecDepth 100000 in
theorem c_X12_addsOne {l : Launch} {G : jG} {L : jL} (hL : jOKL L) {a0 : Nat} {x1 : Int32} {x2 : Int32} (ka0 : jK L a0 12) {μ μ' : jM} {r : Int32} (h : f_X12_addsOne a0 x1 x2 μ = some ((r, μ'))) : jCt l G L 4 yX12_addsOne cX12_addsOne 5 (some .int) [.ref (L.2.2 a0), .int x1, .int x2] μ (some (.int r)) μ' := by
  refine jCt_of (by decide) (Nat.le_of_ble_eq_true rfl) (fun X hC hX hR => ?_)
  subst hX
  have hC : jC X G cX12_addsOne 5 RX12 (some .int) := hC
  unfold f_X12_addsOne at h
  show jJ X G 5 L 0 0 (jQM X G L (some (.int r)) μ' 0 0) 0 [(0, .ref (L.2.2 a0)), (1, .int x1), (2, .int x2)] [] μ
  refine j_iload_n (pc := 0) hC 1 1 dX12_addsOne_0 rfl rfl ?_
  refine j_i2l (pc := 1) hC dX12_addsOne_1 ?_
  refine j_lconst (pc := 2) hC (0 : Int64) dX12_addsOne_2 (by decide) ?_
  refine j_ldc2 (pc := 3) hC dX12_addsOne_3 kl_X12_125 ?_
  refine j_si (pc := 6) hC hR [.long x1.toInt64, .long (0 : Int64), .long (5 : Int64)] iy_X12_in km_X12_21 dX12_addsOne_6 rfl (by decide) (c_X12_in hL  rfl) (by decide) (Nat.le_of_ble_eq_true rfl) rfl ?_
  refine j_if_ne (pc := 9) hC 14 dX12_addsOne_9 (by decide) (fun c1 => ?_) (fun c1 => ?_)
  · rw [if_neg c1] at h
    refine j_aload_n (pc := 14) hC 0 0 dX12_addsOne_14 rfl rfl ?_
    refine jgr_12 (pc := 15) hC 8 (by decide) rfl kf_X12_60 dX12_addsOne_15 ka0 (ly_12_8 hL ka0).1 ?_
    refine j_iload_n (pc := 18) hC 1 1 dX12_addsOne_18 rfl rfl ?_
    obtain ⟨i2, v3, e4, h⟩ := jrd_some h
    refine j_iald (pc := 19) hC dX12_addsOne_19 (ly_12_8 hL ka0).2.1 (ly_12_8 hL ka0).2.2 i2 e4 ?_
    refine j_i2l (pc := 20) hC dX12_addsOne_20 ?_
    refine j_iload_n (pc := 21) hC 2 2 dX12_addsOne_21 rfl rfl ?_
    refine j_i2l (pc := 22) hC dX12_addsOne_22 ?_
    refine j_ladd (pc := 23) hC dX12_addsOne_23 ?_
    obtain ⟨v5, e6, h⟩ := jbd_ex h
    refine j_lstore_n (pc := 24) hC 3 [(3, .long v5), (0, .ref (L.2.2 a0)), (1, .int x1), (2, .int x2)] dX12_addsOne_24 rfl (by decide) e6 rfl ?_
    refine j_lload_n (pc := 25) hC 3 0 dX12_addsOne_25 rfl rfl ?_
    refine j_ldc2 (pc := 26) hC dX12_addsOne_26 kl_X12_198 ?_
    refine j_ldc2 (pc := 29) hC dX12_addsOne_29 kl_X12_200 ?_
    refine j_si (pc := 32) hC hR [.long v5, .long (-999 : Int64), .long (999 : Int64)] iy_X12_in km_X12_21 dX12_addsOne_32 rfl (by decide) (c_X12_in hL  rfl) (by decide) (Nat.le_of_ble_eq_true rfl) rfl ?_
    refine j_if_ne (pc := 35) hC 41 dX12_addsOne_35 (by decide) (fun c7 => ?_) (fun c7 => ?_)
    · rw [if_neg c7] at h
      refine j_aload_n (pc := 41) hC 0 1 dX12_addsOne_41 rfl rfl ?_
      refine jgr_12 (pc := 42) hC 8 (by decide) rfl kf_X12_60 dX12_addsOne_42 ka0 (ly_12_8 hL ka0).1 ?_
      refine j_iload_n (pc := 45) hC 1 2 dX12_addsOne_45 rfl rfl ?_
      refine j_lload_n (pc := 46) hC 3 0 dX12_addsOne_46 rfl rfl ?_
      refine j_l2i (pc := 47) hC dX12_addsOne_47 ?_
      obtain ⟨i8, h⟩ := jin_some h
      obtain ⟨m9, e10, h⟩ := jbd_ex h
      refine j_iast (pc := 48) hC dX12_addsOne_48 (ly_12_8 hL ka0).2.1 (ly_12_8 hL ka0).2.2 i8 e10 ?_
      refine j_sipush (pc := 49) hC (1000 : Int32) dX12_addsOne_49 (by decide) ?_
      refine j_aload_n (pc := 52) hC 0 1 dX12_addsOne_52 rfl rfl ?_
      refine jgr_12 (pc := 53) hC 8 (by decide) rfl kf_X12_60 dX12_addsOne_53 ka0 (ly_12_8 hL ka0).1 ?_
      refine j_iload_n (pc := 56) hC 1 2 dX12_addsOne_56 rfl rfl ?_
      obtain ⟨i11, v12, e13, h⟩ := jrd_some h
      refine j_iald (pc := 57) hC dX12_addsOne_57 (ly_12_8 hL ka0).2.1 (ly_12_8 hL ka0).2.2 i11 e13 ?_
      refine j_iadd (pc := 58) hC dX12_addsOne_58 ?_
      obtain ⟨rfl, rfl⟩ := Prod.mk.inj (Option.some.inj h)
      exact j_iret (pc := 59) hC dX12_addsOne_59 rfl
    · rw [if_pos c7] at h
      refine j_bipush (pc := 38) hC (-2 : Int32) dX12_addsOne_38 (by decide) ?_
      obtain ⟨rfl, rfl⟩ := Prod.mk.inj (Option.some.inj h)
      exact j_iret (pc := 40) hC dX12_addsOne_40 rfl
  · rw [if_pos c1] at h
    refine j_iconst (pc := 12) hC (-1 : Int32) dX12_addsOne_12 (by decide) ?_
    obtain ⟨rfl, rfl⟩ := Prod.mk.inj (Option.some.inj h)
    exact j_iret (pc := 13) hC dX12_addsOne_13 rfl
theorem dX12_removesOne_0 : decode cX12_removesOne 0 = .ok (.iload_n 1, 1) := by decide +kernel
theorem dX12_removesOne_1 : decode cX12_removesOne 1 = .ok (.invokestatic 202, 3) := by decide +kernel
theorem dX12_removesOne_4 : decode cX12_removesOne 4 = .ok (.ifCond .eq 10, 3) := by decide +kernel
theorem dX12_removesOne_7 : decode cX12_removesOne 7 = .ok (.iload_n 2, 1) := by decide +kernel
theorem dX12_removesOne_8 : decode cX12_removesOne 8 = .ok (.invokestatic 205, 3) := by decide +kernel
theorem dX12_removesOne_11 : decode cX12_removesOne 11 = .ok (.ifCond .ne 5, 3) := by decide +kernel
theorem dX12_removesOne_14 : decode cX12_removesOne 14 = .ok (.iconst (-1), 1) := by decide +kernel
theorem dX12_removesOne_15 : decode cX12_removesOne 15 = .ok (.ireturn, 1) := by decide +kernel
theorem dX12_removesOne_16 : decode cX12_removesOne 16 = .ok (.aload_n 0, 1) := by decide +kernel
theorem dX12_removesOne_17 : decode cX12_removesOne 17 = .ok (.getfield 60, 3) := by decide +kernel
theorem dX12_removesOne_20 : decode cX12_removesOne 20 = .ok (.bipush 6, 2) := by decide +kernel
theorem dX12_removesOne_22 : decode cX12_removesOne 22 = .ok (.iload_n 1, 1) := by decide +kernel
theorem dX12_removesOne_23 : decode cX12_removesOne 23 = .ok (.iadd, 1) := by decide +kernel
theorem dX12_removesOne_24 : decode cX12_removesOne 24 = .ok (.iaload, 1) := by decide +kernel
theorem dX12_removesOne_25 : decode cX12_removesOne 25 = .ok (.iload_n 2, 1) := by decide +kernel
theorem dX12_removesOne_26 : decode cX12_removesOne 26 = .ok (.invokestatic 208, 3) := by decide +kernel
theorem dX12_removesOne_29 : decode cX12_removesOne 29 = .ok (.ifCond .ne 6, 3) := by decide +kernel
theorem dX12_removesOne_32 : decode cX12_removesOne 32 = .ok (.bipush (-2), 2) := by decide +kernel
theorem dX12_removesOne_34 : decode cX12_removesOne 34 = .ok (.ireturn, 1) := by decide +kernel
theorem dX12_removesOne_35 : decode cX12_removesOne 35 = .ok (.aload_n 0, 1) := by decide +kernel
theorem dX12_removesOne_36 : decode cX12_removesOne 36 = .ok (.getfield 60, 3) := by decide +kernel
theorem dX12_removesOne_39 : decode cX12_removesOne 39 = .ok (.bipush 6, 2) := by decide +kernel
theorem dX12_removesOne_41 : decode cX12_removesOne 41 = .ok (.iload_n 1, 1) := by decide +kernel
theorem dX12_removesOne_42 : decode cX12_removesOne 42 = .ok (.iadd, 1) := by decide +kernel
theorem dX12_removesOne_43 : decode cX12_removesOne 43 = .ok (.iaload, 1) := by decide +kernel
theorem dX12_removesOne_44 : decode cX12_removesOne 44 = .ok (.iconst 1, 1) := by decide +kernel
theorem dX12_removesOne_45 : decode cX12_removesOne 45 = .ok (.iload_n 2, 1) := by decide +kernel
theorem dX12_removesOne_46 : decode cX12_removesOne 46 = .ok (.ishl, 1) := by decide +kernel
theorem dX12_removesOne_47 : decode cX12_removesOne 47 = .ok (.if_icmp .ne 6, 3) := by decide +kernel
theorem dX12_removesOne_50 : decode cX12_removesOne 50 = .ok (.bipush (-3), 2) := by decide +kernel
theorem dX12_removesOne_52 : decode cX12_removesOne 52 = .ok (.ireturn, 1) := by decide +kernel
theorem dX12_removesOne_53 : decode cX12_removesOne 53 = .ok (.aload_n 0, 1) := by decide +kernel
theorem dX12_removesOne_54 : decode cX12_removesOne 54 = .ok (.getfield 60, 3) := by decide +kernel
theorem dX12_removesOne_57 : decode cX12_removesOne 57 = .ok (.bipush 6, 2) := by decide +kernel
theorem dX12_removesOne_59 : decode cX12_removesOne 59 = .ok (.iload_n 1, 1) := by decide +kernel
theorem dX12_removesOne_60 : decode cX12_removesOne 60 = .ok (.iadd, 1) := by decide +kernel
theorem dX12_removesOne_61 : decode cX12_removesOne 61 = .ok (.dup2, 1) := by decide +kernel
theorem dX12_removesOne_62 : decode cX12_removesOne 62 = .ok (.iaload, 1) := by decide +kernel
theorem dX12_removesOne_63 : decode cX12_removesOne 63 = .ok (.iconst 1, 1) := by decide +kernel
theorem dX12_removesOne_64 : decode cX12_removesOne 64 = .ok (.iload_n 2, 1) := by decide +kernel
theorem dX12_removesOne_65 : decode cX12_removesOne 65 = .ok (.ishl, 1) := by decide +kernel
theorem dX12_removesOne_66 : decode cX12_removesOne 66 = .ok (.isub, 1) := by decide +kernel
theorem dX12_removesOne_67 : decode cX12_removesOne 67 = .ok (.iastore, 1) := by decide +kernel
theorem dX12_removesOne_68 : decode cX12_removesOne 68 = .ok (.aload_n 0, 1) := by decide +kernel
theorem dX12_removesOne_69 : decode cX12_removesOne 69 = .ok (.getfield 60, 3) := by decide +kernel
theorem dX12_removesOne_72 : decode cX12_removesOne 72 = .ok (.bipush 6, 2) := by decide +kernel
theorem dX12_removesOne_74 : decode cX12_removesOne 74 = .ok (.iload_n 1, 1) := by decide +kernel
theorem dX12_removesOne_75 : decode cX12_removesOne 75 = .ok (.iadd, 1) := by decide +kernel
theorem dX12_removesOne_76 : decode cX12_removesOne 76 = .ok (.iaload, 1) := by decide +kernel
theorem dX12_removesOne_77 : decode cX12_removesOne 77 = .ok (.invokestatic 211, 3) := by decide +kernel
theorem dX12_removesOne_80 : decode cX12_removesOne 80 = .ok (.ireturn, 1) := by decide +kernel
def f_X12_removesOne (a0 : Nat) (x1 : Int32) (x2 : Int32) (μ : jM) : Option (Int32 × jM) :=
  (if (f_X12_isVar x1) = (0 : Int32) then some (((-1 : Int32), μ)) else (if (f_X12_isValue x2) = (0 : Int32) then some (((-1 : Int32), μ)) else jrd (μ.1 (a0 + 3)) ((6 : Int32) + x1) 2074 (fun v4 => (if (f_X12_has v4 x2) = (0 : Int32) then some (((-2 : Int32), μ)) else jrd (μ.1 (a0 + 3)) ((6 : Int32) + x1) 2074 (fun v8 => (if v8 = ((1 : Int32) <<< (x2 &&& 31)) then some (((-3 : Int32), μ)) else jrd (μ.1 (a0 + 3)) ((6 : Int32) + x1) 2074 (fun v12 => jin ((6 : Int32) + x1) 2074 (jbd (jsi μ (a0 + 3) ((6 : Int32) + x1).toNatClampNeg (v12 - ((1 : Int32) <<< (x2 &&& 31)))) (fun m15 => jrd (m15.1 (a0 + 3)) ((6 : Int32) + x1) 2074 (fun v18 => jcl (f_X12_bitsOf v18) (fun v20 => some ((v20, m15)))))))))))))
set_option maxHeartbeats 4000000 in
set_option maxRecDepth 100000 in
theorem c_X12_removesOne {l : Launch} {G : jG} {L : jL} (hL : jOKL L) {a0 : Nat} {x1 : Int32} {x2 : Int32} (ka0 : jK L a0 12) {μ μ' : jM} {r : Int32} (h : f_X12_removesOne a0 x1 x2 μ = some ((r, μ'))) : jCt l G L 5 yX12_removesOne cX12_removesOne 3 (some .int) [.ref (L.2.2 a0), .int x1, .int x2] μ (some (.int r)) μ' := by
  refine jCt_of (by decide) (Nat.le_of_ble_eq_true rfl) (fun X hC hX hR => ?_)
  subst hX
  have hC : jC X G cX12_removesOne 3 RX12 (some .int) := hC
  unfold f_X12_removesOne at h
  show jJ X G 3 L 0 0 (jQM X G L (some (.int r)) μ' 0 0) 0 [(0, .ref (L.2.2 a0)), (1, .int x1), (2, .int x2)] [] μ
  refine j_iload_n (pc := 0) hC 1 1 dX12_removesOne_0 rfl rfl ?_
  refine j_si (pc := 1) hC hR [.int x1] iy_X12_isVar km_X12_202 dX12_removesOne_1 rfl (by decide) (c_X12_isVar hL  rfl) (by decide) (Nat.le_of_ble_eq_true rfl) rfl ?_
  refine j_if_eq (pc := 4) hC 14 dX12_removesOne_4 (by decide) (fun c1 => ?_) (fun c1 => ?_)
  · rw [if_pos c1] at h
    refine j_iconst (pc := 14) hC (-1 : Int32) dX12_removesOne_14 (by decide) ?_
    obtain ⟨rfl, rfl⟩ := Prod.mk.inj (Option.some.inj h)
    exact j_iret (pc := 15) hC dX12_removesOne_15 rfl
  · rw [if_neg c1] at h
    refine j_iload_n (pc := 7) hC 2 2 dX12_removesOne_7 rfl rfl ?_
    refine j_si (pc := 8) hC hR [.int x2] iy_X12_isValue km_X12_205 dX12_removesOne_8 rfl (by decide) (c_X12_isValue hL  rfl) (by decide) (Nat.le_of_ble_eq_true rfl) rfl ?_
    refine j_if_ne (pc := 11) hC 16 dX12_removesOne_11 (by decide) (fun c2 => ?_) (fun c2 => ?_)
    · rw [if_neg c2] at h
      refine j_aload_n (pc := 16) hC 0 0 dX12_removesOne_16 rfl rfl ?_
      refine jgr_12 (pc := 17) hC 8 (by decide) rfl kf_X12_60 dX12_removesOne_17 ka0 (ly_12_8 hL ka0).1 ?_
      refine j_bipush (pc := 20) hC (6 : Int32) dX12_removesOne_20 (by decide) ?_
      refine j_iload_n (pc := 22) hC 1 1 dX12_removesOne_22 rfl rfl ?_
      refine j_iadd (pc := 23) hC dX12_removesOne_23 ?_
      obtain ⟨i3, v4, e5, h⟩ := jrd_some h
      refine j_iald (pc := 24) hC dX12_removesOne_24 (ly_12_8 hL ka0).2.1 (ly_12_8 hL ka0).2.2 i3 e5 ?_
      refine j_iload_n (pc := 25) hC 2 2 dX12_removesOne_25 rfl rfl ?_
      refine j_si (pc := 26) hC hR [.int v4, .int x2] iy_X12_has km_X12_208 dX12_removesOne_26 rfl (by decide) (c_X12_has hL  rfl) (by decide) (Nat.le_of_ble_eq_true rfl) rfl ?_
      refine j_if_ne (pc := 29) hC 35 dX12_removesOne_29 (by decide) (fun c6 => ?_) (fun c6 => ?_)
      · rw [if_neg c6] at h
        refine j_aload_n (pc := 35) hC 0 0 dX12_removesOne_35 rfl rfl ?_
        refine jgr_12 (pc := 36) hC 8 (by decide) rfl kf_X12_60 dX12_removesOne_36 ka0 (ly_12_8 hL ka0).1 ?_
        refine j_bipush (pc := 39) hC (6 : Int32) dX12_removesOne_39 (by decide) ?_
        refine j_iload_n (pc := 41) hC 1 1 dX12_removesOne_41 rfl rfl ?_
        refine j_iadd (pc := 42) hC dX12_removesOne_42 ?_
        obtain ⟨i7, v8, e9, h⟩ := jrd_some h
        refine j_iald (pc := 43) hC dX12_removesOne_43 (ly_12_8 hL ka0).2.1 (ly_12_8 hL ka0).2.2 i7 e9 ?_
        refine j_iconst (pc := 44) hC (1 : Int32) dX12_removesOne_44 (by decide) ?_
        refine j_iload_n (pc := 45) hC 2 2 dX12_removesOne_45 rfl rfl ?_
        refine j_ishl (pc := 46) hC dX12_removesOne_46 ?_
        refine j_icmp_ne (pc := 47) hC 53 dX12_removesOne_47 (by decide) (fun c10 => ?_) (fun c10 => ?_)
        · rw [if_neg c10] at h
          refine j_aload_n (pc := 53) hC 0 0 dX12_removesOne_53 rfl rfl ?_
          refine jgr_12 (pc := 54) hC 8 (by decide) rfl kf_X12_60 dX12_removesOne_54 ka0 (ly_12_8 hL ka0).1 ?_
          refine j_bipush (pc := 57) hC (6 : Int32) dX12_removesOne_57 (by decide) ?_
          refine j_iload_n (pc := 59) hC 1 1 dX12_removesOne_59 rfl rfl ?_
          refine j_iadd (pc := 60) hC dX12_removesOne_60 ?_
          refine j_dup2 (pc := 61) hC dX12_removesOne_61 rfl rfl ?_
          obtain ⟨i11, v12, e13, h⟩ := jrd_some h
          refine j_iald (pc := 62) hC dX12_removesOne_62 (ly_12_8 hL ka0).2.1 (ly_12_8 hL ka0).2.2 i11 e13 ?_
          refine j_iconst (pc := 63) hC (1 : Int32) dX12_removesOne_63 (by decide) ?_
          refine j_iload_n (pc := 64) hC 2 2 dX12_removesOne_64 rfl rfl ?_
          refine j_ishl (pc := 65) hC dX12_removesOne_65 ?_
          refine j_isub (pc := 66) hC dX12_removesOne_66 ?_
          obtain ⟨i14, h⟩ := jin_some h
          obtain ⟨m15, e16, h⟩ := jbd_ex h
          refine j_iast (pc := 67) hC dX12_removesOne_67 (ly_12_8 hL ka0).2.1 (ly_12_8 hL ka0).2.2 i14 e16 ?_
          refine j_aload_n (pc := 68) hC 0 0 dX12_removesOne_68 rfl rfl ?_
          refine jgr_12 (pc := 69) hC 8 (by decide) rfl kf_X12_60 dX12_removesOne_69 ka0 (ly_12_8 hL ka0).1 ?_
          refine j_bipush (pc := 72) hC (6 : Int32) dX12_removesOne_72 (by decide) ?_
          refine j_iload_n (pc := 74) hC 1 1 dX12_removesOne_74 rfl rfl ?_
          refine j_iadd (pc := 75) hC dX12_removesOne_75 ?_
          obtain ⟨i17, v18, e19, h⟩ := jrd_some h
          refine j_iald (pc := 76) hC dX12_removesOne_76 (ly_12_8 hL ka0).2.1 (ly_12_8 hL ka0).2.2 i17 e19 ?_
          obtain ⟨v20, e21, h⟩ := jcl_some h
          refine j_si (pc := 77) hC hR [.int v18] iy_X12_bitsOf km_X12_211 dX12_removesOne_77 rfl (by decide) (c_X12_bitsOf hL  e21) (by decide) (Nat.le_of_ble_eq_true rfl) rfl ?_
          obtain ⟨rfl, rfl⟩ := Prod.mk.inj (Option.some.inj h)
          exact j_iret (pc := 80) hC dX12_removesOne_80 rfl
        · rw [if_pos c10] at h
          refine j_bipush (pc := 50) hC (-3 : Int32) dX12_removesOne_50 (by decide) ?_
          obtain ⟨rfl, rfl⟩ := Prod.mk.inj (Option.some.inj h)
          exact j_iret (pc := 52) hC dX12_removesOne_52 rfl
      · rw [if_pos c6] at h
        refine j_bipush (pc := 32) hC (-2 : Int32) dX12_removesOne_32 (by decide) ?_
        obtain ⟨rfl, rfl⟩ := Prod.mk.inj (Option.some.inj h)
        exact j_iret (pc := 34) hC dX12_removesOne_34 rfl
    · rw [if_pos c2] at h
      refine j_iconst (pc := 14) hC (-1 : Int32) dX12_removesOne_14 (by decide) ?_
      obtain ⟨rfl, rfl⟩ := Prod.mk.inj (Option.some.inj h)
      exact j_iret (pc := 15) hC dX12_removesOne_15 rfl
