theorem dX0_init_0 : decode cX0_init 0 = .ok (.aload_n 0, 1) := by decide +kernel
theorem dX0_init_1 : decode cX0_init 1 = .ok (.invokespecial 3, 3) := by decide +kernel
theorem dX0_init_4 : decode cX0_init 4 = .ok (.aload_n 0, 1) := by decide +kernel
theorem dX0_init_5 : decode cX0_init 5 = .ok (.bipush 10, 2) := by decide +kernel
theorem dX0_init_7 : decode cX0_init 7 = .ok (.newarray .int, 2) := by decide +kernel
theorem dX0_init_9 : decode cX0_init 9 = .ok (.putfield 9, 3) := by decide +kernel
theorem dX0_init_12 : decode cX0_init 12 = .ok (.aload_n 0, 1) := by decide +kernel
theorem dX0_init_13 : decode cX0_init 13 = .ok (.bipush 10, 2) := by decide +kernel
theorem dX0_init_15 : decode cX0_init 15 = .ok (.newarray .int, 2) := by decide +kernel
theorem dX0_init_17 : decode cX0_init 17 = .ok (.putfield 15, 3) := by decide +kernel
theorem dX0_init_20 : decode cX0_init 20 = .ok (.aload_n 0, 1) := by decide +kernel
theorem dX0_init_21 : decode cX0_init 21 = .ok (.bipush 10, 2) := by decide +kernel
theorem dX0_init_23 : decode cX0_init 23 = .ok (.newarray .int, 2) := by decide +kernel
theorem dX0_init_25 : decode cX0_init 25 = .ok (.putfield 18, 3) := by decide +kernel
theorem dX0_init_28 : decode cX0_init 28 = .ok (.return_, 1) := by decide +kernel
theorem ob_X0 : Cond.methodLink RX0 3 Lib.objectInit ∈ tblG := tb_mem (by decide +kernel)
theorem yi_X0 : jMi yX0_init cX0_init 1 0 := ⟨tb_mem (by decide +kernel), tb_mem (by decide +kernel), ⟨by decide +kernel, by decide +kernel, by decide +kernel⟩, tb_mem (by decide +kernel), rfl⟩
def LX0 (m : Nat) : List jc := [(0, 0, [some (m + 1), some (m + 2), some (m + 3)]), (13, 10, []), (13, 10, []), (13, 10, [])]
set_option maxHeartbeats 8000000 in
set_option maxRecDepth 100000 in
theorem ci_X0 {l : Launch} {G : jG} {Z0 : List jc} {m : Nat} (hm : Z0.length = m) {ad : Nat → Nat} {cs : List Nat} (hz : zK (Z0 ++ [(0, 0, [none, none, none])]) cs) : jCI l G 2 yX0_init cX0_init 1 3 30 (Z0 ++ [(0, 0, [none, none, none])]) ad [.ref (ad (m + 0))] (fl cs) (Z0 ++ LX0 m) (fl (cs)) (cs) := by
  refine jCI_of (by decide) rfl (Nat.le_of_ble_eq_true rfl) (fun X hC hX hR h6 hname => ?_)
  subst hX
  have hC : jC X G cX0_init 1 RX0 none := hC
  rw [hlen (k := 1) hm rfl]
  have hA : ∀ a, a < m + 1 → ad a = ad a := fun _ _ => rfl
  show jJ X G 1 (jLf (Z0 ++ [(0, 0, [none, none, none])]) ad) 0 0 _ 0 [(0, .ref (ad (m + 0)))] [] (fl cs)
  refine j_aload_n (pc := 0) hC 0 0 dX0_init_0 rfl rfl ?_
  refine j_obj (pc := 1) hC ob_X0 dX0_init_1 (by rw [hR]; exact Nat.le_of_ble_eq_true rfl) (by rw [hR]; exact Nat.le_of_ble_eq_true rfl) ?_
  refine j_aload_n (pc := 4) hC 0 0 dX0_init_4 rfl rfl ?_
  refine j_bipush (pc := 5) hC (10 : Int32) dX0_init_5 (by decide) ?_
  refine j_newI (pc := 7) hC hz (n := m + 1) (N' := 10) (hlen (k := 1) hm rfl) dX0_init_7 (fl_1 hz (Nat.le_of_eq (hlen (k := 1) hm rfl))) (by decide) (by decide) (by decide) (by rw [hR]; exact Nat.le_of_ble_eq_true rfl) (by rw [hR]; exact Nat.le_of_ble_eq_true rfl) (fun ad1 h1 hz => ?_)
  show jJ X G 1 (jLf (Z0 ++ [(0, 0, [none, none, none]), (13, 10, [])]) ad1) 1 10 _ 9 [(0, .ref (ad (m + 0)))] [.ref (ad1 (m + 1)), .ref (ad (m + 0))] (fl (cs))
  have hA : ∀ a, a < m + 1 → ad1 a = ad a := fun a ha => (h1 a (Nat.lt_of_lt_of_le ha (by omega))).trans (hA a ha)
  rw [← h1 (m + 0) (by omega)]
  refine j_putR (pc := 9) hC hz hm (ci := 0) (i := 0) (b := m + 1) 0 tin0 tyX0 tyX0_ok nmX0 rfl (by decide) rfl (by decide) rfl rfl ⟨tyX0 0, tyX0_ok 0 (by decide), fun q => ⟨rfl, rfl⟩⟩ hname kf_X0_9 dX0_init_9 rfl rfl (Nat.le_of_ble_eq_true rfl) (by rw [hlen (k := 2) hm rfl]; omega) (T' := [(0, 0, [some (m + 1), none, none]), (13, 10, [])]) rfl (fun hz => ?_)
  refine j_aload_n (pc := 12) hC 0 0 dX0_init_12 rfl rfl ?_
  refine j_bipush (pc := 13) hC (10 : Int32) dX0_init_13 (by decide) ?_
  refine j_newI (pc := 15) hC hz (n := m + 2) (N' := 10) (hlen (k := 2) hm rfl) dX0_init_15 (fl_1 hz (Nat.le_of_eq (hlen (k := 2) hm rfl))) (by decide) (by decide) (by decide) (by rw [hR]; exact Nat.le_of_ble_eq_true rfl) (by rw [hR]; exact Nat.le_of_ble_eq_true rfl) (fun ad2 h1 hz => ?_)
  show jJ X G 1 (jLf (Z0 ++ [(0, 0, [some (m + 1), none, none]), (13, 10, []), (13, 10, [])]) ad2) 2 20 _ 17 [(0, .ref (ad1 (m + 0)))] [.ref (ad2 (m + 2)), .ref (ad1 (m + 0))] (fl (cs))
  have hA : ∀ a, a < m + 1 → ad2 a = ad a := fun a ha => (h1 a (Nat.lt_of_lt_of_le ha (by omega))).trans (hA a ha)
  rw [← h1 (m + 0) (by omega)]
  refine j_putR (pc := 17) hC hz hm (ci := 0) (i := 0) (b := m + 2) 1 tin0 tyX0 tyX0_ok nmX0 rfl (by decide) rfl (by decide) rfl rfl ⟨tyX0 1, tyX0_ok 1 (by decide), fun q => ⟨rfl, rfl⟩⟩ hname kf_X0_15 dX0_init_17 rfl rfl (Nat.le_of_ble_eq_true rfl) (by rw [hlen (k := 3) hm rfl]; omega) (T' := [(0, 0, [some (m + 1), some (m + 2), none]), (13, 10, []), (13, 10, [])]) rfl (fun hz => ?_)
  refine j_aload_n (pc := 20) hC 0 0 dX0_init_20 rfl rfl ?_
  refine j_bipush (pc := 21) hC (10 : Int32) dX0_init_21 (by decide) ?_
  refine j_newI (pc := 23) hC hz (n := m + 3) (N' := 10) (hlen (k := 3) hm rfl) dX0_init_23 (fl_1 hz (Nat.le_of_eq (hlen (k := 3) hm rfl))) (by decide) (by decide) (by decide) (by rw [hR]; exact Nat.le_of_ble_eq_true rfl) (by rw [hR]; exact Nat.le_of_ble_eq_true rfl) (fun ad3 h1 hz => ?_)
  show jJ X G 1 (jLf (Z0 ++ [(0, 0, [some (m + 1), some (m + 2), none]), (13, 10, []), (13, 10, []), (13, 10, [])]) ad3) 3 30 _ 25 [(0, .ref (ad2 (m + 0)))] [.ref (ad3 (m + 3)), .ref (ad2 (m + 0))] (fl (cs))
  have hA : ∀ a, a < m + 1 → ad3 a = ad a := fun a ha => (h1 a (Nat.lt_of_lt_of_le ha (by omega))).trans (hA a ha)
  rw [← h1 (m + 0) (by omega)]
  refine j_putR (pc := 25) hC hz hm (ci := 0) (i := 0) (b := m + 3) 2 tin0 tyX0 tyX0_ok nmX0 rfl (by decide) rfl (by decide) rfl rfl ⟨tyX0 2, tyX0_ok 2 (by decide), fun q => ⟨rfl, rfl⟩⟩ hname kf_X0_18 dX0_init_25 rfl rfl (Nat.le_of_ble_eq_true rfl) (by rw [hlen (k := 4) hm rfl]; omega) (T' := [(0, 0, [some (m + 1), some (m + 2), some (m + 3)]), (13, 10, []), (13, 10, []), (13, 10, [])]) rfl (fun hz => ?_)
  exact j_vretI (pc := 28) hC dX0_init_28 rfl hA hz rfl rfl
theorem dX2_init_0 : decode cX2_init 0 = .ok (.aload_n 0, 1) := by decide +kernel
theorem dX2_init_1 : decode cX2_init 1 = .ok (.invokespecial 3, 3) := by decide +kernel
theorem dX2_init_4 : decode cX2_init 4 = .ok (.aload_n 0, 1) := by decide +kernel
theorem dX2_init_5 : decode cX2_init 5 = .ok (.bipush 32, 2) := by decide +kernel
theorem dX2_init_7 : decode cX2_init 7 = .ok (.newarray .int, 2) := by decide +kernel
theorem dX2_init_9 : decode cX2_init 9 = .ok (.putfield 9, 3) := by decide +kernel
theorem dX2_init_12 : decode cX2_init 12 = .ok (.aload_n 0, 1) := by decide +kernel
theorem dX2_init_13 : decode cX2_init 13 = .ok (.aload_n 1, 1) := by decide +kernel
theorem dX2_init_14 : decode cX2_init 14 = .ok (.putfield 15, 3) := by decide +kernel
theorem dX2_init_17 : decode cX2_init 17 = .ok (.return_, 1) := by decide +kernel
theorem ob_X2 : Cond.methodLink RX2 3 Lib.objectInit ∈ tblG := tb_mem (by decide +kernel)
theorem yi_X2 : jMi yX2_init cX2_init 2 1 := ⟨tb_mem (by decide +kernel), tb_mem (by decide +kernel), ⟨by decide +kernel, by decide +kernel, by decide +kernel⟩, tb_mem (by decide +kernel), rfl⟩
def LX2 (m : Nat) (b1 : Nat) : List jc := [(2, 0, [some (m + 1), none, some (b1)]), (13, 32, [])]
set_option maxHeartbeats 8000000 in
set_option maxRecDepth 100000 in
theorem ci_X2 {l : Launch} {G : jG} {Z0 : List jc} {m : Nat} (hm : Z0.length = m) {ad : Nat → Nat} {cs : List Nat} (hz : zK (Z0 ++ [(2, 0, [none, none, none])]) cs) {b1 : Nat} (hb1 : b1 < m) : jCI l G 2 yX2_init cX2_init 2 1 32 (Z0 ++ [(2, 0, [none, none, none])]) ad [.ref (ad (m + 0)), .ref (ad b1)] (fl cs) (Z0 ++ LX2 m b1) (fl (cs)) (cs) := by
  refine jCI_of (by decide) rfl (Nat.le_of_ble_eq_true rfl) (fun X hC hX hR h6 hname => ?_)
  subst hX
  have hC : jC X G cX2_init 2 RX2 none := hC
  rw [hlen (k := 1) hm rfl]
  have hA : ∀ a, a < m + 1 → ad a = ad a := fun _ _ => rfl
  show jJ X G 2 (jLf (Z0 ++ [(2, 0, [none, none, none])]) ad) 0 0 _ 0 [(0, .ref (ad (m + 0))), (1, .ref (ad (b1)))] [] (fl cs)
  refine j_aload_n (pc := 0) hC 0 0 dX2_init_0 rfl rfl ?_
  refine j_obj (pc := 1) hC ob_X2 dX2_init_1 (by rw [hR]; exact Nat.le_of_ble_eq_true rfl) (by rw [hR]; exact Nat.le_of_ble_eq_true rfl) ?_
  refine j_aload_n (pc := 4) hC 0 0 dX2_init_4 rfl rfl ?_
  refine j_bipush (pc := 5) hC (32 : Int32) dX2_init_5 (by decide) ?_
  refine j_newI (pc := 7) hC hz (n := m + 1) (N' := 32) (hlen (k := 1) hm rfl) dX2_init_7 (fl_1 hz (Nat.le_of_eq (hlen (k := 1) hm rfl))) (by decide) (by decide) (by decide) (by rw [hR]; exact Nat.le_of_ble_eq_true rfl) (by rw [hR]; exact Nat.le_of_ble_eq_true rfl) (fun ad1 h1 hz => ?_)
  show jJ X G 2 (jLf (Z0 ++ [(2, 0, [none, none, none]), (13, 32, [])]) ad1) 1 32 _ 9 [(0, .ref (ad (m + 0))), (1, .ref (ad (b1)))] [.ref (ad1 (m + 1)), .ref (ad (m + 0))] (fl (cs))
  have hA : ∀ a, a < m + 1 → ad1 a = ad a := fun a ha => (h1 a (Nat.lt_of_lt_of_le ha (by omega))).trans (hA a ha)
  rw [← h1 (m + 0) (by omega)]
  rw [← h1 (b1) (by omega)]
  refine j_putR (pc := 9) hC hz hm (ci := 2) (i := 0) (b := m + 1) 0 tin2 tyX2 tyX2_ok nmX2 rfl (by decide) rfl (by decide) rfl rfl ⟨tyX2 0, tyX2_ok 0 (by decide), fun q => ⟨rfl, rfl⟩⟩ hname kf_X2_9 dX2_init_9 rfl rfl (Nat.le_of_ble_eq_true rfl) (by rw [hlen (k := 2) hm rfl]; omega) (T' := [(2, 0, [some (m + 1), none, none]), (13, 32, [])]) rfl (fun hz => ?_)
  refine j_aload_n (pc := 12) hC 0 0 dX2_init_12 rfl rfl ?_
  refine j_aload_n (pc := 13) hC 1 1 dX2_init_13 rfl rfl ?_
  refine j_putR (pc := 14) hC hz hm (ci := 2) (i := 0) (b := b1) 2 tin2 tyX2 tyX2_ok nmX2 rfl (by decide) rfl (by decide) rfl rfl ⟨tyX2 2, tyX2_ok 2 (by decide), fun q => ⟨rfl, rfl⟩⟩ hname kf_X2_15 dX2_init_14 rfl rfl (Nat.le_of_ble_eq_true rfl) (by rw [hlen (k := 2) hm rfl]; omega) (T' := [(2, 0, [some (m + 1), none, some (b1)]), (13, 32, [])]) rfl (fun hz => ?_)
  exact j_vretI (pc := 17) hC dX2_init_17 rfl hA hz rfl rfl
theorem dX3_init_0 : decode cX3_init 0 = .ok (.aload_n 0, 1) := by decide +kernel
theorem dX3_init_1 : decode cX3_init 1 = .ok (.invokespecial 3, 3) := by decide +kernel
theorem dX3_init_4 : decode cX3_init 4 = .ok (.aload_n 0, 1) := by decide +kernel
theorem dX3_init_5 : decode cX3_init 5 = .ok (.bipush 22, 2) := by decide +kernel
theorem dX3_init_7 : decode cX3_init 7 = .ok (.newarray .long, 2) := by decide +kernel
theorem dX3_init_9 : decode cX3_init 9 = .ok (.putfield 9, 3) := by decide +kernel
theorem dX3_init_12 : decode cX3_init 12 = .ok (.return_, 1) := by decide +kernel
theorem ob_X3 : Cond.methodLink RX3 3 Lib.objectInit ∈ tblG := tb_mem (by decide +kernel)
theorem yi_X3 : jMi yX3_init cX3_init 1 0 := ⟨tb_mem (by decide +kernel), tb_mem (by decide +kernel), ⟨by decide +kernel, by decide +kernel, by decide +kernel⟩, tb_mem (by decide +kernel), rfl⟩
def LX3 (m : Nat) : List jc := [(3, 0, [some (m + 1)]), (14, 22, [])]
set_option maxHeartbeats 8000000 in
set_option maxRecDepth 100000 in
theorem ci_X3 {l : Launch} {G : jG} {Z0 : List jc} {m : Nat} (hm : Z0.length = m) {ad : Nat → Nat} {cs : List Nat} (hz : zK (Z0 ++ [(3, 0, [none])]) cs) : jCI l G 2 yX3_init cX3_init 1 1 22 (Z0 ++ [(3, 0, [none])]) ad [.ref (ad (m + 0))] (fl cs) (Z0 ++ LX3 m) (fl (cs)) (cs) := by
  refine jCI_of (by decide) rfl (Nat.le_of_ble_eq_true rfl) (fun X hC hX hR h6 hname => ?_)
  subst hX
  have hC : jC X G cX3_init 1 RX3 none := hC
  rw [hlen (k := 1) hm rfl]
  have hA : ∀ a, a < m + 1 → ad a = ad a := fun _ _ => rfl
  show jJ X G 1 (jLf (Z0 ++ [(3, 0, [none])]) ad) 0 0 _ 0 [(0, .ref (ad (m + 0)))] [] (fl cs)
  refine j_aload_n (pc := 0) hC 0 0 dX3_init_0 rfl rfl ?_
  refine j_obj (pc := 1) hC ob_X3 dX3_init_1 (by rw [hR]; exact Nat.le_of_ble_eq_true rfl) (by rw [hR]; exact Nat.le_of_ble_eq_true rfl) ?_
  refine j_aload_n (pc := 4) hC 0 0 dX3_init_4 rfl rfl ?_
  refine j_bipush (pc := 5) hC (22 : Int32) dX3_init_5 (by decide) ?_
  refine j_newL (pc := 7) hC hz (n := m + 1) (N' := 22) (hlen (k := 1) hm rfl) dX3_init_7 fl_2 (by decide) (by decide) (by decide) (by rw [hR]; exact Nat.le_of_ble_eq_true rfl) (by rw [hR]; exact Nat.le_of_ble_eq_true rfl) (fun ad1 h1 hz => ?_)
  show jJ X G 1 (jLf (Z0 ++ [(3, 0, [none]), (14, 22, [])]) ad1) 1 22 _ 9 [(0, .ref (ad (m + 0)))] [.ref (ad1 (m + 1)), .ref (ad (m + 0))] (fl (cs))
  have hA : ∀ a, a < m + 1 → ad1 a = ad a := fun a ha => (h1 a (Nat.lt_of_lt_of_le ha (by omega))).trans (hA a ha)
  rw [← h1 (m + 0) (by omega)]
  refine j_putR (pc := 9) hC hz hm (ci := 3) (i := 0) (b := m + 1) 0 tin3 tyX3 tyX3_ok nmX3 rfl (by decide) rfl (by decide) rfl rfl ⟨tyX3 0, tyX3_ok 0 (by decide), fun q => ⟨rfl, rfl⟩⟩ hname kf_X3_9 dX3_init_9 rfl rfl (Nat.le_of_ble_eq_true rfl) (by rw [hlen (k := 2) hm rfl]; omega) (T' := [(3, 0, [some (m + 1)]), (14, 22, [])]) rfl (fun hz => ?_)
  exact j_vretI (pc := 12) hC dX3_init_12 rfl hA hz rfl rfl
theorem dX4_init_0 : decode cX4_init 0 = .ok (.aload_n 0, 1) := by decide +kernel
theorem dX4_init_1 : decode cX4_init 1 = .ok (.invokespecial 3, 3) := by decide +kernel
theorem dX4_init_4 : decode cX4_init 4 = .ok (.aload_n 0, 1) := by decide +kernel
theorem dX4_init_5 : decode cX4_init 5 = .ok (.iconst 4, 1) := by decide +kernel
theorem dX4_init_6 : decode cX4_init 6 = .ok (.newarray .int, 2) := by decide +kernel
theorem dX4_init_8 : decode cX4_init 8 = .ok (.putfield 11, 3) := by decide +kernel
theorem dX4_init_11 : decode cX4_init 11 = .ok (.aload_n 0, 1) := by decide +kernel
theorem dX4_init_12 : decode cX4_init 12 = .ok (.aload_n 1, 1) := by decide +kernel
theorem dX4_init_13 : decode cX4_init 13 = .ok (.putfield 15, 3) := by decide +kernel
theorem dX4_init_16 : decode cX4_init 16 = .ok (.aload_n 0, 1) := by decide +kernel
theorem dX4_init_17 : decode cX4_init 17 = .ok (.aload_n 2, 1) := by decide +kernel
theorem dX4_init_18 : decode cX4_init 18 = .ok (.putfield 19, 3) := by decide +kernel
theorem dX4_init_21 : decode cX4_init 21 = .ok (.aload_n 0, 1) := by decide +kernel
theorem dX4_init_22 : decode cX4_init 22 = .ok (.aload_n 3, 1) := by decide +kernel
theorem dX4_init_23 : decode cX4_init 23 = .ok (.putfield 23, 3) := by decide +kernel
theorem dX4_init_26 : decode cX4_init 26 = .ok (.return_, 1) := by decide +kernel
theorem ob_X4 : Cond.methodLink RX4 3 Lib.objectInit ∈ tblG := tb_mem (by decide +kernel)
theorem yi_X4 : jMi yX4_init cX4_init 4 3 := ⟨tb_mem (by decide +kernel), tb_mem (by decide +kernel), ⟨by decide +kernel, by decide +kernel, by decide +kernel⟩, tb_mem (by decide +kernel), rfl⟩
def LX4 (m : Nat) (b1 : Nat) (b2 : Nat) (b3 : Nat) : List jc := [(4, 0, [some (b1), some (b2), some (b3), some (m + 1)]), (13, 4, [])]
set_option maxHeartbeats 8000000 in
set_option maxRecDepth 100000 in
theorem ci_X4 {l : Launch} {G : jG} {Z0 : List jc} {m : Nat} (hm : Z0.length = m) {ad : Nat → Nat} {cs : List Nat} (hz : zK (Z0 ++ [(4, 0, [none, none, none, none])]) cs) {b1 : Nat} (hb1 : b1 < m) {b2 : Nat} (hb2 : b2 < m) {b3 : Nat} (hb3 : b3 < m) : jCI l G 2 yX4_init cX4_init 4 1 4 (Z0 ++ [(4, 0, [none, none, none, none])]) ad [.ref (ad (m + 0)), .ref (ad b1), .ref (ad b2), .ref (ad b3)] (fl cs) (Z0 ++ LX4 m b1 b2 b3) (fl (cs)) (cs) := by
  refine jCI_of (by decide) rfl (Nat.le_of_ble_eq_true rfl) (fun X hC hX hR h6 hname => ?_)
  subst hX
  have hC : jC X G cX4_init 4 RX4 none := hC
  rw [hlen (k := 1) hm rfl]
  have hA : ∀ a, a < m + 1 → ad a = ad a := fun _ _ => rfl
  show jJ X G 4 (jLf (Z0 ++ [(4, 0, [none, none, none, none])]) ad) 0 0 _ 0 [(0, .ref (ad (m + 0))), (1, .ref (ad (b1))), (2, .ref (ad (b2))), (3, .ref (ad (b3)))] [] (fl cs)
  refine j_aload_n (pc := 0) hC 0 0 dX4_init_0 rfl rfl ?_
  refine j_obj (pc := 1) hC ob_X4 dX4_init_1 (by rw [hR]; exact Nat.le_of_ble_eq_true rfl) (by rw [hR]; exact Nat.le_of_ble_eq_true rfl) ?_
  refine j_aload_n (pc := 4) hC 0 0 dX4_init_4 rfl rfl ?_
  refine j_iconst (pc := 5) hC (4 : Int32) dX4_init_5 (by decide) ?_
  refine j_newI (pc := 6) hC hz (n := m + 1) (N' := 4) (hlen (k := 1) hm rfl) dX4_init_6 (fl_1 hz (Nat.le_of_eq (hlen (k := 1) hm rfl))) (by decide) (by decide) (by decide) (by rw [hR]; exact Nat.le_of_ble_eq_true rfl) (by rw [hR]; exact Nat.le_of_ble_eq_true rfl) (fun ad1 h1 hz => ?_)
  show jJ X G 4 (jLf (Z0 ++ [(4, 0, [none, none, none, none]), (13, 4, [])]) ad1) 1 4 _ 8 [(0, .ref (ad (m + 0))), (1, .ref (ad (b1))), (2, .ref (ad (b2))), (3, .ref (ad (b3)))] [.ref (ad1 (m + 1)), .ref (ad (m + 0))] (fl (cs))
  have hA : ∀ a, a < m + 1 → ad1 a = ad a := fun a ha => (h1 a (Nat.lt_of_lt_of_le ha (by omega))).trans (hA a ha)
  rw [← h1 (m + 0) (by omega)]
  rw [← h1 (b1) (by omega)]
  rw [← h1 (b2) (by omega)]
  rw [← h1 (b3) (by omega)]
  refine j_putR (pc := 8) hC hz hm (ci := 4) (i := 0) (b := m + 1) 3 tin4 tyX4 tyX4_ok nmX4 rfl (by decide) rfl (by decide) rfl rfl ⟨tyX4 3, tyX4_ok 3 (by decide), fun q => ⟨rfl, rfl⟩⟩ hname kf_X4_11 dX4_init_8 rfl rfl (Nat.le_of_ble_eq_true rfl) (by rw [hlen (k := 2) hm rfl]; omega) (T' := [(4, 0, [none, none, none, some (m + 1)]), (13, 4, [])]) rfl (fun hz => ?_)
  refine j_aload_n (pc := 11) hC 0 0 dX4_init_11 rfl rfl ?_
  refine j_aload_n (pc := 12) hC 1 1 dX4_init_12 rfl rfl ?_
  refine j_putR (pc := 13) hC hz hm (ci := 4) (i := 0) (b := b1) 0 tin4 tyX4 tyX4_ok nmX4 rfl (by decide) rfl (by decide) rfl rfl ⟨tyX4 0, tyX4_ok 0 (by decide), fun q => ⟨rfl, rfl⟩⟩ hname kf_X4_15 dX4_init_13 rfl rfl (Nat.le_of_ble_eq_true rfl) (by rw [hlen (k := 2) hm rfl]; omega) (T' := [(4, 0, [some (b1), none, none, some (m + 1)]), (13, 4, [])]) rfl (fun hz => ?_)
  refine j_aload_n (pc := 16) hC 0 0 dX4_init_16 rfl rfl ?_
  refine j_aload_n (pc := 17) hC 2 2 dX4_init_17 rfl rfl ?_
  refine j_putR (pc := 18) hC hz hm (ci := 4) (i := 0) (b := b2) 1 tin4 tyX4 tyX4_ok nmX4 rfl (by decide) rfl (by decide) rfl rfl ⟨tyX4 1, tyX4_ok 1 (by decide), fun q => ⟨rfl, rfl⟩⟩ hname kf_X4_19 dX4_init_18 rfl rfl (Nat.le_of_ble_eq_true rfl) (by rw [hlen (k := 2) hm rfl]; omega) (T' := [(4, 0, [some (b1), some (b2), none, some (m + 1)]), (13, 4, [])]) rfl (fun hz => ?_)
  refine j_aload_n (pc := 21) hC 0 0 dX4_init_21 rfl rfl ?_
  refine j_aload_n (pc := 22) hC 3 3 dX4_init_22 rfl rfl ?_
  refine j_putR (pc := 23) hC hz hm (ci := 4) (i := 0) (b := b3) 2 tin4 tyX4 tyX4_ok nmX4 rfl (by decide) rfl (by decide) rfl rfl ⟨tyX4 2, tyX4_ok 2 (by decide), fun q => ⟨rfl, rfl⟩⟩ hname kf_X4_23 dX4_init_23 rfl rfl (Nat.le_of_ble_eq_true rfl) (by rw [hlen (k := 2) hm rfl]; omega) (T' := [(4, 0, [some (b1), some (b2), some (b3), some (m + 1)]), (13, 4, [])]) rfl (fun hz => ?_)
  exact j_vretI (pc := 26) hC dX4_init_26 rfl hA hz rfl rfl
theorem dX5_init_0 : decode cX5_init 0 = .ok (.aload_n 0, 1) := by decide +kernel
theorem dX5_init_1 : decode cX5_init 1 = .ok (.invokespecial 3, 3) := by decide +kernel
theorem dX5_init_4 : decode cX5_init 4 = .ok (.aload_n 0, 1) := by decide +kernel
theorem dX5_init_5 : decode cX5_init 5 = .ok (.iconst 5, 1) := by decide +kernel
theorem dX5_init_6 : decode cX5_init 6 = .ok (.iconst 5, 1) := by decide +kernel
theorem dX5_init_7 : decode cX5_init 7 = .ok (.multianewarray 9 2, 4) := by decide +kernel
theorem dX5_init_11 : decode cX5_init 11 = .ok (.putfield 11, 3) := by decide +kernel
theorem dX5_init_14 : decode cX5_init 14 = .ok (.aload_n 0, 1) := by decide +kernel
theorem dX5_init_15 : decode cX5_init 15 = .ok (.aload_n 1, 1) := by decide +kernel
theorem dX5_init_16 : decode cX5_init 16 = .ok (.putfield 16, 3) := by decide +kernel
theorem dX5_init_19 : decode cX5_init 19 = .ok (.aload_n 0, 1) := by decide +kernel
theorem dX5_init_20 : decode cX5_init 20 = .ok (.aload_n 2, 1) := by decide +kernel
theorem dX5_init_21 : decode cX5_init 21 = .ok (.putfield 20, 3) := by decide +kernel
theorem dX5_init_24 : decode cX5_init 24 = .ok (.return_, 1) := by decide +kernel
theorem ob_X5 : Cond.methodLink RX5 3 Lib.objectInit ∈ tblG := tb_mem (by decide +kernel)
theorem yi_X5 : jMi yX5_init cX5_init 3 2 := ⟨tb_mem (by decide +kernel), tb_mem (by decide +kernel), ⟨by decide +kernel, by decide +kernel, by decide +kernel⟩, tb_mem (by decide +kernel), rfl⟩
theorem cl_X5_9 : Cond.classLink RX5 9 "[[I" ∈ tblG := tb_mem (by decide +kernel)
def LX5 (m : Nat) (b1 : Nat) (b2 : Nat) : List jc := [(5, 0, [some (b1), some (b2), some (m + 1)]), (18, 5, [some (m + 2), some (m + 3), some (m + 4), some (m + 5), some (m + 6)]), (13, 5, []), (13, 5, []), (13, 5, []), (13, 5, []), (13, 5, [])]
set_option maxHeartbeats 8000000 in
set_option maxRecDepth 100000 in
theorem ci_X5 {l : Launch} {G : jG} {Z0 : List jc} {m : Nat} (hm : Z0.length = m) {ad : Nat → Nat} {cs : List Nat} (hz : zK (Z0 ++ [(5, 0, [none, none, none])]) cs) {b1 : Nat} (hb1 : b1 < m) {b2 : Nat} (hb2 : b2 < m) : jCI l G 2 yX5_init cX5_init 3 6 30 (Z0 ++ [(5, 0, [none, none, none])]) ad [.ref (ad (m + 0)), .ref (ad b1), .ref (ad b2)] (fl cs) (Z0 ++ LX5 m b1 b2) (fl (cs)) (cs) := by
  refine jCI_of (by decide) rfl (Nat.le_of_ble_eq_true rfl) (fun X hC hX hR h6 hname => ?_)
  subst hX
  have hC : jC X G cX5_init 3 RX5 none := hC
  rw [hlen (k := 1) hm rfl]
  have hA : ∀ a, a < m + 1 → ad a = ad a := fun _ _ => rfl
  show jJ X G 3 (jLf (Z0 ++ [(5, 0, [none, none, none])]) ad) 0 0 _ 0 [(0, .ref (ad (m + 0))), (1, .ref (ad (b1))), (2, .ref (ad (b2)))] [] (fl cs)
  refine j_aload_n (pc := 0) hC 0 0 dX5_init_0 rfl rfl ?_
  refine j_obj (pc := 1) hC ob_X5 dX5_init_1 (by rw [hR]; exact Nat.le_of_ble_eq_true rfl) (by rw [hR]; exact Nat.le_of_ble_eq_true rfl) ?_
  refine j_aload_n (pc := 4) hC 0 0 dX5_init_4 rfl rfl ?_
  refine j_iconst (pc := 5) hC (5 : Int32) dX5_init_5 (by decide) ?_
  refine j_iconst (pc := 6) hC (5 : Int32) dX5_init_6 (by decide) ?_
  refine j_mul (pc := 7) hC hz (n := m + 1) (hlen (k := 1) hm rfl) h6.2.2 cl_X5_9 dX5_init_7 (fun j => fl_1 hz (by rw [hlen (k := 1) hm rfl]; exact Nat.le_add_right _ _)) (by rw [hR]; exact Nat.le_of_ble_eq_true rfl) (by rw [hR]; exact Nat.le_of_ble_eq_true rfl) (fun ad1 h1 hz => ?_)
  show jJ X G 3 (jLf (Z0 ++ [(5, 0, [none, none, none]), (18, 5, [some (m + 2), some (m + 3), some (m + 4), some (m + 5), some (m + 6)]), (13, 5, []), (13, 5, []), (13, 5, []), (13, 5, []), (13, 5, [])]) ad1) 6 30 _ 11 [(0, .ref (ad (m + 0))), (1, .ref (ad (b1))), (2, .ref (ad (b2)))] [.ref (ad1 (m + 1)), .ref (ad (m + 0))] (fl (cs))
  have hA : ∀ a, a < m + 1 → ad1 a = ad a := fun a ha => (h1 a (Nat.lt_of_lt_of_le ha (by omega))).trans (hA a ha)
  rw [← h1 (m + 0) (by omega)]
  rw [← h1 (b1) (by omega)]
  rw [← h1 (b2) (by omega)]
  refine j_putR (pc := 11) hC hz hm (ci := 5) (i := 0) (b := m + 1) 2 tin5 tyX5 tyX5_ok nmX5 rfl (by decide) rfl (by decide) rfl rfl ⟨tyX5 2, tyX5_ok 2 (by decide), fun q => ⟨rfl, rfl⟩⟩ hname kf_X5_11 dX5_init_11 rfl rfl (Nat.le_of_ble_eq_true rfl) (by rw [hlen (k := 7) hm rfl]; omega) (T' := [(5, 0, [none, none, some (m + 1)]), (18, 5, [some (m + 2), some (m + 3), some (m + 4), some (m + 5), some (m + 6)]), (13, 5, []), (13, 5, []), (13, 5, []), (13, 5, []), (13, 5, [])]) rfl (fun hz => ?_)
  refine j_aload_n (pc := 14) hC 0 0 dX5_init_14 rfl rfl ?_
  refine j_aload_n (pc := 15) hC 1 1 dX5_init_15 rfl rfl ?_
  refine j_putR (pc := 16) hC hz hm (ci := 5) (i := 0) (b := b1) 0 tin5 tyX5 tyX5_ok nmX5 rfl (by decide) rfl (by decide) rfl rfl ⟨tyX5 0, tyX5_ok 0 (by decide), fun q => ⟨rfl, rfl⟩⟩ hname kf_X5_16 dX5_init_16 rfl rfl (Nat.le_of_ble_eq_true rfl) (by rw [hlen (k := 7) hm rfl]; omega) (T' := [(5, 0, [some (b1), none, some (m + 1)]), (18, 5, [some (m + 2), some (m + 3), some (m + 4), some (m + 5), some (m + 6)]), (13, 5, []), (13, 5, []), (13, 5, []), (13, 5, []), (13, 5, [])]) rfl (fun hz => ?_)
  refine j_aload_n (pc := 19) hC 0 0 dX5_init_19 rfl rfl ?_
  refine j_aload_n (pc := 20) hC 2 2 dX5_init_20 rfl rfl ?_
  refine j_putR (pc := 21) hC hz hm (ci := 5) (i := 0) (b := b2) 1 tin5 tyX5 tyX5_ok nmX5 rfl (by decide) rfl (by decide) rfl rfl ⟨tyX5 1, tyX5_ok 1 (by decide), fun q => ⟨rfl, rfl⟩⟩ hname kf_X5_20 dX5_init_21 rfl rfl (Nat.le_of_ble_eq_true rfl) (by rw [hlen (k := 7) hm rfl]; omega) (T' := [(5, 0, [some (b1), some (b2), some (m + 1)]), (18, 5, [some (m + 2), some (m + 3), some (m + 4), some (m + 5), some (m + 6)]), (13, 5, []), (13, 5, []), (13, 5, []), (13, 5, []), (13, 5, [])]) rfl (fun hz => ?_)
  exact j_vretI (pc := 24) hC dX5_init_24 rfl hA hz rfl rfl
theorem dX6_init_0 : decode cX6_init 0 = .ok (.aload_n 0, 1) := by decide +kernel
theorem dX6_init_1 : decode cX6_init 1 = .ok (.invokespecial 3, 3) := by decide +kernel
theorem dX6_init_4 : decode cX6_init 4 = .ok (.aload_n 0, 1) := by decide +kernel
theorem dX6_init_5 : decode cX6_init 5 = .ok (.iconst 5, 1) := by decide +kernel
theorem dX6_init_6 : decode cX6_init 6 = .ok (.newarray .int, 2) := by decide +kernel
theorem dX6_init_8 : decode cX6_init 8 = .ok (.putfield 9, 3) := by decide +kernel
theorem dX6_init_11 : decode cX6_init 11 = .ok (.return_, 1) := by decide +kernel
theorem ob_X6 : Cond.methodLink RX6 3 Lib.objectInit ∈ tblG := tb_mem (by decide +kernel)
theorem yi_X6 : jMi yX6_init cX6_init 1 0 := ⟨tb_mem (by decide +kernel), tb_mem (by decide +kernel), ⟨by decide +kernel, by decide +kernel, by decide +kernel⟩, tb_mem (by decide +kernel), rfl⟩
def LX6 (m : Nat) : List jc := [(6, 0, [some (m + 1)]), (13, 5, [])]
set_option maxHeartbeats 8000000 in
set_option maxRecDepth 100000 in
theorem ci_X6 {l : Launch} {G : jG} {Z0 : List jc} {m : Nat} (hm : Z0.length = m) {ad : Nat → Nat} {cs : List Nat} (hz : zK (Z0 ++ [(6, 0, [none])]) cs) : jCI l G 2 yX6_init cX6_init 1 1 5 (Z0 ++ [(6, 0, [none])]) ad [.ref (ad (m + 0))] (fl cs) (Z0 ++ LX6 m) (fl (cs)) (cs) := by
  refine jCI_of (by decide) rfl (Nat.le_of_ble_eq_true rfl) (fun X hC hX hR h6 hname => ?_)
  subst hX
  have hC : jC X G cX6_init 1 RX6 none := hC
  rw [hlen (k := 1) hm rfl]
  have hA : ∀ a, a < m + 1 → ad a = ad a := fun _ _ => rfl
  show jJ X G 1 (jLf (Z0 ++ [(6, 0, [none])]) ad) 0 0 _ 0 [(0, .ref (ad (m + 0)))] [] (fl cs)
  refine j_aload_n (pc := 0) hC 0 0 dX6_init_0 rfl rfl ?_
  refine j_obj (pc := 1) hC ob_X6 dX6_init_1 (by rw [hR]; exact Nat.le_of_ble_eq_true rfl) (by rw [hR]; exact Nat.le_of_ble_eq_true rfl) ?_
  refine j_aload_n (pc := 4) hC 0 0 dX6_init_4 rfl rfl ?_
  refine j_iconst (pc := 5) hC (5 : Int32) dX6_init_5 (by decide) ?_
  refine j_newI (pc := 6) hC hz (n := m + 1) (N' := 5) (hlen (k := 1) hm rfl) dX6_init_6 (fl_1 hz (Nat.le_of_eq (hlen (k := 1) hm rfl))) (by decide) (by decide) (by decide) (by rw [hR]; exact Nat.le_of_ble_eq_true rfl) (by rw [hR]; exact Nat.le_of_ble_eq_true rfl) (fun ad1 h1 hz => ?_)
  show jJ X G 1 (jLf (Z0 ++ [(6, 0, [none]), (13, 5, [])]) ad1) 1 5 _ 8 [(0, .ref (ad (m + 0)))] [.ref (ad1 (m + 1)), .ref (ad (m + 0))] (fl (cs))
  have hA : ∀ a, a < m + 1 → ad1 a = ad a := fun a ha => (h1 a (Nat.lt_of_lt_of_le ha (by omega))).trans (hA a ha)
  rw [← h1 (m + 0) (by omega)]
  refine j_putR (pc := 8) hC hz hm (ci := 6) (i := 0) (b := m + 1) 0 tin6 tyX6 tyX6_ok nmX6 rfl (by decide) rfl (by decide) rfl rfl ⟨tyX6 0, tyX6_ok 0 (by decide), fun q => ⟨rfl, rfl⟩⟩ hname kf_X6_9 dX6_init_8 rfl rfl (Nat.le_of_ble_eq_true rfl) (by rw [hlen (k := 2) hm rfl]; omega) (T' := [(6, 0, [some (m + 1)]), (13, 5, [])]) rfl (fun hz => ?_)
  exact j_vretI (pc := 11) hC dX6_init_11 rfl hA hz rfl rfl
theorem dX8_init_0 : decode cX8_init 0 = .ok (.aload_n 0, 1) := by decide +kernel
theorem dX8_init_1 : decode cX8_init 1 = .ok (.invokespecial 3, 3) := by decide +kernel
theorem dX8_init_4 : decode cX8_init 4 = .ok (.aload_n 0, 1) := by decide +kernel
theorem dX8_init_5 : decode cX8_init 5 = .ok (.bipush 80, 2) := by decide +kernel
theorem dX8_init_7 : decode cX8_init 7 = .ok (.newarray .int, 2) := by decide +kernel
theorem dX8_init_9 : decode cX8_init 9 = .ok (.putfield 9, 3) := by decide +kernel
theorem dX8_init_12 : decode cX8_init 12 = .ok (.return_, 1) := by decide +kernel
theorem ob_X8 : Cond.methodLink RX8 3 Lib.objectInit ∈ tblG := tb_mem (by decide +kernel)
theorem yi_X8 : jMi yX8_init cX8_init 1 0 := ⟨tb_mem (by decide +kernel), tb_mem (by decide +kernel), ⟨by decide +kernel, by decide +kernel, by decide +kernel⟩, tb_mem (by decide +kernel), rfl⟩
def LX8 (m : Nat) : List jc := [(8, 0, [some (m + 1)]), (13, 80, [])]
set_option maxHeartbeats 8000000 in
set_option maxRecDepth 100000 in
theorem ci_X8 {l : Launch} {G : jG} {Z0 : List jc} {m : Nat} (hm : Z0.length = m) {ad : Nat → Nat} {cs : List Nat} (hz : zK (Z0 ++ [(8, 0, [none])]) cs) : jCI l G 2 yX8_init cX8_init 1 1 80 (Z0 ++ [(8, 0, [none])]) ad [.ref (ad (m + 0))] (fl cs) (Z0 ++ LX8 m) (fl (cs)) (cs) := by
  refine jCI_of (by decide) rfl (Nat.le_of_ble_eq_true rfl) (fun X hC hX hR h6 hname => ?_)
  subst hX
  have hC : jC X G cX8_init 1 RX8 none := hC
  rw [hlen (k := 1) hm rfl]
  have hA : ∀ a, a < m + 1 → ad a = ad a := fun _ _ => rfl
  show jJ X G 1 (jLf (Z0 ++ [(8, 0, [none])]) ad) 0 0 _ 0 [(0, .ref (ad (m + 0)))] [] (fl cs)
  refine j_aload_n (pc := 0) hC 0 0 dX8_init_0 rfl rfl ?_
  refine j_obj (pc := 1) hC ob_X8 dX8_init_1 (by rw [hR]; exact Nat.le_of_ble_eq_true rfl) (by rw [hR]; exact Nat.le_of_ble_eq_true rfl) ?_
  refine j_aload_n (pc := 4) hC 0 0 dX8_init_4 rfl rfl ?_
  refine j_bipush (pc := 5) hC (80 : Int32) dX8_init_5 (by decide) ?_
  refine j_newI (pc := 7) hC hz (n := m + 1) (N' := 80) (hlen (k := 1) hm rfl) dX8_init_7 (fl_1 hz (Nat.le_of_eq (hlen (k := 1) hm rfl))) (by decide) (by decide) (by decide) (by rw [hR]; exact Nat.le_of_ble_eq_true rfl) (by rw [hR]; exact Nat.le_of_ble_eq_true rfl) (fun ad1 h1 hz => ?_)
  show jJ X G 1 (jLf (Z0 ++ [(8, 0, [none]), (13, 80, [])]) ad1) 1 80 _ 9 [(0, .ref (ad (m + 0)))] [.ref (ad1 (m + 1)), .ref (ad (m + 0))] (fl (cs))
  have hA : ∀ a, a < m + 1 → ad1 a = ad a := fun a ha => (h1 a (Nat.lt_of_lt_of_le ha (by omega))).trans (hA a ha)
  rw [← h1 (m + 0) (by omega)]
  refine j_putR (pc := 9) hC hz hm (ci := 8) (i := 0) (b := m + 1) 0 tin8 tyX8 tyX8_ok nmX8 rfl (by decide) rfl (by decide) rfl rfl ⟨tyX8 0, tyX8_ok 0 (by decide), fun q => ⟨rfl, rfl⟩⟩ hname kf_X8_9 dX8_init_9 rfl rfl (Nat.le_of_ble_eq_true rfl) (by rw [hlen (k := 2) hm rfl]; omega) (T' := [(8, 0, [some (m + 1)]), (13, 80, [])]) rfl (fun hz => ?_)
  exact j_vretI (pc := 12) hC dX8_init_12 rfl hA hz rfl rfl
theorem dX10_init_0 : decode cX10_init 0 = .ok (.aload_n 0, 1) := by decide +kernel
theorem dX10_init_1 : decode cX10_init 1 = .ok (.invokespecial 3, 3) := by decide +kernel
theorem dX10_init_4 : decode cX10_init 4 = .ok (.aload_n 0, 1) := by decide +kernel
theorem dX10_init_5 : decode cX10_init 5 = .ok (.iconst 5, 1) := by decide +kernel
theorem dX10_init_6 : decode cX10_init 6 = .ok (.newarray .int, 2) := by decide +kernel
theorem dX10_init_8 : decode cX10_init 8 = .ok (.putfield 9, 3) := by decide +kernel
theorem dX10_init_11 : decode cX10_init 11 = .ok (.aload_n 0, 1) := by decide +kernel
theorem dX10_init_12 : decode cX10_init 12 = .ok (.iconst 5, 1) := by decide +kernel
theorem dX10_init_13 : decode cX10_init 13 = .ok (.newarray .int, 2) := by decide +kernel
theorem dX10_init_15 : decode cX10_init 15 = .ok (.putfield 15, 3) := by decide +kernel
theorem dX10_init_18 : decode cX10_init 18 = .ok (.aload_n 0, 1) := by decide +kernel
theorem dX10_init_19 : decode cX10_init 19 = .ok (.aload_n 1, 1) := by decide +kernel
theorem dX10_init_20 : decode cX10_init 20 = .ok (.putfield 18, 3) := by decide +kernel
theorem dX10_init_23 : decode cX10_init 23 = .ok (.return_, 1) := by decide +kernel
theorem ob_X10 : Cond.methodLink RX10 3 Lib.objectInit ∈ tblG := tb_mem (by decide +kernel)
theorem yi_X10 : jMi yX10_init cX10_init 2 1 := ⟨tb_mem (by decide +kernel), tb_mem (by decide +kernel), ⟨by decide +kernel, by decide +kernel, by decide +kernel⟩, tb_mem (by decide +kernel), rfl⟩
def LX10 (m : Nat) (b1 : Nat) : List jc := [(10, 0, [some (m + 1), some (b1), some (m + 2)]), (13, 5, []), (13, 5, [])]
set_option maxHeartbeats 8000000 in
set_option maxRecDepth 100000 in
theorem ci_X10 {l : Launch} {G : jG} {Z0 : List jc} {m : Nat} (hm : Z0.length = m) {ad : Nat → Nat} {cs : List Nat} (hz : zK (Z0 ++ [(10, 0, [none, none, none])]) cs) {b1 : Nat} (hb1 : b1 < m) : jCI l G 2 yX10_init cX10_init 2 2 10 (Z0 ++ [(10, 0, [none, none, none])]) ad [.ref (ad (m + 0)), .ref (ad b1)] (fl cs) (Z0 ++ LX10 m b1) (fl (cs)) (cs) := by
  refine jCI_of (by decide) rfl (Nat.le_of_ble_eq_true rfl) (fun X hC hX hR h6 hname => ?_)
  subst hX
  have hC : jC X G cX10_init 2 RX10 none := hC
  rw [hlen (k := 1) hm rfl]
  have hA : ∀ a, a < m + 1 → ad a = ad a := fun _ _ => rfl
  show jJ X G 2 (jLf (Z0 ++ [(10, 0, [none, none, none])]) ad) 0 0 _ 0 [(0, .ref (ad (m + 0))), (1, .ref (ad (b1)))] [] (fl cs)
  refine j_aload_n (pc := 0) hC 0 0 dX10_init_0 rfl rfl ?_
  refine j_obj (pc := 1) hC ob_X10 dX10_init_1 (by rw [hR]; exact Nat.le_of_ble_eq_true rfl) (by rw [hR]; exact Nat.le_of_ble_eq_true rfl) ?_
  refine j_aload_n (pc := 4) hC 0 0 dX10_init_4 rfl rfl ?_
  refine j_iconst (pc := 5) hC (5 : Int32) dX10_init_5 (by decide) ?_
  refine j_newI (pc := 6) hC hz (n := m + 1) (N' := 5) (hlen (k := 1) hm rfl) dX10_init_6 (fl_1 hz (Nat.le_of_eq (hlen (k := 1) hm rfl))) (by decide) (by decide) (by decide) (by rw [hR]; exact Nat.le_of_ble_eq_true rfl) (by rw [hR]; exact Nat.le_of_ble_eq_true rfl) (fun ad1 h1 hz => ?_)
  show jJ X G 2 (jLf (Z0 ++ [(10, 0, [none, none, none]), (13, 5, [])]) ad1) 1 5 _ 8 [(0, .ref (ad (m + 0))), (1, .ref (ad (b1)))] [.ref (ad1 (m + 1)), .ref (ad (m + 0))] (fl (cs))
  have hA : ∀ a, a < m + 1 → ad1 a = ad a := fun a ha => (h1 a (Nat.lt_of_lt_of_le ha (by omega))).trans (hA a ha)
  rw [← h1 (m + 0) (by omega)]
  rw [← h1 (b1) (by omega)]
  refine j_putR (pc := 8) hC hz hm (ci := 10) (i := 0) (b := m + 1) 0 tin10 tyX10 tyX10_ok nmX10 rfl (by decide) rfl (by decide) rfl rfl ⟨tyX10 0, tyX10_ok 0 (by decide), fun q => ⟨rfl, rfl⟩⟩ hname kf_X10_9 dX10_init_8 rfl rfl (Nat.le_of_ble_eq_true rfl) (by rw [hlen (k := 2) hm rfl]; omega) (T' := [(10, 0, [some (m + 1), none, none]), (13, 5, [])]) rfl (fun hz => ?_)
  refine j_aload_n (pc := 11) hC 0 0 dX10_init_11 rfl rfl ?_
  refine j_iconst (pc := 12) hC (5 : Int32) dX10_init_12 (by decide) ?_
  refine j_newI (pc := 13) hC hz (n := m + 2) (N' := 5) (hlen (k := 2) hm rfl) dX10_init_13 (fl_1 hz (Nat.le_of_eq (hlen (k := 2) hm rfl))) (by decide) (by decide) (by decide) (by rw [hR]; exact Nat.le_of_ble_eq_true rfl) (by rw [hR]; exact Nat.le_of_ble_eq_true rfl) (fun ad2 h1 hz => ?_)
  show jJ X G 2 (jLf (Z0 ++ [(10, 0, [some (m + 1), none, none]), (13, 5, []), (13, 5, [])]) ad2) 2 10 _ 15 [(0, .ref (ad1 (m + 0))), (1, .ref (ad1 (b1)))] [.ref (ad2 (m + 2)), .ref (ad1 (m + 0))] (fl (cs))
  have hA : ∀ a, a < m + 1 → ad2 a = ad a := fun a ha => (h1 a (Nat.lt_of_lt_of_le ha (by omega))).trans (hA a ha)
  rw [← h1 (m + 0) (by omega)]
  rw [← h1 (b1) (by omega)]
  refine j_putR (pc := 15) hC hz hm (ci := 10) (i := 0) (b := m + 2) 2 tin10 tyX10 tyX10_ok nmX10 rfl (by decide) rfl (by decide) rfl rfl ⟨tyX10 2, tyX10_ok 2 (by decide), fun q => ⟨rfl, rfl⟩⟩ hname kf_X10_15 dX10_init_15 rfl rfl (Nat.le_of_ble_eq_true rfl) (by rw [hlen (k := 3) hm rfl]; omega) (T' := [(10, 0, [some (m + 1), none, some (m + 2)]), (13, 5, []), (13, 5, [])]) rfl (fun hz => ?_)
  refine j_aload_n (pc := 18) hC 0 0 dX10_init_18 rfl rfl ?_
  refine j_aload_n (pc := 19) hC 1 1 dX10_init_19 rfl rfl ?_
  refine j_putR (pc := 20) hC hz hm (ci := 10) (i := 0) (b := b1) 1 tin10 tyX10 tyX10_ok nmX10 rfl (by decide) rfl (by decide) rfl rfl ⟨tyX10 1, tyX10_ok 1 (by decide), fun q => ⟨rfl, rfl⟩⟩ hname kf_X10_18 dX10_init_20 rfl rfl (Nat.le_of_ble_eq_true rfl) (by rw [hlen (k := 3) hm rfl]; omega) (T' := [(10, 0, [some (m + 1), some (b1), some (m + 2)]), (13, 5, []), (13, 5, [])]) rfl (fun hz => ?_)
  exact j_vretI (pc := 23) hC dX10_init_23 rfl hA hz rfl rfl
theorem dX9_init_0 : decode cX9_init 0 = .ok (.aload_n 0, 1) := by decide +kernel
theorem dX9_init_1 : decode cX9_init 1 = .ok (.invokespecial 3, 3) := by decide +kernel
theorem dX9_init_4 : decode cX9_init 4 = .ok (.aload_n 0, 1) := by decide +kernel
theorem dX9_init_5 : decode cX9_init 5 = .ok (.bipush 6, 2) := by decide +kernel
theorem dX9_init_7 : decode cX9_init 7 = .ok (.newarray .int, 2) := by decide +kernel
theorem dX9_init_9 : decode cX9_init 9 = .ok (.putfield 9, 3) := by decide +kernel
theorem dX9_init_12 : decode cX9_init 12 = .ok (.aload_n 0, 1) := by decide +kernel
theorem dX9_init_13 : decode cX9_init 13 = .ok (.iconst 5, 1) := by decide +kernel
theorem dX9_init_14 : decode cX9_init 14 = .ok (.newarray .int, 2) := by decide +kernel
theorem dX9_init_16 : decode cX9_init 16 = .ok (.putfield 15, 3) := by decide +kernel
theorem dX9_init_19 : decode cX9_init 19 = .ok (.aload_n 0, 1) := by decide +kernel
theorem dX9_init_20 : decode cX9_init 20 = .ok (.bipush 8, 2) := by decide +kernel
theorem dX9_init_22 : decode cX9_init 22 = .ok (.newarray .int, 2) := by decide +kernel
theorem dX9_init_24 : decode cX9_init 24 = .ok (.putfield 18, 3) := by decide +kernel
theorem dX9_init_27 : decode cX9_init 27 = .ok (.aload_n 0, 1) := by decide +kernel
theorem dX9_init_28 : decode cX9_init 28 = .ok (.bipush 8, 2) := by decide +kernel
theorem dX9_init_30 : decode cX9_init 30 = .ok (.newarray .int, 2) := by decide +kernel
theorem dX9_init_32 : decode cX9_init 32 = .ok (.putfield 21, 3) := by decide +kernel
theorem dX9_init_35 : decode cX9_init 35 = .ok (.aload_n 0, 1) := by decide +kernel
theorem dX9_init_36 : decode cX9_init 36 = .ok (.bipush 32, 2) := by decide +kernel
theorem dX9_init_38 : decode cX9_init 38 = .ok (.newarray .int, 2) := by decide +kernel
theorem dX9_init_40 : decode cX9_init 40 = .ok (.putfield 24, 3) := by decide +kernel
theorem dX9_init_43 : decode cX9_init 43 = .ok (.aload_n 0, 1) := by decide +kernel
theorem dX9_init_44 : decode cX9_init 44 = .ok (.getfield 15, 3) := by decide +kernel
theorem dX9_init_47 : decode cX9_init 47 = .ok (.bipush 63, 2) := by decide +kernel
theorem dX9_init_49 : decode cX9_init 49 = .ok (.invokestatic 27, 3) := by decide +kernel
theorem dX9_init_52 : decode cX9_init 52 = .ok (.return_, 1) := by decide +kernel
theorem ob_X9 : Cond.methodLink RX9 3 Lib.objectInit ∈ tblG := tb_mem (by decide +kernel)
theorem yi_X9 : jMi yX9_init cX9_init 1 0 := ⟨tb_mem (by decide +kernel), tb_mem (by decide +kernel), ⟨by decide +kernel, by decide +kernel, by decide +kernel⟩, tb_mem (by decide +kernel), rfl⟩
def LX9 (m : Nat) : List jc := [(9, 0, [some (m + 1), some (m + 2), some (m + 3), some (m + 4), some (m + 5)]), (13, 6, []), (13, 5, []), (13, 8, []), (13, 8, []), (13, 32, [])]
set_option maxHeartbeats 8000000 in
set_option maxRecDepth 100000 in
theorem ci_X9 {l : Launch} {G : jG} {Z0 : List jc} {m : Nat} (hm : Z0.length = m) {ad : Nat → Nat} {cs : List Nat} (hz : zK (Z0 ++ [(9, 0, [none, none, none, none, none])]) cs) : jCI l G 4 yX9_init cX9_init 1 5 59 (Z0 ++ [(9, 0, [none, none, none, none, none])]) ad [.ref (ad (m + 0))] (fl cs) (Z0 ++ LX9 m) (fl (cs ++ [m + 2])) (cs ++ [m + 2]) := by
  refine jCI_of (by decide) rfl (Nat.le_of_ble_eq_true rfl) (fun X hC hX hR h6 hname => ?_)
  subst hX
  have hC : jC X G cX9_init 1 RX9 none := hC
  rw [hlen (k := 1) hm rfl]
  have hA : ∀ a, a < m + 1 → ad a = ad a := fun _ _ => rfl
  show jJ X G 1 (jLf (Z0 ++ [(9, 0, [none, none, none, none, none])]) ad) 0 0 _ 0 [(0, .ref (ad (m + 0)))] [] (fl cs)
  refine j_aload_n (pc := 0) hC 0 0 dX9_init_0 rfl rfl ?_
  refine j_obj (pc := 1) hC ob_X9 dX9_init_1 (by rw [hR]; exact Nat.le_of_ble_eq_true rfl) (by rw [hR]; exact Nat.le_of_ble_eq_true rfl) ?_
  refine j_aload_n (pc := 4) hC 0 0 dX9_init_4 rfl rfl ?_
  refine j_bipush (pc := 5) hC (6 : Int32) dX9_init_5 (by decide) ?_
  refine j_newI (pc := 7) hC hz (n := m + 1) (N' := 6) (hlen (k := 1) hm rfl) dX9_init_7 (fl_1 hz (Nat.le_of_eq (hlen (k := 1) hm rfl))) (by decide) (by decide) (by decide) (by rw [hR]; exact Nat.le_of_ble_eq_true rfl) (by rw [hR]; exact Nat.le_of_ble_eq_true rfl) (fun ad1 h1 hz => ?_)
  show jJ X G 1 (jLf (Z0 ++ [(9, 0, [none, none, none, none, none]), (13, 6, [])]) ad1) 1 6 _ 9 [(0, .ref (ad (m + 0)))] [.ref (ad1 (m + 1)), .ref (ad (m + 0))] (fl (cs))
  have hA : ∀ a, a < m + 1 → ad1 a = ad a := fun a ha => (h1 a (Nat.lt_of_lt_of_le ha (by omega))).trans (hA a ha)
  rw [← h1 (m + 0) (by omega)]
  refine j_putR (pc := 9) hC hz hm (ci := 9) (i := 0) (b := m + 1) 0 tin9 tyX9 tyX9_ok nmX9 rfl (by decide) rfl (by decide) rfl rfl ⟨tyX9 0, tyX9_ok 0 (by decide), fun q => ⟨rfl, rfl⟩⟩ hname kf_X9_9 dX9_init_9 rfl rfl (Nat.le_of_ble_eq_true rfl) (by rw [hlen (k := 2) hm rfl]; omega) (T' := [(9, 0, [some (m + 1), none, none, none, none]), (13, 6, [])]) rfl (fun hz => ?_)
  refine j_aload_n (pc := 12) hC 0 0 dX9_init_12 rfl rfl ?_
  refine j_iconst (pc := 13) hC (5 : Int32) dX9_init_13 (by decide) ?_
  refine j_newI (pc := 14) hC hz (n := m + 2) (N' := 5) (hlen (k := 2) hm rfl) dX9_init_14 (fl_1 hz (Nat.le_of_eq (hlen (k := 2) hm rfl))) (by decide) (by decide) (by decide) (by rw [hR]; exact Nat.le_of_ble_eq_true rfl) (by rw [hR]; exact Nat.le_of_ble_eq_true rfl) (fun ad2 h1 hz => ?_)
  show jJ X G 1 (jLf (Z0 ++ [(9, 0, [some (m + 1), none, none, none, none]), (13, 6, []), (13, 5, [])]) ad2) 2 11 _ 16 [(0, .ref (ad1 (m + 0)))] [.ref (ad2 (m + 2)), .ref (ad1 (m + 0))] (fl (cs))
  have hA : ∀ a, a < m + 1 → ad2 a = ad a := fun a ha => (h1 a (Nat.lt_of_lt_of_le ha (by omega))).trans (hA a ha)
  rw [← h1 (m + 0) (by omega)]
  refine j_putR (pc := 16) hC hz hm (ci := 9) (i := 0) (b := m + 2) 1 tin9 tyX9 tyX9_ok nmX9 rfl (by decide) rfl (by decide) rfl rfl ⟨tyX9 1, tyX9_ok 1 (by decide), fun q => ⟨rfl, rfl⟩⟩ hname kf_X9_15 dX9_init_16 rfl rfl (Nat.le_of_ble_eq_true rfl) (by rw [hlen (k := 3) hm rfl]; omega) (T' := [(9, 0, [some (m + 1), some (m + 2), none, none, none]), (13, 6, []), (13, 5, [])]) rfl (fun hz => ?_)
  refine j_aload_n (pc := 19) hC 0 0 dX9_init_19 rfl rfl ?_
  refine j_bipush (pc := 20) hC (8 : Int32) dX9_init_20 (by decide) ?_
  refine j_newI (pc := 22) hC hz (n := m + 3) (N' := 8) (hlen (k := 3) hm rfl) dX9_init_22 (fl_1 hz (Nat.le_of_eq (hlen (k := 3) hm rfl))) (by decide) (by decide) (by decide) (by rw [hR]; exact Nat.le_of_ble_eq_true rfl) (by rw [hR]; exact Nat.le_of_ble_eq_true rfl) (fun ad3 h1 hz => ?_)
  show jJ X G 1 (jLf (Z0 ++ [(9, 0, [some (m + 1), some (m + 2), none, none, none]), (13, 6, []), (13, 5, []), (13, 8, [])]) ad3) 3 19 _ 24 [(0, .ref (ad2 (m + 0)))] [.ref (ad3 (m + 3)), .ref (ad2 (m + 0))] (fl (cs))
  have hA : ∀ a, a < m + 1 → ad3 a = ad a := fun a ha => (h1 a (Nat.lt_of_lt_of_le ha (by omega))).trans (hA a ha)
  rw [← h1 (m + 0) (by omega)]
  refine j_putR (pc := 24) hC hz hm (ci := 9) (i := 0) (b := m + 3) 2 tin9 tyX9 tyX9_ok nmX9 rfl (by decide) rfl (by decide) rfl rfl ⟨tyX9 2, tyX9_ok 2 (by decide), fun q => ⟨rfl, rfl⟩⟩ hname kf_X9_18 dX9_init_24 rfl rfl (Nat.le_of_ble_eq_true rfl) (by rw [hlen (k := 4) hm rfl]; omega) (T' := [(9, 0, [some (m + 1), some (m + 2), some (m + 3), none, none]), (13, 6, []), (13, 5, []), (13, 8, [])]) rfl (fun hz => ?_)
  refine j_aload_n (pc := 27) hC 0 0 dX9_init_27 rfl rfl ?_
  refine j_bipush (pc := 28) hC (8 : Int32) dX9_init_28 (by decide) ?_
  refine j_newI (pc := 30) hC hz (n := m + 4) (N' := 8) (hlen (k := 4) hm rfl) dX9_init_30 (fl_1 hz (Nat.le_of_eq (hlen (k := 4) hm rfl))) (by decide) (by decide) (by decide) (by rw [hR]; exact Nat.le_of_ble_eq_true rfl) (by rw [hR]; exact Nat.le_of_ble_eq_true rfl) (fun ad4 h1 hz => ?_)
  show jJ X G 1 (jLf (Z0 ++ [(9, 0, [some (m + 1), some (m + 2), some (m + 3), none, none]), (13, 6, []), (13, 5, []), (13, 8, []), (13, 8, [])]) ad4) 4 27 _ 32 [(0, .ref (ad3 (m + 0)))] [.ref (ad4 (m + 4)), .ref (ad3 (m + 0))] (fl (cs))
  have hA : ∀ a, a < m + 1 → ad4 a = ad a := fun a ha => (h1 a (Nat.lt_of_lt_of_le ha (by omega))).trans (hA a ha)
  rw [← h1 (m + 0) (by omega)]
  refine j_putR (pc := 32) hC hz hm (ci := 9) (i := 0) (b := m + 4) 3 tin9 tyX9 tyX9_ok nmX9 rfl (by decide) rfl (by decide) rfl rfl ⟨tyX9 3, tyX9_ok 3 (by decide), fun q => ⟨rfl, rfl⟩⟩ hname kf_X9_21 dX9_init_32 rfl rfl (Nat.le_of_ble_eq_true rfl) (by rw [hlen (k := 5) hm rfl]; omega) (T' := [(9, 0, [some (m + 1), some (m + 2), some (m + 3), some (m + 4), none]), (13, 6, []), (13, 5, []), (13, 8, []), (13, 8, [])]) rfl (fun hz => ?_)
  refine j_aload_n (pc := 35) hC 0 0 dX9_init_35 rfl rfl ?_
  refine j_bipush (pc := 36) hC (32 : Int32) dX9_init_36 (by decide) ?_
  refine j_newI (pc := 38) hC hz (n := m + 5) (N' := 32) (hlen (k := 5) hm rfl) dX9_init_38 (fl_1 hz (Nat.le_of_eq (hlen (k := 5) hm rfl))) (by decide) (by decide) (by decide) (by rw [hR]; exact Nat.le_of_ble_eq_true rfl) (by rw [hR]; exact Nat.le_of_ble_eq_true rfl) (fun ad5 h1 hz => ?_)
  show jJ X G 1 (jLf (Z0 ++ [(9, 0, [some (m + 1), some (m + 2), some (m + 3), some (m + 4), none]), (13, 6, []), (13, 5, []), (13, 8, []), (13, 8, []), (13, 32, [])]) ad5) 5 59 _ 40 [(0, .ref (ad4 (m + 0)))] [.ref (ad5 (m + 5)), .ref (ad4 (m + 0))] (fl (cs))
  have hA : ∀ a, a < m + 1 → ad5 a = ad a := fun a ha => (h1 a (Nat.lt_of_lt_of_le ha (by omega))).trans (hA a ha)
  rw [← h1 (m + 0) (by omega)]
  refine j_putR (pc := 40) hC hz hm (ci := 9) (i := 0) (b := m + 5) 4 tin9 tyX9 tyX9_ok nmX9 rfl (by decide) rfl (by decide) rfl rfl ⟨tyX9 4, tyX9_ok 4 (by decide), fun q => ⟨rfl, rfl⟩⟩ hname kf_X9_24 dX9_init_40 rfl rfl (Nat.le_of_ble_eq_true rfl) (by rw [hlen (k := 6) hm rfl]; omega) (T' := [(9, 0, [some (m + 1), some (m + 2), some (m + 3), some (m + 4), some (m + 5)]), (13, 6, []), (13, 5, []), (13, 8, []), (13, 8, []), (13, 32, [])]) rfl (fun hz => ?_)
  refine j_aload_n (pc := 43) hC 0 0 dX9_init_43 rfl rfl ?_
  refine jgr_9 (pc := 44) hC 1 (by decide) rfl kf_X9_15 dX9_init_44 (jK_app (i := 0) hm rfl rfl) (b := m + 2) (jR_app (i := 0) hm rfl rfl) ?_
  show jJ X G 1 (jLf (Z0 ++ [(9, 0, [some (m + 1), some (m + 2), some (m + 3), some (m + 4), some (m + 5)]), (13, 6, []), (13, 5, []), (13, 8, []), (13, 8, []), (13, 32, [])]) ad5) 5 59 _ 47 [(0, .ref (ad5 (m + 0)))] [.ref (ad5 (m + 2))] (fl (cs))
  refine j_bipush (pc := 47) hC (63 : Int32) dX9_init_47 (by decide) ?_
  refine j_callS (pc := 49) hC [.ref (ad5 (m + 2)), .int 63] (c_fill5 (L := jLf (Z0 ++ [(9, 0, [some (m + 1), some (m + 2), some (m + 3), some (m + 4), some (m + 5)]), (13, 6, []), (13, 5, []), (13, 8, []), (13, 8, []), (13, 32, [])]) ad5) (a := m + 2) (jK_app (i := 2) hm rfl rfl) (jN_app (i := 2) hm rfl rfl)) iy_J7_fill_53178 km_X9_27 dX9_init_49 rfl (Nat.le_of_ble_eq_true rfl) (by rw [hR]; exact ⟨Nat.le_of_ble_eq_true rfl, Nat.le_of_ble_eq_true rfl⟩) (by rw [hR]; exact ⟨Nat.le_of_ble_eq_true rfl, Nat.le_of_ble_eq_true rfl⟩) rfl ?_
  rw [fl_fill]
  have hz := hz.fill (c := m + 2) (by rw [hlen (k := 6) hm rfl]; omega)
  show jJ X G 1 (jLf (Z0 ++ [(9, 0, [some (m + 1), some (m + 2), some (m + 3), some (m + 4), some (m + 5)]), (13, 6, []), (13, 5, []), (13, 8, []), (13, 8, []), (13, 32, [])]) ad5) 5 59 _ 52 [(0, .ref (ad5 (m + 0)))] [] (fl (cs ++ [m + 2]))
  exact j_vretI (pc := 52) hC dX9_init_52 rfl hA hz rfl rfl
theorem dX1_init_0 : decode cX1_init 0 = .ok (.aload_n 0, 1) := by decide +kernel
theorem dX1_init_1 : decode cX1_init 1 = .ok (.invokespecial 3, 3) := by decide +kernel
theorem dX1_init_4 : decode cX1_init 4 = .ok (.aload_n 0, 1) := by decide +kernel
theorem dX1_init_5 : decode cX1_init 5 = .ok (.new 9, 3) := by decide +kernel
theorem dX1_init_8 : decode cX1_init 8 = .ok (.dup, 1) := by decide +kernel
theorem dX1_init_9 : decode cX1_init 9 = .ok (.invokespecial 11, 3) := by decide +kernel
theorem dX1_init_12 : decode cX1_init 12 = .ok (.putfield 12, 3) := by decide +kernel
theorem dX1_init_15 : decode cX1_init 15 = .ok (.aload_n 0, 1) := by decide +kernel
theorem dX1_init_16 : decode cX1_init 16 = .ok (.bipush 22, 2) := by decide +kernel
theorem dX1_init_18 : decode cX1_init 18 = .ok (.newarray .int, 2) := by decide +kernel
theorem dX1_init_20 : decode cX1_init 20 = .ok (.putfield 18, 3) := by decide +kernel
theorem dX1_init_23 : decode cX1_init 23 = .ok (.return_, 1) := by decide +kernel
theorem ob_X1 : Cond.methodLink RX1 3 Lib.objectInit ∈ tblG := tb_mem (by decide +kernel)
theorem yi_X1 : jMi yX1_init cX1_init 1 0 := ⟨tb_mem (by decide +kernel), tb_mem (by decide +kernel), ⟨by decide +kernel, by decide +kernel, by decide +kernel⟩, tb_mem (by decide +kernel), rfl⟩
theorem cl_X1_9 : Cond.classLink RX1 9 RX9 ∈ tblG := tb_mem (by decide +kernel)
def LX1 (m : Nat) : List jc := [(1, 0, [some (m + 1), some (m + 7)]), (9, 0, [some (m + 2), some (m + 3), some (m + 4), some (m + 5), some (m + 6)]), (13, 6, []), (13, 5, []), (13, 8, []), (13, 8, []), (13, 32, []), (13, 22, [])]
set_option maxHeartbeats 8000000 in
set_option maxRecDepth 100000 in
theorem ci_X1 {l : Launch} {G : jG} {Z0 : List jc} {m : Nat} (hm : Z0.length = m) {ad : Nat → Nat} {cs : List Nat} (hz : zK (Z0 ++ [(1, 0, [none, none])]) cs) : jCI l G 5 yX1_init cX1_init 1 7 88 (Z0 ++ [(1, 0, [none, none])]) ad [.ref (ad (m + 0))] (fl cs) (Z0 ++ LX1 m) (fl (cs ++ [m + 3])) (cs ++ [m + 3]) := by
  refine jCI_of (by decide) rfl (Nat.le_of_ble_eq_true rfl) (fun X hC hX hR h6 hname => ?_)
  subst hX
  have hC : jC X G cX1_init 1 RX1 none := hC
  rw [hlen (k := 1) hm rfl]
  have hA : ∀ a, a < m + 1 → ad a = ad a := fun _ _ => rfl
  show jJ X G 1 (jLf (Z0 ++ [(1, 0, [none, none])]) ad) 0 0 _ 0 [(0, .ref (ad (m + 0)))] [] (fl cs)
  refine j_aload_n (pc := 0) hC 0 0 dX1_init_0 rfl rfl ?_
  refine j_obj (pc := 1) hC ob_X1 dX1_init_1 (by rw [hR]; exact Nat.le_of_ble_eq_true rfl) (by rw [hR]; exact Nat.le_of_ble_eq_true rfl) ?_
  refine j_aload_n (pc := 4) hC 0 0 dX1_init_4 rfl rfl ?_
  refine j_newC (pc := 5) hC hz (n := m + 1) (hlen (k := 1) hm rfl) 5 tin9 tyX9 tyX9_ok (ci := 9) rfl (by decide) dfX9 inX9 iiX9 cl_X1_9 dX1_init_5 (fl_1 hz (Nat.le_of_eq (hlen (k := 1) hm rfl))) (by rw [hR]; exact Nat.le_of_ble_eq_true rfl) (by rw [hR]; exact Nat.le_of_ble_eq_true rfl) (fun ad1 h1 hz => ?_)
  show jJ X G 1 (jLf (Z0 ++ [(1, 0, [none, none]), (9, 0, [none, none, none, none, none])]) ad1) 1 7 _ 8 [(0, .ref (ad (m + 0)))] [.ref (ad1 (m + 1)), .ref (ad (m + 0))] (fl (cs))
  have hA : ∀ a, a < m + 1 → ad1 a = ad a := fun a ha => (h1 a (Nat.lt_of_lt_of_le ha (by omega))).trans (hA a ha)
  rw [← h1 (m + 0) (by omega)]
  refine j_dup (pc := 8) hC dX1_init_8 rfl ?_
  refine j_ctor (pc := 9) hC h6 [] (Z' := Z0 ++ [(1, 0, [none, none]), (9, 0, [some (m + 2), some (m + 3), some (m + 4), some (m + 5), some (m + 6)]), (13, 6, []), (13, 5, []), (13, 8, []), (13, 8, []), (13, 32, [])]) (cs' := cs ++ [m + 3]) (c_cast (A := [(1, 0, [none, none])]) (B := [(9, 0, [none, none, none, none, none])]) (B' := LX9 (m + 1)) (ci_X9 (m := m + 1) (hlen (k := 1) hm rfl) (by rw [List.append_assoc]; exact hz))) yi_X9 km_X1_11 dX1_init_9 rfl (Nat.le_of_ble_eq_true rfl) (by rw [hR]; exact ⟨Nat.le_of_ble_eq_true rfl, Nat.le_of_ble_eq_true rfl⟩) (by rw [hR]; exact ⟨Nat.le_of_ble_eq_true rfl, Nat.le_of_ble_eq_true rfl⟩) rfl (nz := m + 2) (hlen (k := 2) hm rfl) (fun ad2 h1 hz => ?_)
  show jJ X G 1 (jLf (Z0 ++ [(1, 0, [none, none]), (9, 0, [some (m + 2), some (m + 3), some (m + 4), some (m + 5), some (m + 6)]), (13, 6, []), (13, 5, []), (13, 8, []), (13, 8, []), (13, 32, [])]) ad2) 6 66 _ 12 [(0, .ref (ad1 (m + 0)))] [.ref (ad1 (m + 1)), .ref (ad1 (m + 0))] (fl (cs ++ [m + 3]))
  have hA : ∀ a, a < m + 1 → ad2 a = ad a := fun a ha => (h1 a (Nat.lt_of_lt_of_le ha (by omega))).trans (hA a ha)
  rw [← h1 (m + 0) (by omega)]
  rw [← h1 (m + 1) (by omega)]
  refine j_putR (pc := 12) hC hz hm (ci := 1) (i := 0) (b := m + 1) 0 tin1 tyX1 tyX1_ok nmX1 rfl (by decide) rfl (by decide) rfl rfl ⟨tyX1 0, tyX1_ok 0 (by decide), fun q => ⟨rfl, rfl⟩⟩ hname kf_X1_12 dX1_init_12 rfl rfl (Nat.le_of_ble_eq_true rfl) (by rw [hlen (k := 7) hm rfl]; omega) (T' := [(1, 0, [some (m + 1), none]), (9, 0, [some (m + 2), some (m + 3), some (m + 4), some (m + 5), some (m + 6)]), (13, 6, []), (13, 5, []), (13, 8, []), (13, 8, []), (13, 32, [])]) rfl (fun hz => ?_)
  refine j_aload_n (pc := 15) hC 0 0 dX1_init_15 rfl rfl ?_
  refine j_bipush (pc := 16) hC (22 : Int32) dX1_init_16 (by decide) ?_
  refine j_newI (pc := 18) hC hz (n := m + 7) (N' := 22) (hlen (k := 7) hm rfl) dX1_init_18 (fl_1 hz (Nat.le_of_eq (hlen (k := 7) hm rfl))) (by decide) (by decide) (by decide) (by rw [hR]; exact Nat.le_of_ble_eq_true rfl) (by rw [hR]; exact Nat.le_of_ble_eq_true rfl) (fun ad3 h1 hz => ?_)
  show jJ X G 1 (jLf (Z0 ++ [(1, 0, [some (m + 1), none]), (9, 0, [some (m + 2), some (m + 3), some (m + 4), some (m + 5), some (m + 6)]), (13, 6, []), (13, 5, []), (13, 8, []), (13, 8, []), (13, 32, []), (13, 22, [])]) ad3) 7 88 _ 20 [(0, .ref (ad2 (m + 0)))] [.ref (ad3 (m + 7)), .ref (ad2 (m + 0))] (fl (cs ++ [m + 3]))
  have hA : ∀ a, a < m + 1 → ad3 a = ad a := fun a ha => (h1 a (Nat.lt_of_lt_of_le ha (by omega))).trans (hA a ha)
  rw [← h1 (m + 0) (by omega)]
  refine j_putR (pc := 20) hC hz hm (ci := 1) (i := 0) (b := m + 7) 1 tin1 tyX1 tyX1_ok nmX1 rfl (by decide) rfl (by decide) rfl rfl ⟨tyX1 1, tyX1_ok 1 (by decide), fun q => ⟨rfl, rfl⟩⟩ hname kf_X1_18 dX1_init_20 rfl rfl (Nat.le_of_ble_eq_true rfl) (by rw [hlen (k := 8) hm rfl]; omega) (T' := [(1, 0, [some (m + 1), some (m + 7)]), (9, 0, [some (m + 2), some (m + 3), some (m + 4), some (m + 5), some (m + 6)]), (13, 6, []), (13, 5, []), (13, 8, []), (13, 8, []), (13, 32, []), (13, 22, [])]) rfl (fun hz => ?_)
  exact j_vretI (pc := 23) hC dX1_init_23 rfl hA hz rfl rfl
