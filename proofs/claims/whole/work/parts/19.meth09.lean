theorem dX11_since_0 : decode cX11_since 0 = .ok (.iload_n 1, 1) := by decide +kernel
theorem dX11_since_1 : decode cX11_since 1 = .ok (.invokestatic 271, 3) := by decide +kernel
theorem dX11_since_4 : decode cX11_since 4 = .ok (.ifCond .ne 5, 3) := by decide +kernel
theorem dX11_since_7 : decode cX11_since 7 = .ok (.iconst (-1), 1) := by decide +kernel
theorem dX11_since_8 : decode cX11_since 8 = .ok (.ireturn, 1) := by decide +kernel
theorem dX11_since_9 : decode cX11_since 9 = .ok (.iconst 0, 1) := by decide +kernel
theorem dX11_since_10 : decode cX11_since 10 = .ok (.istore_n 2, 1) := by decide +kernel
theorem dX11_since_11 : decode cX11_since 11 = .ok (.iconst 1, 1) := by decide +kernel
theorem dX11_since_12 : decode cX11_since 12 = .ok (.istore_n 3, 1) := by decide +kernel
theorem dX11_since_13 : decode cX11_since 13 = .ok (.iload_n 3, 1) := by decide +kernel
theorem dX11_since_14 : decode cX11_since 14 = .ok (.aload_n 0, 1) := by decide +kernel
theorem dX11_since_15 : decode cX11_since 15 = .ok (.getfield 26, 3) := by decide +kernel
theorem dX11_since_18 : decode cX11_since 18 = .ok (.getfield 215, 3) := by decide +kernel
theorem dX11_since_21 : decode cX11_since 21 = .ok (.if_icmp .gt 33, 3) := by decide +kernel
theorem dX11_since_24 : decode cX11_since 24 = .ok (.aload_n 0, 1) := by decide +kernel
theorem dX11_since_25 : decode cX11_since 25 = .ok (.getfield 26, 3) := by decide +kernel
theorem dX11_since_28 : decode cX11_since 28 = .ok (.getfield 222, 3) := by decide +kernel
theorem dX11_since_31 : decode cX11_since 31 = .ok (.iload_n 3, 1) := by decide +kernel
theorem dX11_since_32 : decode cX11_since 32 = .ok (.iconst 1, 1) := by decide +kernel
theorem dX11_since_33 : decode cX11_since 33 = .ok (.isub, 1) := by decide +kernel
theorem dX11_since_34 : decode cX11_since 34 = .ok (.aaload, 1) := by decide +kernel
theorem dX11_since_35 : decode cX11_since 35 = .ok (.iload_n 1, 1) := by decide +kernel
theorem dX11_since_36 : decode cX11_since 36 = .ok (.invokevirtual 281, 3) := by decide +kernel
theorem dX11_since_39 : decode cX11_since 39 = .ok (.ifCond .eq 9, 3) := by decide +kernel
theorem dX11_since_42 : decode cX11_since 42 = .ok (.iload_n 2, 1) := by decide +kernel
theorem dX11_since_43 : decode cX11_since 43 = .ok (.iconst 1, 1) := by decide +kernel
theorem dX11_since_44 : decode cX11_since 44 = .ok (.iload_n 3, 1) := by decide +kernel
theorem dX11_since_45 : decode cX11_since 45 = .ok (.ishl, 1) := by decide +kernel
theorem dX11_since_46 : decode cX11_since 46 = .ok (.ior, 1) := by decide +kernel
theorem dX11_since_47 : decode cX11_since 47 = .ok (.istore_n 2, 1) := by decide +kernel
theorem dX11_since_48 : decode cX11_since 48 = .ok (.iinc 3 1, 3) := by decide +kernel
theorem dX11_since_51 : decode cX11_since 51 = .ok (.goto (-38), 3) := by decide +kernel
theorem dX11_since_54 : decode cX11_since 54 = .ok (.aload_n 0, 1) := by decide +kernel
theorem dX11_since_55 : decode cX11_since 55 = .ok (.getfield 19, 3) := by decide +kernel
theorem dX11_since_58 : decode cX11_since 58 = .ok (.iload_n 2, 1) := by decide +kernel
theorem dX11_since_59 : decode cX11_since 59 = .ok (.invokestatic 284, 3) := by decide +kernel
theorem dX11_since_62 : decode cX11_since 62 = .ok (.i2l, 1) := by decide +kernel
theorem dX11_since_63 : decode cX11_since 63 = .ok (.invokevirtual 235, 3) := by decide +kernel
theorem dX11_since_66 : decode cX11_since 66 = .ok (.iload_n 2, 1) := by decide +kernel
theorem dX11_since_67 : decode cX11_since 67 = .ok (.ireturn, 1) := by decide +kernel
def f_X11_since_L13 (a0 : Nat) (x1 : Int32) (μ : jM) (u2 : Int32) (u3 : Int32) : Option ((Int32 × Int32) ⊕ (Int32)) :=
  (if (μ.1 (a0 + 5) 2) < u3 then some (.inr u2) else jin (u3 - (1 : Int32)) 9 ((if (f_X1_has ((a0 + 13) + 8 * (u3 - (1 : Int32)).toNatClampNeg) x1 μ) = (0 : Int32) then some (.inl ((u2, u3 + (1 : Int32)))) else jbd (u2 ||| ((1 : Int32) <<< (u3 &&& 31)) : Int32) (fun v7 => some (.inl ((v7, u3 + (1 : Int32))))))))
def f_X11_since (a0 : Nat) (x1 : Int32) (μ : jM) : Option (Int32 × jM) :=
  (if (f_X11_isThing x1) = (0 : Int32) then some (((-1 : Int32), μ)) else jcl (jloop (fun (s : Int32 × Int32) => f_X11_since_L13 a0 x1 μ s.1 s.2) jfu (((0 : Int32), (1 : Int32)))) (fun w9 => jcl (f_X3_only (a0 + 3) ((f_J6_bitCount_0f7a4 w9).toInt64) μ) (fun m13 => some ((w9, m13)))))
set_option maxHeartbeats 4000000 in
set_option maxRecDepth 100000 in
theorem c_X11_since {l : Launch} {G : jG} {L : jL} (hL : jOKL L) {a0 : Nat} {x1 : Int32} (ka0 : jK L a0 11) {μ μ' : jM} {r : Int32} (h : f_X11_since a0 x1 μ = some ((r, μ'))) : jCt l G L 5 yX11_since cX11_since 4 (some .int) [.ref (L.2.2 a0), .int x1] μ (some (.int r)) μ' := by
  refine jCt_of (by decide) (Nat.le_of_ble_eq_true rfl) (fun X hC hX hR => ?_)
  subst hX
  have hC : jC X G cX11_since 4 RX11 (some .int) := hC
  unfold f_X11_since at h
  show jJ X G 4 L 0 0 (jQM X G L (some (.int r)) μ' 0 0) 0 [(0, .ref (L.2.2 a0)), (1, .int x1)] [] μ
  refine j_iload_n (pc := 0) hC 1 1 dX11_since_0 rfl rfl ?_
  refine j_si (pc := 1) hC hR [.int x1] iy_X11_isThing km_X11_271 dX11_since_1 rfl (by decide) (c_X11_isThing hL  rfl) (by decide) (Nat.le_of_ble_eq_true rfl) rfl ?_
  refine j_if_ne (pc := 4) hC 9 dX11_since_4 (by decide) (fun c1 => ?_) (fun c1 => ?_)
  · rw [if_neg c1] at h
    refine j_iconst (pc := 9) hC (0 : Int32) dX11_since_9 (by decide) ?_
    refine j_istore_n (pc := 10) hC 2 [(2, .int (0 : Int32)), (0, .ref (L.2.2 a0)), (1, .int x1)] dX11_since_10 rfl (by decide) rfl rfl ?_
    refine j_iconst (pc := 11) hC (1 : Int32) dX11_since_11 (by decide) ?_
    refine j_istore_n (pc := 12) hC 3 [(3, .int (1 : Int32)), (2, .int (0 : Int32)), (0, .ref (L.2.2 a0)), (1, .int x1)] dX11_since_12 rfl (by decide) rfl rfl ?_
    obtain ⟨w9, hw10, h⟩ := jcl_some h
    refine j_lv [2, 3, 1, 0] rfl ?_
    refine j_loop (step := (fun (s : Int32 × Int32) => f_X11_since_L13 a0 x1 μ s.1 s.2)) (P := (fun (s : Int32 × Int32) => jJ X G 4 L 0 0 (jQM X G L (some (.int r)) μ' 0 0) 13 [(0, .ref (L.2.2 a0)), (1, .int x1), (2, .int s.1), (3, .int s.2)] [] μ)) (R := (fun (e : Int32) => jJ X G 4 L 0 0 (jQM X G L (some (.int r)) μ' 0 0) 54 [(0, .ref (L.2.2 a0)), (2, .int e)] [] μ)) ?_ jfu (((0 : Int32), (1 : Int32))) w9 hw10 ?_
    · intro s11 o h hk
      obtain ⟨u2, u3⟩ := s11
      change f_X11_since_L13 a0 x1 μ u2 u3 = some o at h
      unfold f_X11_since_L13 at h
      show jJ X G 4 L 0 0 (jQM X G L (some (.int r)) μ' 0 0) 13 [(0, .ref (L.2.2 a0)), (1, .int x1), (2, .int u2), (3, .int u3)] [] μ
      refine j_iload_n (pc := 13) hC 3 3 dX11_since_13 rfl rfl ?_
      refine j_aload_n (pc := 14) hC 0 0 dX11_since_14 rfl rfl ?_
      refine jgr_11 (pc := 15) hC 2 (by decide) rfl kf_X11_26 dX11_since_15 ka0 (ly_11_2 hL ka0).1 ?_
      refine jgi_7 (pc := 18) hC 2 (by decide) rfl kf_X11_215 dX11_since_18 (ly_11_2 hL ka0).2.1 ?_
      refine j_icmp_gt (pc := 21) hC 54 dX11_since_21 (by decide) (fun c4 => ?_) (fun c4 => ?_)
      · rw [if_pos c4] at h
        obtain rfl := Option.some.inj h
        have hk : jJ X G 4 L 0 0 (jQM X G L (some (.int r)) μ' 0 0) 54 [(0, .ref (L.2.2 a0)), (2, .int u2)] [] μ := hk
        exact j_lv [0, 2] rfl hk
      · rw [if_neg c4] at h
        refine j_aload_n (pc := 24) hC 0 0 dX11_since_24 rfl rfl ?_
        refine jgr_11 (pc := 25) hC 2 (by decide) rfl kf_X11_26 dX11_since_25 ka0 (ly_11_2 hL ka0).1 ?_
        refine jgr_7 (pc := 28) hC 1 (by decide) rfl kf_X11_222 dX11_since_28 (ly_11_2 hL ka0).2.1 (ly_7_1 hL (ly_11_2 hL ka0).2.1).1 ?_
        refine j_iload_n (pc := 31) hC 3 3 dX11_since_31 rfl rfl ?_
        refine j_iconst (pc := 32) hC (1 : Int32) dX11_since_32 (by decide) ?_
        refine j_isub (pc := 33) hC dX11_since_33 ?_
        obtain ⟨i5, h⟩ := jin_some h
        refine j_aald (pc := 34) hC 3 dX11_since_34 rfl (by decide) (ly_7_1 hL (ly_11_2 hL ka0).2.1).2.1 (le_16 hL (ly_7_1 hL (ly_11_2 hL ka0).2.1).2.1 (jlt i5)).1 i5 (le_16 hL (ly_7_1 hL (ly_11_2 hL ka0).2.1).2.1 (jlt i5)).2.1 ?_
        refine j_iload_n (pc := 35) hC 1 1 dX11_since_35 rfl rfl ?_
        refine j_vi (pc := 36) hC hR [.int x1] iy_X1_has (q := (RX1, TX1, 4)) (ci := 1) rfl rfl (by decide) km_X11_281 dX11_since_36 rfl (by decide) (le_16 hL (ly_7_1 hL (ly_11_2 hL ka0).2.1).2.1 (jlt i5)).2.2.1 (c_X1_has hL (le_16 hL (ly_7_1 hL (ly_11_2 hL ka0).2.1).2.1 (jlt i5)).2.2.1 rfl) (by decide) (Nat.le_of_ble_eq_true rfl) rfl ?_
        refine j_if_eq (pc := 39) hC 48 dX11_since_39 (by decide) (fun c6 => ?_) (fun c6 => ?_)
        · rw [if_pos c6] at h
          refine j_iinc (pc := 48) hC 3 (u3 + (1 : Int32)) [(3, .int (u3 + (1 : Int32))), (0, .ref (L.2.2 a0)), (1, .int x1), (2, .int u2)] dX11_since_48 rfl rfl (by decide) rfl ?_
          refine j_goto (pc := 51) hC 13 dX11_since_51 (by decide) ?_
          obtain rfl := Option.some.inj h
          have hk : jJ X G 4 L 0 0 (jQM X G L (some (.int r)) μ' 0 0) 13 [(0, .ref (L.2.2 a0)), (1, .int x1), (2, .int u2), (3, .int (u3 + (1 : Int32)))] [] μ := hk
          exact j_lv [1, 2, 3, 0] rfl hk
        · rw [if_neg c6] at h
          refine j_iload_n (pc := 42) hC 2 2 dX11_since_42 rfl rfl ?_
          refine j_iconst (pc := 43) hC (1 : Int32) dX11_since_43 (by decide) ?_
          refine j_iload_n (pc := 44) hC 3 3 dX11_since_44 rfl rfl ?_
          refine j_ishl (pc := 45) hC dX11_since_45 ?_
          refine j_ior (pc := 46) hC dX11_since_46 ?_
          obtain ⟨v7, e8, h⟩ := jbd_ex h
          refine j_istore_n (pc := 47) hC 2 [(2, .int v7), (0, .ref (L.2.2 a0)), (1, .int x1), (3, .int u3)] dX11_since_47 rfl (by decide) e8 rfl ?_
          refine j_iinc (pc := 48) hC 3 (u3 + (1 : Int32)) [(3, .int (u3 + (1 : Int32))), (2, .int v7), (0, .ref (L.2.2 a0)), (1, .int x1)] dX11_since_48 rfl rfl (by decide) rfl ?_
          refine j_goto (pc := 51) hC 13 dX11_since_51 (by decide) ?_
          obtain rfl := Option.some.inj h
          have hk : jJ X G 4 L 0 0 (jQM X G L (some (.int r)) μ' 0 0) 13 [(0, .ref (L.2.2 a0)), (1, .int x1), (2, .int v7), (3, .int (u3 + (1 : Int32)))] [] μ := hk
          exact j_lv [2, 3, 1, 0] rfl hk
    · obtain ⟨z12, rfl⟩ : ∃ y, y = w9 := ⟨_, rfl⟩
      try dsimp only at h
      show jJ X G 4 L 0 0 (jQM X G L (some (.int r)) μ' 0 0) 54 [(0, .ref (L.2.2 a0)), (2, .int z12)] [] μ
      refine j_aload_n (pc := 54) hC 0 0 dX11_since_54 rfl rfl ?_
      refine jgr_11 (pc := 55) hC 1 (by decide) rfl kf_X11_19 dX11_since_55 ka0 (ly_11_1 hL ka0).1 ?_
      refine j_iload_n (pc := 58) hC 2 1 dX11_since_58 rfl rfl ?_
      refine j_si (pc := 59) hC hR [.int z12] iy_J6_bitCount_0f7a4 km_X11_284 dX11_since_59 rfl (by decide) (c_J6_bitCount_0f7a4 hL  rfl) (by decide) (Nat.le_of_ble_eq_true rfl) rfl ?_
      refine j_i2l (pc := 62) hC dX11_since_62 ?_
      obtain ⟨m13, e14, h⟩ := jcl_some h
      refine j_vv (pc := 63) hC hR [.long ((f_J6_bitCount_0f7a4 z12).toInt64)] iy_X3_only (q := (RX3, TX3, 2)) (ci := 3) rfl rfl (by decide) km_X11_235 dX11_since_63 rfl (by decide) (ly_11_1 hL ka0).2.1 (c_X3_only hL (ly_11_1 hL ka0).2.1 e14) (by decide) (Nat.le_of_ble_eq_true rfl) rfl ?_
      refine j_iload_n (pc := 66) hC 2 1 dX11_since_66 rfl rfl ?_
      obtain ⟨rfl, rfl⟩ := Prod.mk.inj (Option.some.inj h)
      exact j_iret (pc := 67) hC dX11_since_67 rfl
  · rw [if_pos c1] at h
    refine j_iconst (pc := 7) hC (-1 : Int32) dX11_since_7 (by decide) ?_
    obtain ⟨rfl, rfl⟩ := Prod.mk.inj (Option.some.inj h)
    exact j_iret (pc := 8) hC dX11_since_8 rfl
theorem dX11_tellOtherThings_0 : decode cX11_tellOtherThings 0 = .ok (.aload_n 0, 1) := by decide +kernel
theorem dX11_tellOtherThings_1 : decode cX11_tellOtherThings 1 = .ok (.getfield 19, 3) := by decide +kernel
theorem dX11_tellOtherThings_4 : decode cX11_tellOtherThings 4 = .ok (.invokevirtual 277, 3) := by decide +kernel
theorem dX11_tellOtherThings_7 : decode cX11_tellOtherThings 7 = .ok (.iconst 0, 1) := by decide +kernel
theorem dX11_tellOtherThings_8 : decode cX11_tellOtherThings 8 = .ok (.istore_n 3, 1) := by decide +kernel
theorem dX11_tellOtherThings_9 : decode cX11_tellOtherThings 9 = .ok (.iload_n 3, 1) := by decide +kernel
theorem dX11_tellOtherThings_10 : decode cX11_tellOtherThings 10 = .ok (.bipush 30, 2) := by decide +kernel
theorem dX11_tellOtherThings_12 : decode cX11_tellOtherThings 12 = .ok (.if_icmp .gt 34, 3) := by decide +kernel
theorem dX11_tellOtherThings_15 : decode cX11_tellOtherThings 15 = .ok (.iload_n 3, 1) := by decide +kernel
theorem dX11_tellOtherThings_16 : decode cX11_tellOtherThings 16 = .ok (.invokestatic 271, 3) := by decide +kernel
theorem dX11_tellOtherThings_19 : decode cX11_tellOtherThings 19 = .ok (.ifCond .eq 21, 3) := by decide +kernel
theorem dX11_tellOtherThings_22 : decode cX11_tellOtherThings 22 = .ok (.aload_n 1, 1) := by decide +kernel
theorem dX11_tellOtherThings_23 : decode cX11_tellOtherThings 23 = .ok (.iload_n 3, 1) := by decide +kernel
theorem dX11_tellOtherThings_24 : decode cX11_tellOtherThings 24 = .ok (.aload_n 2, 1) := by decide +kernel
theorem dX11_tellOtherThings_25 : decode cX11_tellOtherThings 25 = .ok (.invokevirtual 293, 3) := by decide +kernel
theorem dX11_tellOtherThings_28 : decode cX11_tellOtherThings 28 = .ok (.ifCond .eq 12, 3) := by decide +kernel
theorem dX11_tellOtherThings_31 : decode cX11_tellOtherThings 31 = .ok (.aload_n 0, 1) := by decide +kernel
theorem dX11_tellOtherThings_32 : decode cX11_tellOtherThings 32 = .ok (.getfield 19, 3) := by decide +kernel
theorem dX11_tellOtherThings_35 : decode cX11_tellOtherThings 35 = .ok (.iload_n 3, 1) := by decide +kernel
theorem dX11_tellOtherThings_36 : decode cX11_tellOtherThings 36 = .ok (.i2l, 1) := by decide +kernel
theorem dX11_tellOtherThings_37 : decode cX11_tellOtherThings 37 = .ok (.invokevirtual 248, 3) := by decide +kernel
theorem dX11_tellOtherThings_40 : decode cX11_tellOtherThings 40 = .ok (.iinc 3 1, 3) := by decide +kernel
theorem dX11_tellOtherThings_43 : decode cX11_tellOtherThings 43 = .ok (.goto (-34), 3) := by decide +kernel
theorem dX11_tellOtherThings_46 : decode cX11_tellOtherThings 46 = .ok (.aload_n 0, 1) := by decide +kernel
theorem dX11_tellOtherThings_47 : decode cX11_tellOtherThings 47 = .ok (.getfield 19, 3) := by decide +kernel
theorem dX11_tellOtherThings_50 : decode cX11_tellOtherThings 50 = .ok (.getfield 297, 3) := by decide +kernel
theorem dX11_tellOtherThings_53 : decode cX11_tellOtherThings 53 = .ok (.ireturn, 1) := by decide +kernel
def f_X11_tellOtherThings_L9 (a0 : Nat) (a1 : Nat) (a2 : Nat) (u3 : Int32) (m4 : jM) : Option ((Int32 × jM) ⊕ (jM)) :=
  (if (30 : Int32) < u3 then some (.inr m4) else (if (f_X11_isThing u3) = (0 : Int32) then some (.inl ((u3 + (1 : Int32), m4))) else jcl (f_X9_isOtherwise a1 u3 a2 m4) (fun v7 => (if v7 = (0 : Int32) then some (.inl ((u3 + (1 : Int32), m4))) else jcl (f_X3_tell (a0 + 3) u3.toInt64 m4) (fun m10 => some (.inl ((u3 + (1 : Int32), m10))))))))
def f_X11_tellOtherThings (a0 : Nat) (a1 : Nat) (a2 : Nat) (μ : jM) : Option (Int32 × jM) :=
  jbd (f_X3_empty (a0 + 3) μ) (fun m1 => jcl (jloop (fun (s : Int32 × jM) => f_X11_tellOtherThings_L9 a0 a1 a2 s.1 s.2) jfu (((0 : Int32), m1))) (fun w12 => some ((w12.1 (a0 + 3) 1, w12))))
set_option maxHeartbeats 4000000 in
set_option maxRecDepth 100000 in
theorem c_X11_tellOtherThings {l : Launch} {G : jG} {L : jL} (hL : jOKL L) {a0 : Nat} {a1 : Nat} {a2 : Nat} (ka0 : jK L a0 11) (ka1 : jK L a1 9) (ka2 : jK L a2 9) {μ μ' : jM} {r : Int32} (h : f_X11_tellOtherThings a0 a1 a2 μ = some ((r, μ'))) : jCt l G L 6 yX11_tellOtherThings cX11_tellOtherThings 4 (some .int) [.ref (L.2.2 a0), .ref (L.2.2 a1), .ref (L.2.2 a2)] μ (some (.int r)) μ' := by
  refine jCt_of (by decide) (Nat.le_of_ble_eq_true rfl) (fun X hC hX hR => ?_)
  subst hX
  have hC : jC X G cX11_tellOtherThings 4 RX11 (some .int) := hC
  unfold f_X11_tellOtherThings at h
  show jJ X G 4 L 0 0 (jQM X G L (some (.int r)) μ' 0 0) 0 [(0, .ref (L.2.2 a0)), (1, .ref (L.2.2 a1)), (2, .ref (L.2.2 a2))] [] μ
  refine j_aload_n (pc := 0) hC 0 0 dX11_tellOtherThings_0 rfl rfl ?_
  refine jgr_11 (pc := 1) hC 1 (by decide) rfl kf_X11_19 dX11_tellOtherThings_1 ka0 (ly_11_1 hL ka0).1 ?_
  obtain ⟨m1, e2, h⟩ := jbd_ex h
  refine j_vv (pc := 4) hC hR [] iy_X3_empty (q := (RX3, TX3, 2)) (ci := 3) rfl rfl (by decide) km_X11_277 dX11_tellOtherThings_4 rfl (by decide) (ly_11_1 hL ka0).2.1 (c_X3_empty hL (ly_11_1 hL ka0).2.1 e2.symm) (by decide) (Nat.le_of_ble_eq_true rfl) rfl ?_
  refine j_iconst (pc := 7) hC (0 : Int32) dX11_tellOtherThings_7 (by decide) ?_
  refine j_istore_n (pc := 8) hC 3 [(3, .int (0 : Int32)), (0, .ref (L.2.2 a0)), (1, .ref (L.2.2 a1)), (2, .ref (L.2.2 a2))] dX11_tellOtherThings_8 rfl (by decide) rfl rfl ?_
  obtain ⟨w12, hw13, h⟩ := jcl_some h
  refine j_lv [1, 2, 3, 0] rfl ?_
  refine j_loop (step := (fun (s : Int32 × jM) => f_X11_tellOtherThings_L9 a0 a1 a2 s.1 s.2)) (P := (fun (s : Int32 × jM) => jJ X G 4 L 0 0 (jQM X G L (some (.int r)) μ' 0 0) 9 [(0, .ref (L.2.2 a0)), (1, .ref (L.2.2 a1)), (2, .ref (L.2.2 a2)), (3, .int s.1)] [] s.2)) (R := (fun (e : jM) => jJ X G 4 L 0 0 (jQM X G L (some (.int r)) μ' 0 0) 46 [(0, .ref (L.2.2 a0))] [] e)) ?_ jfu (((0 : Int32), m1)) w12 hw13 ?_
  · intro s14 o h hk
    obtain ⟨u3, m4⟩ := s14
    change f_X11_tellOtherThings_L9 a0 a1 a2 u3 m4 = some o at h
    unfold f_X11_tellOtherThings_L9 at h
    show jJ X G 4 L 0 0 (jQM X G L (some (.int r)) μ' 0 0) 9 [(0, .ref (L.2.2 a0)), (1, .ref (L.2.2 a1)), (2, .ref (L.2.2 a2)), (3, .int u3)] [] m4
    refine j_iload_n (pc := 9) hC 3 3 dX11_tellOtherThings_9 rfl rfl ?_
    refine j_bipush (pc := 10) hC (30 : Int32) dX11_tellOtherThings_10 (by decide) ?_
    refine j_icmp_gt (pc := 12) hC 46 dX11_tellOtherThings_12 (by decide) (fun c5 => ?_) (fun c5 => ?_)
    · rw [if_pos c5] at h
      obtain rfl := Option.some.inj h
      have hk : jJ X G 4 L 0 0 (jQM X G L (some (.int r)) μ' 0 0) 46 [(0, .ref (L.2.2 a0))] [] m4 := hk
      exact j_lv [0] rfl hk
    · rw [if_neg c5] at h
      refine j_iload_n (pc := 15) hC 3 3 dX11_tellOtherThings_15 rfl rfl ?_
      refine j_si (pc := 16) hC hR [.int u3] iy_X11_isThing km_X11_271 dX11_tellOtherThings_16 rfl (by decide) (c_X11_isThing hL  rfl) (by decide) (Nat.le_of_ble_eq_true rfl) rfl ?_
      refine j_if_eq (pc := 19) hC 40 dX11_tellOtherThings_19 (by decide) (fun c6 => ?_) (fun c6 => ?_)
      · rw [if_pos c6] at h
        refine j_iinc (pc := 40) hC 3 (u3 + (1 : Int32)) [(3, .int (u3 + (1 : Int32))), (0, .ref (L.2.2 a0)), (1, .ref (L.2.2 a1)), (2, .ref (L.2.2 a2))] dX11_tellOtherThings_40 rfl rfl (by decide) rfl ?_
        refine j_goto (pc := 43) hC 9 dX11_tellOtherThings_43 (by decide) ?_
        obtain rfl := Option.some.inj h
        have hk : jJ X G 4 L 0 0 (jQM X G L (some (.int r)) μ' 0 0) 9 [(0, .ref (L.2.2 a0)), (1, .ref (L.2.2 a1)), (2, .ref (L.2.2 a2)), (3, .int (u3 + (1 : Int32)))] [] m4 := hk
        exact j_lv [1, 2, 3, 0] rfl hk
      · rw [if_neg c6] at h
        refine j_aload_n (pc := 22) hC 1 1 dX11_tellOtherThings_22 rfl rfl ?_
        refine j_iload_n (pc := 23) hC 3 3 dX11_tellOtherThings_23 rfl rfl ?_
        refine j_aload_n (pc := 24) hC 2 2 dX11_tellOtherThings_24 rfl rfl ?_
        obtain ⟨v7, e8, h⟩ := jcl_some h
        refine j_vi (pc := 25) hC hR [.int u3, .ref (L.2.2 a2)] iy_X9_isOtherwise (q := (RX9, TX9, 7)) (ci := 9) rfl rfl (by decide) km_X11_293 dX11_tellOtherThings_25 rfl (by decide) ka1 (c_X9_isOtherwise hL ka1 ka2 e8) (by decide) (Nat.le_of_ble_eq_true rfl) rfl ?_
        refine j_if_eq (pc := 28) hC 40 dX11_tellOtherThings_28 (by decide) (fun c9 => ?_) (fun c9 => ?_)
        · rw [if_pos c9] at h
          refine j_iinc (pc := 40) hC 3 (u3 + (1 : Int32)) [(3, .int (u3 + (1 : Int32))), (0, .ref (L.2.2 a0)), (1, .ref (L.2.2 a1)), (2, .ref (L.2.2 a2))] dX11_tellOtherThings_40 rfl rfl (by decide) rfl ?_
          refine j_goto (pc := 43) hC 9 dX11_tellOtherThings_43 (by decide) ?_
          obtain rfl := Option.some.inj h
          have hk : jJ X G 4 L 0 0 (jQM X G L (some (.int r)) μ' 0 0) 9 [(0, .ref (L.2.2 a0)), (1, .ref (L.2.2 a1)), (2, .ref (L.2.2 a2)), (3, .int (u3 + (1 : Int32)))] [] m4 := hk
          exact j_lv [1, 2, 3, 0] rfl hk
        · rw [if_neg c9] at h
          refine j_aload_n (pc := 31) hC 0 0 dX11_tellOtherThings_31 rfl rfl ?_
          refine jgr_11 (pc := 32) hC 1 (by decide) rfl kf_X11_19 dX11_tellOtherThings_32 ka0 (ly_11_1 hL ka0).1 ?_
          refine j_iload_n (pc := 35) hC 3 3 dX11_tellOtherThings_35 rfl rfl ?_
          refine j_i2l (pc := 36) hC dX11_tellOtherThings_36 ?_
          obtain ⟨m10, e11, h⟩ := jcl_some h
          refine j_vv (pc := 37) hC hR [.long u3.toInt64] iy_X3_tell (q := (RX3, TX3, 2)) (ci := 3) rfl rfl (by decide) km_X11_248 dX11_tellOtherThings_37 rfl (by decide) (ly_11_1 hL ka0).2.1 (c_X3_tell hL (ly_11_1 hL ka0).2.1 e11) (by decide) (Nat.le_of_ble_eq_true rfl) rfl ?_
          refine j_iinc (pc := 40) hC 3 (u3 + (1 : Int32)) [(3, .int (u3 + (1 : Int32))), (0, .ref (L.2.2 a0)), (1, .ref (L.2.2 a1)), (2, .ref (L.2.2 a2))] dX11_tellOtherThings_40 rfl rfl (by decide) rfl ?_
          refine j_goto (pc := 43) hC 9 dX11_tellOtherThings_43 (by decide) ?_
          obtain rfl := Option.some.inj h
          have hk : jJ X G 4 L 0 0 (jQM X G L (some (.int r)) μ' 0 0) 9 [(0, .ref (L.2.2 a0)), (1, .ref (L.2.2 a1)), (2, .ref (L.2.2 a2)), (3, .int (u3 + (1 : Int32)))] [] m10 := hk
          exact j_lv [1, 2, 3, 0] rfl hk
  · obtain ⟨m15, rfl⟩ : ∃ y, y = w12 := ⟨_, rfl⟩
    try dsimp only at h
    show jJ X G 4 L 0 0 (jQM X G L (some (.int r)) μ' 0 0) 46 [(0, .ref (L.2.2 a0))] [] m15
    refine j_aload_n (pc := 46) hC 0 0 dX11_tellOtherThings_46 rfl rfl ?_
    refine jgr_11 (pc := 47) hC 1 (by decide) rfl kf_X11_19 dX11_tellOtherThings_47 ka0 (ly_11_1 hL ka0).1 ?_
    refine jgi_3 (pc := 50) hC 1 (by decide) rfl kf_X11_297 dX11_tellOtherThings_50 (ly_11_1 hL ka0).2.1 ?_
    obtain ⟨rfl, rfl⟩ := Prod.mk.inj (Option.some.inj h)
    exact j_iret (pc := 53) hC dX11_tellOtherThings_53 rfl
theorem dX11_would_0 : decode cX11_would 0 = .ok (.iload_n 1, 1) := by decide +kernel
theorem dX11_would_1 : decode cX11_would 1 = .ok (.ifCond .lt 14, 3) := by decide +kernel
theorem dX11_would_4 : decode cX11_would 4 = .ok (.iload_n 1, 1) := by decide +kernel
theorem dX11_would_5 : decode cX11_would 5 = .ok (.aload_n 0, 1) := by decide +kernel
theorem dX11_would_6 : decode cX11_would 6 = .ok (.getfield 26, 3) := by decide +kernel
theorem dX11_would_9 : decode cX11_would 9 = .ok (.getfield 215, 3) := by decide +kernel
theorem dX11_would_12 : decode cX11_would 12 = .ok (.if_icmp .le 5, 3) := by decide +kernel
theorem dX11_would_15 : decode cX11_would 15 = .ok (.iconst (-1), 1) := by decide +kernel
theorem dX11_would_16 : decode cX11_would 16 = .ok (.ireturn, 1) := by decide +kernel
theorem dX11_would_17 : decode cX11_would 17 = .ok (.aload_n 0, 1) := by decide +kernel
theorem dX11_would_18 : decode cX11_would 18 = .ok (.aload_n 0, 1) := by decide +kernel
theorem dX11_would_19 : decode cX11_would 19 = .ok (.getfield 26, 3) := by decide +kernel
theorem dX11_would_22 : decode cX11_would 22 = .ok (.getfield 42, 3) := by decide +kernel
theorem dX11_would_25 : decode cX11_would 25 = .ok (.iload_n 1, 1) := by decide +kernel
theorem dX11_would_26 : decode cX11_would 26 = .ok (.aload_n 0, 1) := by decide +kernel
theorem dX11_would_27 : decode cX11_would 27 = .ok (.getfield 26, 3) := by decide +kernel
theorem dX11_would_30 : decode cX11_would 30 = .ok (.getfield 215, 3) := by decide +kernel
theorem dX11_would_33 : decode cX11_would 33 = .ok (.if_icmp .ne 13, 3) := by decide +kernel
theorem dX11_would_36 : decode cX11_would 36 = .ok (.aload_n 0, 1) := by decide +kernel
theorem dX11_would_37 : decode cX11_would 37 = .ok (.getfield 26, 3) := by decide +kernel
theorem dX11_would_40 : decode cX11_would 40 = .ok (.getfield 42, 3) := by decide +kernel
theorem dX11_would_43 : decode cX11_would 43 = .ok (.goto 15, 3) := by decide +kernel
theorem dX11_would_46 : decode cX11_would 46 = .ok (.aload_n 0, 1) := by decide +kernel
theorem dX11_would_47 : decode cX11_would 47 = .ok (.getfield 26, 3) := by decide +kernel
theorem dX11_would_50 : decode cX11_would 50 = .ok (.getfield 222, 3) := by decide +kernel
theorem dX11_would_53 : decode cX11_would 53 = .ok (.iload_n 1, 1) := by decide +kernel
theorem dX11_would_54 : decode cX11_would 54 = .ok (.aaload, 1) := by decide +kernel
theorem dX11_would_55 : decode cX11_would 55 = .ok (.getfield 226, 3) := by decide +kernel
theorem dX11_would_58 : decode cX11_would 58 = .ok (.invokevirtual 289, 3) := by decide +kernel
theorem dX11_would_61 : decode cX11_would 61 = .ok (.ireturn, 1) := by decide +kernel
def f_X11_would (a0 : Nat) (x1 : Int32) (μ : jM) : Option (Int32 × jM) :=
  (if x1 < (0 : Int32) then some (((-1 : Int32), μ)) else (if x1 ≤ (μ.1 (a0 + 5) 2) then (if x1 = (μ.1 (a0 + 5) 2) then jcl2 (f_X11_tellOtherThings a0 (a0 + 6) (a0 + 6) μ) (fun v8 m9 => some ((v8, m9))) else jin x1 9 (jcl2 (f_X11_tellOtherThings a0 (a0 + 6) (((a0 + 13) + 8 * x1.toNatClampNeg) + 1) μ) (fun v5 m6 => some ((v5, m6))))) else some (((-1 : Int32), μ))))
set_option maxHeartbeats 4000000 in
set_option maxRecDepth 100000 in
theorem c_X11_would {l : Launch} {G : jG} {L : jL} (hL : jOKL L) {a0 : Nat} {x1 : Int32} (ka0 : jK L a0 11) {μ μ' : jM} {r : Int32} (h : f_X11_would a0 x1 μ = some ((r, μ'))) : jCt l G L 7 yX11_would cX11_would 2 (some .int) [.ref (L.2.2 a0), .int x1] μ (some (.int r)) μ' := by
  refine jCt_of (by decide) (Nat.le_of_ble_eq_true rfl) (fun X hC hX hR => ?_)
  subst hX
  have hC : jC X G cX11_would 2 RX11 (some .int) := hC
  unfold f_X11_would at h
  show jJ X G 2 L 0 0 (jQM X G L (some (.int r)) μ' 0 0) 0 [(0, .ref (L.2.2 a0)), (1, .int x1)] [] μ
  refine j_iload_n (pc := 0) hC 1 1 dX11_would_0 rfl rfl ?_
  refine j_if_lt (pc := 1) hC 15 dX11_would_1 (by decide) (fun c1 => ?_) (fun c1 => ?_)
  · rw [if_pos c1] at h
    refine j_iconst (pc := 15) hC (-1 : Int32) dX11_would_15 (by decide) ?_
    obtain ⟨rfl, rfl⟩ := Prod.mk.inj (Option.some.inj h)
    exact j_iret (pc := 16) hC dX11_would_16 rfl
  · rw [if_neg c1] at h
    refine j_iload_n (pc := 4) hC 1 1 dX11_would_4 rfl rfl ?_
    refine j_aload_n (pc := 5) hC 0 0 dX11_would_5 rfl rfl ?_
    refine jgr_11 (pc := 6) hC 2 (by decide) rfl kf_X11_26 dX11_would_6 ka0 (ly_11_2 hL ka0).1 ?_
    refine jgi_7 (pc := 9) hC 2 (by decide) rfl kf_X11_215 dX11_would_9 (ly_11_2 hL ka0).2.1 ?_
    refine j_icmp_le (pc := 12) hC 17 dX11_would_12 (by decide) (fun c2 => ?_) (fun c2 => ?_)
    · rw [if_pos c2] at h
      refine j_aload_n (pc := 17) hC 0 0 dX11_would_17 rfl rfl ?_
      refine j_aload_n (pc := 18) hC 0 0 dX11_would_18 rfl rfl ?_
      refine jgr_11 (pc := 19) hC 2 (by decide) rfl kf_X11_26 dX11_would_19 ka0 (ly_11_2 hL ka0).1 ?_
      refine jgr_7 (pc := 22) hC 0 (by decide) rfl kf_X11_42 dX11_would_22 (ly_11_2 hL ka0).2.1 (ly_7_0 hL (ly_11_2 hL ka0).2.1).1 ?_
      refine j_iload_n (pc := 25) hC 1 1 dX11_would_25 rfl rfl ?_
      refine j_aload_n (pc := 26) hC 0 0 dX11_would_26 rfl rfl ?_
      refine jgr_11 (pc := 27) hC 2 (by decide) rfl kf_X11_26 dX11_would_27 ka0 (ly_11_2 hL ka0).1 ?_
      refine jgi_7 (pc := 30) hC 2 (by decide) rfl kf_X11_215 dX11_would_30 (ly_11_2 hL ka0).2.1 ?_
      refine j_icmp_ne (pc := 33) hC 46 dX11_would_33 (by decide) (fun c3 => ?_) (fun c3 => ?_)
      · rw [if_neg c3] at h
        refine j_aload_n (pc := 46) hC 0 0 dX11_would_46 rfl rfl ?_
        refine jgr_11 (pc := 47) hC 2 (by decide) rfl kf_X11_26 dX11_would_47 ka0 (ly_11_2 hL ka0).1 ?_
        refine jgr_7 (pc := 50) hC 1 (by decide) rfl kf_X11_222 dX11_would_50 (ly_11_2 hL ka0).2.1 (ly_7_1 hL (ly_11_2 hL ka0).2.1).1 ?_
        refine j_iload_n (pc := 53) hC 1 1 dX11_would_53 rfl rfl ?_
        obtain ⟨i4, h⟩ := jin_some h
        refine j_aald (pc := 54) hC 3 dX11_would_54 rfl (by decide) (ly_7_1 hL (ly_11_2 hL ka0).2.1).2.1 (le_16 hL (ly_7_1 hL (ly_11_2 hL ka0).2.1).2.1 (jlt i4)).1 i4 (le_16 hL (ly_7_1 hL (ly_11_2 hL ka0).2.1).2.1 (jlt i4)).2.1 ?_
        refine jgr_1 (pc := 55) hC 0 (by decide) rfl kf_X11_226 dX11_would_55 (le_16 hL (ly_7_1 hL (ly_11_2 hL ka0).2.1).2.1 (jlt i4)).2.2.1 (ly_1_0 hL (le_16 hL (ly_7_1 hL (ly_11_2 hL ka0).2.1).2.1 (jlt i4)).2.2.1).1 ?_
        obtain ⟨v5, m6, e7, h⟩ := jcl2_some h
        refine j_vi (pc := 58) hC hR [.ref (L.2.2 (a0 + 6)), .ref (L.2.2 (((a0 + 13) + 8 * x1.toNatClampNeg) + 1))] iy_X11_tellOtherThings (q := (RX11, TX11, 15)) (ci := 11) rfl rfl (by decide) km_X11_289 dX11_would_58 rfl (by decide) ka0 (c_X11_tellOtherThings hL ka0 (ly_7_0 hL (ly_11_2 hL ka0).2.1).2.1 (ly_1_0 hL (le_16 hL (ly_7_1 hL (ly_11_2 hL ka0).2.1).2.1 (jlt i4)).2.2.1).2.1 e7) (by decide) (Nat.le_of_ble_eq_true rfl) rfl ?_
        obtain ⟨rfl, rfl⟩ := Prod.mk.inj (Option.some.inj h)
        exact j_iret (pc := 61) hC dX11_would_61 rfl
      · rw [if_pos c3] at h
        refine j_aload_n (pc := 36) hC 0 0 dX11_would_36 rfl rfl ?_
        refine jgr_11 (pc := 37) hC 2 (by decide) rfl kf_X11_26 dX11_would_37 ka0 (ly_11_2 hL ka0).1 ?_
        refine jgr_7 (pc := 40) hC 0 (by decide) rfl kf_X11_42 dX11_would_40 (ly_11_2 hL ka0).2.1 (ly_7_0 hL (ly_11_2 hL ka0).2.1).1 ?_
        refine j_goto (pc := 43) hC 58 dX11_would_43 (by decide) ?_
        obtain ⟨v8, m9, e10, h⟩ := jcl2_some h
        refine j_vi (pc := 58) hC hR [.ref (L.2.2 (a0 + 6)), .ref (L.2.2 (a0 + 6))] iy_X11_tellOtherThings (q := (RX11, TX11, 15)) (ci := 11) rfl rfl (by decide) km_X11_289 dX11_would_58 rfl (by decide) ka0 (c_X11_tellOtherThings hL ka0 (ly_7_0 hL (ly_11_2 hL ka0).2.1).2.1 (ly_7_0 hL (ly_11_2 hL ka0).2.1).2.1 e10) (by decide) (Nat.le_of_ble_eq_true rfl) rfl ?_
        obtain ⟨rfl, rfl⟩ := Prod.mk.inj (Option.some.inj h)
        exact j_iret (pc := 61) hC dX11_would_61 rfl
    · rw [if_neg c2] at h
      refine j_iconst (pc := 15) hC (-1 : Int32) dX11_would_15 (by decide) ?_
      obtain ⟨rfl, rfl⟩ := Prod.mk.inj (Option.some.inj h)
      exact j_iret (pc := 16) hC dX11_would_16 rfl
theorem dX11_between_0 : decode cX11_between 0 = .ok (.aload_n 0, 1) := by decide +kernel
theorem dX11_between_1 : decode cX11_between 1 = .ok (.iload_n 1, 1) := by decide +kernel
theorem dX11_between_2 : decode cX11_between 2 = .ok (.invokevirtual 268, 3) := by decide +kernel
theorem dX11_between_5 : decode cX11_between 5 = .ok (.ifCond .eq 11, 3) := by decide +kernel
theorem dX11_between_8 : decode cX11_between 8 = .ok (.aload_n 0, 1) := by decide +kernel
theorem dX11_between_9 : decode cX11_between 9 = .ok (.iload_n 2, 1) := by decide +kernel
theorem dX11_between_10 : decode cX11_between 10 = .ok (.invokevirtual 268, 3) := by decide +kernel
theorem dX11_between_13 : decode cX11_between 13 = .ok (.ifCond .ne 5, 3) := by decide +kernel
theorem dX11_between_16 : decode cX11_between 16 = .ok (.iconst (-1), 1) := by decide +kernel
theorem dX11_between_17 : decode cX11_between 17 = .ok (.ireturn, 1) := by decide +kernel
theorem dX11_between_18 : decode cX11_between 18 = .ok (.aload_n 0, 1) := by decide +kernel
theorem dX11_between_19 : decode cX11_between 19 = .ok (.aload_n 0, 1) := by decide +kernel
theorem dX11_between_20 : decode cX11_between 20 = .ok (.getfield 26, 3) := by decide +kernel
theorem dX11_between_23 : decode cX11_between 23 = .ok (.getfield 222, 3) := by decide +kernel
theorem dX11_between_26 : decode cX11_between 26 = .ok (.iload_n 1, 1) := by decide +kernel
theorem dX11_between_27 : decode cX11_between 27 = .ok (.iconst 1, 1) := by decide +kernel
theorem dX11_between_28 : decode cX11_between 28 = .ok (.isub, 1) := by decide +kernel
theorem dX11_between_29 : decode cX11_between 29 = .ok (.aaload, 1) := by decide +kernel
theorem dX11_between_30 : decode cX11_between 30 = .ok (.getfield 226, 3) := by decide +kernel
theorem dX11_between_33 : decode cX11_between 33 = .ok (.aload_n 0, 1) := by decide +kernel
theorem dX11_between_34 : decode cX11_between 34 = .ok (.getfield 26, 3) := by decide +kernel
theorem dX11_between_37 : decode cX11_between 37 = .ok (.getfield 222, 3) := by decide +kernel
theorem dX11_between_40 : decode cX11_between 40 = .ok (.iload_n 2, 1) := by decide +kernel
theorem dX11_between_41 : decode cX11_between 41 = .ok (.iconst 1, 1) := by decide +kernel
theorem dX11_between_42 : decode cX11_between 42 = .ok (.isub, 1) := by decide +kernel
theorem dX11_between_43 : decode cX11_between 43 = .ok (.aaload, 1) := by decide +kernel
theorem dX11_between_44 : decode cX11_between 44 = .ok (.getfield 226, 3) := by decide +kernel
theorem dX11_between_47 : decode cX11_between 47 = .ok (.invokevirtual 289, 3) := by decide +kernel
theorem dX11_between_50 : decode cX11_between 50 = .ok (.ireturn, 1) := by decide +kernel
def f_X11_between (a0 : Nat) (x1 : Int32) (x2 : Int32) (μ : jM) : Option (Int32 × jM) :=
  (if (f_X11_isOpen a0 x1 μ) = (0 : Int32) then some (((-1 : Int32), μ)) else (if (f_X11_isOpen a0 x2 μ) = (0 : Int32) then some (((-1 : Int32), μ)) else jin (x1 - (1 : Int32)) 9 (jin (x2 - (1 : Int32)) 9 (jcl2 (f_X11_tellOtherThings a0 (((a0 + 13) + 8 * (x1 - (1 : Int32)).toNatClampNeg) + 1) (((a0 + 13) + 8 * (x2 - (1 : Int32)).toNatClampNeg) + 1) μ) (fun v5 m6 => some ((v5, m6)))))))
set_option maxHeartbeats 4000000 in
set_option maxRecDepth 100000 in
theorem c_X11_between {l : Launch} {G : jG} {L : jL} (hL : jOKL L) {a0 : Nat} {x1 : Int32} {x2 : Int32} (ka0 : jK L a0 11) {μ μ' : jM} {r : Int32} (h : f_X11_between a0 x1 x2 μ = some ((r, μ'))) : jCt l G L 7 yX11_between cX11_between 3 (some .int) [.ref (L.2.2 a0), .int x1, .int x2] μ (some (.int r)) μ' := by
  refine jCt_of (by decide) (Nat.le_of_ble_eq_true rfl) (fun X hC hX hR => ?_)
  subst hX
  have hC : jC X G cX11_between 3 RX11 (some .int) := hC
  unfold f_X11_between at h
  show jJ X G 3 L 0 0 (jQM X G L (some (.int r)) μ' 0 0) 0 [(0, .ref (L.2.2 a0)), (1, .int x1), (2, .int x2)] [] μ
  refine j_aload_n (pc := 0) hC 0 0 dX11_between_0 rfl rfl ?_
  refine j_iload_n (pc := 1) hC 1 1 dX11_between_1 rfl rfl ?_
  refine j_vi (pc := 2) hC hR [.int x1] iy_X11_isOpen (q := (RX11, TX11, 15)) (ci := 11) rfl rfl (by decide) km_X11_268 dX11_between_2 rfl (by decide) ka0 (c_X11_isOpen hL ka0 rfl) (by decide) (Nat.le_of_ble_eq_true rfl) rfl ?_
  refine j_if_eq (pc := 5) hC 16 dX11_between_5 (by decide) (fun c1 => ?_) (fun c1 => ?_)
  · rw [if_pos c1] at h
    refine j_iconst (pc := 16) hC (-1 : Int32) dX11_between_16 (by decide) ?_
    obtain ⟨rfl, rfl⟩ := Prod.mk.inj (Option.some.inj h)
    exact j_iret (pc := 17) hC dX11_between_17 rfl
  · rw [if_neg c1] at h
    refine j_aload_n (pc := 8) hC 0 0 dX11_between_8 rfl rfl ?_
    refine j_iload_n (pc := 9) hC 2 2 dX11_between_9 rfl rfl ?_
    refine j_vi (pc := 10) hC hR [.int x2] iy_X11_isOpen (q := (RX11, TX11, 15)) (ci := 11) rfl rfl (by decide) km_X11_268 dX11_between_10 rfl (by decide) ka0 (c_X11_isOpen hL ka0 rfl) (by decide) (Nat.le_of_ble_eq_true rfl) rfl ?_
    refine j_if_ne (pc := 13) hC 18 dX11_between_13 (by decide) (fun c2 => ?_) (fun c2 => ?_)
    · rw [if_neg c2] at h
      refine j_aload_n (pc := 18) hC 0 0 dX11_between_18 rfl rfl ?_
      refine j_aload_n (pc := 19) hC 0 0 dX11_between_19 rfl rfl ?_
      refine jgr_11 (pc := 20) hC 2 (by decide) rfl kf_X11_26 dX11_between_20 ka0 (ly_11_2 hL ka0).1 ?_
      refine jgr_7 (pc := 23) hC 1 (by decide) rfl kf_X11_222 dX11_between_23 (ly_11_2 hL ka0).2.1 (ly_7_1 hL (ly_11_2 hL ka0).2.1).1 ?_
      refine j_iload_n (pc := 26) hC 1 1 dX11_between_26 rfl rfl ?_
      refine j_iconst (pc := 27) hC (1 : Int32) dX11_between_27 (by decide) ?_
      refine j_isub (pc := 28) hC dX11_between_28 ?_
      obtain ⟨i3, h⟩ := jin_some h
      refine j_aald (pc := 29) hC 3 dX11_between_29 rfl (by decide) (ly_7_1 hL (ly_11_2 hL ka0).2.1).2.1 (le_16 hL (ly_7_1 hL (ly_11_2 hL ka0).2.1).2.1 (jlt i3)).1 i3 (le_16 hL (ly_7_1 hL (ly_11_2 hL ka0).2.1).2.1 (jlt i3)).2.1 ?_
      refine jgr_1 (pc := 30) hC 0 (by decide) rfl kf_X11_226 dX11_between_30 (le_16 hL (ly_7_1 hL (ly_11_2 hL ka0).2.1).2.1 (jlt i3)).2.2.1 (ly_1_0 hL (le_16 hL (ly_7_1 hL (ly_11_2 hL ka0).2.1).2.1 (jlt i3)).2.2.1).1 ?_
      refine j_aload_n (pc := 33) hC 0 0 dX11_between_33 rfl rfl ?_
      refine jgr_11 (pc := 34) hC 2 (by decide) rfl kf_X11_26 dX11_between_34 ka0 (ly_11_2 hL ka0).1 ?_
      refine jgr_7 (pc := 37) hC 1 (by decide) rfl kf_X11_222 dX11_between_37 (ly_11_2 hL ka0).2.1 (ly_7_1 hL (ly_11_2 hL ka0).2.1).1 ?_
      refine j_iload_n (pc := 40) hC 2 2 dX11_between_40 rfl rfl ?_
      refine j_iconst (pc := 41) hC (1 : Int32) dX11_between_41 (by decide) ?_
      refine j_isub (pc := 42) hC dX11_between_42 ?_
      obtain ⟨i4, h⟩ := jin_some h
      refine j_aald (pc := 43) hC 3 dX11_between_43 rfl (by decide) (ly_7_1 hL (ly_11_2 hL ka0).2.1).2.1 (le_16 hL (ly_7_1 hL (ly_11_2 hL ka0).2.1).2.1 (jlt i4)).1 i4 (le_16 hL (ly_7_1 hL (ly_11_2 hL ka0).2.1).2.1 (jlt i4)).2.1 ?_
      refine jgr_1 (pc := 44) hC 0 (by decide) rfl kf_X11_226 dX11_between_44 (le_16 hL (ly_7_1 hL (ly_11_2 hL ka0).2.1).2.1 (jlt i4)).2.2.1 (ly_1_0 hL (le_16 hL (ly_7_1 hL (ly_11_2 hL ka0).2.1).2.1 (jlt i4)).2.2.1).1 ?_
      obtain ⟨v5, m6, e7, h⟩ := jcl2_some h
      refine j_vi (pc := 47) hC hR [.ref (L.2.2 (((a0 + 13) + 8 * (x1 - (1 : Int32)).toNatClampNeg) + 1)), .ref (L.2.2 (((a0 + 13) + 8 * (x2 - (1 : Int32)).toNatClampNeg) + 1))] iy_X11_tellOtherThings (q := (RX11, TX11, 15)) (ci := 11) rfl rfl (by decide) km_X11_289 dX11_between_47 rfl (by decide) ka0 (c_X11_tellOtherThings hL ka0 (ly_1_0 hL (le_16 hL (ly_7_1 hL (ly_11_2 hL ka0).2.1).2.1 (jlt i3)).2.2.1).2.1 (ly_1_0 hL (le_16 hL (ly_7_1 hL (ly_11_2 hL ka0).2.1).2.1 (jlt i4)).2.2.1).2.1 e7) (by decide) (Nat.le_of_ble_eq_true rfl) rfl ?_
      obtain ⟨rfl, rfl⟩ := Prod.mk.inj (Option.some.inj h)
      exact j_iret (pc := 50) hC dX11_between_50 rfl
    · rw [if_pos c2] at h
      refine j_iconst (pc := 16) hC (-1 : Int32) dX11_between_16 (by decide) ?_
      obtain ⟨rfl, rfl⟩ := Prod.mk.inj (Option.some.inj h)
      exact j_iret (pc := 17) hC dX11_between_17 rfl
theorem dX11_keepFirst_0 : decode cX11_keepFirst 0 = .ok (.aload_n 0, 1) := by decide +kernel
theorem dX11_keepFirst_1 : decode cX11_keepFirst 1 = .ok (.getfield 49, 3) := by decide +kernel
theorem dX11_keepFirst_4 : decode cX11_keepFirst 4 = .ok (.getfield 311, 3) := by decide +kernel
theorem dX11_keepFirst_7 : decode cX11_keepFirst 7 = .ok (.iconst 0, 1) := by decide +kernel
theorem dX11_keepFirst_8 : decode cX11_keepFirst 8 = .ok (.aload_n 0, 1) := by decide +kernel
theorem dX11_keepFirst_9 : decode cX11_keepFirst 9 = .ok (.getfield 101, 3) := by decide +kernel
theorem dX11_keepFirst_12 : decode cX11_keepFirst 12 = .ok (.iconst 0, 1) := by decide +kernel
theorem dX11_keepFirst_13 : decode cX11_keepFirst 13 = .ok (.iconst 5, 1) := by decide +kernel
theorem dX11_keepFirst_14 : decode cX11_keepFirst 14 = .ok (.invokestatic 375, 3) := by decide +kernel
theorem dX11_keepFirst_17 : decode cX11_keepFirst 17 = .ok (.return_, 1) := by decide +kernel
def f_X11_keepFirst (a0 : Nat) (μ : jM) : Option (jM) :=
  jcpq (0 : Int32) (0 : Int32) (5 : Int32) 5 5 (jbd (jcp μ (a0 + 168) (0 : Int32).toNatClampNeg (a0 + 188) (0 : Int32).toNatClampNeg (5 : Int32).toNatClampNeg) (fun m2 => some m2))
set_option maxHeartbeats 4000000 in
set_option maxRecDepth 100000 in
theorem c_X11_keepFirst {l : Launch} {G : jG} {L : jL} (hL : jOKL L) {a0 : Nat} (ka0 : jK L a0 11) {μ μ' : jM} (h : f_X11_keepFirst a0 μ = some μ') : jCt l G L 3 yX11_keepFirst cX11_keepFirst 1 none [.ref (L.2.2 a0)] μ none μ' := by
  refine jCt_of (by decide) (Nat.le_of_ble_eq_true rfl) (fun X hC hX hR => ?_)
  subst hX
  have hC : jC X G cX11_keepFirst 1 RX11 none := hC
  unfold f_X11_keepFirst at h
  show jJ X G 1 L 0 0 (jQM X G L none μ' 0 0) 0 [(0, .ref (L.2.2 a0))] [] μ
  refine j_aload_n (pc := 0) hC 0 0 dX11_keepFirst_0 rfl rfl ?_
  refine jgr_11 (pc := 1) hC 5 (by decide) rfl kf_X11_49 dX11_keepFirst_1 ka0 (ly_11_5 hL ka0).1 ?_
  refine jgr_10 (pc := 4) hC 0 (by decide) rfl kf_X11_311 dX11_keepFirst_4 (ly_11_5 hL ka0).2.1 (ly_10_0 hL (ly_11_5 hL ka0).2.1).1 ?_
  refine j_iconst (pc := 7) hC (0 : Int32) dX11_keepFirst_7 (by decide) ?_
  refine j_aload_n (pc := 8) hC 0 0 dX11_keepFirst_8 rfl rfl ?_
  refine jgr_11 (pc := 9) hC 13 (by decide) rfl kf_X11_101 dX11_keepFirst_9 ka0 (ly_11_13 hL ka0).1 ?_
  refine j_iconst (pc := 12) hC (0 : Int32) dX11_keepFirst_12 (by decide) ?_
  refine j_iconst (pc := 13) hC (5 : Int32) dX11_keepFirst_13 (by decide) ?_
  obtain ⟨h1, h⟩ := jcpq_some h
  obtain ⟨m2, e3, h⟩ := jbd_ex h
  refine j_copyi (pc := 14) hC ka_X11_375 kac1 kac2 kac3 dX11_keepFirst_14 (ly_10_0 hL (ly_11_5 hL ka0).2.1).2.1 (ly_10_0 hL (ly_11_5 hL ka0).2.1).2.2 (ly_11_13 hL ka0).2.1 (ly_11_13 hL ka0).2.2 h1.1 h1.2.1 h1.2.2.1 h1.2.2.2.1 h1.2.2.2.2 (j_nat1 hR (by decide)) (j_nat2 hR (by decide) (Nat.le_of_ble_eq_true rfl)) e3 ?_
  obtain rfl := Option.some.inj h
  exact j_vret (pc := 17) hC dX11_keepFirst_17 rfl
theorem dX11_tellFirst_0 : decode cX11_tellFirst 0 = .ok (.aload_n 0, 1) := by decide +kernel
theorem dX11_tellFirst_1 : decode cX11_tellFirst 1 = .ok (.getfield 19, 3) := by decide +kernel
theorem dX11_tellFirst_4 : decode cX11_tellFirst 4 = .ok (.invokevirtual 277, 3) := by decide +kernel
theorem dX11_tellFirst_7 : decode cX11_tellFirst 7 = .ok (.iload_n 1, 1) := by decide +kernel
theorem dX11_tellFirst_8 : decode cX11_tellFirst 8 = .ok (.ifCond .le 14, 3) := by decide +kernel
theorem dX11_tellFirst_11 : decode cX11_tellFirst 11 = .ok (.aload_n 0, 1) := by decide +kernel
theorem dX11_tellFirst_12 : decode cX11_tellFirst 12 = .ok (.getfield 19, 3) := by decide +kernel
theorem dX11_tellFirst_15 : decode cX11_tellFirst 15 = .ok (.aload_n 0, 1) := by decide +kernel
theorem dX11_tellFirst_16 : decode cX11_tellFirst 16 = .ok (.getfield 101, 3) := by decide +kernel
theorem dX11_tellFirst_19 : decode cX11_tellFirst 19 = .ok (.invokevirtual 313, 3) := by decide +kernel
theorem dX11_tellFirst_22 : decode cX11_tellFirst 22 = .ok (.return_, 1) := by decide +kernel
def f_X11_tellFirst (a0 : Nat) (x1 : Int32) (μ : jM) : Option (jM) :=
  jbd (f_X3_empty (a0 + 3) μ) (fun m1 => (if x1 ≤ (0 : Int32) then some m1 else jcl (f_X3_tellAll (a0 + 3) (a0 + 188) m1) (fun m4 => some m4)))
set_option maxHeartbeats 4000000 in
set_option maxRecDepth 100000 in
theorem c_X11_tellFirst {l : Launch} {G : jG} {L : jL} (hL : jOKL L) {a0 : Nat} {x1 : Int32} (ka0 : jK L a0 11) {μ μ' : jM} (h : f_X11_tellFirst a0 x1 μ = some μ') : jCt l G L 5 yX11_tellFirst cX11_tellFirst 2 none [.ref (L.2.2 a0), .int x1] μ none μ' := by
  refine jCt_of (by decide) (Nat.le_of_ble_eq_true rfl) (fun X hC hX hR => ?_)
  subst hX
  have hC : jC X G cX11_tellFirst 2 RX11 none := hC
  unfold f_X11_tellFirst at h
  show jJ X G 2 L 0 0 (jQM X G L none μ' 0 0) 0 [(0, .ref (L.2.2 a0)), (1, .int x1)] [] μ
  refine j_aload_n (pc := 0) hC 0 0 dX11_tellFirst_0 rfl rfl ?_
  refine jgr_11 (pc := 1) hC 1 (by decide) rfl kf_X11_19 dX11_tellFirst_1 ka0 (ly_11_1 hL ka0).1 ?_
  obtain ⟨m1, e2, h⟩ := jbd_ex h
  refine j_vv (pc := 4) hC hR [] iy_X3_empty (q := (RX3, TX3, 2)) (ci := 3) rfl rfl (by decide) km_X11_277 dX11_tellFirst_4 rfl (by decide) (ly_11_1 hL ka0).2.1 (c_X3_empty hL (ly_11_1 hL ka0).2.1 e2.symm) (by decide) (Nat.le_of_ble_eq_true rfl) rfl ?_
  refine j_iload_n (pc := 7) hC 1 1 dX11_tellFirst_7 rfl rfl ?_
  refine j_if_le (pc := 8) hC 22 dX11_tellFirst_8 (by decide) (fun c3 => ?_) (fun c3 => ?_)
  · rw [if_pos c3] at h
    obtain rfl := Option.some.inj h
    exact j_vret (pc := 22) hC dX11_tellFirst_22 rfl
  · rw [if_neg c3] at h
    refine j_aload_n (pc := 11) hC 0 0 dX11_tellFirst_11 rfl rfl ?_
    refine jgr_11 (pc := 12) hC 1 (by decide) rfl kf_X11_19 dX11_tellFirst_12 ka0 (ly_11_1 hL ka0).1 ?_
    refine j_aload_n (pc := 15) hC 0 0 dX11_tellFirst_15 rfl rfl ?_
    refine jgr_11 (pc := 16) hC 13 (by decide) rfl kf_X11_101 dX11_tellFirst_16 ka0 (ly_11_13 hL ka0).1 ?_
    obtain ⟨m4, e5, h⟩ := jcl_some h
    refine j_vv (pc := 19) hC hR [.ref (L.2.2 (a0 + 188))] iy_X3_tellAll (q := (RX3, TX3, 2)) (ci := 3) rfl rfl (by decide) km_X11_313 dX11_tellFirst_19 rfl (by decide) (ly_11_1 hL ka0).2.1 (c_X3_tellAll hL (ly_11_1 hL ka0).2.1 (ly_11_13 hL ka0).2.1 e5) (by decide) (Nat.le_of_ble_eq_true rfl) rfl ?_
    obtain rfl := Option.some.inj h
    exact j_vret (pc := 22) hC dX11_tellFirst_22 rfl
theorem dX11_many_0 : decode cX11_many 0 = .ok (.iconst 0, 1) := by decide +kernel
theorem dX11_many_1 : decode cX11_many 1 = .ok (.istore_n 1, 1) := by decide +kernel
theorem dX11_many_2 : decode cX11_many 2 = .ok (.aload_n 0, 1) := by decide +kernel
theorem dX11_many_3 : decode cX11_many 3 = .ok (.getfield 49, 3) := by decide +kernel
theorem dX11_many_6 : decode cX11_many 6 = .ok (.iconst 1, 1) := by decide +kernel
theorem dX11_many_7 : decode cX11_many 7 = .ok (.invokevirtual 298, 3) := by decide +kernel
theorem dX11_many_10 : decode cX11_many 10 = .ok (.iconst 0, 1) := by decide +kernel
theorem dX11_many_11 : decode cX11_many 11 = .ok (.istore_n 2, 1) := by decide +kernel
theorem dX11_many_12 : decode cX11_many 12 = .ok (.iload_n 2, 1) := by decide +kernel
theorem dX11_many_13 : decode cX11_many 13 = .ok (.sipush 7776, 3) := by decide +kernel
theorem dX11_many_16 : decode cX11_many 16 = .ok (.if_icmp .ge 30, 3) := by decide +kernel
theorem dX11_many_19 : decode cX11_many 19 = .ok (.aload_n 0, 1) := by decide +kernel
theorem dX11_many_20 : decode cX11_many 20 = .ok (.getfield 49, 3) := by decide +kernel
theorem dX11_many_23 : decode cX11_many 23 = .ok (.invokevirtual 301, 3) := by decide +kernel
theorem dX11_many_26 : decode cX11_many 26 = .ok (.ifCond .eq 20, 3) := by decide +kernel
theorem dX11_many_29 : decode cX11_many 29 = .ok (.iload_n 1, 1) := by decide +kernel
theorem dX11_many_30 : decode cX11_many 30 = .ok (.ifCond .ne 7, 3) := by decide +kernel
theorem dX11_many_33 : decode cX11_many 33 = .ok (.aload_n 0, 1) := by decide +kernel
theorem dX11_many_34 : decode cX11_many 34 = .ok (.invokevirtual 305, 3) := by decide +kernel
theorem dX11_many_37 : decode cX11_many 37 = .ok (.iinc 1 1, 3) := by decide +kernel
theorem dX11_many_40 : decode cX11_many 40 = .ok (.iinc 2 1, 3) := by decide +kernel
theorem dX11_many_43 : decode cX11_many 43 = .ok (.goto (-31), 3) := by decide +kernel
theorem dX11_many_46 : decode cX11_many 46 = .ok (.aload_n 0, 1) := by decide +kernel
theorem dX11_many_47 : decode cX11_many 47 = .ok (.iload_n 1, 1) := by decide +kernel
theorem dX11_many_48 : decode cX11_many 48 = .ok (.invokevirtual 308, 3) := by decide +kernel
theorem dX11_many_51 : decode cX11_many 51 = .ok (.iload_n 1, 1) := by decide +kernel
theorem dX11_many_52 : decode cX11_many 52 = .ok (.ireturn, 1) := by decide +kernel
def f_X11_many_L12 (a0 : Nat) (u3 : Int32) (u4 : Int32) (m5 : jM) : Option ((Int32 × Int32 × jM) ⊕ (Int32 × jM)) :=
  (if (7776 : Int32) ≤ u4 then some (.inr ((u3, m5))) else jcl2 (f_X10_advance (a0 + 167) m5) (fun v7 m8 => (if v7 = (0 : Int32) then some (.inr ((u3, m8))) else (if u3 = (0 : Int32) then jcl (f_X11_keepFirst a0 m8) (fun m12 => some (.inl ((u3 + (1 : Int32), u4 + (1 : Int32), m12)))) else some (.inl ((u3 + (1 : Int32), u4 + (1 : Int32), m8)))))))
def f_X11_many (a0 : Nat) (μ : jM) : Option (Int32 × jM) :=
  jcl (f_X10_begin (a0 + 167) (1 : Int32) μ) (fun m1 => jcl (jloop (fun (s : Int32 × Int32 × jM) => f_X11_many_L12 a0 s.1 s.2.1 s.2.2) jfu (((0 : Int32), (0 : Int32), m1))) (fun w14 => jcl (f_X11_tellFirst a0 w14.1 w14.2) (fun m19 => some ((w14.1, m19)))))
set_option maxHeartbeats 4000000 in
set_option maxRecDepth 100000 in
theorem c_X11_many {l : Launch} {G : jG} {L : jL} (hL : jOKL L) {a0 : Nat} (ka0 : jK L a0 11) {μ μ' : jM} {r : Int32} (h : f_X11_many a0 μ = some ((r, μ'))) : jCt l G L 6 yX11_many cX11_many 3 (some .int) [.ref (L.2.2 a0)] μ (some (.int r)) μ' := by
  refine jCt_of (by decide) (Nat.le_of_ble_eq_true rfl) (fun X hC hX hR => ?_)
  subst hX
  have hC : jC X G cX11_many 3 RX11 (some .int) := hC
  unfold f_X11_many at h
  show jJ X G 3 L 0 0 (jQM X G L (some (.int r)) μ' 0 0) 0 [(0, .ref (L.2.2 a0))] [] μ
  refine j_iconst (pc := 0) hC (0 : Int32) dX11_many_0 (by decide) ?_
  refine j_istore_n (pc := 1) hC 1 [(1, .int (0 : Int32)), (0, .ref (L.2.2 a0))] dX11_many_1 rfl (by decide) rfl rfl ?_
  refine j_aload_n (pc := 2) hC 0 1 dX11_many_2 rfl rfl ?_
  refine jgr_11 (pc := 3) hC 5 (by decide) rfl kf_X11_49 dX11_many_3 ka0 (ly_11_5 hL ka0).1 ?_
  refine j_iconst (pc := 6) hC (1 : Int32) dX11_many_6 (by decide) ?_
  obtain ⟨m1, e2, h⟩ := jcl_some h
  refine j_vv (pc := 7) hC hR [.int (1 : Int32)] iy_X10_begin (q := (RX10, TX10, 5)) (ci := 10) rfl rfl (by decide) km_X11_298 dX11_many_7 rfl (by decide) (ly_11_5 hL ka0).2.1 (c_X10_begin hL (ly_11_5 hL ka0).2.1 e2) (by decide) (Nat.le_of_ble_eq_true rfl) rfl ?_
  refine j_iconst (pc := 10) hC (0 : Int32) dX11_many_10 (by decide) ?_
  refine j_istore_n (pc := 11) hC 2 [(2, .int (0 : Int32)), (1, .int (0 : Int32)), (0, .ref (L.2.2 a0))] dX11_many_11 rfl (by decide) rfl rfl ?_
  obtain ⟨w14, hw15, h⟩ := jcl_some h
  refine j_lv [2, 1, 0] rfl ?_
  refine j_loop (step := (fun (s : Int32 × Int32 × jM) => f_X11_many_L12 a0 s.1 s.2.1 s.2.2)) (P := (fun (s : Int32 × Int32 × jM) => jJ X G 3 L 0 0 (jQM X G L (some (.int r)) μ' 0 0) 12 [(0, .ref (L.2.2 a0)), (1, .int s.1), (2, .int s.2.1)] [] s.2.2)) (R := (fun (e : Int32 × jM) => jJ X G 3 L 0 0 (jQM X G L (some (.int r)) μ' 0 0) 46 [(0, .ref (L.2.2 a0)), (1, .int e.1)] [] e.2)) ?_ jfu (((0 : Int32), (0 : Int32), m1)) w14 hw15 ?_
  · intro s16 o h hk
    obtain ⟨u3, u4, m5⟩ := s16
    change f_X11_many_L12 a0 u3 u4 m5 = some o at h
    unfold f_X11_many_L12 at h
    show jJ X G 3 L 0 0 (jQM X G L (some (.int r)) μ' 0 0) 12 [(0, .ref (L.2.2 a0)), (1, .int u3), (2, .int u4)] [] m5
    refine j_iload_n (pc := 12) hC 2 2 dX11_many_12 rfl rfl ?_
    refine j_sipush (pc := 13) hC (7776 : Int32) dX11_many_13 (by decide) ?_
    refine j_icmp_ge (pc := 16) hC 46 dX11_many_16 (by decide) (fun c6 => ?_) (fun c6 => ?_)
    · rw [if_pos c6] at h
      obtain rfl := Option.some.inj h
      have hk : jJ X G 3 L 0 0 (jQM X G L (some (.int r)) μ' 0 0) 46 [(0, .ref (L.2.2 a0)), (1, .int u3)] [] m5 := hk
      exact j_lv [0, 1] rfl hk
    · rw [if_neg c6] at h
      refine j_aload_n (pc := 19) hC 0 0 dX11_many_19 rfl rfl ?_
      refine jgr_11 (pc := 20) hC 5 (by decide) rfl kf_X11_49 dX11_many_20 ka0 (ly_11_5 hL ka0).1 ?_
      obtain ⟨v7, m8, e9, h⟩ := jcl2_some h
      refine j_vi (pc := 23) hC hR [] iy_X10_advance (q := (RX10, TX10, 5)) (ci := 10) rfl rfl (by decide) km_X11_301 dX11_many_23 rfl (by decide) (ly_11_5 hL ka0).2.1 (c_X10_advance hL (ly_11_5 hL ka0).2.1 e9) (by decide) (Nat.le_of_ble_eq_true rfl) rfl ?_
      refine j_if_eq (pc := 26) hC 46 dX11_many_26 (by decide) (fun c10 => ?_) (fun c10 => ?_)
      · rw [if_pos c10] at h
        obtain rfl := Option.some.inj h
        have hk : jJ X G 3 L 0 0 (jQM X G L (some (.int r)) μ' 0 0) 46 [(0, .ref (L.2.2 a0)), (1, .int u3)] [] m8 := hk
        exact j_lv [0, 1] rfl hk
      · rw [if_neg c10] at h
        refine j_iload_n (pc := 29) hC 1 1 dX11_many_29 rfl rfl ?_
        refine j_if_ne (pc := 30) hC 37 dX11_many_30 (by decide) (fun c11 => ?_) (fun c11 => ?_)
        · rw [if_neg c11] at h
          refine j_iinc (pc := 37) hC 1 (u3 + (1 : Int32)) [(1, .int (u3 + (1 : Int32))), (0, .ref (L.2.2 a0)), (2, .int u4)] dX11_many_37 rfl rfl (by decide) rfl ?_
          refine j_iinc (pc := 40) hC 2 (u4 + (1 : Int32)) [(2, .int (u4 + (1 : Int32))), (1, .int (u3 + (1 : Int32))), (0, .ref (L.2.2 a0))] dX11_many_40 rfl rfl (by decide) rfl ?_
          refine j_goto (pc := 43) hC 12 dX11_many_43 (by decide) ?_
          obtain rfl := Option.some.inj h
          have hk : jJ X G 3 L 0 0 (jQM X G L (some (.int r)) μ' 0 0) 12 [(0, .ref (L.2.2 a0)), (1, .int (u3 + (1 : Int32))), (2, .int (u4 + (1 : Int32)))] [] m8 := hk
          exact j_lv [2, 1, 0] rfl hk
        · rw [if_pos c11] at h
          refine j_aload_n (pc := 33) hC 0 0 dX11_many_33 rfl rfl ?_
          obtain ⟨m12, e13, h⟩ := jcl_some h
          refine j_vv (pc := 34) hC hR [] iy_X11_keepFirst (q := (RX11, TX11, 15)) (ci := 11) rfl rfl (by decide) km_X11_305 dX11_many_34 rfl (by decide) ka0 (c_X11_keepFirst hL ka0 e13) (by decide) (Nat.le_of_ble_eq_true rfl) rfl ?_
          refine j_iinc (pc := 37) hC 1 (u3 + (1 : Int32)) [(1, .int (u3 + (1 : Int32))), (0, .ref (L.2.2 a0)), (2, .int u4)] dX11_many_37 rfl rfl (by decide) rfl ?_
          refine j_iinc (pc := 40) hC 2 (u4 + (1 : Int32)) [(2, .int (u4 + (1 : Int32))), (1, .int (u3 + (1 : Int32))), (0, .ref (L.2.2 a0))] dX11_many_40 rfl rfl (by decide) rfl ?_
          refine j_goto (pc := 43) hC 12 dX11_many_43 (by decide) ?_
          obtain rfl := Option.some.inj h
          have hk : jJ X G 3 L 0 0 (jQM X G L (some (.int r)) μ' 0 0) 12 [(0, .ref (L.2.2 a0)), (1, .int (u3 + (1 : Int32))), (2, .int (u4 + (1 : Int32)))] [] m12 := hk
          exact j_lv [2, 1, 0] rfl hk
  · obtain ⟨z17, m18⟩ := w14
    try dsimp only at h
    show jJ X G 3 L 0 0 (jQM X G L (some (.int r)) μ' 0 0) 46 [(0, .ref (L.2.2 a0)), (1, .int z17)] [] m18
    refine j_aload_n (pc := 46) hC 0 0 dX11_many_46 rfl rfl ?_
    refine j_iload_n (pc := 47) hC 1 1 dX11_many_47 rfl rfl ?_
    obtain ⟨m19, e20, h⟩ := jcl_some h
    refine j_vv (pc := 48) hC hR [.int z17] iy_X11_tellFirst (q := (RX11, TX11, 15)) (ci := 11) rfl rfl (by decide) km_X11_308 dX11_many_48 rfl (by decide) ka0 (c_X11_tellFirst hL ka0 e20) (by decide) (Nat.le_of_ble_eq_true rfl) rfl ?_
    refine j_iload_n (pc := 51) hC 1 1 dX11_many_51 rfl rfl ?_
    obtain ⟨rfl, rfl⟩ := Prod.mk.inj (Option.some.inj h)
    exact j_iret (pc := 52) hC dX11_many_52 rfl
theorem dX11_nth_0 : decode cX11_nth 0 = .ok (.iload_n 1, 1) := by decide +kernel
theorem dX11_nth_1 : decode cX11_nth 1 = .ok (.iconst 1, 1) := by decide +kernel
theorem dX11_nth_2 : decode cX11_nth 2 = .ok (.if_icmp .ge 5, 3) := by decide +kernel
theorem dX11_nth_5 : decode cX11_nth 5 = .ok (.iconst (-1), 1) := by decide +kernel
theorem dX11_nth_6 : decode cX11_nth 6 = .ok (.ireturn, 1) := by decide +kernel
theorem dX11_nth_7 : decode cX11_nth 7 = .ok (.aload_n 0, 1) := by decide +kernel
theorem dX11_nth_8 : decode cX11_nth 8 = .ok (.getfield 49, 3) := by decide +kernel
theorem dX11_nth_11 : decode cX11_nth 11 = .ok (.iconst 1, 1) := by decide +kernel
theorem dX11_nth_12 : decode cX11_nth 12 = .ok (.invokevirtual 298, 3) := by decide +kernel
theorem dX11_nth_15 : decode cX11_nth 15 = .ok (.iconst 1, 1) := by decide +kernel
theorem dX11_nth_16 : decode cX11_nth 16 = .ok (.istore_n 2, 1) := by decide +kernel
theorem dX11_nth_17 : decode cX11_nth 17 = .ok (.iload_n 2, 1) := by decide +kernel
theorem dX11_nth_18 : decode cX11_nth 18 = .ok (.sipush 7776, 3) := by decide +kernel
theorem dX11_nth_21 : decode cX11_nth 21 = .ok (.if_icmp .gt 47, 3) := by decide +kernel
theorem dX11_nth_24 : decode cX11_nth 24 = .ok (.aload_n 0, 1) := by decide +kernel
theorem dX11_nth_25 : decode cX11_nth 25 = .ok (.getfield 49, 3) := by decide +kernel
theorem dX11_nth_28 : decode cX11_nth 28 = .ok (.invokevirtual 301, 3) := by decide +kernel
theorem dX11_nth_31 : decode cX11_nth 31 = .ok (.ifCond .eq 37, 3) := by decide +kernel
theorem dX11_nth_34 : decode cX11_nth 34 = .ok (.iload_n 2, 1) := by decide +kernel
theorem dX11_nth_35 : decode cX11_nth 35 = .ok (.iload_n 1, 1) := by decide +kernel
theorem dX11_nth_36 : decode cX11_nth 36 = .ok (.if_icmp .ne 26, 3) := by decide +kernel
theorem dX11_nth_39 : decode cX11_nth 39 = .ok (.aload_n 0, 1) := by decide +kernel
theorem dX11_nth_40 : decode cX11_nth 40 = .ok (.getfield 19, 3) := by decide +kernel
theorem dX11_nth_43 : decode cX11_nth 43 = .ok (.invokevirtual 277, 3) := by decide +kernel
theorem dX11_nth_46 : decode cX11_nth 46 = .ok (.aload_n 0, 1) := by decide +kernel
theorem dX11_nth_47 : decode cX11_nth 47 = .ok (.getfield 19, 3) := by decide +kernel
theorem dX11_nth_50 : decode cX11_nth 50 = .ok (.aload_n 0, 1) := by decide +kernel
theorem dX11_nth_51 : decode cX11_nth 51 = .ok (.getfield 49, 3) := by decide +kernel
theorem dX11_nth_54 : decode cX11_nth 54 = .ok (.getfield 311, 3) := by decide +kernel
theorem dX11_nth_57 : decode cX11_nth 57 = .ok (.invokevirtual 313, 3) := by decide +kernel
theorem dX11_nth_60 : decode cX11_nth 60 = .ok (.iconst 0, 1) := by decide +kernel
theorem dX11_nth_61 : decode cX11_nth 61 = .ok (.ireturn, 1) := by decide +kernel
theorem dX11_nth_62 : decode cX11_nth 62 = .ok (.iinc 2 1, 3) := by decide +kernel
theorem dX11_nth_65 : decode cX11_nth 65 = .ok (.goto (-48), 3) := by decide +kernel
theorem dX11_nth_68 : decode cX11_nth 68 = .ok (.bipush (-2), 2) := by decide +kernel
theorem dX11_nth_70 : decode cX11_nth 70 = .ok (.ireturn, 1) := by decide +kernel
def f_X11_nth_L17 (a0 : Nat) (x1 : Int32) (u4 : Int32) (m5 : jM) : Option ((Int32 × jM) ⊕ ((jM) ⊕ (jM))) :=
  (if (7776 : Int32) < u4 then some (.inr (.inr (m5))) else jcl2 (f_X10_advance (a0 + 167) m5) (fun v7 m8 => (if v7 = (0 : Int32) then some (.inr (.inr (m8))) else (if u4 = x1 then some (.inr (.inl m8)) else some (.inl ((u4 + (1 : Int32), m8)))))))
def f_X11_nth (a0 : Nat) (x1 : Int32) (μ : jM) : Option (Int32 × jM) :=
  (if (1 : Int32) ≤ x1 then jcl (f_X10_begin (a0 + 167) (1 : Int32) μ) (fun m2 => jcl (jloop (fun (s : Int32 × jM) => f_X11_nth_L17 a0 x1 s.1 s.2) jfu (((1 : Int32), m2))) (fun w12 => match w12 with | .inl w12 => jbd (f_X3_empty (a0 + 3) w12) (fun m16 => jcl (f_X3_tellAll (a0 + 3) (a0 + 168) m16) (fun m18 => some (((0 : Int32), m18)))) | .inr w12 => some (((-2 : Int32), w12)))) else some (((-1 : Int32), μ)))
set_option maxHeartbeats 4000000 in
set_option maxRecDepth 100000 in
theorem c_X11_nth {l : Launch} {G : jG} {L : jL} (hL : jOKL L) {a0 : Nat} {x1 : Int32} (ka0 : jK L a0 11) {μ μ' : jM} {r : Int32} (h : f_X11_nth a0 x1 μ = some ((r, μ'))) : jCt l G L 6 yX11_nth cX11_nth 3 (some .int) [.ref (L.2.2 a0), .int x1] μ (some (.int r)) μ' := by
  refine jCt_of (by decide) (Nat.le_of_ble_eq_true rfl) (fun X hC hX hR => ?_)
  subst hX
  have hC : jC X G cX11_nth 3 RX11 (some .int) := hC
  unfold f_X11_nth at h
  show jJ X G 3 L 0 0 (jQM X G L (some (.int r)) μ' 0 0) 0 [(0, .ref (L.2.2 a0)), (1, .int x1)] [] μ
  refine j_iload_n (pc := 0) hC 1 1 dX11_nth_0 rfl rfl ?_
  refine j_iconst (pc := 1) hC (1 : Int32) dX11_nth_1 (by decide) ?_
  refine j_icmp_ge (pc := 2) hC 7 dX11_nth_2 (by decide) (fun c1 => ?_) (fun c1 => ?_)
  · rw [if_pos c1] at h
    refine j_aload_n (pc := 7) hC 0 0 dX11_nth_7 rfl rfl ?_
    refine jgr_11 (pc := 8) hC 5 (by decide) rfl kf_X11_49 dX11_nth_8 ka0 (ly_11_5 hL ka0).1 ?_
    refine j_iconst (pc := 11) hC (1 : Int32) dX11_nth_11 (by decide) ?_
    obtain ⟨m2, e3, h⟩ := jcl_some h
    refine j_vv (pc := 12) hC hR [.int (1 : Int32)] iy_X10_begin (q := (RX10, TX10, 5)) (ci := 10) rfl rfl (by decide) km_X11_298 dX11_nth_12 rfl (by decide) (ly_11_5 hL ka0).2.1 (c_X10_begin hL (ly_11_5 hL ka0).2.1 e3) (by decide) (Nat.le_of_ble_eq_true rfl) rfl ?_
    refine j_iconst (pc := 15) hC (1 : Int32) dX11_nth_15 (by decide) ?_
    refine j_istore_n (pc := 16) hC 2 [(2, .int (1 : Int32)), (0, .ref (L.2.2 a0)), (1, .int x1)] dX11_nth_16 rfl (by decide) rfl rfl ?_
    obtain ⟨w12, hw13, h⟩ := jcl_some h
    refine j_lv [1, 2, 0] rfl ?_
    refine j_loop (step := (fun (s : Int32 × jM) => f_X11_nth_L17 a0 x1 s.1 s.2)) (P := (fun (s : Int32 × jM) => jJ X G 3 L 0 0 (jQM X G L (some (.int r)) μ' 0 0) 17 [(0, .ref (L.2.2 a0)), (1, .int x1), (2, .int s.1)] [] s.2)) (R := (fun (e : (jM) ⊕ (jM)) => match e with | .inl e => jJ X G 3 L 0 0 (jQM X G L (some (.int r)) μ' 0 0) 39 [(0, .ref (L.2.2 a0))] [] e | .inr e => jJ X G 3 L 0 0 (jQM X G L (some (.int r)) μ' 0 0) 68 [] [] e)) ?_ jfu (((1 : Int32), m2)) w12 hw13 ?_
    · intro s14 o h hk
      obtain ⟨u4, m5⟩ := s14
      change f_X11_nth_L17 a0 x1 u4 m5 = some o at h
      unfold f_X11_nth_L17 at h
      show jJ X G 3 L 0 0 (jQM X G L (some (.int r)) μ' 0 0) 17 [(0, .ref (L.2.2 a0)), (1, .int x1), (2, .int u4)] [] m5
      refine j_iload_n (pc := 17) hC 2 2 dX11_nth_17 rfl rfl ?_
      refine j_sipush (pc := 18) hC (7776 : Int32) dX11_nth_18 (by decide) ?_
      refine j_icmp_gt (pc := 21) hC 68 dX11_nth_21 (by decide) (fun c6 => ?_) (fun c6 => ?_)
      · rw [if_pos c6] at h
        obtain rfl := Option.some.inj h
        have hk : jJ X G 3 L 0 0 (jQM X G L (some (.int r)) μ' 0 0) 68 [] [] m5 := hk
        exact j_lv [] rfl hk
      · rw [if_neg c6] at h
        refine j_aload_n (pc := 24) hC 0 0 dX11_nth_24 rfl rfl ?_
        refine jgr_11 (pc := 25) hC 5 (by decide) rfl kf_X11_49 dX11_nth_25 ka0 (ly_11_5 hL ka0).1 ?_
        obtain ⟨v7, m8, e9, h⟩ := jcl2_some h
        refine j_vi (pc := 28) hC hR [] iy_X10_advance (q := (RX10, TX10, 5)) (ci := 10) rfl rfl (by decide) km_X11_301 dX11_nth_28 rfl (by decide) (ly_11_5 hL ka0).2.1 (c_X10_advance hL (ly_11_5 hL ka0).2.1 e9) (by decide) (Nat.le_of_ble_eq_true rfl) rfl ?_
        refine j_if_eq (pc := 31) hC 68 dX11_nth_31 (by decide) (fun c10 => ?_) (fun c10 => ?_)
        · rw [if_pos c10] at h
          obtain rfl := Option.some.inj h
          have hk : jJ X G 3 L 0 0 (jQM X G L (some (.int r)) μ' 0 0) 68 [] [] m8 := hk
          exact j_lv [] rfl hk
        · rw [if_neg c10] at h
          refine j_iload_n (pc := 34) hC 2 2 dX11_nth_34 rfl rfl ?_
          refine j_iload_n (pc := 35) hC 1 1 dX11_nth_35 rfl rfl ?_
          refine j_icmp_ne (pc := 36) hC 62 dX11_nth_36 (by decide) (fun c11 => ?_) (fun c11 => ?_)
          · rw [if_neg c11] at h
            refine j_iinc (pc := 62) hC 2 (u4 + (1 : Int32)) [(2, .int (u4 + (1 : Int32))), (0, .ref (L.2.2 a0)), (1, .int x1)] dX11_nth_62 rfl rfl (by decide) rfl ?_
            refine j_goto (pc := 65) hC 17 dX11_nth_65 (by decide) ?_
            obtain rfl := Option.some.inj h
            have hk : jJ X G 3 L 0 0 (jQM X G L (some (.int r)) μ' 0 0) 17 [(0, .ref (L.2.2 a0)), (1, .int x1), (2, .int (u4 + (1 : Int32)))] [] m8 := hk
            exact j_lv [1, 2, 0] rfl hk
          · rw [if_pos c11] at h
            obtain rfl := Option.some.inj h
            have hk : jJ X G 3 L 0 0 (jQM X G L (some (.int r)) μ' 0 0) 39 [(0, .ref (L.2.2 a0))] [] m8 := hk
            exact j_lv [0] rfl hk
    · cases w12 with
      | inl w12 =>
        try dsimp only at h
        obtain ⟨m15, rfl⟩ : ∃ y, y = w12 := ⟨_, rfl⟩
        try dsimp only at h
        show jJ X G 3 L 0 0 (jQM X G L (some (.int r)) μ' 0 0) 39 [(0, .ref (L.2.2 a0))] [] m15
        refine j_aload_n (pc := 39) hC 0 0 dX11_nth_39 rfl rfl ?_
        refine jgr_11 (pc := 40) hC 1 (by decide) rfl kf_X11_19 dX11_nth_40 ka0 (ly_11_1 hL ka0).1 ?_
        obtain ⟨m16, e17, h⟩ := jbd_ex h
        refine j_vv (pc := 43) hC hR [] iy_X3_empty (q := (RX3, TX3, 2)) (ci := 3) rfl rfl (by decide) km_X11_277 dX11_nth_43 rfl (by decide) (ly_11_1 hL ka0).2.1 (c_X3_empty hL (ly_11_1 hL ka0).2.1 e17.symm) (by decide) (Nat.le_of_ble_eq_true rfl) rfl ?_
        refine j_aload_n (pc := 46) hC 0 0 dX11_nth_46 rfl rfl ?_
        refine jgr_11 (pc := 47) hC 1 (by decide) rfl kf_X11_19 dX11_nth_47 ka0 (ly_11_1 hL ka0).1 ?_
        refine j_aload_n (pc := 50) hC 0 0 dX11_nth_50 rfl rfl ?_
        refine jgr_11 (pc := 51) hC 5 (by decide) rfl kf_X11_49 dX11_nth_51 ka0 (ly_11_5 hL ka0).1 ?_
        refine jgr_10 (pc := 54) hC 0 (by decide) rfl kf_X11_311 dX11_nth_54 (ly_11_5 hL ka0).2.1 (ly_10_0 hL (ly_11_5 hL ka0).2.1).1 ?_
        obtain ⟨m18, e19, h⟩ := jcl_some h
        refine j_vv (pc := 57) hC hR [.ref (L.2.2 (a0 + 168))] iy_X3_tellAll (q := (RX3, TX3, 2)) (ci := 3) rfl rfl (by decide) km_X11_313 dX11_nth_57 rfl (by decide) (ly_11_1 hL ka0).2.1 (c_X3_tellAll hL (ly_11_1 hL ka0).2.1 (ly_10_0 hL (ly_11_5 hL ka0).2.1).2.1 e19) (by decide) (Nat.le_of_ble_eq_true rfl) rfl ?_
        refine j_iconst (pc := 60) hC (0 : Int32) dX11_nth_60 (by decide) ?_
        obtain ⟨rfl, rfl⟩ := Prod.mk.inj (Option.some.inj h)
        exact j_iret (pc := 61) hC dX11_nth_61 rfl
      | inr w12 =>
        try dsimp only at h
        obtain ⟨m20, rfl⟩ : ∃ y, y = w12 := ⟨_, rfl⟩
        try dsimp only at h
        show jJ X G 3 L 0 0 (jQM X G L (some (.int r)) μ' 0 0) 68 [] [] m20
        refine j_bipush (pc := 68) hC (-2 : Int32) dX11_nth_68 (by decide) ?_
        obtain ⟨rfl, rfl⟩ := Prod.mk.inj (Option.some.inj h)
        exact j_iret (pc := 70) hC dX11_nth_70 rfl
  · rw [if_neg c1] at h
    refine j_iconst (pc := 5) hC (-1 : Int32) dX11_nth_5 (by decide) ?_
    obtain ⟨rfl, rfl⟩ := Prod.mk.inj (Option.some.inj h)
    exact j_iret (pc := 6) hC dX11_nth_6 rfl
theorem dX11_always_0 : decode cX11_always 0 = .ok (.iconst 0, 1) := by decide +kernel
theorem dX11_always_1 : decode cX11_always 1 = .ok (.istore_n 1, 1) := by decide +kernel
theorem dX11_always_2 : decode cX11_always 2 = .ok (.aload_n 0, 1) := by decide +kernel
theorem dX11_always_3 : decode cX11_always 3 = .ok (.getfield 97, 3) := by decide +kernel
theorem dX11_always_6 : decode cX11_always 6 = .ok (.iconst 0, 1) := by decide +kernel
theorem dX11_always_7 : decode cX11_always 7 = .ok (.invokestatic 317, 3) := by decide +kernel
theorem dX11_always_10 : decode cX11_always 10 = .ok (.aload_n 0, 1) := by decide +kernel
theorem dX11_always_11 : decode cX11_always 11 = .ok (.getfield 49, 3) := by decide +kernel
theorem dX11_always_14 : decode cX11_always 14 = .ok (.iconst 1, 1) := by decide +kernel
theorem dX11_always_15 : decode cX11_always 15 = .ok (.invokevirtual 298, 3) := by decide +kernel
theorem dX11_always_18 : decode cX11_always 18 = .ok (.iconst 0, 1) := by decide +kernel
theorem dX11_always_19 : decode cX11_always 19 = .ok (.istore_n 2, 1) := by decide +kernel
theorem dX11_always_20 : decode cX11_always 20 = .ok (.iload_n 2, 1) := by decide +kernel
theorem dX11_always_21 : decode cX11_always 21 = .ok (.sipush 7776, 3) := by decide +kernel
theorem dX11_always_24 : decode cX11_always 24 = .ok (.if_icmp .ge 55, 3) := by decide +kernel
theorem dX11_always_27 : decode cX11_always 27 = .ok (.aload_n 0, 1) := by decide +kernel
theorem dX11_always_28 : decode cX11_always 28 = .ok (.getfield 49, 3) := by decide +kernel
theorem dX11_always_31 : decode cX11_always 31 = .ok (.invokevirtual 301, 3) := by decide +kernel
theorem dX11_always_34 : decode cX11_always 34 = .ok (.ifCond .eq 45, 3) := by decide +kernel
theorem dX11_always_37 : decode cX11_always 37 = .ok (.iconst 0, 1) := by decide +kernel
theorem dX11_always_38 : decode cX11_always 38 = .ok (.istore_n 3, 1) := by decide +kernel
theorem dX11_always_39 : decode cX11_always 39 = .ok (.iload_n 3, 1) := by decide +kernel
theorem dX11_always_40 : decode cX11_always 40 = .ok (.iconst 5, 1) := by decide +kernel
theorem dX11_always_41 : decode cX11_always 41 = .ok (.if_icmp .ge 29, 3) := by decide +kernel
theorem dX11_always_44 : decode cX11_always 44 = .ok (.aload_n 0, 1) := by decide +kernel
theorem dX11_always_45 : decode cX11_always 45 = .ok (.getfield 97, 3) := by decide +kernel
theorem dX11_always_48 : decode cX11_always 48 = .ok (.iload_n 3, 1) := by decide +kernel
theorem dX11_always_49 : decode cX11_always 49 = .ok (.dup2, 1) := by decide +kernel
theorem dX11_always_50 : decode cX11_always 50 = .ok (.iaload, 1) := by decide +kernel
theorem dX11_always_51 : decode cX11_always 51 = .ok (.iconst 1, 1) := by decide +kernel
theorem dX11_always_52 : decode cX11_always 52 = .ok (.aload_n 0, 1) := by decide +kernel
theorem dX11_always_53 : decode cX11_always 53 = .ok (.getfield 49, 3) := by decide +kernel
theorem dX11_always_56 : decode cX11_always 56 = .ok (.getfield 311, 3) := by decide +kernel
theorem dX11_always_59 : decode cX11_always 59 = .ok (.iload_n 3, 1) := by decide +kernel
theorem dX11_always_60 : decode cX11_always 60 = .ok (.iaload, 1) := by decide +kernel
theorem dX11_always_61 : decode cX11_always 61 = .ok (.ishl, 1) := by decide +kernel
theorem dX11_always_62 : decode cX11_always 62 = .ok (.ior, 1) := by decide +kernel
theorem dX11_always_63 : decode cX11_always 63 = .ok (.iastore, 1) := by decide +kernel
theorem dX11_always_64 : decode cX11_always 64 = .ok (.iinc 3 1, 3) := by decide +kernel
theorem dX11_always_67 : decode cX11_always 67 = .ok (.goto (-28), 3) := by decide +kernel
theorem dX11_always_70 : decode cX11_always 70 = .ok (.iinc 1 1, 3) := by decide +kernel
theorem dX11_always_73 : decode cX11_always 73 = .ok (.iinc 2 1, 3) := by decide +kernel
theorem dX11_always_76 : decode cX11_always 76 = .ok (.goto (-56), 3) := by decide +kernel
theorem dX11_always_79 : decode cX11_always 79 = .ok (.iload_n 1, 1) := by decide +kernel
theorem dX11_always_80 : decode cX11_always 80 = .ok (.ifCond .ne 6, 3) := by decide +kernel
theorem dX11_always_83 : decode cX11_always 83 = .ok (.bipush (-2), 2) := by decide +kernel
theorem dX11_always_85 : decode cX11_always 85 = .ok (.ireturn, 1) := by decide +kernel
theorem dX11_always_86 : decode cX11_always 86 = .ok (.iconst 0, 1) := by decide +kernel
theorem dX11_always_87 : decode cX11_always 87 = .ok (.istore_n 2, 1) := by decide +kernel
theorem dX11_always_88 : decode cX11_always 88 = .ok (.aload_n 0, 1) := by decide +kernel
theorem dX11_always_89 : decode cX11_always 89 = .ok (.getfield 19, 3) := by decide +kernel
theorem dX11_always_92 : decode cX11_always 92 = .ok (.invokevirtual 277, 3) := by decide +kernel
theorem dX11_always_95 : decode cX11_always 95 = .ok (.iconst 0, 1) := by decide +kernel
theorem dX11_always_96 : decode cX11_always 96 = .ok (.istore_n 3, 1) := by decide +kernel
theorem dX11_always_97 : decode cX11_always 97 = .ok (.iload_n 3, 1) := by decide +kernel
theorem dX11_always_98 : decode cX11_always 98 = .ok (.iconst 5, 1) := by decide +kernel
theorem dX11_always_99 : decode cX11_always 99 = .ok (.if_icmp .ge 45, 3) := by decide +kernel
theorem dX11_always_102 : decode cX11_always 102 = .ok (.aload_n 0, 1) := by decide +kernel
theorem dX11_always_103 : decode cX11_always 103 = .ok (.getfield 97, 3) := by decide +kernel
theorem dX11_always_106 : decode cX11_always 106 = .ok (.iload_n 3, 1) := by decide +kernel
theorem dX11_always_107 : decode cX11_always 107 = .ok (.iaload, 1) := by decide +kernel
theorem dX11_always_108 : decode cX11_always 108 = .ok (.invokestatic 284, 3) := by decide +kernel
theorem dX11_always_111 : decode cX11_always 111 = .ok (.iconst 1, 1) := by decide +kernel
theorem dX11_always_112 : decode cX11_always 112 = .ok (.if_icmp .ne 26, 3) := by decide +kernel
theorem dX11_always_115 : decode cX11_always 115 = .ok (.iload_n 2, 1) := by decide +kernel
theorem dX11_always_116 : decode cX11_always 116 = .ok (.iconst 1, 1) := by decide +kernel
theorem dX11_always_117 : decode cX11_always 117 = .ok (.iload_n 3, 1) := by decide +kernel
theorem dX11_always_118 : decode cX11_always 118 = .ok (.ishl, 1) := by decide +kernel
theorem dX11_always_119 : decode cX11_always 119 = .ok (.ior, 1) := by decide +kernel
theorem dX11_always_120 : decode cX11_always 120 = .ok (.istore_n 2, 1) := by decide +kernel
theorem dX11_always_121 : decode cX11_always 121 = .ok (.aload_n 0, 1) := by decide +kernel
theorem dX11_always_122 : decode cX11_always 122 = .ok (.getfield 19, 3) := by decide +kernel
theorem dX11_always_125 : decode cX11_always 125 = .ok (.aload_n 0, 1) := by decide +kernel
theorem dX11_always_126 : decode cX11_always 126 = .ok (.getfield 97, 3) := by decide +kernel
theorem dX11_always_129 : decode cX11_always 129 = .ok (.iload_n 3, 1) := by decide +kernel
theorem dX11_always_130 : decode cX11_always 130 = .ok (.iaload, 1) := by decide +kernel
theorem dX11_always_131 : decode cX11_always 131 = .ok (.invokestatic 322, 3) := by decide +kernel
theorem dX11_always_134 : decode cX11_always 134 = .ok (.i2l, 1) := by decide +kernel
theorem dX11_always_135 : decode cX11_always 135 = .ok (.invokevirtual 248, 3) := by decide +kernel
theorem dX11_always_138 : decode cX11_always 138 = .ok (.iinc 3 1, 3) := by decide +kernel
theorem dX11_always_141 : decode cX11_always 141 = .ok (.goto (-44), 3) := by decide +kernel
theorem dX11_always_144 : decode cX11_always 144 = .ok (.iload_n 2, 1) := by decide +kernel
theorem dX11_always_145 : decode cX11_always 145 = .ok (.ireturn, 1) := by decide +kernel
def f_X11_always_L39 (a0 : Nat) (u13 : Int32) (m14 : jM) : Option ((Int32 × jM) ⊕ (jM)) :=
  (if (5 : Int32) ≤ u13 then some (.inr m14) else jrd (m14.1 (a0 + 187)) u13 256 (fun v17 => jrd (m14.1 (a0 + 168)) u13 5 (fun v20 => jin u13 256 (jbd (jsi m14 (a0 + 187) u13.toNatClampNeg (v17 ||| ((1 : Int32) <<< (v20 &&& 31)))) (fun m23 => some (.inl ((u13 + (1 : Int32), m23))))))))
def f_X11_always_L20 (a0 : Nat) (u5 : Int32) (u6 : Int32) (m7 : jM) : Option ((Int32 × Int32 × jM) ⊕ (Int32 × jM)) :=
  (if (7776 : Int32) ≤ u6 then some (.inr ((u5, m7))) else jcl2 (f_X10_advance (a0 + 167) m7) (fun v9 m10 => (if v9 = (0 : Int32) then some (.inr ((u5, m10))) else jcl (jloop (fun (s : Int32 × jM) => f_X11_always_L39 a0 s.1 s.2) jfu (((0 : Int32), m10))) (fun w25 => some (.inl ((u5 + (1 : Int32), u6 + (1 : Int32), w25)))))))
def f_X11_always_L97 (a0 : Nat) (u37 : Int32) (u38 : Int32) (m39 : jM) : Option ((Int32 × Int32 × jM) ⊕ (Int32 × jM)) :=
  (if (5 : Int32) ≤ u38 then some (.inr ((u37, m39))) else jrd (m39.1 (a0 + 187)) u38 256 (fun v42 => (if (f_J6_bitCount_0f7a4 v42) = (1 : Int32) then jbd (u37 ||| ((1 : Int32) <<< (u38 &&& 31)) : Int32) (fun v45 => jrd (m39.1 (a0 + 187)) u38 256 (fun v48 => jcl (f_X3_tell (a0 + 3) ((f_J6_numberOfTrailingZeros_0f7a4 v48).toInt64) m39) (fun m50 => some (.inl ((v45, u38 + (1 : Int32), m50)))))) else some (.inl ((u37, u38 + (1 : Int32), m39))))))
def f_X11_always (a0 : Nat) (μ : jM) : Option (Int32 × jM) :=
  jcl (f_J7_fill_53178 (a0 + 187) (0 : Int32) μ) (fun m1 => jcl (f_X10_begin (a0 + 167) (1 : Int32) m1) (fun m3 => jcl (jloop (fun (s : Int32 × Int32 × jM) => f_X11_always_L20 a0 s.1 s.2.1 s.2.2) jfu (((0 : Int32), (0 : Int32), m3))) (fun w29 => (if w29.1 = (0 : Int32) then some (((-2 : Int32), w29.2)) else jbd (f_X3_empty (a0 + 3) w29.2) (fun m35 => jcl (jloop (fun (s : Int32 × Int32 × jM) => f_X11_always_L97 a0 s.1 s.2.1 s.2.2) jfu (((0 : Int32), (0 : Int32), m35))) (fun w52 => some ((w52.1, w52.2))))))))
set_option maxHeartbeats 4000000 in
set_option maxRecDepth 100000 in
theorem c_X11_always {l : Launch} {G : jG} {L : jL} (hL : jOKL L) {a0 : Nat} (ka0 : jK L a0 11) {μ μ' : jM} {r : Int32} (h : f_X11_always a0 μ = some ((r, μ'))) : jCt l G L 6 yX11_always cX11_always 4 (some .int) [.ref (L.2.2 a0)] μ (some (.int r)) μ' := by
  refine jCt_of (by decide) (Nat.le_of_ble_eq_true rfl) (fun X hC hX hR => ?_)
  subst hX
  have hC : jC X G cX11_always 4 RX11 (some .int) := hC
  unfold f_X11_always at h
  show jJ X G 4 L 0 0 (jQM X G L (some (.int r)) μ' 0 0) 0 [(0, .ref (L.2.2 a0))] [] μ
  refine j_iconst (pc := 0) hC (0 : Int32) dX11_always_0 (by decide) ?_
  refine j_istore_n (pc := 1) hC 1 [(1, .int (0 : Int32)), (0, .ref (L.2.2 a0))] dX11_always_1 rfl (by decide) rfl rfl ?_
  refine j_aload_n (pc := 2) hC 0 1 dX11_always_2 rfl rfl ?_
  refine jgr_11 (pc := 3) hC 12 (by decide) rfl kf_X11_97 dX11_always_3 ka0 (ly_11_12 hL ka0).1 ?_
  refine j_iconst (pc := 6) hC (0 : Int32) dX11_always_6 (by decide) ?_
  obtain ⟨m1, e2, h⟩ := jcl_some h
  refine j_sv (pc := 7) hC hR [.ref (L.2.2 (a0 + 187)), .int (0 : Int32)] iy_J7_fill_53178 km_X11_317 dX11_always_7 rfl (by decide) (c_J7_fill_53178 hL (ly_11_12 hL ka0).2.1 e2) (by decide) (Nat.le_of_ble_eq_true rfl) rfl ?_
  refine j_aload_n (pc := 10) hC 0 1 dX11_always_10 rfl rfl ?_
  refine jgr_11 (pc := 11) hC 5 (by decide) rfl kf_X11_49 dX11_always_11 ka0 (ly_11_5 hL ka0).1 ?_
  refine j_iconst (pc := 14) hC (1 : Int32) dX11_always_14 (by decide) ?_
  obtain ⟨m3, e4, h⟩ := jcl_some h
  refine j_vv (pc := 15) hC hR [.int (1 : Int32)] iy_X10_begin (q := (RX10, TX10, 5)) (ci := 10) rfl rfl (by decide) km_X11_298 dX11_always_15 rfl (by decide) (ly_11_5 hL ka0).2.1 (c_X10_begin hL (ly_11_5 hL ka0).2.1 e4) (by decide) (Nat.le_of_ble_eq_true rfl) rfl ?_
  refine j_iconst (pc := 18) hC (0 : Int32) dX11_always_18 (by decide) ?_
  refine j_istore_n (pc := 19) hC 2 [(2, .int (0 : Int32)), (1, .int (0 : Int32)), (0, .ref (L.2.2 a0))] dX11_always_19 rfl (by decide) rfl rfl ?_
  obtain ⟨w29, hw30, h⟩ := jcl_some h
  refine j_lv [2, 1, 0] rfl ?_
  refine j_loop (step := (fun (s : Int32 × Int32 × jM) => f_X11_always_L20 a0 s.1 s.2.1 s.2.2)) (P := (fun (s : Int32 × Int32 × jM) => jJ X G 4 L 0 0 (jQM X G L (some (.int r)) μ' 0 0) 20 [(0, .ref (L.2.2 a0)), (1, .int s.1), (2, .int s.2.1)] [] s.2.2)) (R := (fun (e : Int32 × jM) => jJ X G 4 L 0 0 (jQM X G L (some (.int r)) μ' 0 0) 79 [(0, .ref (L.2.2 a0)), (1, .int e.1)] [] e.2)) ?_ jfu (((0 : Int32), (0 : Int32), m3)) w29 hw30 ?_
  · intro s31 o h hk
    obtain ⟨u5, u6, m7⟩ := s31
    change f_X11_always_L20 a0 u5 u6 m7 = some o at h
    unfold f_X11_always_L20 at h
    show jJ X G 4 L 0 0 (jQM X G L (some (.int r)) μ' 0 0) 20 [(0, .ref (L.2.2 a0)), (1, .int u5), (2, .int u6)] [] m7
    refine j_iload_n (pc := 20) hC 2 2 dX11_always_20 rfl rfl ?_
    refine j_sipush (pc := 21) hC (7776 : Int32) dX11_always_21 (by decide) ?_
    refine j_icmp_ge (pc := 24) hC 79 dX11_always_24 (by decide) (fun c8 => ?_) (fun c8 => ?_)
    · rw [if_pos c8] at h
      obtain rfl := Option.some.inj h
      have hk : jJ X G 4 L 0 0 (jQM X G L (some (.int r)) μ' 0 0) 79 [(0, .ref (L.2.2 a0)), (1, .int u5)] [] m7 := hk
      exact j_lv [0, 1] rfl hk
    · rw [if_neg c8] at h
      refine j_aload_n (pc := 27) hC 0 0 dX11_always_27 rfl rfl ?_
      refine jgr_11 (pc := 28) hC 5 (by decide) rfl kf_X11_49 dX11_always_28 ka0 (ly_11_5 hL ka0).1 ?_
      obtain ⟨v9, m10, e11, h⟩ := jcl2_some h
      refine j_vi (pc := 31) hC hR [] iy_X10_advance (q := (RX10, TX10, 5)) (ci := 10) rfl rfl (by decide) km_X11_301 dX11_always_31 rfl (by decide) (ly_11_5 hL ka0).2.1 (c_X10_advance hL (ly_11_5 hL ka0).2.1 e11) (by decide) (Nat.le_of_ble_eq_true rfl) rfl ?_
      refine j_if_eq (pc := 34) hC 79 dX11_always_34 (by decide) (fun c12 => ?_) (fun c12 => ?_)
      · rw [if_pos c12] at h
        obtain rfl := Option.some.inj h
        have hk : jJ X G 4 L 0 0 (jQM X G L (some (.int r)) μ' 0 0) 79 [(0, .ref (L.2.2 a0)), (1, .int u5)] [] m10 := hk
        exact j_lv [0, 1] rfl hk
      · rw [if_neg c12] at h
        refine j_iconst (pc := 37) hC (0 : Int32) dX11_always_37 (by decide) ?_
        refine j_istore_n (pc := 38) hC 3 [(3, .int (0 : Int32)), (0, .ref (L.2.2 a0)), (1, .int u5), (2, .int u6)] dX11_always_38 rfl (by decide) rfl rfl ?_
        obtain ⟨w25, hw26, h⟩ := jcl_some h
        refine j_lv [1, 2, 3, 0] rfl ?_
        refine j_loop (step := (fun (s : Int32 × jM) => f_X11_always_L39 a0 s.1 s.2)) (P := (fun (s : Int32 × jM) => jJ X G 4 L 0 0 (jQM X G L (some (.int r)) μ' 0 0) 39 [(0, .ref (L.2.2 a0)), (1, .int u5), (2, .int u6), (3, .int s.1)] [] s.2)) (R := (fun (e : jM) => jJ X G 4 L 0 0 (jQM X G L (some (.int r)) μ' 0 0) 70 [(0, .ref (L.2.2 a0)), (1, .int u5), (2, .int u6)] [] e)) ?_ jfu (((0 : Int32), m10)) w25 hw26 ?_
        · intro s27 o h hk
          obtain ⟨u13, m14⟩ := s27
          change f_X11_always_L39 a0 u13 m14 = some o at h
          unfold f_X11_always_L39 at h
          show jJ X G 4 L 0 0 (jQM X G L (some (.int r)) μ' 0 0) 39 [(0, .ref (L.2.2 a0)), (1, .int u5), (2, .int u6), (3, .int u13)] [] m14
          refine j_iload_n (pc := 39) hC 3 3 dX11_always_39 rfl rfl ?_
          refine j_iconst (pc := 40) hC (5 : Int32) dX11_always_40 (by decide) ?_
          refine j_icmp_ge (pc := 41) hC 70 dX11_always_41 (by decide) (fun c15 => ?_) (fun c15 => ?_)
          · rw [if_pos c15] at h
            obtain rfl := Option.some.inj h
            have hk : jJ X G 4 L 0 0 (jQM X G L (some (.int r)) μ' 0 0) 70 [(0, .ref (L.2.2 a0)), (1, .int u5), (2, .int u6)] [] m14 := hk
            exact j_lv [0, 1, 2] rfl hk
          · rw [if_neg c15] at h
            refine j_aload_n (pc := 44) hC 0 0 dX11_always_44 rfl rfl ?_
            refine jgr_11 (pc := 45) hC 12 (by decide) rfl kf_X11_97 dX11_always_45 ka0 (ly_11_12 hL ka0).1 ?_
            refine j_iload_n (pc := 48) hC 3 3 dX11_always_48 rfl rfl ?_
            refine j_dup2 (pc := 49) hC dX11_always_49 rfl rfl ?_
            obtain ⟨i16, v17, e18, h⟩ := jrd_some h
            refine j_iald (pc := 50) hC dX11_always_50 (ly_11_12 hL ka0).2.1 (ly_11_12 hL ka0).2.2 i16 e18 ?_
            refine j_iconst (pc := 51) hC (1 : Int32) dX11_always_51 (by decide) ?_
            refine j_aload_n (pc := 52) hC 0 0 dX11_always_52 rfl rfl ?_
            refine jgr_11 (pc := 53) hC 5 (by decide) rfl kf_X11_49 dX11_always_53 ka0 (ly_11_5 hL ka0).1 ?_
            refine jgr_10 (pc := 56) hC 0 (by decide) rfl kf_X11_311 dX11_always_56 (ly_11_5 hL ka0).2.1 (ly_10_0 hL (ly_11_5 hL ka0).2.1).1 ?_
            refine j_iload_n (pc := 59) hC 3 3 dX11_always_59 rfl rfl ?_
            obtain ⟨i19, v20, e21, h⟩ := jrd_some h
            refine j_iald (pc := 60) hC dX11_always_60 (ly_10_0 hL (ly_11_5 hL ka0).2.1).2.1 (ly_10_0 hL (ly_11_5 hL ka0).2.1).2.2 i19 e21 ?_
            refine j_ishl (pc := 61) hC dX11_always_61 ?_
            refine j_ior (pc := 62) hC dX11_always_62 ?_
            obtain ⟨i22, h⟩ := jin_some h
            obtain ⟨m23, e24, h⟩ := jbd_ex h
            refine j_iast (pc := 63) hC dX11_always_63 (ly_11_12 hL ka0).2.1 (ly_11_12 hL ka0).2.2 i22 e24 ?_
            refine j_iinc (pc := 64) hC 3 (u13 + (1 : Int32)) [(3, .int (u13 + (1 : Int32))), (0, .ref (L.2.2 a0)), (1, .int u5), (2, .int u6)] dX11_always_64 rfl rfl (by decide) rfl ?_
            refine j_goto (pc := 67) hC 39 dX11_always_67 (by decide) ?_
            obtain rfl := Option.some.inj h
            have hk : jJ X G 4 L 0 0 (jQM X G L (some (.int r)) μ' 0 0) 39 [(0, .ref (L.2.2 a0)), (1, .int u5), (2, .int u6), (3, .int (u13 + (1 : Int32)))] [] m23 := hk
            exact j_lv [1, 2, 3, 0] rfl hk
        · obtain ⟨m28, rfl⟩ : ∃ y, y = w25 := ⟨_, rfl⟩
          try dsimp only at h
          show jJ X G 4 L 0 0 (jQM X G L (some (.int r)) μ' 0 0) 70 [(0, .ref (L.2.2 a0)), (1, .int u5), (2, .int u6)] [] m28
          refine j_iinc (pc := 70) hC 1 (u5 + (1 : Int32)) [(1, .int (u5 + (1 : Int32))), (0, .ref (L.2.2 a0)), (2, .int u6)] dX11_always_70 rfl rfl (by decide) rfl ?_
          refine j_iinc (pc := 73) hC 2 (u6 + (1 : Int32)) [(2, .int (u6 + (1 : Int32))), (1, .int (u5 + (1 : Int32))), (0, .ref (L.2.2 a0))] dX11_always_73 rfl rfl (by decide) rfl ?_
          refine j_goto (pc := 76) hC 20 dX11_always_76 (by decide) ?_
          obtain rfl := Option.some.inj h
          have hk : jJ X G 4 L 0 0 (jQM X G L (some (.int r)) μ' 0 0) 20 [(0, .ref (L.2.2 a0)), (1, .int (u5 + (1 : Int32))), (2, .int (u6 + (1 : Int32)))] [] m28 := hk
          exact j_lv [2, 1, 0] rfl hk
  · obtain ⟨z32, m33⟩ := w29
    try dsimp only at h
    show jJ X G 4 L 0 0 (jQM X G L (some (.int r)) μ' 0 0) 79 [(0, .ref (L.2.2 a0)), (1, .int z32)] [] m33
    refine j_iload_n (pc := 79) hC 1 1 dX11_always_79 rfl rfl ?_
    refine j_if_ne (pc := 80) hC 86 dX11_always_80 (by decide) (fun c34 => ?_) (fun c34 => ?_)
    · rw [if_neg c34] at h
      refine j_iconst (pc := 86) hC (0 : Int32) dX11_always_86 (by decide) ?_
      refine j_istore_n (pc := 87) hC 2 [(2, .int (0 : Int32)), (0, .ref (L.2.2 a0)), (1, .int z32)] dX11_always_87 rfl (by decide) rfl rfl ?_
      refine j_aload_n (pc := 88) hC 0 1 dX11_always_88 rfl rfl ?_
      refine jgr_11 (pc := 89) hC 1 (by decide) rfl kf_X11_19 dX11_always_89 ka0 (ly_11_1 hL ka0).1 ?_
      obtain ⟨m35, e36, h⟩ := jbd_ex h
      refine j_vv (pc := 92) hC hR [] iy_X3_empty (q := (RX3, TX3, 2)) (ci := 3) rfl rfl (by decide) km_X11_277 dX11_always_92 rfl (by decide) (ly_11_1 hL ka0).2.1 (c_X3_empty hL (ly_11_1 hL ka0).2.1 e36.symm) (by decide) (Nat.le_of_ble_eq_true rfl) rfl ?_
      refine j_iconst (pc := 95) hC (0 : Int32) dX11_always_95 (by decide) ?_
      refine j_istore_n (pc := 96) hC 3 [(3, .int (0 : Int32)), (2, .int (0 : Int32)), (0, .ref (L.2.2 a0)), (1, .int z32)] dX11_always_96 rfl (by decide) rfl rfl ?_
      obtain ⟨w52, hw53, h⟩ := jcl_some h
      refine j_lv [2, 1, 0] rfl ?_
      refine j_loop (step := (fun (s : Int32 × Int32 × jM) => f_X11_always_L97 a0 s.1 s.2.1 s.2.2)) (P := (fun (s : Int32 × Int32 × jM) => jJ X G 4 L 0 0 (jQM X G L (some (.int r)) μ' 0 0) 97 [(0, .ref (L.2.2 a0)), (2, .int s.1), (3, .int s.2.1)] [] s.2.2)) (R := (fun (e : Int32 × jM) => jJ X G 4 L 0 0 (jQM X G L (some (.int r)) μ' 0 0) 144 [(2, .int e.1)] [] e.2)) ?_ jfu (((0 : Int32), (0 : Int32), m35)) w52 hw53 ?_
      · intro s54 o h hk
        obtain ⟨u37, u38, m39⟩ := s54
        change f_X11_always_L97 a0 u37 u38 m39 = some o at h
        unfold f_X11_always_L97 at h
        show jJ X G 4 L 0 0 (jQM X G L (some (.int r)) μ' 0 0) 97 [(0, .ref (L.2.2 a0)), (2, .int u37), (3, .int u38)] [] m39
        refine j_iload_n (pc := 97) hC 3 2 dX11_always_97 rfl rfl ?_
        refine j_iconst (pc := 98) hC (5 : Int32) dX11_always_98 (by decide) ?_
        refine j_icmp_ge (pc := 99) hC 144 dX11_always_99 (by decide) (fun c40 => ?_) (fun c40 => ?_)
        · rw [if_pos c40] at h
          obtain rfl := Option.some.inj h
          have hk : jJ X G 4 L 0 0 (jQM X G L (some (.int r)) μ' 0 0) 144 [(2, .int u37)] [] m39 := hk
          exact j_lv [1] rfl hk
        · rw [if_neg c40] at h
          refine j_aload_n (pc := 102) hC 0 0 dX11_always_102 rfl rfl ?_
          refine jgr_11 (pc := 103) hC 12 (by decide) rfl kf_X11_97 dX11_always_103 ka0 (ly_11_12 hL ka0).1 ?_
          refine j_iload_n (pc := 106) hC 3 2 dX11_always_106 rfl rfl ?_
          obtain ⟨i41, v42, e43, h⟩ := jrd_some h
          refine j_iald (pc := 107) hC dX11_always_107 (ly_11_12 hL ka0).2.1 (ly_11_12 hL ka0).2.2 i41 e43 ?_
          refine j_si (pc := 108) hC hR [.int v42] iy_J6_bitCount_0f7a4 km_X11_284 dX11_always_108 rfl (by decide) (c_J6_bitCount_0f7a4 hL  rfl) (by decide) (Nat.le_of_ble_eq_true rfl) rfl ?_
          refine j_iconst (pc := 111) hC (1 : Int32) dX11_always_111 (by decide) ?_
          refine j_icmp_ne (pc := 112) hC 138 dX11_always_112 (by decide) (fun c44 => ?_) (fun c44 => ?_)
          · rw [if_neg c44] at h
            refine j_iinc (pc := 138) hC 2 (u38 + (1 : Int32)) [(3, .int (u38 + (1 : Int32))), (0, .ref (L.2.2 a0)), (2, .int u37)] dX11_always_138 rfl rfl (by decide) rfl ?_
            refine j_goto (pc := 141) hC 97 dX11_always_141 (by decide) ?_
            obtain rfl := Option.some.inj h
            have hk : jJ X G 4 L 0 0 (jQM X G L (some (.int r)) μ' 0 0) 97 [(0, .ref (L.2.2 a0)), (2, .int u37), (3, .int (u38 + (1 : Int32)))] [] m39 := hk
            exact j_lv [1, 2, 0] rfl hk
          · rw [if_pos c44] at h
            refine j_iload_n (pc := 115) hC 2 1 dX11_always_115 rfl rfl ?_
            refine j_iconst (pc := 116) hC (1 : Int32) dX11_always_116 (by decide) ?_
            refine j_iload_n (pc := 117) hC 3 2 dX11_always_117 rfl rfl ?_
            refine j_ishl (pc := 118) hC dX11_always_118 ?_
            refine j_ior (pc := 119) hC dX11_always_119 ?_
            obtain ⟨v45, e46, h⟩ := jbd_ex h
            refine j_istore_n (pc := 120) hC 2 [(2, .int v45), (0, .ref (L.2.2 a0)), (3, .int u38)] dX11_always_120 rfl (by decide) e46 rfl ?_
            refine j_aload_n (pc := 121) hC 0 1 dX11_always_121 rfl rfl ?_
            refine jgr_11 (pc := 122) hC 1 (by decide) rfl kf_X11_19 dX11_always_122 ka0 (ly_11_1 hL ka0).1 ?_
            refine j_aload_n (pc := 125) hC 0 1 dX11_always_125 rfl rfl ?_
            refine jgr_11 (pc := 126) hC 12 (by decide) rfl kf_X11_97 dX11_always_126 ka0 (ly_11_12 hL ka0).1 ?_
            refine j_iload_n (pc := 129) hC 3 2 dX11_always_129 rfl rfl ?_
            obtain ⟨i47, v48, e49, h⟩ := jrd_some h
            refine j_iald (pc := 130) hC dX11_always_130 (ly_11_12 hL ka0).2.1 (ly_11_12 hL ka0).2.2 i47 e49 ?_
            refine j_si (pc := 131) hC hR [.int v48] iy_J6_numberOfTrailingZeros_0f7a4 km_X11_322 dX11_always_131 rfl (by decide) (c_J6_numberOfTrailingZeros_0f7a4 hL  rfl) (by decide) (Nat.le_of_ble_eq_true rfl) rfl ?_
            refine j_i2l (pc := 134) hC dX11_always_134 ?_
            obtain ⟨m50, e51, h⟩ := jcl_some h
            refine j_vv (pc := 135) hC hR [.long ((f_J6_numberOfTrailingZeros_0f7a4 v48).toInt64)] iy_X3_tell (q := (RX3, TX3, 2)) (ci := 3) rfl rfl (by decide) km_X11_248 dX11_always_135 rfl (by decide) (ly_11_1 hL ka0).2.1 (c_X3_tell hL (ly_11_1 hL ka0).2.1 e51) (by decide) (Nat.le_of_ble_eq_true rfl) rfl ?_
            refine j_iinc (pc := 138) hC 2 (u38 + (1 : Int32)) [(3, .int (u38 + (1 : Int32))), (2, .int v45), (0, .ref (L.2.2 a0))] dX11_always_138 rfl rfl (by decide) rfl ?_
            refine j_goto (pc := 141) hC 97 dX11_always_141 (by decide) ?_
            obtain rfl := Option.some.inj h
            have hk : jJ X G 4 L 0 0 (jQM X G L (some (.int r)) μ' 0 0) 97 [(0, .ref (L.2.2 a0)), (2, .int v45), (3, .int (u38 + (1 : Int32)))] [] m50 := hk
            exact j_lv [2, 1, 0] rfl hk
      · obtain ⟨z55, m56⟩ := w52
        try dsimp only at h
        show jJ X G 4 L 0 0 (jQM X G L (some (.int r)) μ' 0 0) 144 [(2, .int z55)] [] m56
        refine j_iload_n (pc := 144) hC 2 0 dX11_always_144 rfl rfl ?_
        obtain ⟨rfl, rfl⟩ := Prod.mk.inj (Option.some.inj h)
        exact j_iret (pc := 145) hC dX11_always_145 rfl
    · rw [if_pos c34] at h
      refine j_bipush (pc := 83) hC (-2 : Int32) dX11_always_83 (by decide) ?_
      obtain ⟨rfl, rfl⟩ := Prod.mk.inj (Option.some.inj h)
      exact j_iret (pc := 85) hC dX11_always_85 rfl
theorem dX11_search_0 : decode cX11_search 0 = .ok (.iload_n 1, 1) := by decide +kernel
theorem dX11_search_1 : decode cX11_search 1 = .ok (.ifCond .lt 8, 3) := by decide +kernel
theorem dX11_search_4 : decode cX11_search 4 = .ok (.iload_n 1, 1) := by decide +kernel
theorem dX11_search_5 : decode cX11_search 5 = .ok (.iconst 2, 1) := by decide +kernel
theorem dX11_search_6 : decode cX11_search 6 = .ok (.if_icmp .le 5, 3) := by decide +kernel
theorem dX11_search_9 : decode cX11_search 9 = .ok (.iconst (-1), 1) := by decide +kernel
theorem dX11_search_10 : decode cX11_search 10 = .ok (.ireturn, 1) := by decide +kernel
theorem dX11_search_11 : decode cX11_search 11 = .ok (.aload_n 0, 1) := by decide +kernel
theorem dX11_search_12 : decode cX11_search 12 = .ok (.getfield 58, 3) := by decide +kernel
theorem dX11_search_15 : decode cX11_search 15 = .ok (.iload_n 1, 1) := by decide +kernel
theorem dX11_search_16 : decode cX11_search 16 = .ok (.invokevirtual 325, 3) := by decide +kernel
theorem dX11_search_19 : decode cX11_search 19 = .ok (.istore_n 2, 1) := by decide +kernel
theorem dX11_search_20 : decode cX11_search 20 = .ok (.aload_n 0, 1) := by decide +kernel
theorem dX11_search_21 : decode cX11_search 21 = .ok (.getfield 19, 3) := by decide +kernel
theorem dX11_search_24 : decode cX11_search 24 = .ok (.aload_n 0, 1) := by decide +kernel
theorem dX11_search_25 : decode cX11_search 25 = .ok (.getfield 58, 3) := by decide +kernel
theorem dX11_search_28 : decode cX11_search 28 = .ok (.getfield 328, 3) := by decide +kernel
theorem dX11_search_31 : decode cX11_search 31 = .ok (.i2l, 1) := by decide +kernel
theorem dX11_search_32 : decode cX11_search 32 = .ok (.invokevirtual 235, 3) := by decide +kernel
theorem dX11_search_35 : decode cX11_search 35 = .ok (.aload_n 0, 1) := by decide +kernel
theorem dX11_search_36 : decode cX11_search 36 = .ok (.getfield 19, 3) := by decide +kernel
theorem dX11_search_39 : decode cX11_search 39 = .ok (.aload_n 0, 1) := by decide +kernel
theorem dX11_search_40 : decode cX11_search 40 = .ok (.getfield 58, 3) := by decide +kernel
theorem dX11_search_43 : decode cX11_search 43 = .ok (.getfield 331, 3) := by decide +kernel
theorem dX11_search_46 : decode cX11_search 46 = .ok (.i2l, 1) := by decide +kernel
theorem dX11_search_47 : decode cX11_search 47 = .ok (.invokevirtual 248, 3) := by decide +kernel
theorem dX11_search_50 : decode cX11_search 50 = .ok (.aload_n 0, 1) := by decide +kernel
theorem dX11_search_51 : decode cX11_search 51 = .ok (.getfield 19, 3) := by decide +kernel
theorem dX11_search_54 : decode cX11_search 54 = .ok (.aload_n 0, 1) := by decide +kernel
theorem dX11_search_55 : decode cX11_search 55 = .ok (.getfield 58, 3) := by decide +kernel
theorem dX11_search_58 : decode cX11_search 58 = .ok (.getfield 334, 3) := by decide +kernel
theorem dX11_search_61 : decode cX11_search 61 = .ok (.i2l, 1) := by decide +kernel
theorem dX11_search_62 : decode cX11_search 62 = .ok (.invokevirtual 248, 3) := by decide +kernel
theorem dX11_search_65 : decode cX11_search 65 = .ok (.aload_n 0, 1) := by decide +kernel
theorem dX11_search_66 : decode cX11_search 66 = .ok (.getfield 19, 3) := by decide +kernel
theorem dX11_search_69 : decode cX11_search 69 = .ok (.aload_n 0, 1) := by decide +kernel
theorem dX11_search_70 : decode cX11_search 70 = .ok (.getfield 58, 3) := by decide +kernel
theorem dX11_search_73 : decode cX11_search 73 = .ok (.getfield 337, 3) := by decide +kernel
theorem dX11_search_76 : decode cX11_search 76 = .ok (.i2l, 1) := by decide +kernel
theorem dX11_search_77 : decode cX11_search 77 = .ok (.invokevirtual 248, 3) := by decide +kernel
theorem dX11_search_80 : decode cX11_search 80 = .ok (.iload_n 2, 1) := by decide +kernel
theorem dX11_search_81 : decode cX11_search 81 = .ok (.iconst 1, 1) := by decide +kernel
theorem dX11_search_82 : decode cX11_search 82 = .ok (.if_icmp .ne 36, 3) := by decide +kernel
theorem dX11_search_85 : decode cX11_search 85 = .ok (.iconst 0, 1) := by decide +kernel
theorem dX11_search_86 : decode cX11_search 86 = .ok (.istore_n 3, 1) := by decide +kernel
theorem dX11_search_87 : decode cX11_search 87 = .ok (.iload_n 3, 1) := by decide +kernel
theorem dX11_search_88 : decode cX11_search 88 = .ok (.iconst 5, 1) := by decide +kernel
theorem dX11_search_89 : decode cX11_search 89 = .ok (.if_icmp .ge 29, 3) := by decide +kernel
theorem dX11_search_92 : decode cX11_search 92 = .ok (.aload_n 0, 1) := by decide +kernel
theorem dX11_search_93 : decode cX11_search 93 = .ok (.getfield 19, 3) := by decide +kernel
theorem dX11_search_96 : decode cX11_search 96 = .ok (.aload_n 0, 1) := by decide +kernel
theorem dX11_search_97 : decode cX11_search 97 = .ok (.getfield 36, 3) := by decide +kernel
theorem dX11_search_100 : decode cX11_search 100 = .ok (.getfield 340, 3) := by decide +kernel
theorem dX11_search_103 : decode cX11_search 103 = .ok (.iload_n 3, 1) := by decide +kernel
theorem dX11_search_104 : decode cX11_search 104 = .ok (.iaload, 1) := by decide +kernel
theorem dX11_search_105 : decode cX11_search 105 = .ok (.invokestatic 322, 3) := by decide +kernel
theorem dX11_search_108 : decode cX11_search 108 = .ok (.i2l, 1) := by decide +kernel
theorem dX11_search_109 : decode cX11_search 109 = .ok (.invokevirtual 248, 3) := by decide +kernel
theorem dX11_search_112 : decode cX11_search 112 = .ok (.iinc 3 1, 3) := by decide +kernel
theorem dX11_search_115 : decode cX11_search 115 = .ok (.goto (-28), 3) := by decide +kernel
theorem dX11_search_118 : decode cX11_search 118 = .ok (.iload_n 2, 1) := by decide +kernel
theorem dX11_search_119 : decode cX11_search 119 = .ok (.ireturn, 1) := by decide +kernel
def f_X11_search_L87 (a0 : Nat) (u15 : Int32) (m16 : jM) : Option ((Int32 × jM) ⊕ (jM)) :=
  (if (5 : Int32) ≤ u15 then some (.inr m16) else jrd (m16.1 (a0 + 166)) u15 5 (fun v19 => jcl (f_X3_tell (a0 + 3) ((f_J6_numberOfTrailingZeros_0f7a4 v19).toInt64) m16) (fun m21 => some (.inl ((u15 + (1 : Int32), m21))))))
def f_X11_search (a0 : Nat) (x1 : Int32) (μ : jM) : Option (Int32 × jM) :=
  (if x1 < (0 : Int32) then some (((-1 : Int32), μ)) else (if x1 ≤ (2 : Int32) then jcl2 (f_X5_seek (a0 + 170) x1 μ) (fun v3 m4 => jcl (f_X3_only (a0 + 3) ((m4.1 (a0 + 170) 4).toInt64) m4) (fun m6 => jcl (f_X3_tell (a0 + 3) ((m6.1 (a0 + 170) 5).toInt64) m6) (fun m8 => jcl (f_X3_tell (a0 + 3) ((m8.1 (a0 + 170) 6).toInt64) m8) (fun m10 => jcl (f_X3_tell (a0 + 3) ((m10.1 (a0 + 170) 7).toInt64) m10) (fun m12 => (if v3 = (1 : Int32) then jcl (jloop (fun (s : Int32 × jM) => f_X11_search_L87 a0 s.1 s.2) jfu (((0 : Int32), m12))) (fun w23 => some ((v3, w23))) else some ((v3, m12)))))))) else some (((-1 : Int32), μ))))
set_option maxHeartbeats 4000000 in
set_option maxRecDepth 100000 in
theorem c_X11_search {l : Launch} {G : jG} {L : jL} (hL : jOKL L) {a0 : Nat} {x1 : Int32} (ka0 : jK L a0 11) {μ μ' : jM} {r : Int32} (h : f_X11_search a0 x1 μ = some ((r, μ'))) : jCt l G L 23 yX11_search cX11_search 4 (some .int) [.ref (L.2.2 a0), .int x1] μ (some (.int r)) μ' := by
  refine jCt_of (by decide) (Nat.le_of_ble_eq_true rfl) (fun X hC hX hR => ?_)
  subst hX
  have hC : jC X G cX11_search 4 RX11 (some .int) := hC
  unfold f_X11_search at h
  show jJ X G 4 L 0 0 (jQM X G L (some (.int r)) μ' 0 0) 0 [(0, .ref (L.2.2 a0)), (1, .int x1)] [] μ
  refine j_iload_n (pc := 0) hC 1 1 dX11_search_0 rfl rfl ?_
  refine j_if_lt (pc := 1) hC 9 dX11_search_1 (by decide) (fun c1 => ?_) (fun c1 => ?_)
  · rw [if_pos c1] at h
    refine j_iconst (pc := 9) hC (-1 : Int32) dX11_search_9 (by decide) ?_
    obtain ⟨rfl, rfl⟩ := Prod.mk.inj (Option.some.inj h)
    exact j_iret (pc := 10) hC dX11_search_10 rfl
  · rw [if_neg c1] at h
    refine j_iload_n (pc := 4) hC 1 1 dX11_search_4 rfl rfl ?_
    refine j_iconst (pc := 5) hC (2 : Int32) dX11_search_5 (by decide) ?_
    refine j_icmp_le (pc := 6) hC 11 dX11_search_6 (by decide) (fun c2 => ?_) (fun c2 => ?_)
    · rw [if_pos c2] at h
      refine j_aload_n (pc := 11) hC 0 0 dX11_search_11 rfl rfl ?_
      refine jgr_11 (pc := 12) hC 6 (by decide) rfl kf_X11_58 dX11_search_12 ka0 (ly_11_6 hL ka0).1 ?_
      refine j_iload_n (pc := 15) hC 1 1 dX11_search_15 rfl rfl ?_
      obtain ⟨v3, m4, e5, h⟩ := jcl2_some h
      refine j_vi (pc := 16) hC hR [.int x1] iy_X5_seek (q := (RX5, TX5, 8)) (ci := 5) rfl rfl (by decide) km_X11_325 dX11_search_16 rfl (by decide) (ly_11_6 hL ka0).2.1 (c_X5_seek hL (ly_11_6 hL ka0).2.1 e5) (by decide) (Nat.le_of_ble_eq_true rfl) rfl ?_
      refine j_istore_n (pc := 19) hC 2 [(2, .int v3), (0, .ref (L.2.2 a0)), (1, .int x1)] dX11_search_19 rfl (by decide) rfl rfl ?_
      refine j_aload_n (pc := 20) hC 0 1 dX11_search_20 rfl rfl ?_
      refine jgr_11 (pc := 21) hC 1 (by decide) rfl kf_X11_19 dX11_search_21 ka0 (ly_11_1 hL ka0).1 ?_
      refine j_aload_n (pc := 24) hC 0 1 dX11_search_24 rfl rfl ?_
      refine jgr_11 (pc := 25) hC 6 (by decide) rfl kf_X11_58 dX11_search_25 ka0 (ly_11_6 hL ka0).1 ?_
      refine jgi_5 (pc := 28) hC 4 (by decide) rfl kf_X11_328 dX11_search_28 (ly_11_6 hL ka0).2.1 ?_
      refine j_i2l (pc := 31) hC dX11_search_31 ?_
      obtain ⟨m6, e7, h⟩ := jcl_some h
      refine j_vv (pc := 32) hC hR [.long ((m4.1 (a0 + 170) 4).toInt64)] iy_X3_only (q := (RX3, TX3, 2)) (ci := 3) rfl rfl (by decide) km_X11_235 dX11_search_32 rfl (by decide) (ly_11_1 hL ka0).2.1 (c_X3_only hL (ly_11_1 hL ka0).2.1 e7) (by decide) (Nat.le_of_ble_eq_true rfl) rfl ?_
      refine j_aload_n (pc := 35) hC 0 1 dX11_search_35 rfl rfl ?_
      refine jgr_11 (pc := 36) hC 1 (by decide) rfl kf_X11_19 dX11_search_36 ka0 (ly_11_1 hL ka0).1 ?_
      refine j_aload_n (pc := 39) hC 0 1 dX11_search_39 rfl rfl ?_
      refine jgr_11 (pc := 40) hC 6 (by decide) rfl kf_X11_58 dX11_search_40 ka0 (ly_11_6 hL ka0).1 ?_
      refine jgi_5 (pc := 43) hC 5 (by decide) rfl kf_X11_331 dX11_search_43 (ly_11_6 hL ka0).2.1 ?_
      refine j_i2l (pc := 46) hC dX11_search_46 ?_
      obtain ⟨m8, e9, h⟩ := jcl_some h
      refine j_vv (pc := 47) hC hR [.long ((m6.1 (a0 + 170) 5).toInt64)] iy_X3_tell (q := (RX3, TX3, 2)) (ci := 3) rfl rfl (by decide) km_X11_248 dX11_search_47 rfl (by decide) (ly_11_1 hL ka0).2.1 (c_X3_tell hL (ly_11_1 hL ka0).2.1 e9) (by decide) (Nat.le_of_ble_eq_true rfl) rfl ?_
      refine j_aload_n (pc := 50) hC 0 1 dX11_search_50 rfl rfl ?_
      refine jgr_11 (pc := 51) hC 1 (by decide) rfl kf_X11_19 dX11_search_51 ka0 (ly_11_1 hL ka0).1 ?_
      refine j_aload_n (pc := 54) hC 0 1 dX11_search_54 rfl rfl ?_
      refine jgr_11 (pc := 55) hC 6 (by decide) rfl kf_X11_58 dX11_search_55 ka0 (ly_11_6 hL ka0).1 ?_
      refine jgi_5 (pc := 58) hC 6 (by decide) rfl kf_X11_334 dX11_search_58 (ly_11_6 hL ka0).2.1 ?_
      refine j_i2l (pc := 61) hC dX11_search_61 ?_
      obtain ⟨m10, e11, h⟩ := jcl_some h
      refine j_vv (pc := 62) hC hR [.long ((m8.1 (a0 + 170) 6).toInt64)] iy_X3_tell (q := (RX3, TX3, 2)) (ci := 3) rfl rfl (by decide) km_X11_248 dX11_search_62 rfl (by decide) (ly_11_1 hL ka0).2.1 (c_X3_tell hL (ly_11_1 hL ka0).2.1 e11) (by decide) (Nat.le_of_ble_eq_true rfl) rfl ?_
      refine j_aload_n (pc := 65) hC 0 1 dX11_search_65 rfl rfl ?_
      refine jgr_11 (pc := 66) hC 1 (by decide) rfl kf_X11_19 dX11_search_66 ka0 (ly_11_1 hL ka0).1 ?_
      refine j_aload_n (pc := 69) hC 0 1 dX11_search_69 rfl rfl ?_
      refine jgr_11 (pc := 70) hC 6 (by decide) rfl kf_X11_58 dX11_search_70 ka0 (ly_11_6 hL ka0).1 ?_
      refine jgi_5 (pc := 73) hC 7 (by decide) rfl kf_X11_337 dX11_search_73 (ly_11_6 hL ka0).2.1 ?_
      refine j_i2l (pc := 76) hC dX11_search_76 ?_
      obtain ⟨m12, e13, h⟩ := jcl_some h
      refine j_vv (pc := 77) hC hR [.long ((m10.1 (a0 + 170) 7).toInt64)] iy_X3_tell (q := (RX3, TX3, 2)) (ci := 3) rfl rfl (by decide) km_X11_248 dX11_search_77 rfl (by decide) (ly_11_1 hL ka0).2.1 (c_X3_tell hL (ly_11_1 hL ka0).2.1 e13) (by decide) (Nat.le_of_ble_eq_true rfl) rfl ?_
      refine j_iload_n (pc := 80) hC 2 0 dX11_search_80 rfl rfl ?_
      refine j_iconst (pc := 81) hC (1 : Int32) dX11_search_81 (by decide) ?_
      refine j_icmp_ne (pc := 82) hC 118 dX11_search_82 (by decide) (fun c14 => ?_) (fun c14 => ?_)
      · rw [if_neg c14] at h
        refine j_iload_n (pc := 118) hC 2 0 dX11_search_118 rfl rfl ?_
        obtain ⟨rfl, rfl⟩ := Prod.mk.inj (Option.some.inj h)
        exact j_iret (pc := 119) hC dX11_search_119 rfl
      · rw [if_pos c14] at h
        refine j_iconst (pc := 85) hC (0 : Int32) dX11_search_85 (by decide) ?_
        refine j_istore_n (pc := 86) hC 3 [(3, .int (0 : Int32)), (2, .int v3), (0, .ref (L.2.2 a0)), (1, .int x1)] dX11_search_86 rfl (by decide) rfl rfl ?_
        obtain ⟨w23, hw24, h⟩ := jcl_some h
        refine j_lv [2, 1, 0] rfl ?_
        refine j_loop (step := (fun (s : Int32 × jM) => f_X11_search_L87 a0 s.1 s.2)) (P := (fun (s : Int32 × jM) => jJ X G 4 L 0 0 (jQM X G L (some (.int r)) μ' 0 0) 87 [(0, .ref (L.2.2 a0)), (2, .int v3), (3, .int s.1)] [] s.2)) (R := (fun (e : jM) => jJ X G 4 L 0 0 (jQM X G L (some (.int r)) μ' 0 0) 118 [(2, .int v3)] [] e)) ?_ jfu (((0 : Int32), m12)) w23 hw24 ?_
        · intro s25 o h hk
          obtain ⟨u15, m16⟩ := s25
          change f_X11_search_L87 a0 u15 m16 = some o at h
          unfold f_X11_search_L87 at h
          show jJ X G 4 L 0 0 (jQM X G L (some (.int r)) μ' 0 0) 87 [(0, .ref (L.2.2 a0)), (2, .int v3), (3, .int u15)] [] m16
          refine j_iload_n (pc := 87) hC 3 2 dX11_search_87 rfl rfl ?_
          refine j_iconst (pc := 88) hC (5 : Int32) dX11_search_88 (by decide) ?_
          refine j_icmp_ge (pc := 89) hC 118 dX11_search_89 (by decide) (fun c17 => ?_) (fun c17 => ?_)
          · rw [if_pos c17] at h
            obtain rfl := Option.some.inj h
            have hk : jJ X G 4 L 0 0 (jQM X G L (some (.int r)) μ' 0 0) 118 [(2, .int v3)] [] m16 := hk
            exact j_lv [1] rfl hk
          · rw [if_neg c17] at h
            refine j_aload_n (pc := 92) hC 0 0 dX11_search_92 rfl rfl ?_
            refine jgr_11 (pc := 93) hC 1 (by decide) rfl kf_X11_19 dX11_search_93 ka0 (ly_11_1 hL ka0).1 ?_
            refine j_aload_n (pc := 96) hC 0 0 dX11_search_96 rfl rfl ?_
            refine jgr_11 (pc := 97) hC 4 (by decide) rfl kf_X11_36 dX11_search_97 ka0 (ly_11_4 hL ka0).1 ?_
            refine jgr_6 (pc := 100) hC 0 (by decide) rfl kf_X11_340 dX11_search_100 (ly_11_4 hL ka0).2.1 (ly_6_0 hL (ly_11_4 hL ka0).2.1).1 ?_
            refine j_iload_n (pc := 103) hC 3 2 dX11_search_103 rfl rfl ?_
            obtain ⟨i18, v19, e20, h⟩ := jrd_some h
            refine j_iald (pc := 104) hC dX11_search_104 (ly_6_0 hL (ly_11_4 hL ka0).2.1).2.1 (ly_6_0 hL (ly_11_4 hL ka0).2.1).2.2 i18 e20 ?_
            refine j_si (pc := 105) hC hR [.int v19] iy_J6_numberOfTrailingZeros_0f7a4 km_X11_322 dX11_search_105 rfl (by decide) (c_J6_numberOfTrailingZeros_0f7a4 hL  rfl) (by decide) (Nat.le_of_ble_eq_true rfl) rfl ?_
            refine j_i2l (pc := 108) hC dX11_search_108 ?_
            obtain ⟨m21, e22, h⟩ := jcl_some h
            refine j_vv (pc := 109) hC hR [.long ((f_J6_numberOfTrailingZeros_0f7a4 v19).toInt64)] iy_X3_tell (q := (RX3, TX3, 2)) (ci := 3) rfl rfl (by decide) km_X11_248 dX11_search_109 rfl (by decide) (ly_11_1 hL ka0).2.1 (c_X3_tell hL (ly_11_1 hL ka0).2.1 e22) (by decide) (Nat.le_of_ble_eq_true rfl) rfl ?_
            refine j_iinc (pc := 112) hC 2 (u15 + (1 : Int32)) [(3, .int (u15 + (1 : Int32))), (0, .ref (L.2.2 a0)), (2, .int v3)] dX11_search_112 rfl rfl (by decide) rfl ?_
            refine j_goto (pc := 115) hC 87 dX11_search_115 (by decide) ?_
            obtain rfl := Option.some.inj h
            have hk : jJ X G 4 L 0 0 (jQM X G L (some (.int r)) μ' 0 0) 87 [(0, .ref (L.2.2 a0)), (2, .int v3), (3, .int (u15 + (1 : Int32)))] [] m21 := hk
            exact j_lv [1, 2, 0] rfl hk
        · obtain ⟨m26, rfl⟩ : ∃ y, y = w23 := ⟨_, rfl⟩
          try dsimp only at h
          show jJ X G 4 L 0 0 (jQM X G L (some (.int r)) μ' 0 0) 118 [(2, .int v3)] [] m26
          refine j_iload_n (pc := 118) hC 2 0 dX11_search_118 rfl rfl ?_
          obtain ⟨rfl, rfl⟩ := Prod.mk.inj (Option.some.inj h)
          exact j_iret (pc := 119) hC dX11_search_119 rfl
    · rw [if_neg c2] at h
      refine j_iconst (pc := 9) hC (-1 : Int32) dX11_search_9 (by decide) ?_
      obtain ⟨rfl, rfl⟩ := Prod.mk.inj (Option.some.inj h)
      exact j_iret (pc := 10) hC dX11_search_10 rfl
theorem dX11_worthOfSolution_0 : decode cX11_worthOfSolution 0 = .ok (.iconst 0, 1) := by decide +kernel
theorem dX11_worthOfSolution_1 : decode cX11_worthOfSolution 1 = .ok (.istore_n 1, 1) := by decide +kernel
theorem dX11_worthOfSolution_2 : decode cX11_worthOfSolution 2 = .ok (.iconst 0, 1) := by decide +kernel
theorem dX11_worthOfSolution_3 : decode cX11_worthOfSolution 3 = .ok (.istore_n 2, 1) := by decide +kernel
theorem dX11_worthOfSolution_4 : decode cX11_worthOfSolution 4 = .ok (.iload_n 2, 1) := by decide +kernel
theorem dX11_worthOfSolution_5 : decode cX11_worthOfSolution 5 = .ok (.iconst 5, 1) := by decide +kernel
theorem dX11_worthOfSolution_6 : decode cX11_worthOfSolution 6 = .ok (.if_icmp .ge 34, 3) := by decide +kernel
theorem dX11_worthOfSolution_9 : decode cX11_worthOfSolution 9 = .ok (.iload_n 1, 1) := by decide +kernel
theorem dX11_worthOfSolution_10 : decode cX11_worthOfSolution 10 = .ok (.aload_n 0, 1) := by decide +kernel
theorem dX11_worthOfSolution_11 : decode cX11_worthOfSolution 11 = .ok (.getfield 26, 3) := by decide +kernel
theorem dX11_worthOfSolution_14 : decode cX11_worthOfSolution 14 = .ok (.getfield 42, 3) := by decide +kernel
theorem dX11_worthOfSolution_17 : decode cX11_worthOfSolution 17 = .ok (.getfield 119, 3) := by decide +kernel
theorem dX11_worthOfSolution_20 : decode cX11_worthOfSolution 20 = .ok (.iload_n 2, 1) := by decide +kernel
theorem dX11_worthOfSolution_21 : decode cX11_worthOfSolution 21 = .ok (.iaload, 1) := by decide +kernel
theorem dX11_worthOfSolution_22 : decode cX11_worthOfSolution 22 = .ok (.aload_n 0, 1) := by decide +kernel
theorem dX11_worthOfSolution_23 : decode cX11_worthOfSolution 23 = .ok (.getfield 49, 3) := by decide +kernel
theorem dX11_worthOfSolution_26 : decode cX11_worthOfSolution 26 = .ok (.getfield 311, 3) := by decide +kernel
theorem dX11_worthOfSolution_29 : decode cX11_worthOfSolution 29 = .ok (.iload_n 2, 1) := by decide +kernel
theorem dX11_worthOfSolution_30 : decode cX11_worthOfSolution 30 = .ok (.iaload, 1) := by decide +kernel
theorem dX11_worthOfSolution_31 : decode cX11_worthOfSolution 31 = .ok (.imul, 1) := by decide +kernel
theorem dX11_worthOfSolution_32 : decode cX11_worthOfSolution 32 = .ok (.iadd, 1) := by decide +kernel
theorem dX11_worthOfSolution_33 : decode cX11_worthOfSolution 33 = .ok (.istore_n 1, 1) := by decide +kernel
theorem dX11_worthOfSolution_34 : decode cX11_worthOfSolution 34 = .ok (.iinc 2 1, 3) := by decide +kernel
theorem dX11_worthOfSolution_37 : decode cX11_worthOfSolution 37 = .ok (.goto (-33), 3) := by decide +kernel
theorem dX11_worthOfSolution_40 : decode cX11_worthOfSolution 40 = .ok (.iload_n 1, 1) := by decide +kernel
theorem dX11_worthOfSolution_41 : decode cX11_worthOfSolution 41 = .ok (.ireturn, 1) := by decide +kernel
def f_X11_worthOfSolution_L4 (a0 : Nat) (μ : jM) (u1 : Int32) (u2 : Int32) : Option ((Int32 × Int32) ⊕ (Int32)) :=
  (if (5 : Int32) ≤ u2 then some (.inr u1) else jrd (μ.1 (a0 + 7)) u2 6 (fun v5 => jrd (μ.1 (a0 + 168)) u2 5 (fun v8 => some (.inl ((u1 + (v5 * v8), u2 + (1 : Int32)))))))
def f_X11_worthOfSolution (a0 : Nat) (μ : jM) : Option (Int32) :=
  jcl (jloop (fun (s : Int32 × Int32) => f_X11_worthOfSolution_L4 a0 μ s.1 s.2) jfu (((0 : Int32), (0 : Int32)))) (fun w10 => some w10)
set_option maxHeartbeats 4000000 in
set_option maxRecDepth 100000 in
theorem c_X11_worthOfSolution {l : Launch} {G : jG} {L : jL} (hL : jOKL L) {a0 : Nat} (ka0 : jK L a0 11) {μ : jM} {r : Int32} (h : f_X11_worthOfSolution a0 μ = some r) : jCt l G L 3 yX11_worthOfSolution cX11_worthOfSolution 3 (some .int) [.ref (L.2.2 a0)] μ (some (.int r)) μ := by
  refine jCt_of (by decide) (Nat.le_of_ble_eq_true rfl) (fun X hC hX hR => ?_)
  subst hX
  have hC : jC X G cX11_worthOfSolution 3 RX11 (some .int) := hC
  unfold f_X11_worthOfSolution at h
  show jJ X G 3 L 0 0 (jQM X G L (some (.int r)) μ 0 0) 0 [(0, .ref (L.2.2 a0))] [] μ
  refine j_iconst (pc := 0) hC (0 : Int32) dX11_worthOfSolution_0 (by decide) ?_
  refine j_istore_n (pc := 1) hC 1 [(1, .int (0 : Int32)), (0, .ref (L.2.2 a0))] dX11_worthOfSolution_1 rfl (by decide) rfl rfl ?_
  refine j_iconst (pc := 2) hC (0 : Int32) dX11_worthOfSolution_2 (by decide) ?_
  refine j_istore_n (pc := 3) hC 2 [(2, .int (0 : Int32)), (1, .int (0 : Int32)), (0, .ref (L.2.2 a0))] dX11_worthOfSolution_3 rfl (by decide) rfl rfl ?_
  obtain ⟨w10, hw11, h⟩ := jcl_some h
  refine j_lv [2, 1, 0] rfl ?_
  refine j_loop (step := (fun (s : Int32 × Int32) => f_X11_worthOfSolution_L4 a0 μ s.1 s.2)) (P := (fun (s : Int32 × Int32) => jJ X G 3 L 0 0 (jQM X G L (some (.int r)) μ 0 0) 4 [(0, .ref (L.2.2 a0)), (1, .int s.1), (2, .int s.2)] [] μ)) (R := (fun (e : Int32) => jJ X G 3 L 0 0 (jQM X G L (some (.int r)) μ 0 0) 40 [(1, .int e)] [] μ)) ?_ jfu (((0 : Int32), (0 : Int32))) w10 hw11 ?_
  · intro s12 o h hk
    obtain ⟨u1, u2⟩ := s12
    change f_X11_worthOfSolution_L4 a0 μ u1 u2 = some o at h
    unfold f_X11_worthOfSolution_L4 at h
    show jJ X G 3 L 0 0 (jQM X G L (some (.int r)) μ 0 0) 4 [(0, .ref (L.2.2 a0)), (1, .int u1), (2, .int u2)] [] μ
    refine j_iload_n (pc := 4) hC 2 2 dX11_worthOfSolution_4 rfl rfl ?_
    refine j_iconst (pc := 5) hC (5 : Int32) dX11_worthOfSolution_5 (by decide) ?_
    refine j_icmp_ge (pc := 6) hC 40 dX11_worthOfSolution_6 (by decide) (fun c3 => ?_) (fun c3 => ?_)
    · rw [if_pos c3] at h
      obtain rfl := Option.some.inj h
      have hk : jJ X G 3 L 0 0 (jQM X G L (some (.int r)) μ 0 0) 40 [(1, .int u1)] [] μ := hk
      exact j_lv [1] rfl hk
    · rw [if_neg c3] at h
      refine j_iload_n (pc := 9) hC 1 1 dX11_worthOfSolution_9 rfl rfl ?_
      refine j_aload_n (pc := 10) hC 0 0 dX11_worthOfSolution_10 rfl rfl ?_
      refine jgr_11 (pc := 11) hC 2 (by decide) rfl kf_X11_26 dX11_worthOfSolution_11 ka0 (ly_11_2 hL ka0).1 ?_
      refine jgr_7 (pc := 14) hC 0 (by decide) rfl kf_X11_42 dX11_worthOfSolution_14 (ly_11_2 hL ka0).2.1 (ly_7_0 hL (ly_11_2 hL ka0).2.1).1 ?_
      refine jgr_9 (pc := 17) hC 0 (by decide) rfl kf_X11_119 dX11_worthOfSolution_17 (ly_7_0 hL (ly_11_2 hL ka0).2.1).2.1 (ly_9_0 hL (ly_7_0 hL (ly_11_2 hL ka0).2.1).2.1).1 ?_
      refine j_iload_n (pc := 20) hC 2 2 dX11_worthOfSolution_20 rfl rfl ?_
      obtain ⟨i4, v5, e6, h⟩ := jrd_some h
      refine j_iald (pc := 21) hC dX11_worthOfSolution_21 (ly_9_0 hL (ly_7_0 hL (ly_11_2 hL ka0).2.1).2.1).2.1 (ly_9_0 hL (ly_7_0 hL (ly_11_2 hL ka0).2.1).2.1).2.2 i4 e6 ?_
      refine j_aload_n (pc := 22) hC 0 0 dX11_worthOfSolution_22 rfl rfl ?_
      refine jgr_11 (pc := 23) hC 5 (by decide) rfl kf_X11_49 dX11_worthOfSolution_23 ka0 (ly_11_5 hL ka0).1 ?_
      refine jgr_10 (pc := 26) hC 0 (by decide) rfl kf_X11_311 dX11_worthOfSolution_26 (ly_11_5 hL ka0).2.1 (ly_10_0 hL (ly_11_5 hL ka0).2.1).1 ?_
      refine j_iload_n (pc := 29) hC 2 2 dX11_worthOfSolution_29 rfl rfl ?_
      obtain ⟨i7, v8, e9, h⟩ := jrd_some h
      refine j_iald (pc := 30) hC dX11_worthOfSolution_30 (ly_10_0 hL (ly_11_5 hL ka0).2.1).2.1 (ly_10_0 hL (ly_11_5 hL ka0).2.1).2.2 i7 e9 ?_
      refine j_imul (pc := 31) hC dX11_worthOfSolution_31 ?_
      refine j_iadd (pc := 32) hC dX11_worthOfSolution_32 ?_
      refine j_istore_n (pc := 33) hC 1 [(1, .int (u1 + (v5 * v8))), (0, .ref (L.2.2 a0)), (2, .int u2)] dX11_worthOfSolution_33 rfl (by decide) rfl rfl ?_
      refine j_iinc (pc := 34) hC 2 (u2 + (1 : Int32)) [(2, .int (u2 + (1 : Int32))), (1, .int (u1 + (v5 * v8))), (0, .ref (L.2.2 a0))] dX11_worthOfSolution_34 rfl rfl (by decide) rfl ?_
      refine j_goto (pc := 37) hC 4 dX11_worthOfSolution_37 (by decide) ?_
      obtain rfl := Option.some.inj h
      have hk : jJ X G 3 L 0 0 (jQM X G L (some (.int r)) μ 0 0) 4 [(0, .ref (L.2.2 a0)), (1, .int (u1 + (v5 * v8))), (2, .int (u2 + (1 : Int32)))] [] μ := hk
      exact j_lv [2, 1, 0] rfl hk
  · obtain ⟨z13, rfl⟩ : ∃ y, y = w10 := ⟨_, rfl⟩
    try dsimp only at h
    show jJ X G 3 L 0 0 (jQM X G L (some (.int r)) μ 0 0) 40 [(1, .int z13)] [] μ
    refine j_iload_n (pc := 40) hC 1 0 dX11_worthOfSolution_40 rfl rfl ?_
    obtain rfl := Option.some.inj h
    exact j_iret (pc := 41) hC dX11_worthOfSolution_41 rfl
