theorem dX4_endFrom_0 : decode cX4_endFrom 0 = .ok (.iconst 0, 1) := by decide +kernel
theorem dX4_endFrom_1 : decode cX4_endFrom 1 = .ok (.istore_n 3, 1) := by decide +kernel
theorem dX4_endFrom_2 : decode cX4_endFrom 2 = .ok (.iload_n 1, 1) := by decide +kernel
theorem dX4_endFrom_3 : decode cX4_endFrom 3 = .ok (.istore 4, 2) := by decide +kernel
theorem dX4_endFrom_5 : decode cX4_endFrom 5 = .ok (.iload 4, 2) := by decide +kernel
theorem dX4_endFrom_7 : decode cX4_endFrom 7 = .ok (.aload_n 0, 1) := by decide +kernel
theorem dX4_endFrom_8 : decode cX4_endFrom 8 = .ok (.getfield 19, 3) := by decide +kernel
theorem dX4_endFrom_11 : decode cX4_endFrom 11 = .ok (.getfield 90, 3) := by decide +kernel
theorem dX4_endFrom_14 : decode cX4_endFrom 14 = .ok (.if_icmp .ge 74, 3) := by decide +kernel
theorem dX4_endFrom_17 : decode cX4_endFrom 17 = .ok (.aload_n 0, 1) := by decide +kernel
theorem dX4_endFrom_18 : decode cX4_endFrom 18 = .ok (.getfield 19, 3) := by decide +kernel
theorem dX4_endFrom_21 : decode cX4_endFrom 21 = .ok (.iload 4, 2) := by decide +kernel
theorem dX4_endFrom_23 : decode cX4_endFrom 23 = .ok (.invokevirtual 67, 3) := by decide +kernel
theorem dX4_endFrom_26 : decode cX4_endFrom 26 = .ok (.istore 5, 2) := by decide +kernel
theorem dX4_endFrom_28 : decode cX4_endFrom 28 = .ok (.iload_n 3, 1) := by decide +kernel
theorem dX4_endFrom_29 : decode cX4_endFrom 29 = .ok (.ifCond .ne 25, 3) := by decide +kernel
theorem dX4_endFrom_32 : decode cX4_endFrom 32 = .ok (.iload 5, 2) := by decide +kernel
theorem dX4_endFrom_34 : decode cX4_endFrom 34 = .ok (.invokestatic 98, 3) := by decide +kernel
theorem dX4_endFrom_37 : decode cX4_endFrom 37 = .ok (.ifCond .ne 14, 3) := by decide +kernel
theorem dX4_endFrom_40 : decode cX4_endFrom 40 = .ok (.iload_n 2, 1) := by decide +kernel
theorem dX4_endFrom_41 : decode cX4_endFrom 41 = .ok (.ifCond .eq 13, 3) := by decide +kernel
theorem dX4_endFrom_44 : decode cX4_endFrom 44 = .ok (.iload 5, 2) := by decide +kernel
theorem dX4_endFrom_46 : decode cX4_endFrom 46 = .ok (.bipush 124, 2) := by decide +kernel
theorem dX4_endFrom_48 : decode cX4_endFrom 48 = .ok (.if_icmp .ne 6, 3) := by decide +kernel
theorem dX4_endFrom_51 : decode cX4_endFrom 51 = .ok (.iload 4, 2) := by decide +kernel
theorem dX4_endFrom_53 : decode cX4_endFrom 53 = .ok (.ireturn, 1) := by decide +kernel
theorem dX4_endFrom_54 : decode cX4_endFrom 54 = .ok (.iload_n 3, 1) := by decide +kernel
theorem dX4_endFrom_55 : decode cX4_endFrom 55 = .ok (.iload 5, 2) := by decide +kernel
theorem dX4_endFrom_57 : decode cX4_endFrom 57 = .ok (.invokestatic 94, 3) := by decide +kernel
theorem dX4_endFrom_60 : decode cX4_endFrom 60 = .ok (.ifCond .eq 7, 3) := by decide +kernel
theorem dX4_endFrom_63 : decode cX4_endFrom 63 = .ok (.iconst 1, 1) := by decide +kernel
theorem dX4_endFrom_64 : decode cX4_endFrom 64 = .ok (.goto 16, 3) := by decide +kernel
theorem dX4_endFrom_67 : decode cX4_endFrom 67 = .ok (.iload 5, 2) := by decide +kernel
theorem dX4_endFrom_69 : decode cX4_endFrom 69 = .ok (.invokestatic 98, 3) := by decide +kernel
theorem dX4_endFrom_72 : decode cX4_endFrom 72 = .ok (.ifCond .eq 7, 3) := by decide +kernel
theorem dX4_endFrom_75 : decode cX4_endFrom 75 = .ok (.iconst (-1), 1) := by decide +kernel
theorem dX4_endFrom_76 : decode cX4_endFrom 76 = .ok (.goto 4, 3) := by decide +kernel
theorem dX4_endFrom_79 : decode cX4_endFrom 79 = .ok (.iconst 0, 1) := by decide +kernel
theorem dX4_endFrom_80 : decode cX4_endFrom 80 = .ok (.iadd, 1) := by decide +kernel
theorem dX4_endFrom_81 : decode cX4_endFrom 81 = .ok (.istore_n 3, 1) := by decide +kernel
theorem dX4_endFrom_82 : decode cX4_endFrom 82 = .ok (.iinc 4 1, 3) := by decide +kernel
theorem dX4_endFrom_85 : decode cX4_endFrom 85 = .ok (.goto (-80), 3) := by decide +kernel
theorem dX4_endFrom_88 : decode cX4_endFrom 88 = .ok (.aload_n 0, 1) := by decide +kernel
theorem dX4_endFrom_89 : decode cX4_endFrom 89 = .ok (.getfield 19, 3) := by decide +kernel
theorem dX4_endFrom_92 : decode cX4_endFrom 92 = .ok (.getfield 90, 3) := by decide +kernel
theorem dX4_endFrom_95 : decode cX4_endFrom 95 = .ok (.ireturn, 1) := by decide +kernel
def f_X4_endFrom_L5 (x2 : Int32) (μ : jM) (u1 : Int32) (u2 : Int32) : Option ((Int32 × Int32) ⊕ ((Int32) ⊕ (Unit))) :=
  (if (μ.1 1 1) ≤ u2 then some (.inr (.inr (()))) else jcl (f_X8_signAt 1 u2 μ) (fun v4 => jbd ((if (f_X4_isOpener v4) = (0 : Int32) then (if (f_X4_isCloser v4) = (0 : Int32) then some (.inl ((u1 + (0 : Int32), u2 + (1 : Int32)))) else some (.inl ((u1 + (-1 : Int32), u2 + (1 : Int32))))) else some (.inl ((u1 + (1 : Int32), u2 + (1 : Int32)))))) (fun k6 => (if u1 = (0 : Int32) then (if (f_X4_isCloser v4) = (0 : Int32) then (if x2 = (0 : Int32) then k6 else (if v4 = (124 : Int32) then some (.inr (.inl u2)) else k6)) else some (.inr (.inl u2))) else k6))))
def f_X4_endFrom (a0 : Nat) (x1 : Int32) (x2 : Int32) (μ : jM) : Option (Int32) :=
  jcl (jloop (fun (s : Int32 × Int32) => f_X4_endFrom_L5 x2 μ s.1 s.2) jfu (((0 : Int32), x1))) (fun w15 => match w15 with | .inl w15 => some w15 | .inr w15 => some (μ.1 1 1))
set_option maxHeartbeats 4000000 in
set_option maxRecDepth 100000 in
theorem c_X4_endFrom {l : Launch} {G : jG} {L : jL} (hL : jOKL L) {a0 : Nat} {x1 : Int32} {x2 : Int32} (ka0 : jK L a0 4) {μ : jM} {r : Int32} (h : f_X4_endFrom a0 x1 x2 μ = some r) : jCt l G L 4 yX4_endFrom cX4_endFrom 6 (some .int) [.ref (L.2.2 a0), .int x1, .int x2] μ (some (.int r)) μ := by
  refine jCt_of (by decide) (Nat.le_of_ble_eq_true rfl) (fun X hC hX hR => ?_)
  subst hX
  have hC : jC X G cX4_endFrom 6 RX4 (some .int) := hC
  unfold f_X4_endFrom at h
  show jJ X G 6 L 0 0 (jQM X G L (some (.int r)) μ 0 0) 0 [(0, .ref (L.2.2 a0)), (1, .int x1), (2, .int x2)] [] μ
  refine j_iconst (pc := 0) hC (0 : Int32) dX4_endFrom_0 (by decide) ?_
  refine j_istore_n (pc := 1) hC 3 [(3, .int (0 : Int32)), (0, .ref (L.2.2 a0)), (1, .int x1), (2, .int x2)] dX4_endFrom_1 rfl (by decide) rfl rfl ?_
  refine j_iload_n (pc := 2) hC 1 2 dX4_endFrom_2 rfl rfl ?_
  refine j_istore (pc := 3) hC [(4, .int x1), (3, .int (0 : Int32)), (0, .ref (L.2.2 a0)), (1, .int x1), (2, .int x2)] dX4_endFrom_3 (by decide) rfl rfl ?_
  obtain ⟨w15, hw16, h⟩ := jcl_some h
  refine j_lv [2, 4, 1, 0] rfl ?_
  refine j_loop (step := (fun (s : Int32 × Int32) => f_X4_endFrom_L5 x2 μ s.1 s.2)) (P := (fun (s : Int32 × Int32) => jJ X G 6 L 0 0 (jQM X G L (some (.int r)) μ 0 0) 5 [(0, .ref (L.2.2 a0)), (2, .int x2), (3, .int s.1), (4, .int s.2)] [] μ)) (R := (fun (e : (Int32) ⊕ (Unit)) => match e with | .inl e => jJ X G 6 L 0 0 (jQM X G L (some (.int r)) μ 0 0) 51 [(4, .int e)] [] μ | .inr e => jJ X G 6 L 0 0 (jQM X G L (some (.int r)) μ 0 0) 88 [(0, .ref (L.2.2 a0))] [] μ)) ?_ jfu (((0 : Int32), x1)) w15 hw16 ?_
  · intro s17 o h hk
    obtain ⟨u1, u2⟩ := s17
    change f_X4_endFrom_L5 x2 μ u1 u2 = some o at h
    unfold f_X4_endFrom_L5 at h
    show jJ X G 6 L 0 0 (jQM X G L (some (.int r)) μ 0 0) 5 [(0, .ref (L.2.2 a0)), (2, .int x2), (3, .int u1), (4, .int u2)] [] μ
    refine j_iload (pc := 5) hC 3 dX4_endFrom_5 rfl ?_
    refine j_aload_n (pc := 7) hC 0 0 dX4_endFrom_7 rfl rfl ?_
    refine jgr_4 (pc := 8) hC 1 (by decide) rfl kf_X4_19 dX4_endFrom_8 ka0 (ly_4_1 hL ka0).1 ?_
    refine jgi_8 (pc := 11) hC 1 (by decide) rfl kf_X4_90 dX4_endFrom_11 (ly_4_1 hL ka0).2.1 ?_
    refine j_icmp_ge (pc := 14) hC 88 dX4_endFrom_14 (by decide) (fun c3 => ?_) (fun c3 => ?_)
    · rw [if_pos c3] at h
      obtain rfl := Option.some.inj h
      have hk : jJ X G 6 L 0 0 (jQM X G L (some (.int r)) μ 0 0) 88 [(0, .ref (L.2.2 a0))] [] μ := hk
      exact j_lv [0] rfl hk
    · rw [if_neg c3] at h
      refine j_aload_n (pc := 17) hC 0 0 dX4_endFrom_17 rfl rfl ?_
      refine jgr_4 (pc := 18) hC 1 (by decide) rfl kf_X4_19 dX4_endFrom_18 ka0 (ly_4_1 hL ka0).1 ?_
      refine j_iload (pc := 21) hC 3 dX4_endFrom_21 rfl ?_
      obtain ⟨v4, e5, h⟩ := jcl_some h
      refine j_vi (pc := 23) hC hR [.int u2] iy_X8_signAt (q := (RX8, TX8, 2)) (ci := 8) rfl rfl (by decide) km_X4_67 dX4_endFrom_23 rfl (by decide) (ly_4_1 hL ka0).2.1 (c_X8_signAt hL (ly_4_1 hL ka0).2.1 e5) (by decide) (Nat.le_of_ble_eq_true rfl) rfl ?_
      refine j_istore (pc := 26) hC [(5, .int v4), (0, .ref (L.2.2 a0)), (2, .int x2), (3, .int u1), (4, .int u2)] dX4_endFrom_26 (by decide) rfl rfl ?_
      refine j_iload_n (pc := 28) hC 3 3 dX4_endFrom_28 rfl rfl ?_
      obtain ⟨k6, e8, h⟩ := jbd_ex h
      have q7 : k6 = some o → jJ X G 6 L 0 0 (jQM X G L (some (.int r)) μ 0 0) 54 [(0, .ref (L.2.2 a0)), (2, .int x2), (3, .int u1), (4, .int u2), (5, .int v4)] [] μ := by
        intro h
        rw [e8] at h
        refine j_iload_n (pc := 54) hC 3 2 dX4_endFrom_54 rfl rfl ?_
        refine j_iload (pc := 55) hC 4 dX4_endFrom_55 rfl ?_
        refine j_si (pc := 57) hC hR [.int v4] iy_X4_isOpener km_X4_94 dX4_endFrom_57 rfl (by decide) (c_X4_isOpener hL  rfl) (by decide) (Nat.le_of_ble_eq_true rfl) rfl ?_
        refine j_if_eq (pc := 60) hC 67 dX4_endFrom_60 (by decide) (fun c9 => ?_) (fun c9 => ?_)
        · rw [if_pos c9] at h
          refine j_iload (pc := 67) hC 4 dX4_endFrom_67 rfl ?_
          refine j_si (pc := 69) hC hR [.int v4] iy_X4_isCloser km_X4_98 dX4_endFrom_69 rfl (by decide) (c_X4_isCloser hL  rfl) (by decide) (Nat.le_of_ble_eq_true rfl) rfl ?_
          refine j_if_eq (pc := 72) hC 79 dX4_endFrom_72 (by decide) (fun c10 => ?_) (fun c10 => ?_)
          · rw [if_pos c10] at h
            refine j_iconst (pc := 79) hC (0 : Int32) dX4_endFrom_79 (by decide) ?_
            refine j_iadd (pc := 80) hC dX4_endFrom_80 ?_
            refine j_istore_n (pc := 81) hC 3 [(3, .int (u1 + (0 : Int32))), (0, .ref (L.2.2 a0)), (2, .int x2), (4, .int u2), (5, .int v4)] dX4_endFrom_81 rfl (by decide) rfl rfl ?_
            refine j_iinc (pc := 82) hC 3 (u2 + (1 : Int32)) [(4, .int (u2 + (1 : Int32))), (3, .int (u1 + (0 : Int32))), (0, .ref (L.2.2 a0)), (2, .int x2), (5, .int v4)] dX4_endFrom_82 rfl rfl (by decide) rfl ?_
            refine j_goto (pc := 85) hC 5 dX4_endFrom_85 (by decide) ?_
            obtain rfl := Option.some.inj h
            have hk : jJ X G 6 L 0 0 (jQM X G L (some (.int r)) μ 0 0) 5 [(0, .ref (L.2.2 a0)), (2, .int x2), (3, .int (u1 + (0 : Int32))), (4, .int (u2 + (1 : Int32)))] [] μ := hk
            exact j_lv [2, 3, 1, 0] rfl hk
          · rw [if_neg c10] at h
            refine j_iconst (pc := 75) hC (-1 : Int32) dX4_endFrom_75 (by decide) ?_
            refine j_goto (pc := 76) hC 80 dX4_endFrom_76 (by decide) ?_
            refine j_iadd (pc := 80) hC dX4_endFrom_80 ?_
            refine j_istore_n (pc := 81) hC 3 [(3, .int (u1 + (-1 : Int32))), (0, .ref (L.2.2 a0)), (2, .int x2), (4, .int u2), (5, .int v4)] dX4_endFrom_81 rfl (by decide) rfl rfl ?_
            refine j_iinc (pc := 82) hC 3 (u2 + (1 : Int32)) [(4, .int (u2 + (1 : Int32))), (3, .int (u1 + (-1 : Int32))), (0, .ref (L.2.2 a0)), (2, .int x2), (5, .int v4)] dX4_endFrom_82 rfl rfl (by decide) rfl ?_
            refine j_goto (pc := 85) hC 5 dX4_endFrom_85 (by decide) ?_
            obtain rfl := Option.some.inj h
            have hk : jJ X G 6 L 0 0 (jQM X G L (some (.int r)) μ 0 0) 5 [(0, .ref (L.2.2 a0)), (2, .int x2), (3, .int (u1 + (-1 : Int32))), (4, .int (u2 + (1 : Int32)))] [] μ := hk
            exact j_lv [2, 3, 1, 0] rfl hk
        · rw [if_neg c9] at h
          refine j_iconst (pc := 63) hC (1 : Int32) dX4_endFrom_63 (by decide) ?_
          refine j_goto (pc := 64) hC 80 dX4_endFrom_64 (by decide) ?_
          refine j_iadd (pc := 80) hC dX4_endFrom_80 ?_
          refine j_istore_n (pc := 81) hC 3 [(3, .int (u1 + (1 : Int32))), (0, .ref (L.2.2 a0)), (2, .int x2), (4, .int u2), (5, .int v4)] dX4_endFrom_81 rfl (by decide) rfl rfl ?_
          refine j_iinc (pc := 82) hC 3 (u2 + (1 : Int32)) [(4, .int (u2 + (1 : Int32))), (3, .int (u1 + (1 : Int32))), (0, .ref (L.2.2 a0)), (2, .int x2), (5, .int v4)] dX4_endFrom_82 rfl rfl (by decide) rfl ?_
          refine j_goto (pc := 85) hC 5 dX4_endFrom_85 (by decide) ?_
          obtain rfl := Option.some.inj h
          have hk : jJ X G 6 L 0 0 (jQM X G L (some (.int r)) μ 0 0) 5 [(0, .ref (L.2.2 a0)), (2, .int x2), (3, .int (u1 + (1 : Int32))), (4, .int (u2 + (1 : Int32)))] [] μ := hk
          exact j_lv [2, 3, 1, 0] rfl hk
      refine j_if_ne (pc := 29) hC 54 dX4_endFrom_29 (by decide) (fun c11 => ?_) (fun c11 => ?_)
      · rw [if_neg c11] at h
        exact j_lv [1, 2, 3, 4, 0] rfl (q7 h)
      · rw [if_pos c11] at h
        refine j_iload (pc := 32) hC 0 dX4_endFrom_32 rfl ?_
        refine j_si (pc := 34) hC hR [.int v4] iy_X4_isCloser km_X4_98 dX4_endFrom_34 rfl (by decide) (c_X4_isCloser hL  rfl) (by decide) (Nat.le_of_ble_eq_true rfl) rfl ?_
        refine j_if_ne (pc := 37) hC 51 dX4_endFrom_37 (by decide) (fun c12 => ?_) (fun c12 => ?_)
        · rw [if_neg c12] at h
          obtain rfl := Option.some.inj h
          have hk : jJ X G 6 L 0 0 (jQM X G L (some (.int r)) μ 0 0) 51 [(4, .int u2)] [] μ := hk
          exact j_lv [4] rfl hk
        · rw [if_pos c12] at h
          refine j_iload_n (pc := 40) hC 2 2 dX4_endFrom_40 rfl rfl ?_
          refine j_if_eq (pc := 41) hC 54 dX4_endFrom_41 (by decide) (fun c13 => ?_) (fun c13 => ?_)
          · rw [if_pos c13] at h
            exact j_lv [1, 2, 3, 4, 0] rfl (q7 h)
          · rw [if_neg c13] at h
            refine j_iload (pc := 44) hC 0 dX4_endFrom_44 rfl ?_
            refine j_bipush (pc := 46) hC (124 : Int32) dX4_endFrom_46 (by decide) ?_
            refine j_icmp_ne (pc := 48) hC 54 dX4_endFrom_48 (by decide) (fun c14 => ?_) (fun c14 => ?_)
            · rw [if_neg c14] at h
              exact j_lv [1, 2, 3, 4, 0] rfl (q7 h)
            · rw [if_pos c14] at h
              obtain rfl := Option.some.inj h
              have hk : jJ X G 6 L 0 0 (jQM X G L (some (.int r)) μ 0 0) 51 [(4, .int u2)] [] μ := hk
              exact j_lv [4] rfl hk
  · cases w15 with
    | inl w15 =>
      try dsimp only at h
      obtain ⟨z18, rfl⟩ : ∃ y, y = w15 := ⟨_, rfl⟩
      try dsimp only at h
      show jJ X G 6 L 0 0 (jQM X G L (some (.int r)) μ 0 0) 51 [(4, .int z18)] [] μ
      refine j_iload (pc := 51) hC 0 dX4_endFrom_51 rfl ?_
      obtain rfl := Option.some.inj h
      exact j_iret (pc := 53) hC dX4_endFrom_53 rfl
    | inr w15 =>
      try dsimp only at h
      try dsimp only at h
      show jJ X G 6 L 0 0 (jQM X G L (some (.int r)) μ 0 0) 88 [(0, .ref (L.2.2 a0))] [] μ
      refine j_aload_n (pc := 88) hC 0 0 dX4_endFrom_88 rfl rfl ?_
      refine jgr_4 (pc := 89) hC 1 (by decide) rfl kf_X4_19 dX4_endFrom_89 ka0 (ly_4_1 hL ka0).1 ?_
      refine jgi_8 (pc := 92) hC 1 (by decide) rfl kf_X4_90 dX4_endFrom_92 (ly_4_1 hL ka0).2.1 ?_
      obtain rfl := Option.some.inj h
      exact j_iret (pc := 95) hC dX4_endFrom_95 rfl
theorem dX7_closeTo_0 : decode cX7_closeTo 0 = .ok (.iload_n 1, 1) := by decide +kernel
theorem dX7_closeTo_1 : decode cX7_closeTo 1 = .ok (.ifCond .lt 32, 3) := by decide +kernel
theorem dX7_closeTo_4 : decode cX7_closeTo 4 = .ok (.iload_n 1, 1) := by decide +kernel
theorem dX7_closeTo_5 : decode cX7_closeTo 5 = .ok (.aload_n 0, 1) := by decide +kernel
theorem dX7_closeTo_6 : decode cX7_closeTo 6 = .ok (.getfield 29, 3) := by decide +kernel
theorem dX7_closeTo_9 : decode cX7_closeTo 9 = .ok (.if_icmp .ge 24, 3) := by decide +kernel
theorem dX7_closeTo_12 : decode cX7_closeTo 12 = .ok (.aload_n 0, 1) := by decide +kernel
theorem dX7_closeTo_13 : decode cX7_closeTo 13 = .ok (.getfield 12, 3) := by decide +kernel
theorem dX7_closeTo_16 : decode cX7_closeTo 16 = .ok (.aload_n 0, 1) := by decide +kernel
theorem dX7_closeTo_17 : decode cX7_closeTo 17 = .ok (.getfield 20, 3) := by decide +kernel
theorem dX7_closeTo_20 : decode cX7_closeTo 20 = .ok (.iload_n 1, 1) := by decide +kernel
theorem dX7_closeTo_21 : decode cX7_closeTo 21 = .ok (.aaload, 1) := by decide +kernel
theorem dX7_closeTo_22 : decode cX7_closeTo 22 = .ok (.getfield 117, 3) := by decide +kernel
theorem dX7_closeTo_25 : decode cX7_closeTo 25 = .ok (.invokevirtual 25, 3) := by decide +kernel
theorem dX7_closeTo_28 : decode cX7_closeTo 28 = .ok (.aload_n 0, 1) := by decide +kernel
theorem dX7_closeTo_29 : decode cX7_closeTo 29 = .ok (.iload_n 1, 1) := by decide +kernel
theorem dX7_closeTo_30 : decode cX7_closeTo 30 = .ok (.putfield 29, 3) := by decide +kernel
theorem dX7_closeTo_33 : decode cX7_closeTo 33 = .ok (.return_, 1) := by decide +kernel
def f_X7_closeTo (a0 : Nat) (x1 : Int32) (μ : jM) : Option (jM) :=
  (if x1 < (0 : Int32) then some μ else (if (μ.1 a0 2) ≤ x1 then some μ else jin x1 9 (jcl (f_X9_become (a0 + 1) (((a0 + 8) + 8 * x1.toNatClampNeg) + 1) μ) (fun m4 => jbd (jsi m4 a0 2 x1) (fun m6 => some m6)))))
set_option maxHeartbeats 4000000 in
set_option maxRecDepth 100000 in
theorem c_X7_closeTo {l : Launch} {G : jG} {L : jL} (hL : jOKL L) {a0 : Nat} {x1 : Int32} (ka0 : jK L a0 7) {μ μ' : jM} (h : f_X7_closeTo a0 x1 μ = some μ') : jCt l G L 4 yX7_closeTo cX7_closeTo 2 none [.ref (L.2.2 a0), .int x1] μ none μ' := by
  refine jCt_of (by decide) (Nat.le_of_ble_eq_true rfl) (fun X hC hX hR => ?_)
  subst hX
  have hC : jC X G cX7_closeTo 2 RX7 none := hC
  unfold f_X7_closeTo at h
  show jJ X G 2 L 0 0 (jQM X G L none μ' 0 0) 0 [(0, .ref (L.2.2 a0)), (1, .int x1)] [] μ
  refine j_iload_n (pc := 0) hC 1 1 dX7_closeTo_0 rfl rfl ?_
  refine j_if_lt (pc := 1) hC 33 dX7_closeTo_1 (by decide) (fun c1 => ?_) (fun c1 => ?_)
  · rw [if_pos c1] at h
    obtain rfl := Option.some.inj h
    exact j_vret (pc := 33) hC dX7_closeTo_33 rfl
  · rw [if_neg c1] at h
    refine j_iload_n (pc := 4) hC 1 1 dX7_closeTo_4 rfl rfl ?_
    refine j_aload_n (pc := 5) hC 0 0 dX7_closeTo_5 rfl rfl ?_
    refine jgi_7 (pc := 6) hC 2 (by decide) rfl kf_X7_29 dX7_closeTo_6 ka0 ?_
    refine j_icmp_ge (pc := 9) hC 33 dX7_closeTo_9 (by decide) (fun c2 => ?_) (fun c2 => ?_)
    · rw [if_pos c2] at h
      obtain rfl := Option.some.inj h
      exact j_vret (pc := 33) hC dX7_closeTo_33 rfl
    · rw [if_neg c2] at h
      refine j_aload_n (pc := 12) hC 0 0 dX7_closeTo_12 rfl rfl ?_
      refine jgr_7 (pc := 13) hC 0 (by decide) rfl kf_X7_12 dX7_closeTo_13 ka0 (ly_7_0 hL ka0).1 ?_
      refine j_aload_n (pc := 16) hC 0 0 dX7_closeTo_16 rfl rfl ?_
      refine jgr_7 (pc := 17) hC 1 (by decide) rfl kf_X7_20 dX7_closeTo_17 ka0 (ly_7_1 hL ka0).1 ?_
      refine j_iload_n (pc := 20) hC 1 1 dX7_closeTo_20 rfl rfl ?_
      obtain ⟨i3, h⟩ := jin_some h
      refine j_aald (pc := 21) hC 3 dX7_closeTo_21 rfl (by decide) (ly_7_1 hL ka0).2.1 (le_16 hL (ly_7_1 hL ka0).2.1 (jlt i3)).1 i3 (le_16 hL (ly_7_1 hL ka0).2.1 (jlt i3)).2.1 ?_
      refine jgr_1 (pc := 22) hC 0 (by decide) rfl kf_X7_117 dX7_closeTo_22 (le_16 hL (ly_7_1 hL ka0).2.1 (jlt i3)).2.2.1 (ly_1_0 hL (le_16 hL (ly_7_1 hL ka0).2.1 (jlt i3)).2.2.1).1 ?_
      obtain ⟨m4, e5, h⟩ := jcl_some h
      refine j_vv (pc := 25) hC hR [.ref (L.2.2 (((a0 + 8) + 8 * x1.toNatClampNeg) + 1))] iy_X9_become (q := (RX9, TX9, 7)) (ci := 9) rfl rfl (by decide) km_X7_25 dX7_closeTo_25 rfl (by decide) (ly_7_0 hL ka0).2.1 (c_X9_become hL (ly_7_0 hL ka0).2.1 (ly_1_0 hL (le_16 hL (ly_7_1 hL ka0).2.1 (jlt i3)).2.2.1).2.1 e5) (by decide) (Nat.le_of_ble_eq_true rfl) rfl ?_
      refine j_aload_n (pc := 28) hC 0 0 dX7_closeTo_28 rfl rfl ?_
      refine j_iload_n (pc := 29) hC 1 1 dX7_closeTo_29 rfl rfl ?_
      obtain ⟨m6, e7, h⟩ := jbd_ex h
      refine jpi_7 (pc := 30) hC 2 (by decide) rfl kf_X7_29 dX7_closeTo_30 rfl (by decide) ka0 e7 ?_
      obtain rfl := Option.some.inj h
      exact j_vret (pc := 33) hC dX7_closeTo_33 rfl
theorem dX7_commitLevel_0 : decode cX7_commitLevel 0 = .ok (.aload_n 0, 1) := by decide +kernel
theorem dX7_commitLevel_1 : decode cX7_commitLevel 1 = .ok (.getfield 29, 3) := by decide +kernel
theorem dX7_commitLevel_4 : decode cX7_commitLevel 4 = .ok (.ifCond .ne 5, 3) := by decide +kernel
theorem dX7_commitLevel_7 : decode cX7_commitLevel 7 = .ok (.iconst 0, 1) := by decide +kernel
theorem dX7_commitLevel_8 : decode cX7_commitLevel 8 = .ok (.ireturn, 1) := by decide +kernel
theorem dX7_commitLevel_9 : decode cX7_commitLevel 9 = .ok (.aload_n 0, 1) := by decide +kernel
theorem dX7_commitLevel_10 : decode cX7_commitLevel 10 = .ok (.dup, 1) := by decide +kernel
theorem dX7_commitLevel_11 : decode cX7_commitLevel 11 = .ok (.getfield 29, 3) := by decide +kernel
theorem dX7_commitLevel_14 : decode cX7_commitLevel 14 = .ok (.iconst 1, 1) := by decide +kernel
theorem dX7_commitLevel_15 : decode cX7_commitLevel 15 = .ok (.isub, 1) := by decide +kernel
theorem dX7_commitLevel_16 : decode cX7_commitLevel 16 = .ok (.putfield 29, 3) := by decide +kernel
theorem dX7_commitLevel_19 : decode cX7_commitLevel 19 = .ok (.aload_n 0, 1) := by decide +kernel
theorem dX7_commitLevel_20 : decode cX7_commitLevel 20 = .ok (.getfield 29, 3) := by decide +kernel
theorem dX7_commitLevel_23 : decode cX7_commitLevel 23 = .ok (.ifCond .ne 5, 3) := by decide +kernel
theorem dX7_commitLevel_26 : decode cX7_commitLevel 26 = .ok (.iconst 0, 1) := by decide +kernel
theorem dX7_commitLevel_27 : decode cX7_commitLevel 27 = .ok (.ireturn, 1) := by decide +kernel
theorem dX7_commitLevel_28 : decode cX7_commitLevel 28 = .ok (.aload_n 0, 1) := by decide +kernel
theorem dX7_commitLevel_29 : decode cX7_commitLevel 29 = .ok (.getfield 20, 3) := by decide +kernel
theorem dX7_commitLevel_32 : decode cX7_commitLevel 32 = .ok (.aload_n 0, 1) := by decide +kernel
theorem dX7_commitLevel_33 : decode cX7_commitLevel 33 = .ok (.getfield 29, 3) := by decide +kernel
theorem dX7_commitLevel_36 : decode cX7_commitLevel 36 = .ok (.aaload, 1) := by decide +kernel
theorem dX7_commitLevel_37 : decode cX7_commitLevel 37 = .ok (.astore_n 1, 1) := by decide +kernel
theorem dX7_commitLevel_38 : decode cX7_commitLevel 38 = .ok (.aload_n 0, 1) := by decide +kernel
theorem dX7_commitLevel_39 : decode cX7_commitLevel 39 = .ok (.getfield 20, 3) := by decide +kernel
theorem dX7_commitLevel_42 : decode cX7_commitLevel 42 = .ok (.aload_n 0, 1) := by decide +kernel
theorem dX7_commitLevel_43 : decode cX7_commitLevel 43 = .ok (.getfield 29, 3) := by decide +kernel
theorem dX7_commitLevel_46 : decode cX7_commitLevel 46 = .ok (.iconst 1, 1) := by decide +kernel
theorem dX7_commitLevel_47 : decode cX7_commitLevel 47 = .ok (.isub, 1) := by decide +kernel
theorem dX7_commitLevel_48 : decode cX7_commitLevel 48 = .ok (.aaload, 1) := by decide +kernel
theorem dX7_commitLevel_49 : decode cX7_commitLevel 49 = .ok (.astore_n 2, 1) := by decide +kernel
theorem dX7_commitLevel_50 : decode cX7_commitLevel 50 = .ok (.aload_n 2, 1) := by decide +kernel
theorem dX7_commitLevel_51 : decode cX7_commitLevel 51 = .ok (.getfield 120, 3) := by decide +kernel
theorem dX7_commitLevel_54 : decode cX7_commitLevel 54 = .ok (.istore_n 3, 1) := by decide +kernel
theorem dX7_commitLevel_55 : decode cX7_commitLevel 55 = .ok (.iconst 0, 1) := by decide +kernel
theorem dX7_commitLevel_56 : decode cX7_commitLevel 56 = .ok (.istore 4, 2) := by decide +kernel
theorem dX7_commitLevel_58 : decode cX7_commitLevel 58 = .ok (.iload 4, 2) := by decide +kernel
theorem dX7_commitLevel_60 : decode cX7_commitLevel 60 = .ok (.aload_n 1, 1) := by decide +kernel
theorem dX7_commitLevel_61 : decode cX7_commitLevel 61 = .ok (.getfield 120, 3) := by decide +kernel
theorem dX7_commitLevel_64 : decode cX7_commitLevel 64 = .ok (.if_icmp .ge 20, 3) := by decide +kernel
theorem dX7_commitLevel_67 : decode cX7_commitLevel 67 = .ok (.aload_n 2, 1) := by decide +kernel
theorem dX7_commitLevel_68 : decode cX7_commitLevel 68 = .ok (.aload_n 1, 1) := by decide +kernel
theorem dX7_commitLevel_69 : decode cX7_commitLevel 69 = .ok (.getfield 123, 3) := by decide +kernel
theorem dX7_commitLevel_72 : decode cX7_commitLevel 72 = .ok (.iload 4, 2) := by decide +kernel
theorem dX7_commitLevel_74 : decode cX7_commitLevel 74 = .ok (.iaload, 1) := by decide +kernel
theorem dX7_commitLevel_75 : decode cX7_commitLevel 75 = .ok (.invokevirtual 36, 3) := by decide +kernel
theorem dX7_commitLevel_78 : decode cX7_commitLevel 78 = .ok (.iinc 4 1, 3) := by decide +kernel
theorem dX7_commitLevel_81 : decode cX7_commitLevel 81 = .ok (.goto (-23), 3) := by decide +kernel
theorem dX7_commitLevel_84 : decode cX7_commitLevel 84 = .ok (.aload_n 1, 1) := by decide +kernel
theorem dX7_commitLevel_85 : decode cX7_commitLevel 85 = .ok (.getfield 120, 3) := by decide +kernel
theorem dX7_commitLevel_88 : decode cX7_commitLevel 88 = .ok (.aload_n 2, 1) := by decide +kernel
theorem dX7_commitLevel_89 : decode cX7_commitLevel 89 = .ok (.getfield 120, 3) := by decide +kernel
theorem dX7_commitLevel_92 : decode cX7_commitLevel 92 = .ok (.iload_n 3, 1) := by decide +kernel
theorem dX7_commitLevel_93 : decode cX7_commitLevel 93 = .ok (.isub, 1) := by decide +kernel
theorem dX7_commitLevel_94 : decode cX7_commitLevel 94 = .ok (.isub, 1) := by decide +kernel
theorem dX7_commitLevel_95 : decode cX7_commitLevel 95 = .ok (.ireturn, 1) := by decide +kernel
def f_X7_commitLevel_L58 (a0 : Nat) (m2 : jM) (u9 : Int32) (m10 : jM) : Option ((Int32 × jM) ⊕ (jM)) :=
  (if (m10.1 ((a0 + 8) + 8 * (m2.1 a0 2).toNatClampNeg) 2) ≤ u9 then some (.inr m10) else jrd (m10.1 (((a0 + 8) + 8 * (m2.1 a0 2).toNatClampNeg) + 7)) u9 22 (fun v13 => jcl (f_X1_put ((a0 + 8) + 8 * ((m2.1 a0 2) - (1 : Int32)).toNatClampNeg) v13 m10) (fun m15 => some (.inl ((u9 + (1 : Int32), m15))))))
def f_X7_commitLevel (a0 : Nat) (μ : jM) : Option (Int32 × jM) :=
  (if (μ.1 a0 2) = (0 : Int32) then some (((0 : Int32), μ)) else jbd (jsi μ a0 2 ((μ.1 a0 2) - (1 : Int32))) (fun m2 => (if (m2.1 a0 2) = (0 : Int32) then some (((0 : Int32), m2)) else jin (m2.1 a0 2) 9 (jin ((m2.1 a0 2) - (1 : Int32)) 9 (jbd (m2.1 ((a0 + 8) + 8 * ((m2.1 a0 2) - (1 : Int32)).toNatClampNeg) 2 : Int32) (fun v7 => jcl (jloop (fun (s : Int32 × jM) => f_X7_commitLevel_L58 a0 m2 s.1 s.2) jfu (((0 : Int32), m2))) (fun w17 => some (((w17.1 ((a0 + 8) + 8 * (m2.1 a0 2).toNatClampNeg) 2) - ((w17.1 ((a0 + 8) + 8 * ((m2.1 a0 2) - (1 : Int32)).toNatClampNeg) 2) - v7), w17)))))))))
set_option maxHeartbeats 4000000 in
set_option maxRecDepth 100000 in
theorem c_X7_commitLevel {l : Launch} {G : jG} {L : jL} (hL : jOKL L) {a0 : Nat} (ka0 : jK L a0 7) {μ μ' : jM} {r : Int32} (h : f_X7_commitLevel a0 μ = some ((r, μ'))) : jCt l G L 4 yX7_commitLevel cX7_commitLevel 5 (some .int) [.ref (L.2.2 a0)] μ (some (.int r)) μ' := by
  refine jCt_of (by decide) (Nat.le_of_ble_eq_true rfl) (fun X hC hX hR => ?_)
  subst hX
  have hC : jC X G cX7_commitLevel 5 RX7 (some .int) := hC
  unfold f_X7_commitLevel at h
  show jJ X G 5 L 0 0 (jQM X G L (some (.int r)) μ' 0 0) 0 [(0, .ref (L.2.2 a0))] [] μ
  refine j_aload_n (pc := 0) hC 0 0 dX7_commitLevel_0 rfl rfl ?_
  refine jgi_7 (pc := 1) hC 2 (by decide) rfl kf_X7_29 dX7_commitLevel_1 ka0 ?_
  refine j_if_ne (pc := 4) hC 9 dX7_commitLevel_4 (by decide) (fun c1 => ?_) (fun c1 => ?_)
  · rw [if_neg c1] at h
    refine j_aload_n (pc := 9) hC 0 0 dX7_commitLevel_9 rfl rfl ?_
    refine j_dup (pc := 10) hC dX7_commitLevel_10 rfl ?_
    refine jgi_7 (pc := 11) hC 2 (by decide) rfl kf_X7_29 dX7_commitLevel_11 ka0 ?_
    refine j_iconst (pc := 14) hC (1 : Int32) dX7_commitLevel_14 (by decide) ?_
    refine j_isub (pc := 15) hC dX7_commitLevel_15 ?_
    obtain ⟨m2, e3, h⟩ := jbd_ex h
    refine jpi_7 (pc := 16) hC 2 (by decide) rfl kf_X7_29 dX7_commitLevel_16 rfl (by decide) ka0 e3 ?_
    refine j_aload_n (pc := 19) hC 0 0 dX7_commitLevel_19 rfl rfl ?_
    refine jgi_7 (pc := 20) hC 2 (by decide) rfl kf_X7_29 dX7_commitLevel_20 ka0 ?_
    refine j_if_ne (pc := 23) hC 28 dX7_commitLevel_23 (by decide) (fun c4 => ?_) (fun c4 => ?_)
    · rw [if_neg c4] at h
      refine j_aload_n (pc := 28) hC 0 0 dX7_commitLevel_28 rfl rfl ?_
      refine jgr_7 (pc := 29) hC 1 (by decide) rfl kf_X7_20 dX7_commitLevel_29 ka0 (ly_7_1 hL ka0).1 ?_
      refine j_aload_n (pc := 32) hC 0 0 dX7_commitLevel_32 rfl rfl ?_
      refine jgi_7 (pc := 33) hC 2 (by decide) rfl kf_X7_29 dX7_commitLevel_33 ka0 ?_
      obtain ⟨i5, h⟩ := jin_some h
      refine j_aald (pc := 36) hC 3 dX7_commitLevel_36 rfl (by decide) (ly_7_1 hL ka0).2.1 (le_16 hL (ly_7_1 hL ka0).2.1 (jlt i5)).1 i5 (le_16 hL (ly_7_1 hL ka0).2.1 (jlt i5)).2.1 ?_
      refine j_astore_n (pc := 37) hC 1 [(1, .ref (L.2.2 ((a0 + 8) + 8 * (m2.1 a0 2).toNatClampNeg))), (0, .ref (L.2.2 a0))] dX7_commitLevel_37 rfl (by decide) rfl rfl ?_
      refine j_aload_n (pc := 38) hC 0 1 dX7_commitLevel_38 rfl rfl ?_
      refine jgr_7 (pc := 39) hC 1 (by decide) rfl kf_X7_20 dX7_commitLevel_39 ka0 (ly_7_1 hL ka0).1 ?_
      refine j_aload_n (pc := 42) hC 0 1 dX7_commitLevel_42 rfl rfl ?_
      refine jgi_7 (pc := 43) hC 2 (by decide) rfl kf_X7_29 dX7_commitLevel_43 ka0 ?_
      refine j_iconst (pc := 46) hC (1 : Int32) dX7_commitLevel_46 (by decide) ?_
      refine j_isub (pc := 47) hC dX7_commitLevel_47 ?_
      obtain ⟨i6, h⟩ := jin_some h
      refine j_aald (pc := 48) hC 3 dX7_commitLevel_48 rfl (by decide) (ly_7_1 hL ka0).2.1 (le_16 hL (ly_7_1 hL ka0).2.1 (jlt i6)).1 i6 (le_16 hL (ly_7_1 hL ka0).2.1 (jlt i6)).2.1 ?_
      refine j_astore_n (pc := 49) hC 2 [(2, .ref (L.2.2 ((a0 + 8) + 8 * ((m2.1 a0 2) - (1 : Int32)).toNatClampNeg))), (1, .ref (L.2.2 ((a0 + 8) + 8 * (m2.1 a0 2).toNatClampNeg))), (0, .ref (L.2.2 a0))] dX7_commitLevel_49 rfl (by decide) rfl rfl ?_
      refine j_aload_n (pc := 50) hC 2 0 dX7_commitLevel_50 rfl rfl ?_
      refine jgi_1 (pc := 51) hC 2 (by decide) rfl kf_X7_120 dX7_commitLevel_51 (le_16 hL (ly_7_1 hL ka0).2.1 (jlt i6)).2.2.1 ?_
      obtain ⟨v7, e8, h⟩ := jbd_ex h
      refine j_istore_n (pc := 54) hC 3 [(3, .int v7), (2, .ref (L.2.2 ((a0 + 8) + 8 * ((m2.1 a0 2) - (1 : Int32)).toNatClampNeg))), (1, .ref (L.2.2 ((a0 + 8) + 8 * (m2.1 a0 2).toNatClampNeg))), (0, .ref (L.2.2 a0))] dX7_commitLevel_54 rfl (by decide) e8 rfl ?_
      refine j_iconst (pc := 55) hC (0 : Int32) dX7_commitLevel_55 (by decide) ?_
      refine j_istore (pc := 56) hC [(4, .int (0 : Int32)), (3, .int v7), (2, .ref (L.2.2 ((a0 + 8) + 8 * ((m2.1 a0 2) - (1 : Int32)).toNatClampNeg))), (1, .ref (L.2.2 ((a0 + 8) + 8 * (m2.1 a0 2).toNatClampNeg))), (0, .ref (L.2.2 a0))] dX7_commitLevel_56 (by decide) rfl rfl ?_
      obtain ⟨w17, hw18, h⟩ := jcl_some h
      refine j_lv [3, 2, 1, 0] rfl ?_
      refine j_loop (step := (fun (s : Int32 × jM) => f_X7_commitLevel_L58 a0 m2 s.1 s.2)) (P := (fun (s : Int32 × jM) => jJ X G 5 L 0 0 (jQM X G L (some (.int r)) μ' 0 0) 58 [(1, .ref (L.2.2 ((a0 + 8) + 8 * (m2.1 a0 2).toNatClampNeg))), (2, .ref (L.2.2 ((a0 + 8) + 8 * ((m2.1 a0 2) - (1 : Int32)).toNatClampNeg))), (3, .int v7), (4, .int s.1)] [] s.2)) (R := (fun (e : jM) => jJ X G 5 L 0 0 (jQM X G L (some (.int r)) μ' 0 0) 84 [(1, .ref (L.2.2 ((a0 + 8) + 8 * (m2.1 a0 2).toNatClampNeg))), (2, .ref (L.2.2 ((a0 + 8) + 8 * ((m2.1 a0 2) - (1 : Int32)).toNatClampNeg))), (3, .int v7)] [] e)) ?_ jfu (((0 : Int32), m2)) w17 hw18 ?_
      · intro s19 o h hk
        obtain ⟨u9, m10⟩ := s19
        change f_X7_commitLevel_L58 a0 m2 u9 m10 = some o at h
        unfold f_X7_commitLevel_L58 at h
        show jJ X G 5 L 0 0 (jQM X G L (some (.int r)) μ' 0 0) 58 [(1, .ref (L.2.2 ((a0 + 8) + 8 * (m2.1 a0 2).toNatClampNeg))), (2, .ref (L.2.2 ((a0 + 8) + 8 * ((m2.1 a0 2) - (1 : Int32)).toNatClampNeg))), (3, .int v7), (4, .int u9)] [] m10
        refine j_iload (pc := 58) hC 3 dX7_commitLevel_58 rfl ?_
        refine j_aload_n (pc := 60) hC 1 0 dX7_commitLevel_60 rfl rfl ?_
        refine jgi_1 (pc := 61) hC 2 (by decide) rfl kf_X7_120 dX7_commitLevel_61 (le_16 hL (ly_7_1 hL ka0).2.1 (jlt i5)).2.2.1 ?_
        refine j_icmp_ge (pc := 64) hC 84 dX7_commitLevel_64 (by decide) (fun c11 => ?_) (fun c11 => ?_)
        · rw [if_pos c11] at h
          obtain rfl := Option.some.inj h
          have hk : jJ X G 5 L 0 0 (jQM X G L (some (.int r)) μ' 0 0) 84 [(1, .ref (L.2.2 ((a0 + 8) + 8 * (m2.1 a0 2).toNatClampNeg))), (2, .ref (L.2.2 ((a0 + 8) + 8 * ((m2.1 a0 2) - (1 : Int32)).toNatClampNeg))), (3, .int v7)] [] m10 := hk
          exact j_lv [0, 1, 2] rfl hk
        · rw [if_neg c11] at h
          refine j_aload_n (pc := 67) hC 2 1 dX7_commitLevel_67 rfl rfl ?_
          refine j_aload_n (pc := 68) hC 1 0 dX7_commitLevel_68 rfl rfl ?_
          refine jgr_1 (pc := 69) hC 1 (by decide) rfl kf_X7_123 dX7_commitLevel_69 (le_16 hL (ly_7_1 hL ka0).2.1 (jlt i5)).2.2.1 (ly_1_1 hL (le_16 hL (ly_7_1 hL ka0).2.1 (jlt i5)).2.2.1).1 ?_
          refine j_iload (pc := 72) hC 3 dX7_commitLevel_72 rfl ?_
          obtain ⟨i12, v13, e14, h⟩ := jrd_some h
          refine j_iald (pc := 74) hC dX7_commitLevel_74 (ly_1_1 hL (le_16 hL (ly_7_1 hL ka0).2.1 (jlt i5)).2.2.1).2.1 (ly_1_1 hL (le_16 hL (ly_7_1 hL ka0).2.1 (jlt i5)).2.2.1).2.2 i12 e14 ?_
          obtain ⟨m15, e16, h⟩ := jcl_some h
          refine j_vv (pc := 75) hC hR [.int v13] iy_X1_put (q := (RX1, TX1, 4)) (ci := 1) rfl rfl (by decide) km_X7_36 dX7_commitLevel_75 rfl (by decide) (le_16 hL (ly_7_1 hL ka0).2.1 (jlt i6)).2.2.1 (c_X1_put hL (le_16 hL (ly_7_1 hL ka0).2.1 (jlt i6)).2.2.1 e16) (by decide) (Nat.le_of_ble_eq_true rfl) rfl ?_
          refine j_iinc (pc := 78) hC 3 (u9 + (1 : Int32)) [(4, .int (u9 + (1 : Int32))), (1, .ref (L.2.2 ((a0 + 8) + 8 * (m2.1 a0 2).toNatClampNeg))), (2, .ref (L.2.2 ((a0 + 8) + 8 * ((m2.1 a0 2) - (1 : Int32)).toNatClampNeg))), (3, .int v7)] dX7_commitLevel_78 rfl rfl (by decide) rfl ?_
          refine j_goto (pc := 81) hC 58 dX7_commitLevel_81 (by decide) ?_
          obtain rfl := Option.some.inj h
          have hk : jJ X G 5 L 0 0 (jQM X G L (some (.int r)) μ' 0 0) 58 [(1, .ref (L.2.2 ((a0 + 8) + 8 * (m2.1 a0 2).toNatClampNeg))), (2, .ref (L.2.2 ((a0 + 8) + 8 * ((m2.1 a0 2) - (1 : Int32)).toNatClampNeg))), (3, .int v7), (4, .int (u9 + (1 : Int32)))] [] m15 := hk
          exact j_lv [1, 2, 3, 0] rfl hk
      · obtain ⟨m20, rfl⟩ : ∃ y, y = w17 := ⟨_, rfl⟩
        try dsimp only at h
        show jJ X G 5 L 0 0 (jQM X G L (some (.int r)) μ' 0 0) 84 [(1, .ref (L.2.2 ((a0 + 8) + 8 * (m2.1 a0 2).toNatClampNeg))), (2, .ref (L.2.2 ((a0 + 8) + 8 * ((m2.1 a0 2) - (1 : Int32)).toNatClampNeg))), (3, .int v7)] [] m20
        refine j_aload_n (pc := 84) hC 1 0 dX7_commitLevel_84 rfl rfl ?_
        refine jgi_1 (pc := 85) hC 2 (by decide) rfl kf_X7_120 dX7_commitLevel_85 (le_16 hL (ly_7_1 hL ka0).2.1 (jlt i5)).2.2.1 ?_
        refine j_aload_n (pc := 88) hC 2 1 dX7_commitLevel_88 rfl rfl ?_
        refine jgi_1 (pc := 89) hC 2 (by decide) rfl kf_X7_120 dX7_commitLevel_89 (le_16 hL (ly_7_1 hL ka0).2.1 (jlt i6)).2.2.1 ?_
        refine j_iload_n (pc := 92) hC 3 2 dX7_commitLevel_92 rfl rfl ?_
        refine j_isub (pc := 93) hC dX7_commitLevel_93 ?_
        refine j_isub (pc := 94) hC dX7_commitLevel_94 ?_
        obtain ⟨rfl, rfl⟩ := Prod.mk.inj (Option.some.inj h)
        exact j_iret (pc := 95) hC dX7_commitLevel_95 rfl
    · rw [if_pos c4] at h
      refine j_iconst (pc := 26) hC (0 : Int32) dX7_commitLevel_26 (by decide) ?_
      obtain ⟨rfl, rfl⟩ := Prod.mk.inj (Option.some.inj h)
      exact j_iret (pc := 27) hC dX7_commitLevel_27 rfl
  · rw [if_pos c1] at h
    refine j_iconst (pc := 7) hC (0 : Int32) dX7_commitLevel_7 (by decide) ?_
    obtain ⟨rfl, rfl⟩ := Prod.mk.inj (Option.some.inj h)
    exact j_iret (pc := 8) hC dX7_commitLevel_8 rfl
theorem dX7_openLevel_0 : decode cX7_openLevel 0 = .ok (.aload_n 0, 1) := by decide +kernel
theorem dX7_openLevel_1 : decode cX7_openLevel 1 = .ok (.getfield 29, 3) := by decide +kernel
theorem dX7_openLevel_4 : decode cX7_openLevel 4 = .ok (.bipush 9, 2) := by decide +kernel
theorem dX7_openLevel_6 : decode cX7_openLevel 6 = .ok (.if_icmp .lt 6, 3) := by decide +kernel
theorem dX7_openLevel_9 : decode cX7_openLevel 9 = .ok (.bipush (-2), 2) := by decide +kernel
theorem dX7_openLevel_11 : decode cX7_openLevel 11 = .ok (.ireturn, 1) := by decide +kernel
theorem dX7_openLevel_12 : decode cX7_openLevel 12 = .ok (.aload_n 0, 1) := by decide +kernel
theorem dX7_openLevel_13 : decode cX7_openLevel 13 = .ok (.getfield 20, 3) := by decide +kernel
theorem dX7_openLevel_16 : decode cX7_openLevel 16 = .ok (.aload_n 0, 1) := by decide +kernel
theorem dX7_openLevel_17 : decode cX7_openLevel 17 = .ok (.getfield 29, 3) := by decide +kernel
theorem dX7_openLevel_20 : decode cX7_openLevel 20 = .ok (.aaload, 1) := by decide +kernel
theorem dX7_openLevel_21 : decode cX7_openLevel 21 = .ok (.aload_n 0, 1) := by decide +kernel
theorem dX7_openLevel_22 : decode cX7_openLevel 22 = .ok (.getfield 12, 3) := by decide +kernel
theorem dX7_openLevel_25 : decode cX7_openLevel 25 = .ok (.invokevirtual 116, 3) := by decide +kernel
theorem dX7_openLevel_28 : decode cX7_openLevel 28 = .ok (.aload_n 0, 1) := by decide +kernel
theorem dX7_openLevel_29 : decode cX7_openLevel 29 = .ok (.dup, 1) := by decide +kernel
theorem dX7_openLevel_30 : decode cX7_openLevel 30 = .ok (.getfield 29, 3) := by decide +kernel
theorem dX7_openLevel_33 : decode cX7_openLevel 33 = .ok (.iconst 1, 1) := by decide +kernel
theorem dX7_openLevel_34 : decode cX7_openLevel 34 = .ok (.iadd, 1) := by decide +kernel
theorem dX7_openLevel_35 : decode cX7_openLevel 35 = .ok (.putfield 29, 3) := by decide +kernel
theorem dX7_openLevel_38 : decode cX7_openLevel 38 = .ok (.aload_n 0, 1) := by decide +kernel
theorem dX7_openLevel_39 : decode cX7_openLevel 39 = .ok (.getfield 29, 3) := by decide +kernel
theorem dX7_openLevel_42 : decode cX7_openLevel 42 = .ok (.ireturn, 1) := by decide +kernel
def f_X7_openLevel (a0 : Nat) (μ : jM) : Option (Int32 × jM) :=
  (if (μ.1 a0 2) < (9 : Int32) then jin (μ.1 a0 2) 9 (jcl (f_X1_begin ((a0 + 8) + 8 * (μ.1 a0 2).toNatClampNeg) (a0 + 1) μ) (fun m3 => jbd (jsi m3 a0 2 ((m3.1 a0 2) + (1 : Int32))) (fun m5 => some ((m5.1 a0 2, m5))))) else some (((-2 : Int32), μ)))
set_option maxHeartbeats 4000000 in
set_option maxRecDepth 100000 in
theorem c_X7_openLevel {l : Launch} {G : jG} {L : jL} (hL : jOKL L) {a0 : Nat} (ka0 : jK L a0 7) {μ μ' : jM} {r : Int32} (h : f_X7_openLevel a0 μ = some ((r, μ'))) : jCt l G L 5 yX7_openLevel cX7_openLevel 1 (some .int) [.ref (L.2.2 a0)] μ (some (.int r)) μ' := by
  refine jCt_of (by decide) (Nat.le_of_ble_eq_true rfl) (fun X hC hX hR => ?_)
  subst hX
  have hC : jC X G cX7_openLevel 1 RX7 (some .int) := hC
  unfold f_X7_openLevel at h
  show jJ X G 1 L 0 0 (jQM X G L (some (.int r)) μ' 0 0) 0 [(0, .ref (L.2.2 a0))] [] μ
  refine j_aload_n (pc := 0) hC 0 0 dX7_openLevel_0 rfl rfl ?_
  refine jgi_7 (pc := 1) hC 2 (by decide) rfl kf_X7_29 dX7_openLevel_1 ka0 ?_
  refine j_bipush (pc := 4) hC (9 : Int32) dX7_openLevel_4 (by decide) ?_
  refine j_icmp_lt (pc := 6) hC 12 dX7_openLevel_6 (by decide) (fun c1 => ?_) (fun c1 => ?_)
  · rw [if_pos c1] at h
    refine j_aload_n (pc := 12) hC 0 0 dX7_openLevel_12 rfl rfl ?_
    refine jgr_7 (pc := 13) hC 1 (by decide) rfl kf_X7_20 dX7_openLevel_13 ka0 (ly_7_1 hL ka0).1 ?_
    refine j_aload_n (pc := 16) hC 0 0 dX7_openLevel_16 rfl rfl ?_
    refine jgi_7 (pc := 17) hC 2 (by decide) rfl kf_X7_29 dX7_openLevel_17 ka0 ?_
    obtain ⟨i2, h⟩ := jin_some h
    refine j_aald (pc := 20) hC 3 dX7_openLevel_20 rfl (by decide) (ly_7_1 hL ka0).2.1 (le_16 hL (ly_7_1 hL ka0).2.1 (jlt i2)).1 i2 (le_16 hL (ly_7_1 hL ka0).2.1 (jlt i2)).2.1 ?_
    refine j_aload_n (pc := 21) hC 0 0 dX7_openLevel_21 rfl rfl ?_
    refine jgr_7 (pc := 22) hC 0 (by decide) rfl kf_X7_12 dX7_openLevel_22 ka0 (ly_7_0 hL ka0).1 ?_
    obtain ⟨m3, e4, h⟩ := jcl_some h
    refine j_vv (pc := 25) hC hR [.ref (L.2.2 (a0 + 1))] iy_X1_begin (q := (RX1, TX1, 4)) (ci := 1) rfl rfl (by decide) km_X7_116 dX7_openLevel_25 rfl (by decide) (le_16 hL (ly_7_1 hL ka0).2.1 (jlt i2)).2.2.1 (c_X1_begin hL (le_16 hL (ly_7_1 hL ka0).2.1 (jlt i2)).2.2.1 (ly_7_0 hL ka0).2.1 e4) (by decide) (Nat.le_of_ble_eq_true rfl) rfl ?_
    refine j_aload_n (pc := 28) hC 0 0 dX7_openLevel_28 rfl rfl ?_
    refine j_dup (pc := 29) hC dX7_openLevel_29 rfl ?_
    refine jgi_7 (pc := 30) hC 2 (by decide) rfl kf_X7_29 dX7_openLevel_30 ka0 ?_
    refine j_iconst (pc := 33) hC (1 : Int32) dX7_openLevel_33 (by decide) ?_
    refine j_iadd (pc := 34) hC dX7_openLevel_34 ?_
    obtain ⟨m5, e6, h⟩ := jbd_ex h
    refine jpi_7 (pc := 35) hC 2 (by decide) rfl kf_X7_29 dX7_openLevel_35 rfl (by decide) ka0 e6 ?_
    refine j_aload_n (pc := 38) hC 0 0 dX7_openLevel_38 rfl rfl ?_
    refine jgi_7 (pc := 39) hC 2 (by decide) rfl kf_X7_29 dX7_openLevel_39 ka0 ?_
    obtain ⟨rfl, rfl⟩ := Prod.mk.inj (Option.some.inj h)
    exact j_iret (pc := 42) hC dX7_openLevel_42 rfl
  · rw [if_neg c1] at h
    refine j_bipush (pc := 9) hC (-2 : Int32) dX7_openLevel_9 (by decide) ?_
    obtain ⟨rfl, rfl⟩ := Prod.mk.inj (Option.some.inj h)
    exact j_iret (pc := 11) hC dX7_openLevel_11 rfl
theorem dX4_doBlock_0 : decode cX4_doBlock 0 = .ok (.iload_n 1, 1) := by decide +kernel
theorem dX4_doBlock_1 : decode cX4_doBlock 1 = .ok (.iconst 4, 1) := by decide +kernel
theorem dX4_doBlock_2 : decode cX4_doBlock 2 = .ok (.if_icmp .gt 15, 3) := by decide +kernel
theorem dX4_doBlock_5 : decode cX4_doBlock 5 = .ok (.aload_n 0, 1) := by decide +kernel
theorem dX4_doBlock_6 : decode cX4_doBlock 6 = .ok (.getfield 15, 3) := by decide +kernel
theorem dX4_doBlock_9 : decode cX4_doBlock 9 = .ok (.getfield 123, 3) := by decide +kernel
theorem dX4_doBlock_12 : decode cX4_doBlock 12 = .ok (.bipush 9, 2) := by decide +kernel
theorem dX4_doBlock_14 : decode cX4_doBlock 14 = .ok (.if_icmp .lt 5, 3) := by decide +kernel
theorem dX4_doBlock_17 : decode cX4_doBlock 17 = .ok (.iconst 0, 1) := by decide +kernel
theorem dX4_doBlock_18 : decode cX4_doBlock 18 = .ok (.ireturn, 1) := by decide +kernel
theorem dX4_doBlock_19 : decode cX4_doBlock 19 = .ok (.aload_n 0, 1) := by decide +kernel
theorem dX4_doBlock_20 : decode cX4_doBlock 20 = .ok (.getfield 19, 3) := by decide +kernel
theorem dX4_doBlock_23 : decode cX4_doBlock 23 = .ok (.aload_n 0, 1) := by decide +kernel
theorem dX4_doBlock_24 : decode cX4_doBlock 24 = .ok (.getfield 111, 3) := by decide +kernel
theorem dX4_doBlock_27 : decode cX4_doBlock 27 = .ok (.invokevirtual 67, 3) := by decide +kernel
theorem dX4_doBlock_30 : decode cX4_doBlock 30 = .ok (.istore_n 2, 1) := by decide +kernel
theorem dX4_doBlock_31 : decode cX4_doBlock 31 = .ok (.aload_n 0, 1) := by decide +kernel
theorem dX4_doBlock_32 : decode cX4_doBlock 32 = .ok (.getfield 111, 3) := by decide +kernel
theorem dX4_doBlock_35 : decode cX4_doBlock 35 = .ok (.iconst 1, 1) := by decide +kernel
theorem dX4_doBlock_36 : decode cX4_doBlock 36 = .ok (.iadd, 1) := by decide +kernel
theorem dX4_doBlock_37 : decode cX4_doBlock 37 = .ok (.istore_n 3, 1) := by decide +kernel
theorem dX4_doBlock_38 : decode cX4_doBlock 38 = .ok (.aload_n 0, 1) := by decide +kernel
theorem dX4_doBlock_39 : decode cX4_doBlock 39 = .ok (.iload_n 3, 1) := by decide +kernel
theorem dX4_doBlock_40 : decode cX4_doBlock 40 = .ok (.iconst 0, 1) := by decide +kernel
theorem dX4_doBlock_41 : decode cX4_doBlock 41 = .ok (.invokevirtual 128, 3) := by decide +kernel
theorem dX4_doBlock_44 : decode cX4_doBlock 44 = .ok (.istore 4, 2) := by decide +kernel
theorem dX4_doBlock_46 : decode cX4_doBlock 46 = .ok (.aload_n 0, 1) := by decide +kernel
theorem dX4_doBlock_47 : decode cX4_doBlock 47 = .ok (.getfield 114, 3) := by decide +kernel
theorem dX4_doBlock_50 : decode cX4_doBlock 50 = .ok (.istore 5, 2) := by decide +kernel
theorem dX4_doBlock_52 : decode cX4_doBlock 52 = .ok (.iconst 0, 1) := by decide +kernel
theorem dX4_doBlock_53 : decode cX4_doBlock 53 = .ok (.istore 6, 2) := by decide +kernel
theorem dX4_doBlock_55 : decode cX4_doBlock 55 = .ok (.iload 6, 2) := by decide +kernel
theorem dX4_doBlock_57 : decode cX4_doBlock 57 = .ok (.bipush 80, 2) := by decide +kernel
theorem dX4_doBlock_59 : decode cX4_doBlock 59 = .ok (.if_icmp .ge 109, 3) := by decide +kernel
theorem dX4_doBlock_62 : decode cX4_doBlock 62 = .ok (.iload_n 3, 1) := by decide +kernel
theorem dX4_doBlock_63 : decode cX4_doBlock 63 = .ok (.iload 4, 2) := by decide +kernel
theorem dX4_doBlock_65 : decode cX4_doBlock 65 = .ok (.if_icmp .gt 103, 3) := by decide +kernel
theorem dX4_doBlock_68 : decode cX4_doBlock 68 = .ok (.aload_n 0, 1) := by decide +kernel
theorem dX4_doBlock_69 : decode cX4_doBlock 69 = .ok (.getfield 15, 3) := by decide +kernel
theorem dX4_doBlock_72 : decode cX4_doBlock 72 = .ok (.invokevirtual 132, 3) := by decide +kernel
theorem dX4_doBlock_75 : decode cX4_doBlock 75 = .ok (.pop, 1) := by decide +kernel
theorem dX4_doBlock_76 : decode cX4_doBlock 76 = .ok (.aload_n 0, 1) := by decide +kernel
theorem dX4_doBlock_77 : decode cX4_doBlock 77 = .ok (.iload_n 3, 1) := by decide +kernel
theorem dX4_doBlock_78 : decode cX4_doBlock 78 = .ok (.putfield 111, 3) := by decide +kernel
theorem dX4_doBlock_81 : decode cX4_doBlock 81 = .ok (.aload_n 0, 1) := by decide +kernel
theorem dX4_doBlock_82 : decode cX4_doBlock 82 = .ok (.iload_n 1, 1) := by decide +kernel
theorem dX4_doBlock_83 : decode cX4_doBlock 83 = .ok (.invokevirtual 135, 3) := by decide +kernel
theorem dX4_doBlock_86 : decode cX4_doBlock 86 = .ok (.istore 7, 2) := by decide +kernel
theorem dX4_doBlock_88 : decode cX4_doBlock 88 = .ok (.iload 7, 2) := by decide +kernel
theorem dX4_doBlock_90 : decode cX4_doBlock 90 = .ok (.ifCond .eq 20, 3) := by decide +kernel
theorem dX4_doBlock_93 : decode cX4_doBlock 93 = .ok (.iload_n 2, 1) := by decide +kernel
theorem dX4_doBlock_94 : decode cX4_doBlock 94 = .ok (.bipush 91, 2) := by decide +kernel
theorem dX4_doBlock_96 : decode cX4_doBlock 96 = .ok (.if_icmp .eq 14, 3) := by decide +kernel
theorem dX4_doBlock_99 : decode cX4_doBlock 99 = .ok (.aload_n 0, 1) := by decide +kernel
theorem dX4_doBlock_100 : decode cX4_doBlock 100 = .ok (.getfield 15, 3) := by decide +kernel
theorem dX4_doBlock_103 : decode cX4_doBlock 103 = .ok (.invokevirtual 138, 3) := by decide +kernel
theorem dX4_doBlock_106 : decode cX4_doBlock 106 = .ok (.pop, 1) := by decide +kernel
theorem dX4_doBlock_107 : decode cX4_doBlock 107 = .ok (.goto 25, 3) := by decide +kernel
theorem dX4_doBlock_110 : decode cX4_doBlock 110 = .ok (.aload_n 0, 1) := by decide +kernel
theorem dX4_doBlock_111 : decode cX4_doBlock 111 = .ok (.getfield 15, 3) := by decide +kernel
theorem dX4_doBlock_114 : decode cX4_doBlock 114 = .ok (.aload_n 0, 1) := by decide +kernel
theorem dX4_doBlock_115 : decode cX4_doBlock 115 = .ok (.getfield 15, 3) := by decide +kernel
theorem dX4_doBlock_118 : decode cX4_doBlock 118 = .ok (.getfield 123, 3) := by decide +kernel
theorem dX4_doBlock_121 : decode cX4_doBlock 121 = .ok (.iconst 1, 1) := by decide +kernel
theorem dX4_doBlock_122 : decode cX4_doBlock 122 = .ok (.isub, 1) := by decide +kernel
theorem dX4_doBlock_123 : decode cX4_doBlock 123 = .ok (.invokevirtual 141, 3) := by decide +kernel
theorem dX4_doBlock_126 : decode cX4_doBlock 126 = .ok (.aload_n 0, 1) := by decide +kernel
theorem dX4_doBlock_127 : decode cX4_doBlock 127 = .ok (.iload 5, 2) := by decide +kernel
theorem dX4_doBlock_129 : decode cX4_doBlock 129 = .ok (.putfield 114, 3) := by decide +kernel
theorem dX4_doBlock_132 : decode cX4_doBlock 132 = .ok (.iload 7, 2) := by decide +kernel
theorem dX4_doBlock_134 : decode cX4_doBlock 134 = .ok (.ifCond .ne 9, 3) := by decide +kernel
theorem dX4_doBlock_137 : decode cX4_doBlock 137 = .ok (.iload_n 2, 1) := by decide +kernel
theorem dX4_doBlock_138 : decode cX4_doBlock 138 = .ok (.bipush 40, 2) := by decide +kernel
theorem dX4_doBlock_140 : decode cX4_doBlock 140 = .ok (.if_icmp .ne 13, 3) := by decide +kernel
theorem dX4_doBlock_143 : decode cX4_doBlock 143 = .ok (.aload_n 0, 1) := by decide +kernel
theorem dX4_doBlock_144 : decode cX4_doBlock 144 = .ok (.iload 4, 2) := by decide +kernel
theorem dX4_doBlock_146 : decode cX4_doBlock 146 = .ok (.iconst 1, 1) := by decide +kernel
theorem dX4_doBlock_147 : decode cX4_doBlock 147 = .ok (.iadd, 1) := by decide +kernel
theorem dX4_doBlock_148 : decode cX4_doBlock 148 = .ok (.putfield 111, 3) := by decide +kernel
theorem dX4_doBlock_151 : decode cX4_doBlock 151 = .ok (.iconst 1, 1) := by decide +kernel
theorem dX4_doBlock_152 : decode cX4_doBlock 152 = .ok (.ireturn, 1) := by decide +kernel
theorem dX4_doBlock_153 : decode cX4_doBlock 153 = .ok (.aload_n 0, 1) := by decide +kernel
theorem dX4_doBlock_154 : decode cX4_doBlock 154 = .ok (.iload_n 3, 1) := by decide +kernel
theorem dX4_doBlock_155 : decode cX4_doBlock 155 = .ok (.iconst 1, 1) := by decide +kernel
theorem dX4_doBlock_156 : decode cX4_doBlock 156 = .ok (.invokevirtual 128, 3) := by decide +kernel
theorem dX4_doBlock_159 : decode cX4_doBlock 159 = .ok (.iconst 1, 1) := by decide +kernel
theorem dX4_doBlock_160 : decode cX4_doBlock 160 = .ok (.iadd, 1) := by decide +kernel
theorem dX4_doBlock_161 : decode cX4_doBlock 161 = .ok (.istore_n 3, 1) := by decide +kernel
theorem dX4_doBlock_162 : decode cX4_doBlock 162 = .ok (.iinc 6 1, 3) := by decide +kernel
theorem dX4_doBlock_165 : decode cX4_doBlock 165 = .ok (.goto (-110), 3) := by decide +kernel
theorem dX4_doBlock_168 : decode cX4_doBlock 168 = .ok (.iconst 0, 1) := by decide +kernel
theorem dX4_doBlock_169 : decode cX4_doBlock 169 = .ok (.ireturn, 1) := by decide +kernel
def f_X4_doBlock_L55 (a0 : Nat) (x1 : Int32) (μ : jM) (rA : Nat → Int32 → jM → Option (Int32 × jM)) (v3 : Int32) (v7 : Int32) (u9 : Int32) (u10 : Int32) (m11 : jM) : Option ((Int32 × Int32 × jM) ⊕ ((jM) ⊕ (jM))) :=
  (if (80 : Int32) ≤ u10 then some (.inr (.inr (m11))) else (if v7 < u9 then some (.inr (.inr (m11))) else jcl2 (f_X7_openLevel 5 m11) (fun v14 m15 => jbd (jsi m15 a0 4 u9) (fun m17 => jcl2 (rA a0 x1 m17) (fun v19 m20 => jbd (fun (m22 : jM) => (if v19 = (0 : Int32) then (if v3 = (40 : Int32) then some (.inr (.inl m22)) else jcl (f_X4_endFrom a0 u9 (1 : Int32) m22) (fun v28 => some (.inl ((v28 + (1 : Int32), u10 + (1 : Int32), m22))))) else some (.inr (.inl m22)))) (fun k23 => jbd (jcl (f_X7_closeTo 5 ((m20.1 5 2) - (1 : Int32)) m20) (fun m33 => jbd (jsi m33 a0 5 (μ.1 a0 5)) (fun m35 => k23 m35))) (fun k30 => (if v19 = (0 : Int32) then k30 else (if v3 = (91 : Int32) then k30 else jcl2 (f_X7_commitLevel 5 m20) (fun v39 m40 => k23 m40))))))))))
def fb_X4_doBlock (rA : Nat → Int32 → jM → Option (Int32 × jM)) (a0 : Nat) (x1 : Int32) (μ : jM) : Option (Int32 × jM) :=
  (if (4 : Int32) < x1 then some (((0 : Int32), μ)) else (if (μ.1 5 2) < (9 : Int32) then jcl (f_X8_signAt 1 (μ.1 a0 4) μ) (fun v3 => jbd ((μ.1 a0 4) + (1 : Int32) : Int32) (fun v5 => jcl (f_X4_endFrom a0 v5 (0 : Int32) μ) (fun v7 => jcl (jloop (fun (s : Int32 × Int32 × jM) => f_X4_doBlock_L55 a0 x1 μ rA v3 v7 s.1 s.2.1 s.2.2) jfu ((v5, (0 : Int32), μ))) (fun w42 => match w42 with | .inl w42 => jbd (jsi w42 a0 4 (v7 + (1 : Int32))) (fun m46 => some (((1 : Int32), m46))) | .inr w42 => some (((0 : Int32), w42)))))) else some (((0 : Int32), μ))))
set_option maxHeartbeats 4000000 in
set_option maxRecDepth 100000 in
theorem cb_X4_doBlock {l : Launch} {G : jG} {L : jL} (hL : jOKL L) {dA : Nat} (hD : 8 ≤ dA) {rA : Nat → Int32 → jM → Option (Int32 × jM)} (hA : ∀ {b0 : Nat} {b1 : Int32} {μ1 μ2 : jM} {r : Int32}, jK L b0 4 → rA b0 b1 μ1 = some (r, μ2) → jCt l G L dA yX4_doRun cX4_doRun 6 (some .boolean) [.ref (L.2.2 b0), .int b1] μ1 (some (.int r)) μ2) {a0 : Nat} {x1 : Int32} (ka0 : jK L a0 4) {μ μ' : jM} {r : Int32} (h : fb_X4_doBlock rA a0 x1 μ = some ((r, μ'))) : jCt l G L (dA + 1) yX4_doBlock cX4_doBlock 8 (some .boolean) [.ref (L.2.2 a0), .int x1] μ (some (.int r)) μ' := by
  refine jCt_of (by decide) (Nat.le_of_ble_eq_true rfl) (fun X hC hX hR => ?_)
  subst hX
  have hC : jC X G cX4_doBlock 8 RX4 (some .boolean) := hC
  unfold fb_X4_doBlock at h
  show jJ X G 8 L 0 0 (jQM X G L (some (.int r)) μ' 0 0) 0 [(0, .ref (L.2.2 a0)), (1, .int x1)] [] μ
  refine j_iload_n (pc := 0) hC 1 1 dX4_doBlock_0 rfl rfl ?_
  refine j_iconst (pc := 1) hC (4 : Int32) dX4_doBlock_1 (by decide) ?_
  refine j_icmp_gt (pc := 2) hC 17 dX4_doBlock_2 (by decide) (fun c1 => ?_) (fun c1 => ?_)
  · rw [if_pos c1] at h
    refine j_iconst (pc := 17) hC (0 : Int32) dX4_doBlock_17 (by decide) ?_
    obtain ⟨rfl, rfl⟩ := Prod.mk.inj (Option.some.inj h)
    exact j_bret (pc := 18) hC dX4_doBlock_18 rfl rfl
  · rw [if_neg c1] at h
    refine j_aload_n (pc := 5) hC 0 0 dX4_doBlock_5 rfl rfl ?_
    refine jgr_4 (pc := 6) hC 0 (by decide) rfl kf_X4_15 dX4_doBlock_6 ka0 (ly_4_0 hL ka0).1 ?_
    refine jgi_7 (pc := 9) hC 2 (by decide) rfl kf_X4_123 dX4_doBlock_9 (ly_4_0 hL ka0).2.1 ?_
    refine j_bipush (pc := 12) hC (9 : Int32) dX4_doBlock_12 (by decide) ?_
    refine j_icmp_lt (pc := 14) hC 19 dX4_doBlock_14 (by decide) (fun c2 => ?_) (fun c2 => ?_)
    · rw [if_pos c2] at h
      refine j_aload_n (pc := 19) hC 0 0 dX4_doBlock_19 rfl rfl ?_
      refine jgr_4 (pc := 20) hC 1 (by decide) rfl kf_X4_19 dX4_doBlock_20 ka0 (ly_4_1 hL ka0).1 ?_
      refine j_aload_n (pc := 23) hC 0 0 dX4_doBlock_23 rfl rfl ?_
      refine jgi_4 (pc := 24) hC 4 (by decide) rfl kf_X4_111 dX4_doBlock_24 ka0 ?_
      obtain ⟨v3, e4, h⟩ := jcl_some h
      refine j_vi (pc := 27) hC hR [.int (μ.1 a0 4)] iy_X8_signAt (q := (RX8, TX8, 2)) (ci := 8) rfl rfl (by decide) km_X4_67 dX4_doBlock_27 rfl (by decide) (ly_4_1 hL ka0).2.1 (c_X8_signAt hL (ly_4_1 hL ka0).2.1 e4) (by omega) (Nat.le_of_ble_eq_true rfl) rfl ?_
      refine j_istore_n (pc := 30) hC 2 [(2, .int v3), (0, .ref (L.2.2 a0)), (1, .int x1)] dX4_doBlock_30 rfl (by decide) rfl rfl ?_
      refine j_aload_n (pc := 31) hC 0 1 dX4_doBlock_31 rfl rfl ?_
      refine jgi_4 (pc := 32) hC 4 (by decide) rfl kf_X4_111 dX4_doBlock_32 ka0 ?_
      refine j_iconst (pc := 35) hC (1 : Int32) dX4_doBlock_35 (by decide) ?_
      refine j_iadd (pc := 36) hC dX4_doBlock_36 ?_
      obtain ⟨v5, e6, h⟩ := jbd_ex h
      refine j_istore_n (pc := 37) hC 3 [(3, .int v5), (2, .int v3), (0, .ref (L.2.2 a0)), (1, .int x1)] dX4_doBlock_37 rfl (by decide) e6 rfl ?_
      refine j_aload_n (pc := 38) hC 0 2 dX4_doBlock_38 rfl rfl ?_
      refine j_iload_n (pc := 39) hC 3 0 dX4_doBlock_39 rfl rfl ?_
      refine j_iconst (pc := 40) hC (0 : Int32) dX4_doBlock_40 (by decide) ?_
      obtain ⟨v7, e8, h⟩ := jcl_some h
      refine j_vi (pc := 41) hC hR [.int v5, .int (0 : Int32)] iy_X4_endFrom (q := (RX4, TX4, 6)) (ci := 4) rfl rfl (by decide) km_X4_128 dX4_doBlock_41 rfl (by decide) ka0 (c_X4_endFrom hL ka0 e8) (by omega) (Nat.le_of_ble_eq_true rfl) rfl ?_
      refine j_istore (pc := 44) hC [(4, .int v7), (3, .int v5), (2, .int v3), (0, .ref (L.2.2 a0)), (1, .int x1)] dX4_doBlock_44 (by decide) rfl rfl ?_
      refine j_aload_n (pc := 46) hC 0 3 dX4_doBlock_46 rfl rfl ?_
      refine jgi_4 (pc := 47) hC 5 (by decide) rfl kf_X4_114 dX4_doBlock_47 ka0 ?_
      refine j_istore (pc := 50) hC [(5, .int (μ.1 a0 5)), (4, .int v7), (3, .int v5), (2, .int v3), (0, .ref (L.2.2 a0)), (1, .int x1)] dX4_doBlock_50 (by decide) rfl rfl ?_
      refine j_iconst (pc := 52) hC (0 : Int32) dX4_doBlock_52 (by decide) ?_
      refine j_istore (pc := 53) hC [(6, .int (0 : Int32)), (5, .int (μ.1 a0 5)), (4, .int v7), (3, .int v5), (2, .int v3), (0, .ref (L.2.2 a0)), (1, .int x1)] dX4_doBlock_53 (by decide) rfl rfl ?_
      obtain ⟨w42, hw43, h⟩ := jcl_some h
      refine j_lv [5, 6, 4, 3, 2, 1, 0] rfl ?_
      refine j_loop (step := (fun (s : Int32 × Int32 × jM) => f_X4_doBlock_L55 a0 x1 μ rA v3 v7 s.1 s.2.1 s.2.2)) (P := (fun (s : Int32 × Int32 × jM) => jJ X G 8 L 0 0 (jQM X G L (some (.int r)) μ' 0 0) 55 [(0, .ref (L.2.2 a0)), (1, .int x1), (2, .int v3), (3, .int s.1), (4, .int v7), (5, .int (μ.1 a0 5)), (6, .int s.2.1)] [] s.2.2)) (R := (fun (e : (jM) ⊕ (jM)) => match e with | .inl e => jJ X G 8 L 0 0 (jQM X G L (some (.int r)) μ' 0 0) 143 [(0, .ref (L.2.2 a0)), (4, .int v7)] [] e | .inr e => jJ X G 8 L 0 0 (jQM X G L (some (.int r)) μ' 0 0) 168 [] [] e)) ?_ jfu ((v5, (0 : Int32), μ)) w42 hw43 ?_
      · intro s44 o h hk
        obtain ⟨u9, u10, m11⟩ := s44
        change f_X4_doBlock_L55 a0 x1 μ rA v3 v7 u9 u10 m11 = some o at h
        unfold f_X4_doBlock_L55 at h
        show jJ X G 8 L 0 0 (jQM X G L (some (.int r)) μ' 0 0) 55 [(0, .ref (L.2.2 a0)), (1, .int x1), (2, .int v3), (3, .int u9), (4, .int v7), (5, .int (μ.1 a0 5)), (6, .int u10)] [] m11
        refine j_iload (pc := 55) hC 6 dX4_doBlock_55 rfl ?_
        refine j_bipush (pc := 57) hC (80 : Int32) dX4_doBlock_57 (by decide) ?_
        refine j_icmp_ge (pc := 59) hC 168 dX4_doBlock_59 (by decide) (fun c12 => ?_) (fun c12 => ?_)
        · rw [if_pos c12] at h
          obtain rfl := Option.some.inj h
          have hk : jJ X G 8 L 0 0 (jQM X G L (some (.int r)) μ' 0 0) 168 [] [] m11 := hk
          exact j_lv [] rfl hk
        · rw [if_neg c12] at h
          refine j_iload_n (pc := 62) hC 3 3 dX4_doBlock_62 rfl rfl ?_
          refine j_iload (pc := 63) hC 4 dX4_doBlock_63 rfl ?_
          refine j_icmp_gt (pc := 65) hC 168 dX4_doBlock_65 (by decide) (fun c13 => ?_) (fun c13 => ?_)
          · rw [if_pos c13] at h
            obtain rfl := Option.some.inj h
            have hk : jJ X G 8 L 0 0 (jQM X G L (some (.int r)) μ' 0 0) 168 [] [] m11 := hk
            exact j_lv [] rfl hk
          · rw [if_neg c13] at h
            refine j_aload_n (pc := 68) hC 0 0 dX4_doBlock_68 rfl rfl ?_
            refine jgr_4 (pc := 69) hC 0 (by decide) rfl kf_X4_15 dX4_doBlock_69 ka0 (ly_4_0 hL ka0).1 ?_
            obtain ⟨v14, m15, e16, h⟩ := jcl2_some h
            refine j_vi (pc := 72) hC hR [] iy_X7_openLevel (q := (RX7, TX7, 3)) (ci := 7) rfl rfl (by decide) km_X4_132 dX4_doBlock_72 rfl (by decide) (ly_4_0 hL ka0).2.1 (c_X7_openLevel hL (ly_4_0 hL ka0).2.1 e16) (by omega) (Nat.le_of_ble_eq_true rfl) rfl ?_
            refine j_pop (pc := 75) hC dX4_doBlock_75 rfl ?_
            refine j_aload_n (pc := 76) hC 0 0 dX4_doBlock_76 rfl rfl ?_
            refine j_iload_n (pc := 77) hC 3 3 dX4_doBlock_77 rfl rfl ?_
            obtain ⟨m17, e18, h⟩ := jbd_ex h
            refine jpi_4 (pc := 78) hC 4 (by decide) rfl kf_X4_111 dX4_doBlock_78 rfl (by decide) ka0 e18 ?_
            refine j_aload_n (pc := 81) hC 0 0 dX4_doBlock_81 rfl rfl ?_
            refine j_iload_n (pc := 82) hC 1 1 dX4_doBlock_82 rfl rfl ?_
            obtain ⟨v19, m20, e21, h⟩ := jcl2_some h
            refine j_vi (pc := 83) hC hR [.int x1] iy_X4_doRun (q := (RX4, TX4, 6)) (ci := 4) rfl rfl (by decide) km_X4_135 dX4_doBlock_83 rfl (by decide) ka0 (hA ka0 e21) (by omega) (Nat.le_of_ble_eq_true rfl) rfl ?_
            refine j_istore (pc := 86) hC [(7, .int v19), (0, .ref (L.2.2 a0)), (1, .int x1), (2, .int v3), (3, .int u9), (4, .int v7), (5, .int (μ.1 a0 5)), (6, .int u10)] dX4_doBlock_86 (by decide) rfl rfl ?_
            refine j_iload (pc := 88) hC 0 dX4_doBlock_88 rfl ?_
            obtain ⟨k23, e25, h⟩ := jbd_ex h
            have q24 : ∀ (m22 : jM), k23 m22 = some o → jJ X G 8 L 0 0 (jQM X G L (some (.int r)) μ' 0 0) 132 [(0, .ref (L.2.2 a0)), (1, .int x1), (2, .int v3), (3, .int u9), (4, .int v7), (5, .int (μ.1 a0 5)), (6, .int u10), (7, .int v19)] [] m22 := by
              intro m22 h
              rw [e25] at h
              try dsimp only at h
              refine j_iload (pc := 132) hC 7 dX4_doBlock_132 rfl ?_
              refine j_if_ne (pc := 134) hC 143 dX4_doBlock_134 (by decide) (fun c26 => ?_) (fun c26 => ?_)
              · rw [if_neg c26] at h
                obtain rfl := Option.some.inj h
                have hk : jJ X G 8 L 0 0 (jQM X G L (some (.int r)) μ' 0 0) 143 [(0, .ref (L.2.2 a0)), (4, .int v7)] [] m22 := hk
                exact j_lv [0, 4] rfl hk
              · rw [if_pos c26] at h
                refine j_iload_n (pc := 137) hC 2 2 dX4_doBlock_137 rfl rfl ?_
                refine j_bipush (pc := 138) hC (40 : Int32) dX4_doBlock_138 (by decide) ?_
                refine j_icmp_ne (pc := 140) hC 153 dX4_doBlock_140 (by decide) (fun c27 => ?_) (fun c27 => ?_)
                · rw [if_neg c27] at h
                  refine j_aload_n (pc := 153) hC 0 0 dX4_doBlock_153 rfl rfl ?_
                  refine j_iload_n (pc := 154) hC 3 3 dX4_doBlock_154 rfl rfl ?_
                  refine j_iconst (pc := 155) hC (1 : Int32) dX4_doBlock_155 (by decide) ?_
                  obtain ⟨v28, e29, h⟩ := jcl_some h
                  refine j_vi (pc := 156) hC hR [.int u9, .int (1 : Int32)] iy_X4_endFrom (q := (RX4, TX4, 6)) (ci := 4) rfl rfl (by decide) km_X4_128 dX4_doBlock_156 rfl (by decide) ka0 (c_X4_endFrom hL ka0 e29) (by omega) (Nat.le_of_ble_eq_true rfl) rfl ?_
                  refine j_iconst (pc := 159) hC (1 : Int32) dX4_doBlock_159 (by decide) ?_
                  refine j_iadd (pc := 160) hC dX4_doBlock_160 ?_
                  refine j_istore_n (pc := 161) hC 3 [(3, .int (v28 + (1 : Int32))), (0, .ref (L.2.2 a0)), (1, .int x1), (2, .int v3), (4, .int v7), (5, .int (μ.1 a0 5)), (6, .int u10), (7, .int v19)] dX4_doBlock_161 rfl (by decide) rfl rfl ?_
                  refine j_iinc (pc := 162) hC 6 (u10 + (1 : Int32)) [(6, .int (u10 + (1 : Int32))), (3, .int (v28 + (1 : Int32))), (0, .ref (L.2.2 a0)), (1, .int x1), (2, .int v3), (4, .int v7), (5, .int (μ.1 a0 5)), (7, .int v19)] dX4_doBlock_162 rfl rfl (by decide) rfl ?_
                  refine j_goto (pc := 165) hC 55 dX4_doBlock_165 (by decide) ?_
                  obtain rfl := Option.some.inj h
                  have hk : jJ X G 8 L 0 0 (jQM X G L (some (.int r)) μ' 0 0) 55 [(0, .ref (L.2.2 a0)), (1, .int x1), (2, .int v3), (3, .int (v28 + (1 : Int32))), (4, .int v7), (5, .int (μ.1 a0 5)), (6, .int (u10 + (1 : Int32)))] [] m22 := hk
                  exact j_lv [2, 3, 4, 1, 5, 6, 0] rfl hk
                · rw [if_pos c27] at h
                  obtain rfl := Option.some.inj h
                  have hk : jJ X G 8 L 0 0 (jQM X G L (some (.int r)) μ' 0 0) 143 [(0, .ref (L.2.2 a0)), (4, .int v7)] [] m22 := hk
                  exact j_lv [0, 4] rfl hk
            obtain ⟨k30, e32, h⟩ := jbd_ex h
            have q31 : k30 = some o → jJ X G 8 L 0 0 (jQM X G L (some (.int r)) μ' 0 0) 110 [(0, .ref (L.2.2 a0)), (1, .int x1), (2, .int v3), (3, .int u9), (4, .int v7), (5, .int (μ.1 a0 5)), (6, .int u10), (7, .int v19)] [] m20 := by
              intro h
              rw [e32] at h
              refine j_aload_n (pc := 110) hC 0 0 dX4_doBlock_110 rfl rfl ?_
              refine jgr_4 (pc := 111) hC 0 (by decide) rfl kf_X4_15 dX4_doBlock_111 ka0 (ly_4_0 hL ka0).1 ?_
              refine j_aload_n (pc := 114) hC 0 0 dX4_doBlock_114 rfl rfl ?_
              refine jgr_4 (pc := 115) hC 0 (by decide) rfl kf_X4_15 dX4_doBlock_115 ka0 (ly_4_0 hL ka0).1 ?_
              refine jgi_7 (pc := 118) hC 2 (by decide) rfl kf_X4_123 dX4_doBlock_118 (ly_4_0 hL ka0).2.1 ?_
              refine j_iconst (pc := 121) hC (1 : Int32) dX4_doBlock_121 (by decide) ?_
              refine j_isub (pc := 122) hC dX4_doBlock_122 ?_
              obtain ⟨m33, e34, h⟩ := jcl_some h
              refine j_vv (pc := 123) hC hR [.int ((m20.1 5 2) - (1 : Int32))] iy_X7_closeTo (q := (RX7, TX7, 3)) (ci := 7) rfl rfl (by decide) km_X4_141 dX4_doBlock_123 rfl (by decide) (ly_4_0 hL ka0).2.1 (c_X7_closeTo hL (ly_4_0 hL ka0).2.1 e34) (by omega) (Nat.le_of_ble_eq_true rfl) rfl ?_
              refine j_aload_n (pc := 126) hC 0 0 dX4_doBlock_126 rfl rfl ?_
              refine j_iload (pc := 127) hC 5 dX4_doBlock_127 rfl ?_
              obtain ⟨m35, e36, h⟩ := jbd_ex h
              refine jpi_4 (pc := 129) hC 5 (by decide) rfl kf_X4_114 dX4_doBlock_129 rfl (by decide) ka0 e36 ?_
              exact j_lv [0, 1, 2, 3, 4, 5, 6, 7] rfl (q24 _ h)
            refine j_if_eq (pc := 90) hC 110 dX4_doBlock_90 (by decide) (fun c37 => ?_) (fun c37 => ?_)
            · rw [if_pos c37] at h
              exact j_lv [1, 2, 3, 4, 5, 6, 7, 0] rfl (q31 h)
            · rw [if_neg c37] at h
              refine j_iload_n (pc := 93) hC 2 3 dX4_doBlock_93 rfl rfl ?_
              refine j_bipush (pc := 94) hC (91 : Int32) dX4_doBlock_94 (by decide) ?_
              refine j_icmp_eq (pc := 96) hC 110 dX4_doBlock_96 (by decide) (fun c38 => ?_) (fun c38 => ?_)
              · rw [if_pos c38] at h
                exact j_lv [1, 2, 3, 4, 5, 6, 7, 0] rfl (q31 h)
              · rw [if_neg c38] at h
                refine j_aload_n (pc := 99) hC 0 1 dX4_doBlock_99 rfl rfl ?_
                refine jgr_4 (pc := 100) hC 0 (by decide) rfl kf_X4_15 dX4_doBlock_100 ka0 (ly_4_0 hL ka0).1 ?_
                obtain ⟨v39, m40, e41, h⟩ := jcl2_some h
                refine j_vi (pc := 103) hC hR [] iy_X7_commitLevel (q := (RX7, TX7, 3)) (ci := 7) rfl rfl (by decide) km_X4_138 dX4_doBlock_103 rfl (by decide) (ly_4_0 hL ka0).2.1 (c_X7_commitLevel hL (ly_4_0 hL ka0).2.1 e41) (by omega) (Nat.le_of_ble_eq_true rfl) rfl ?_
                refine j_pop (pc := 106) hC dX4_doBlock_106 rfl ?_
                refine j_goto (pc := 107) hC 132 dX4_doBlock_107 (by decide) ?_
                exact j_lv [1, 2, 3, 4, 5, 6, 7, 0] rfl (q24 _ h)
      · cases w42 with
        | inl w42 =>
          try dsimp only at h
          obtain ⟨m45, rfl⟩ : ∃ y, y = w42 := ⟨_, rfl⟩
          try dsimp only at h
          show jJ X G 8 L 0 0 (jQM X G L (some (.int r)) μ' 0 0) 143 [(0, .ref (L.2.2 a0)), (4, .int v7)] [] m45
          refine j_aload_n (pc := 143) hC 0 0 dX4_doBlock_143 rfl rfl ?_
          refine j_iload (pc := 144) hC 1 dX4_doBlock_144 rfl ?_
          refine j_iconst (pc := 146) hC (1 : Int32) dX4_doBlock_146 (by decide) ?_
          refine j_iadd (pc := 147) hC dX4_doBlock_147 ?_
          obtain ⟨m46, e47, h⟩ := jbd_ex h
          refine jpi_4 (pc := 148) hC 4 (by decide) rfl kf_X4_111 dX4_doBlock_148 rfl (by decide) ka0 e47 ?_
          refine j_iconst (pc := 151) hC (1 : Int32) dX4_doBlock_151 (by decide) ?_
          obtain ⟨rfl, rfl⟩ := Prod.mk.inj (Option.some.inj h)
          exact j_bret (pc := 152) hC dX4_doBlock_152 rfl rfl
        | inr w42 =>
          try dsimp only at h
          obtain ⟨m48, rfl⟩ : ∃ y, y = w42 := ⟨_, rfl⟩
          try dsimp only at h
          show jJ X G 8 L 0 0 (jQM X G L (some (.int r)) μ' 0 0) 168 [] [] m48
          refine j_iconst (pc := 168) hC (0 : Int32) dX4_doBlock_168 (by decide) ?_
          obtain ⟨rfl, rfl⟩ := Prod.mk.inj (Option.some.inj h)
          exact j_bret (pc := 169) hC dX4_doBlock_169 rfl rfl
    · rw [if_neg c2] at h
      refine j_iconst (pc := 17) hC (0 : Int32) dX4_doBlock_17 (by decide) ?_
      obtain ⟨rfl, rfl⟩ := Prod.mk.inj (Option.some.inj h)
      exact j_bret (pc := 18) hC dX4_doBlock_18 rfl rfl
theorem dX4_doRun_0 : decode cX4_doRun 0 = .ok (.iconst 0, 1) := by decide +kernel
theorem dX4_doRun_1 : decode cX4_doRun 1 = .ok (.istore_n 2, 1) := by decide +kernel
theorem dX4_doRun_2 : decode cX4_doRun 2 = .ok (.iload_n 2, 1) := by decide +kernel
theorem dX4_doRun_3 : decode cX4_doRun 3 = .ok (.bipush 80, 2) := by decide +kernel
theorem dX4_doRun_5 : decode cX4_doRun 5 = .ok (.if_icmp .gt 91, 3) := by decide +kernel
theorem dX4_doRun_8 : decode cX4_doRun 8 = .ok (.aload_n 0, 1) := by decide +kernel
theorem dX4_doRun_9 : decode cX4_doRun 9 = .ok (.getfield 19, 3) := by decide +kernel
theorem dX4_doRun_12 : decode cX4_doRun 12 = .ok (.aload_n 0, 1) := by decide +kernel
theorem dX4_doRun_13 : decode cX4_doRun 13 = .ok (.getfield 111, 3) := by decide +kernel
theorem dX4_doRun_16 : decode cX4_doRun 16 = .ok (.invokevirtual 67, 3) := by decide +kernel
theorem dX4_doRun_19 : decode cX4_doRun 19 = .ok (.istore_n 3, 1) := by decide +kernel
theorem dX4_doRun_20 : decode cX4_doRun 20 = .ok (.iload_n 3, 1) := by decide +kernel
theorem dX4_doRun_21 : decode cX4_doRun 21 = .ok (.iconst (-1), 1) := by decide +kernel
theorem dX4_doRun_22 : decode cX4_doRun 22 = .ok (.if_icmp .eq 16, 3) := by decide +kernel
theorem dX4_doRun_25 : decode cX4_doRun 25 = .ok (.iload_n 3, 1) := by decide +kernel
theorem dX4_doRun_26 : decode cX4_doRun 26 = .ok (.bipush 124, 2) := by decide +kernel
theorem dX4_doRun_28 : decode cX4_doRun 28 = .ok (.if_icmp .eq 10, 3) := by decide +kernel
theorem dX4_doRun_31 : decode cX4_doRun 31 = .ok (.iload_n 3, 1) := by decide +kernel
theorem dX4_doRun_32 : decode cX4_doRun 32 = .ok (.invokestatic 98, 3) := by decide +kernel
theorem dX4_doRun_35 : decode cX4_doRun 35 = .ok (.ifCond .eq 5, 3) := by decide +kernel
theorem dX4_doRun_38 : decode cX4_doRun 38 = .ok (.iconst 1, 1) := by decide +kernel
theorem dX4_doRun_39 : decode cX4_doRun 39 = .ok (.ireturn, 1) := by decide +kernel
theorem dX4_doRun_40 : decode cX4_doRun 40 = .ok (.aload_n 0, 1) := by decide +kernel
theorem dX4_doRun_41 : decode cX4_doRun 41 = .ok (.getfield 111, 3) := by decide +kernel
theorem dX4_doRun_44 : decode cX4_doRun 44 = .ok (.istore 4, 2) := by decide +kernel
theorem dX4_doRun_46 : decode cX4_doRun 46 = .ok (.iload_n 3, 1) := by decide +kernel
theorem dX4_doRun_47 : decode cX4_doRun 47 = .ok (.invokestatic 94, 3) := by decide +kernel
theorem dX4_doRun_50 : decode cX4_doRun 50 = .ok (.ifCond .eq 13, 3) := by decide +kernel
theorem dX4_doRun_53 : decode cX4_doRun 53 = .ok (.aload_n 0, 1) := by decide +kernel
theorem dX4_doRun_54 : decode cX4_doRun 54 = .ok (.iload_n 1, 1) := by decide +kernel
theorem dX4_doRun_55 : decode cX4_doRun 55 = .ok (.iconst 1, 1) := by decide +kernel
theorem dX4_doRun_56 : decode cX4_doRun 56 = .ok (.iadd, 1) := by decide +kernel
theorem dX4_doRun_57 : decode cX4_doRun 57 = .ok (.invokevirtual 117, 3) := by decide +kernel
theorem dX4_doRun_60 : decode cX4_doRun 60 = .ok (.goto 15, 3) := by decide +kernel
theorem dX4_doRun_63 : decode cX4_doRun 63 = .ok (.aload_n 0, 1) := by decide +kernel
theorem dX4_doRun_64 : decode cX4_doRun 64 = .ok (.aload_n 0, 1) := by decide +kernel
theorem dX4_doRun_65 : decode cX4_doRun 65 = .ok (.aload_n 0, 1) := by decide +kernel
theorem dX4_doRun_66 : decode cX4_doRun 66 = .ok (.getfield 111, 3) := by decide +kernel
theorem dX4_doRun_69 : decode cX4_doRun 69 = .ok (.invokevirtual 105, 3) := by decide +kernel
theorem dX4_doRun_72 : decode cX4_doRun 72 = .ok (.invokevirtual 120, 3) := by decide +kernel
theorem dX4_doRun_75 : decode cX4_doRun 75 = .ok (.istore 5, 2) := by decide +kernel
theorem dX4_doRun_77 : decode cX4_doRun 77 = .ok (.iload 5, 2) := by decide +kernel
theorem dX4_doRun_79 : decode cX4_doRun 79 = .ok (.ifCond .ne 11, 3) := by decide +kernel
theorem dX4_doRun_82 : decode cX4_doRun 82 = .ok (.aload_n 0, 1) := by decide +kernel
theorem dX4_doRun_83 : decode cX4_doRun 83 = .ok (.iload 4, 2) := by decide +kernel
theorem dX4_doRun_85 : decode cX4_doRun 85 = .ok (.putfield 111, 3) := by decide +kernel
theorem dX4_doRun_88 : decode cX4_doRun 88 = .ok (.iconst 0, 1) := by decide +kernel
theorem dX4_doRun_89 : decode cX4_doRun 89 = .ok (.ireturn, 1) := by decide +kernel
theorem dX4_doRun_90 : decode cX4_doRun 90 = .ok (.iinc 2 1, 3) := by decide +kernel
theorem dX4_doRun_93 : decode cX4_doRun 93 = .ok (.goto (-91), 3) := by decide +kernel
theorem dX4_doRun_96 : decode cX4_doRun 96 = .ok (.iconst 1, 1) := by decide +kernel
theorem dX4_doRun_97 : decode cX4_doRun 97 = .ok (.ireturn, 1) := by decide +kernel
def f_X4_doRun_L2 (a0 : Nat) (x1 : Int32) (rA : Nat → Int32 → jM → Option (Int32 × jM)) (u1 : Int32) (m2 : jM) : Option ((Int32 × jM) ⊕ ((jM) ⊕ ((Int32 × jM) ⊕ (jM)))) :=
  (if (80 : Int32) < u1 then some (.inr (.inr (.inr (m2)))) else jcl (f_X8_signAt 1 (m2.1 a0 4) m2) (fun v4 => (if v4 = (-1 : Int32) then some (.inr (.inl m2)) else (if v4 = (124 : Int32) then some (.inr (.inl m2)) else (if (f_X4_isCloser v4) = (0 : Int32) then jbd (fun (t9 : Int32) (m10 : jM) => (if t9 = (0 : Int32) then some (.inr (.inr (.inl ((m2.1 a0 4, m10))))) else some (.inl ((u1 + (1 : Int32), m10))))) (fun k11 => (if (f_X4_isOpener v4) = (0 : Int32) then jcl (f_X4_actAt a0 (m2.1 a0 4) m2) (fun v16 => jcl2 (f_X4_doAct a0 v16 m2) (fun v18 m19 => k11 v18 m19)) else jcl2 (fb_X4_doBlock rA a0 (x1 + (1 : Int32)) m2) (fun v21 m22 => k11 v21 m22))) else some (.inr (.inl m2)))))))
def fb_X4_doRun (rA : Nat → Int32 → jM → Option (Int32 × jM)) (a0 : Nat) (x1 : Int32) (μ : jM) : Option (Int32 × jM) :=
  jcl (jloop (fun (s : Int32 × jM) => f_X4_doRun_L2 a0 x1 rA s.1 s.2) jfu (((0 : Int32), μ))) (fun w24 => match w24 with | .inl w24 => some (((1 : Int32), w24)) | .inr w24 => match w24 with | .inl w24 => jbd (jsi w24.2 a0 4 w24.1) (fun m30 => some (((0 : Int32), m30))) | .inr w24 => some (((1 : Int32), w24)))
set_option maxHeartbeats 4000000 in
set_option maxRecDepth 100000 in
theorem cb_X4_doRun {l : Launch} {G : jG} {L : jL} (hL : jOKL L) {dA : Nat} (hD : 8 ≤ dA) {rA : Nat → Int32 → jM → Option (Int32 × jM)} (hA : ∀ {b0 : Nat} {b1 : Int32} {μ1 μ2 : jM} {r : Int32}, jK L b0 4 → rA b0 b1 μ1 = some (r, μ2) → jCt l G L dA yX4_doRun cX4_doRun 6 (some .boolean) [.ref (L.2.2 b0), .int b1] μ1 (some (.int r)) μ2) {a0 : Nat} {x1 : Int32} (ka0 : jK L a0 4) {μ μ' : jM} {r : Int32} (h : fb_X4_doRun rA a0 x1 μ = some ((r, μ'))) : jCt l G L (dA + 2) yX4_doRun cX4_doRun 6 (some .boolean) [.ref (L.2.2 a0), .int x1] μ (some (.int r)) μ' := by
  refine jCt_of (by decide) (Nat.le_of_ble_eq_true rfl) (fun X hC hX hR => ?_)
  subst hX
  have hC : jC X G cX4_doRun 6 RX4 (some .boolean) := hC
  unfold fb_X4_doRun at h
  show jJ X G 6 L 0 0 (jQM X G L (some (.int r)) μ' 0 0) 0 [(0, .ref (L.2.2 a0)), (1, .int x1)] [] μ
  refine j_iconst (pc := 0) hC (0 : Int32) dX4_doRun_0 (by decide) ?_
  refine j_istore_n (pc := 1) hC 2 [(2, .int (0 : Int32)), (0, .ref (L.2.2 a0)), (1, .int x1)] dX4_doRun_1 rfl (by decide) rfl rfl ?_
  obtain ⟨w24, hw25, h⟩ := jcl_some h
  refine j_lv [1, 2, 0] rfl ?_
  refine j_loop (step := (fun (s : Int32 × jM) => f_X4_doRun_L2 a0 x1 rA s.1 s.2)) (P := (fun (s : Int32 × jM) => jJ X G 6 L 0 0 (jQM X G L (some (.int r)) μ' 0 0) 2 [(0, .ref (L.2.2 a0)), (1, .int x1), (2, .int s.1)] [] s.2)) (R := (fun (e : (jM) ⊕ ((Int32 × jM) ⊕ (jM))) => match e with | .inl e => jJ X G 6 L 0 0 (jQM X G L (some (.int r)) μ' 0 0) 38 [] [] e | .inr e => match e with | .inl e => jJ X G 6 L 0 0 (jQM X G L (some (.int r)) μ' 0 0) 82 [(0, .ref (L.2.2 a0)), (4, .int e.1)] [] e.2 | .inr e => jJ X G 6 L 0 0 (jQM X G L (some (.int r)) μ' 0 0) 96 [] [] e)) ?_ jfu (((0 : Int32), μ)) w24 hw25 ?_
  · intro s26 o h hk
    obtain ⟨u1, m2⟩ := s26
    change f_X4_doRun_L2 a0 x1 rA u1 m2 = some o at h
    unfold f_X4_doRun_L2 at h
    show jJ X G 6 L 0 0 (jQM X G L (some (.int r)) μ' 0 0) 2 [(0, .ref (L.2.2 a0)), (1, .int x1), (2, .int u1)] [] m2
    refine j_iload_n (pc := 2) hC 2 2 dX4_doRun_2 rfl rfl ?_
    refine j_bipush (pc := 3) hC (80 : Int32) dX4_doRun_3 (by decide) ?_
    refine j_icmp_gt (pc := 5) hC 96 dX4_doRun_5 (by decide) (fun c3 => ?_) (fun c3 => ?_)
    · rw [if_pos c3] at h
      obtain rfl := Option.some.inj h
      have hk : jJ X G 6 L 0 0 (jQM X G L (some (.int r)) μ' 0 0) 96 [] [] m2 := hk
      exact j_lv [] rfl hk
    · rw [if_neg c3] at h
      refine j_aload_n (pc := 8) hC 0 0 dX4_doRun_8 rfl rfl ?_
      refine jgr_4 (pc := 9) hC 1 (by decide) rfl kf_X4_19 dX4_doRun_9 ka0 (ly_4_1 hL ka0).1 ?_
      refine j_aload_n (pc := 12) hC 0 0 dX4_doRun_12 rfl rfl ?_
      refine jgi_4 (pc := 13) hC 4 (by decide) rfl kf_X4_111 dX4_doRun_13 ka0 ?_
      obtain ⟨v4, e5, h⟩ := jcl_some h
      refine j_vi (pc := 16) hC hR [.int (m2.1 a0 4)] iy_X8_signAt (q := (RX8, TX8, 2)) (ci := 8) rfl rfl (by decide) km_X4_67 dX4_doRun_16 rfl (by decide) (ly_4_1 hL ka0).2.1 (c_X8_signAt hL (ly_4_1 hL ka0).2.1 e5) (by omega) (Nat.le_of_ble_eq_true rfl) rfl ?_
      refine j_istore_n (pc := 19) hC 3 [(3, .int v4), (0, .ref (L.2.2 a0)), (1, .int x1), (2, .int u1)] dX4_doRun_19 rfl (by decide) rfl rfl ?_
      refine j_iload_n (pc := 20) hC 3 0 dX4_doRun_20 rfl rfl ?_
      refine j_iconst (pc := 21) hC (-1 : Int32) dX4_doRun_21 (by decide) ?_
      refine j_icmp_eq (pc := 22) hC 38 dX4_doRun_22 (by decide) (fun c6 => ?_) (fun c6 => ?_)
      · rw [if_pos c6] at h
        obtain rfl := Option.some.inj h
        have hk : jJ X G 6 L 0 0 (jQM X G L (some (.int r)) μ' 0 0) 38 [] [] m2 := hk
        exact j_lv [] rfl hk
      · rw [if_neg c6] at h
        refine j_iload_n (pc := 25) hC 3 0 dX4_doRun_25 rfl rfl ?_
        refine j_bipush (pc := 26) hC (124 : Int32) dX4_doRun_26 (by decide) ?_
        refine j_icmp_eq (pc := 28) hC 38 dX4_doRun_28 (by decide) (fun c7 => ?_) (fun c7 => ?_)
        · rw [if_pos c7] at h
          obtain rfl := Option.some.inj h
          have hk : jJ X G 6 L 0 0 (jQM X G L (some (.int r)) μ' 0 0) 38 [] [] m2 := hk
          exact j_lv [] rfl hk
        · rw [if_neg c7] at h
          refine j_iload_n (pc := 31) hC 3 0 dX4_doRun_31 rfl rfl ?_
          refine j_si (pc := 32) hC hR [.int v4] iy_X4_isCloser km_X4_98 dX4_doRun_32 rfl (by decide) (c_X4_isCloser hL  rfl) (by omega) (Nat.le_of_ble_eq_true rfl) rfl ?_
          refine j_if_eq (pc := 35) hC 40 dX4_doRun_35 (by decide) (fun c8 => ?_) (fun c8 => ?_)
          · rw [if_pos c8] at h
            refine j_aload_n (pc := 40) hC 0 1 dX4_doRun_40 rfl rfl ?_
            refine jgi_4 (pc := 41) hC 4 (by decide) rfl kf_X4_111 dX4_doRun_41 ka0 ?_
            refine j_istore (pc := 44) hC [(4, .int (m2.1 a0 4)), (3, .int v4), (0, .ref (L.2.2 a0)), (1, .int x1), (2, .int u1)] dX4_doRun_44 (by decide) rfl rfl ?_
            refine j_iload_n (pc := 46) hC 3 1 dX4_doRun_46 rfl rfl ?_
            refine j_si (pc := 47) hC hR [.int v4] iy_X4_isOpener km_X4_94 dX4_doRun_47 rfl (by decide) (c_X4_isOpener hL  rfl) (by omega) (Nat.le_of_ble_eq_true rfl) rfl ?_
            obtain ⟨k11, e13, h⟩ := jbd_ex h
            have q12 : ∀ (t9 : Int32) (m10 : jM), k11 t9 m10 = some o → jJ X G 6 L 0 0 (jQM X G L (some (.int r)) μ' 0 0) 75 [(0, .ref (L.2.2 a0)), (1, .int x1), (2, .int u1), (4, .int (m2.1 a0 4))] [.int t9] m10 := by
              intro t9 m10 h
              rw [e13] at h
              try dsimp only at h
              refine j_istore (pc := 75) hC [(5, .int t9), (0, .ref (L.2.2 a0)), (1, .int x1), (2, .int u1), (4, .int (m2.1 a0 4))] dX4_doRun_75 (by decide) rfl rfl ?_
              refine j_iload (pc := 77) hC 0 dX4_doRun_77 rfl ?_
              refine j_if_ne (pc := 79) hC 90 dX4_doRun_79 (by decide) (fun c14 => ?_) (fun c14 => ?_)
              · rw [if_neg c14] at h
                refine j_iinc (pc := 90) hC 3 (u1 + (1 : Int32)) [(2, .int (u1 + (1 : Int32))), (5, .int t9), (0, .ref (L.2.2 a0)), (1, .int x1), (4, .int (m2.1 a0 4))] dX4_doRun_90 rfl rfl (by decide) rfl ?_
                refine j_goto (pc := 93) hC 2 dX4_doRun_93 (by decide) ?_
                obtain rfl := Option.some.inj h
                have hk : jJ X G 6 L 0 0 (jQM X G L (some (.int r)) μ' 0 0) 2 [(0, .ref (L.2.2 a0)), (1, .int x1), (2, .int (u1 + (1 : Int32)))] [] m10 := hk
                exact j_lv [2, 3, 0] rfl hk
              · rw [if_pos c14] at h
                obtain rfl := Option.some.inj h
                have hk : jJ X G 6 L 0 0 (jQM X G L (some (.int r)) μ' 0 0) 82 [(0, .ref (L.2.2 a0)), (4, .int (m2.1 a0 4))] [] m10 := hk
                exact j_lv [1, 4] rfl hk
            refine j_if_eq (pc := 50) hC 63 dX4_doRun_50 (by decide) (fun c15 => ?_) (fun c15 => ?_)
            · rw [if_pos c15] at h
              refine j_aload_n (pc := 63) hC 0 2 dX4_doRun_63 rfl rfl ?_
              refine j_aload_n (pc := 64) hC 0 2 dX4_doRun_64 rfl rfl ?_
              refine j_aload_n (pc := 65) hC 0 2 dX4_doRun_65 rfl rfl ?_
              refine jgi_4 (pc := 66) hC 4 (by decide) rfl kf_X4_111 dX4_doRun_66 ka0 ?_
              obtain ⟨v16, e17, h⟩ := jcl_some h
              refine j_vi (pc := 69) hC hR [.int (m2.1 a0 4)] iy_X4_actAt (q := (RX4, TX4, 6)) (ci := 4) rfl rfl (by decide) km_X4_105 dX4_doRun_69 rfl (by decide) ka0 (c_X4_actAt hL ka0 e17) (by omega) (Nat.le_of_ble_eq_true rfl) rfl ?_
              obtain ⟨v18, m19, e20, h⟩ := jcl2_some h
              refine j_vi (pc := 72) hC hR [.int v16] iy_X4_doAct (q := (RX4, TX4, 6)) (ci := 4) rfl rfl (by decide) km_X4_120 dX4_doRun_72 rfl (by decide) ka0 (c_X4_doAct hL ka0 e20) (by omega) (Nat.le_of_ble_eq_true rfl) rfl ?_
              exact j_lv [2, 3, 4, 0] rfl (q12 _ _ h)
            · rw [if_neg c15] at h
              refine j_aload_n (pc := 53) hC 0 2 dX4_doRun_53 rfl rfl ?_
              refine j_iload_n (pc := 54) hC 1 3 dX4_doRun_54 rfl rfl ?_
              refine j_iconst (pc := 55) hC (1 : Int32) dX4_doRun_55 (by decide) ?_
              refine j_iadd (pc := 56) hC dX4_doRun_56 ?_
              obtain ⟨v21, m22, e23, h⟩ := jcl2_some h
              refine j_vi (pc := 57) hC hR [.int (x1 + (1 : Int32))] iy_X4_doBlock (q := (RX4, TX4, 6)) (ci := 4) rfl rfl (by decide) km_X4_117 dX4_doRun_57 rfl (by decide) ka0 (cb_X4_doBlock hL hD hA ka0 e23) (by omega) (Nat.le_of_ble_eq_true rfl) rfl ?_
              refine j_goto (pc := 60) hC 75 dX4_doRun_60 (by decide) ?_
              exact j_lv [2, 3, 4, 0] rfl (q12 _ _ h)
          · rw [if_neg c8] at h
            obtain rfl := Option.some.inj h
            have hk : jJ X G 6 L 0 0 (jQM X G L (some (.int r)) μ' 0 0) 38 [] [] m2 := hk
            exact j_lv [] rfl hk
  · cases w24 with
    | inl w24 =>
      try dsimp only at h
      obtain ⟨m27, rfl⟩ : ∃ y, y = w24 := ⟨_, rfl⟩
      try dsimp only at h
      show jJ X G 6 L 0 0 (jQM X G L (some (.int r)) μ' 0 0) 38 [] [] m27
      refine j_iconst (pc := 38) hC (1 : Int32) dX4_doRun_38 (by decide) ?_
      obtain ⟨rfl, rfl⟩ := Prod.mk.inj (Option.some.inj h)
      exact j_bret (pc := 39) hC dX4_doRun_39 rfl rfl
    | inr w24 =>
      try dsimp only at h
      cases w24 with
      | inl w24 =>
        try dsimp only at h
        obtain ⟨z28, m29⟩ := w24
        try dsimp only at h
        show jJ X G 6 L 0 0 (jQM X G L (some (.int r)) μ' 0 0) 82 [(0, .ref (L.2.2 a0)), (4, .int z28)] [] m29
        refine j_aload_n (pc := 82) hC 0 0 dX4_doRun_82 rfl rfl ?_
        refine j_iload (pc := 83) hC 1 dX4_doRun_83 rfl ?_
        obtain ⟨m30, e31, h⟩ := jbd_ex h
        refine jpi_4 (pc := 85) hC 4 (by decide) rfl kf_X4_111 dX4_doRun_85 rfl (by decide) ka0 e31 ?_
        refine j_iconst (pc := 88) hC (0 : Int32) dX4_doRun_88 (by decide) ?_
        obtain ⟨rfl, rfl⟩ := Prod.mk.inj (Option.some.inj h)
        exact j_bret (pc := 89) hC dX4_doRun_89 rfl rfl
      | inr w24 =>
        try dsimp only at h
        obtain ⟨m32, rfl⟩ : ∃ y, y = w24 := ⟨_, rfl⟩
        try dsimp only at h
        show jJ X G 6 L 0 0 (jQM X G L (some (.int r)) μ' 0 0) 96 [] [] m32
        refine j_iconst (pc := 96) hC (1 : Int32) dX4_doRun_96 (by decide) ?_
        obtain ⟨rfl, rfl⟩ := Prod.mk.inj (Option.some.inj h)
        exact j_bret (pc := 97) hC dX4_doRun_97 rfl rfl
def f_X4_doRun : Nat → Nat → Int32 → jM → Option (Int32 × jM)
  | 0 => fun _ _ _ => none
  | d + 1 => fb_X4_doRun (f_X4_doRun d)
theorem c_X4_doRun {l : Launch} {G : jG} {L : jL} (hL : jOKL L) : ∀ (d : Nat) {b0 : Nat} {b1 : Int32} (kb0 : jK L b0 4) {μ μ' : jM} {r : Int32} (h : f_X4_doRun d b0 b1 μ = some (r, μ')), jCt l G L (8 + 2 * d) yX4_doRun cX4_doRun 6 (some .boolean) [.ref (L.2.2 b0), .int b1] μ (some (.int r)) μ' := by
  intro d
  induction d with
  | zero => intros; rename_i h; cases h
  | succ d ih =>
    intros
    rename_i h
    exact cb_X4_doRun hL (dA := 8 + 2 * d) (by omega) (fun k0 h => ih k0 h) (by assumption) h
theorem dX5_changesSince_0 : decode cX5_changesSince 0 = .ok (.iconst 0, 1) := by decide +kernel
theorem dX5_changesSince_1 : decode cX5_changesSince 1 = .ok (.istore_n 2, 1) := by decide +kernel
theorem dX5_changesSince_2 : decode cX5_changesSince 2 = .ok (.iconst 0, 1) := by decide +kernel
theorem dX5_changesSince_3 : decode cX5_changesSince 3 = .ok (.istore_n 3, 1) := by decide +kernel
theorem dX5_changesSince_4 : decode cX5_changesSince 4 = .ok (.iload_n 3, 1) := by decide +kernel
theorem dX5_changesSince_5 : decode cX5_changesSince 5 = .ok (.iconst 5, 1) := by decide +kernel
theorem dX5_changesSince_6 : decode cX5_changesSince 6 = .ok (.if_icmp .ge 27, 3) := by decide +kernel
theorem dX5_changesSince_9 : decode cX5_changesSince 9 = .ok (.aload_n 0, 1) := by decide +kernel
theorem dX5_changesSince_10 : decode cX5_changesSince 10 = .ok (.getfield 20, 3) := by decide +kernel
theorem dX5_changesSince_13 : decode cX5_changesSince 13 = .ok (.getfield 68, 3) := by decide +kernel
theorem dX5_changesSince_16 : decode cX5_changesSince 16 = .ok (.iload_n 3, 1) := by decide +kernel
theorem dX5_changesSince_17 : decode cX5_changesSince 17 = .ok (.iaload, 1) := by decide +kernel
theorem dX5_changesSince_18 : decode cX5_changesSince 18 = .ok (.aload_n 1, 1) := by decide +kernel
theorem dX5_changesSince_19 : decode cX5_changesSince 19 = .ok (.iload_n 3, 1) := by decide +kernel
theorem dX5_changesSince_20 : decode cX5_changesSince 20 = .ok (.iaload, 1) := by decide +kernel
theorem dX5_changesSince_21 : decode cX5_changesSince 21 = .ok (.if_icmp .eq 6, 3) := by decide +kernel
theorem dX5_changesSince_24 : decode cX5_changesSince 24 = .ok (.iinc 2 1, 3) := by decide +kernel
theorem dX5_changesSince_27 : decode cX5_changesSince 27 = .ok (.iinc 3 1, 3) := by decide +kernel
theorem dX5_changesSince_30 : decode cX5_changesSince 30 = .ok (.goto (-26), 3) := by decide +kernel
theorem dX5_changesSince_33 : decode cX5_changesSince 33 = .ok (.iload_n 2, 1) := by decide +kernel
theorem dX5_changesSince_34 : decode cX5_changesSince 34 = .ok (.ireturn, 1) := by decide +kernel
def f_X5_changesSince_L4 (a1 : Nat) (μ : jM) (u1 : Int32) (u2 : Int32) : Option ((Int32 × Int32) ⊕ (Int32)) :=
  (if (5 : Int32) ≤ u2 then some (.inr u1) else jrd (μ.1 166) u2 5 (fun v5 => jrd (μ.1 a1) u2 (jlen a1) (fun v8 => (if v5 = v8 then some (.inl ((u1, u2 + (1 : Int32)))) else some (.inl ((u1 + (1 : Int32), u2 + (1 : Int32))))))))
def f_X5_changesSince (a0 : Nat) (a1 : Nat) (μ : jM) : Option (Int32) :=
  jcl (jloop (fun (s : Int32 × Int32) => f_X5_changesSince_L4 a1 μ s.1 s.2) jfu (((0 : Int32), (0 : Int32)))) (fun w11 => some w11)
set_option maxHeartbeats 4000000 in
set_option maxRecDepth 100000 in
theorem c_X5_changesSince {l : Launch} {G : jG} {L : jL} (hL : jOKL L) {a0 : Nat} {a1 : Nat} (ka0 : jK L a0 5) (ka1 : jK L a1 13) {μ : jM} {r : Int32} (h : f_X5_changesSince a0 a1 μ = some r) : jCt l G L 3 yX5_changesSince cX5_changesSince 4 (some .int) [.ref (L.2.2 a0), .ref (L.2.2 a1)] μ (some (.int r)) μ := by
  refine jCt_of (by decide) (Nat.le_of_ble_eq_true rfl) (fun X hC hX hR => ?_)
  subst hX
  have hC : jC X G cX5_changesSince 4 RX5 (some .int) := hC
  unfold f_X5_changesSince at h
  show jJ X G 4 L 0 0 (jQM X G L (some (.int r)) μ 0 0) 0 [(0, .ref (L.2.2 a0)), (1, .ref (L.2.2 a1))] [] μ
  refine j_iconst (pc := 0) hC (0 : Int32) dX5_changesSince_0 (by decide) ?_
  refine j_istore_n (pc := 1) hC 2 [(2, .int (0 : Int32)), (0, .ref (L.2.2 a0)), (1, .ref (L.2.2 a1))] dX5_changesSince_1 rfl (by decide) rfl rfl ?_
  refine j_iconst (pc := 2) hC (0 : Int32) dX5_changesSince_2 (by decide) ?_
  refine j_istore_n (pc := 3) hC 3 [(3, .int (0 : Int32)), (2, .int (0 : Int32)), (0, .ref (L.2.2 a0)), (1, .ref (L.2.2 a1))] dX5_changesSince_3 rfl (by decide) rfl rfl ?_
  obtain ⟨w11, hw12, h⟩ := jcl_some h
  refine j_lv [2, 3, 1, 0] rfl ?_
  refine j_loop (step := (fun (s : Int32 × Int32) => f_X5_changesSince_L4 a1 μ s.1 s.2)) (P := (fun (s : Int32 × Int32) => jJ X G 4 L 0 0 (jQM X G L (some (.int r)) μ 0 0) 4 [(0, .ref (L.2.2 a0)), (1, .ref (L.2.2 a1)), (2, .int s.1), (3, .int s.2)] [] μ)) (R := (fun (e : Int32) => jJ X G 4 L 0 0 (jQM X G L (some (.int r)) μ 0 0) 33 [(2, .int e)] [] μ)) ?_ jfu (((0 : Int32), (0 : Int32))) w11 hw12 ?_
  · intro s13 o h hk
    obtain ⟨u1, u2⟩ := s13
    change f_X5_changesSince_L4 a1 μ u1 u2 = some o at h
    unfold f_X5_changesSince_L4 at h
    show jJ X G 4 L 0 0 (jQM X G L (some (.int r)) μ 0 0) 4 [(0, .ref (L.2.2 a0)), (1, .ref (L.2.2 a1)), (2, .int u1), (3, .int u2)] [] μ
    refine j_iload_n (pc := 4) hC 3 3 dX5_changesSince_4 rfl rfl ?_
    refine j_iconst (pc := 5) hC (5 : Int32) dX5_changesSince_5 (by decide) ?_
    refine j_icmp_ge (pc := 6) hC 33 dX5_changesSince_6 (by decide) (fun c3 => ?_) (fun c3 => ?_)
    · rw [if_pos c3] at h
      obtain rfl := Option.some.inj h
      have hk : jJ X G 4 L 0 0 (jQM X G L (some (.int r)) μ 0 0) 33 [(2, .int u1)] [] μ := hk
      exact j_lv [2] rfl hk
    · rw [if_neg c3] at h
      refine j_aload_n (pc := 9) hC 0 0 dX5_changesSince_9 rfl rfl ?_
      refine jgr_5 (pc := 10) hC 1 (by decide) rfl kf_X5_20 dX5_changesSince_10 ka0 (ly_5_1 hL ka0).1 ?_
      refine jgr_6 (pc := 13) hC 0 (by decide) rfl kf_X5_68 dX5_changesSince_13 (ly_5_1 hL ka0).2.1 (ly_6_0 hL (ly_5_1 hL ka0).2.1).1 ?_
      refine j_iload_n (pc := 16) hC 3 3 dX5_changesSince_16 rfl rfl ?_
      obtain ⟨i4, v5, e6, h⟩ := jrd_some h
      refine j_iald (pc := 17) hC dX5_changesSince_17 (ly_6_0 hL (ly_5_1 hL ka0).2.1).2.1 (ly_6_0 hL (ly_5_1 hL ka0).2.1).2.2 i4 e6 ?_
      refine j_aload_n (pc := 18) hC 1 1 dX5_changesSince_18 rfl rfl ?_
      refine j_iload_n (pc := 19) hC 3 3 dX5_changesSince_19 rfl rfl ?_
      obtain ⟨i7, v8, e9, h⟩ := jrd_some h
      refine j_iald (pc := 20) hC dX5_changesSince_20 ka1 (jlen_ok hL _) i7 e9 ?_
      refine j_icmp_eq (pc := 21) hC 27 dX5_changesSince_21 (by decide) (fun c10 => ?_) (fun c10 => ?_)
      · rw [if_pos c10] at h
        refine j_iinc (pc := 27) hC 3 (u2 + (1 : Int32)) [(3, .int (u2 + (1 : Int32))), (0, .ref (L.2.2 a0)), (1, .ref (L.2.2 a1)), (2, .int u1)] dX5_changesSince_27 rfl rfl (by decide) rfl ?_
        refine j_goto (pc := 30) hC 4 dX5_changesSince_30 (by decide) ?_
        obtain rfl := Option.some.inj h
        have hk : jJ X G 4 L 0 0 (jQM X G L (some (.int r)) μ 0 0) 4 [(0, .ref (L.2.2 a0)), (1, .ref (L.2.2 a1)), (2, .int u1), (3, .int (u2 + (1 : Int32)))] [] μ := hk
        exact j_lv [1, 2, 3, 0] rfl hk
      · rw [if_neg c10] at h
        refine j_iinc (pc := 24) hC 2 (u1 + (1 : Int32)) [(2, .int (u1 + (1 : Int32))), (0, .ref (L.2.2 a0)), (1, .ref (L.2.2 a1)), (3, .int u2)] dX5_changesSince_24 rfl rfl (by decide) rfl ?_
        refine j_iinc (pc := 27) hC 3 (u2 + (1 : Int32)) [(3, .int (u2 + (1 : Int32))), (2, .int (u1 + (1 : Int32))), (0, .ref (L.2.2 a0)), (1, .ref (L.2.2 a1))] dX5_changesSince_27 rfl rfl (by decide) rfl ?_
        refine j_goto (pc := 30) hC 4 dX5_changesSince_30 (by decide) ?_
        obtain rfl := Option.some.inj h
        have hk : jJ X G 4 L 0 0 (jQM X G L (some (.int r)) μ 0 0) 4 [(0, .ref (L.2.2 a0)), (1, .ref (L.2.2 a1)), (2, .int (u1 + (1 : Int32))), (3, .int (u2 + (1 : Int32)))] [] μ := hk
        exact j_lv [2, 3, 1, 0] rfl hk
  · obtain ⟨z14, rfl⟩ : ∃ y, y = w11 := ⟨_, rfl⟩
    try dsimp only at h
    show jJ X G 4 L 0 0 (jQM X G L (some (.int r)) μ 0 0) 33 [(2, .int z14)] [] μ
    refine j_iload_n (pc := 33) hC 2 0 dX5_changesSince_33 rfl rfl ?_
    obtain rfl := Option.some.inj h
    exact j_iret (pc := 34) hC dX5_changesSince_34 rfl
theorem dX5_constraintsOf_0 : decode cX5_constraintsOf 0 = .ok (.iconst 0, 1) := by decide +kernel
theorem dX5_constraintsOf_1 : decode cX5_constraintsOf 1 = .ok (.istore_n 2, 1) := by decide +kernel
theorem dX5_constraintsOf_2 : decode cX5_constraintsOf 2 = .ok (.iconst 0, 1) := by decide +kernel
theorem dX5_constraintsOf_3 : decode cX5_constraintsOf 3 = .ok (.istore_n 3, 1) := by decide +kernel
theorem dX5_constraintsOf_4 : decode cX5_constraintsOf 4 = .ok (.iload_n 3, 1) := by decide +kernel
theorem dX5_constraintsOf_5 : decode cX5_constraintsOf 5 = .ok (.aload_n 0, 1) := by decide +kernel
theorem dX5_constraintsOf_6 : decode cX5_constraintsOf 6 = .ok (.getfield 16, 3) := by decide +kernel
theorem dX5_constraintsOf_9 : decode cX5_constraintsOf 9 = .ok (.getfield 97, 3) := by decide +kernel
theorem dX5_constraintsOf_12 : decode cX5_constraintsOf 12 = .ok (.if_icmp .ge 103, 3) := by decide +kernel
theorem dX5_constraintsOf_15 : decode cX5_constraintsOf 15 = .ok (.iconst 4, 1) := by decide +kernel
theorem dX5_constraintsOf_16 : decode cX5_constraintsOf 16 = .ok (.iload_n 3, 1) := by decide +kernel
theorem dX5_constraintsOf_17 : decode cX5_constraintsOf 17 = .ok (.imul, 1) := by decide +kernel
theorem dX5_constraintsOf_18 : decode cX5_constraintsOf 18 = .ok (.istore 4, 2) := by decide +kernel
theorem dX5_constraintsOf_20 : decode cX5_constraintsOf 20 = .ok (.aload_n 0, 1) := by decide +kernel
theorem dX5_constraintsOf_21 : decode cX5_constraintsOf 21 = .ok (.getfield 16, 3) := by decide +kernel
theorem dX5_constraintsOf_24 : decode cX5_constraintsOf 24 = .ok (.getfield 100, 3) := by decide +kernel
theorem dX5_constraintsOf_27 : decode cX5_constraintsOf 27 = .ok (.iload 4, 2) := by decide +kernel
theorem dX5_constraintsOf_29 : decode cX5_constraintsOf 29 = .ok (.iaload, 1) := by decide +kernel
theorem dX5_constraintsOf_30 : decode cX5_constraintsOf 30 = .ok (.iconst 3, 1) := by decide +kernel
theorem dX5_constraintsOf_31 : decode cX5_constraintsOf 31 = .ok (.if_icmp .ne 31, 3) := by decide +kernel
theorem dX5_constraintsOf_34 : decode cX5_constraintsOf 34 = .ok (.aload_n 0, 1) := by decide +kernel
theorem dX5_constraintsOf_35 : decode cX5_constraintsOf 35 = .ok (.getfield 16, 3) := by decide +kernel
theorem dX5_constraintsOf_38 : decode cX5_constraintsOf 38 = .ok (.getfield 100, 3) := by decide +kernel
theorem dX5_constraintsOf_41 : decode cX5_constraintsOf 41 = .ok (.iload 4, 2) := by decide +kernel
theorem dX5_constraintsOf_43 : decode cX5_constraintsOf 43 = .ok (.iconst 1, 1) := by decide +kernel
theorem dX5_constraintsOf_44 : decode cX5_constraintsOf 44 = .ok (.iadd, 1) := by decide +kernel
theorem dX5_constraintsOf_45 : decode cX5_constraintsOf 45 = .ok (.iaload, 1) := by decide +kernel
theorem dX5_constraintsOf_46 : decode cX5_constraintsOf 46 = .ok (.iload_n 1, 1) := by decide +kernel
theorem dX5_constraintsOf_47 : decode cX5_constraintsOf 47 = .ok (.iushr, 1) := by decide +kernel
theorem dX5_constraintsOf_48 : decode cX5_constraintsOf 48 = .ok (.iconst 1, 1) := by decide +kernel
theorem dX5_constraintsOf_49 : decode cX5_constraintsOf 49 = .ok (.iand, 1) := by decide +kernel
theorem dX5_constraintsOf_50 : decode cX5_constraintsOf 50 = .ok (.iconst 1, 1) := by decide +kernel
theorem dX5_constraintsOf_51 : decode cX5_constraintsOf 51 = .ok (.if_icmp .ne 7, 3) := by decide +kernel
theorem dX5_constraintsOf_54 : decode cX5_constraintsOf 54 = .ok (.iconst 1, 1) := by decide +kernel
theorem dX5_constraintsOf_55 : decode cX5_constraintsOf 55 = .ok (.goto 44, 3) := by decide +kernel
theorem dX5_constraintsOf_58 : decode cX5_constraintsOf 58 = .ok (.iconst 0, 1) := by decide +kernel
theorem dX5_constraintsOf_59 : decode cX5_constraintsOf 59 = .ok (.goto 40, 3) := by decide +kernel
theorem dX5_constraintsOf_62 : decode cX5_constraintsOf 62 = .ok (.aload_n 0, 1) := by decide +kernel
theorem dX5_constraintsOf_63 : decode cX5_constraintsOf 63 = .ok (.getfield 16, 3) := by decide +kernel
theorem dX5_constraintsOf_66 : decode cX5_constraintsOf 66 = .ok (.getfield 100, 3) := by decide +kernel
theorem dX5_constraintsOf_69 : decode cX5_constraintsOf 69 = .ok (.iload 4, 2) := by decide +kernel
theorem dX5_constraintsOf_71 : decode cX5_constraintsOf 71 = .ok (.iconst 1, 1) := by decide +kernel
theorem dX5_constraintsOf_72 : decode cX5_constraintsOf 72 = .ok (.iadd, 1) := by decide +kernel
theorem dX5_constraintsOf_73 : decode cX5_constraintsOf 73 = .ok (.iaload, 1) := by decide +kernel
theorem dX5_constraintsOf_74 : decode cX5_constraintsOf 74 = .ok (.iload_n 1, 1) := by decide +kernel
theorem dX5_constraintsOf_75 : decode cX5_constraintsOf 75 = .ok (.if_icmp .eq 19, 3) := by decide +kernel
theorem dX5_constraintsOf_78 : decode cX5_constraintsOf 78 = .ok (.aload_n 0, 1) := by decide +kernel
theorem dX5_constraintsOf_79 : decode cX5_constraintsOf 79 = .ok (.getfield 16, 3) := by decide +kernel
theorem dX5_constraintsOf_82 : decode cX5_constraintsOf 82 = .ok (.getfield 100, 3) := by decide +kernel
theorem dX5_constraintsOf_85 : decode cX5_constraintsOf 85 = .ok (.iload 4, 2) := by decide +kernel
theorem dX5_constraintsOf_87 : decode cX5_constraintsOf 87 = .ok (.iconst 2, 1) := by decide +kernel
theorem dX5_constraintsOf_88 : decode cX5_constraintsOf 88 = .ok (.iadd, 1) := by decide +kernel
theorem dX5_constraintsOf_89 : decode cX5_constraintsOf 89 = .ok (.iaload, 1) := by decide +kernel
theorem dX5_constraintsOf_90 : decode cX5_constraintsOf 90 = .ok (.iload_n 1, 1) := by decide +kernel
theorem dX5_constraintsOf_91 : decode cX5_constraintsOf 91 = .ok (.if_icmp .ne 7, 3) := by decide +kernel
theorem dX5_constraintsOf_94 : decode cX5_constraintsOf 94 = .ok (.iconst 1, 1) := by decide +kernel
theorem dX5_constraintsOf_95 : decode cX5_constraintsOf 95 = .ok (.goto 4, 3) := by decide +kernel
theorem dX5_constraintsOf_98 : decode cX5_constraintsOf 98 = .ok (.iconst 0, 1) := by decide +kernel
theorem dX5_constraintsOf_99 : decode cX5_constraintsOf 99 = .ok (.istore 5, 2) := by decide +kernel
theorem dX5_constraintsOf_101 : decode cX5_constraintsOf 101 = .ok (.iload 5, 2) := by decide +kernel
theorem dX5_constraintsOf_103 : decode cX5_constraintsOf 103 = .ok (.ifCond .eq 6, 3) := by decide +kernel
theorem dX5_constraintsOf_106 : decode cX5_constraintsOf 106 = .ok (.iinc 2 1, 3) := by decide +kernel
theorem dX5_constraintsOf_109 : decode cX5_constraintsOf 109 = .ok (.iinc 3 1, 3) := by decide +kernel
theorem dX5_constraintsOf_112 : decode cX5_constraintsOf 112 = .ok (.goto (-108), 3) := by decide +kernel
theorem dX5_constraintsOf_115 : decode cX5_constraintsOf 115 = .ok (.iload_n 2, 1) := by decide +kernel
theorem dX5_constraintsOf_116 : decode cX5_constraintsOf 116 = .ok (.ireturn, 1) := by decide +kernel
def f_X5_constraintsOf_L4 (x1 : Int32) (μ : jM) (u1 : Int32) (u2 : Int32) : Option ((Int32 × Int32) ⊕ (Int32)) :=
  (if (μ.1 6 6) ≤ u2 then some (.inr u1) else jrd (μ.1 11) ((4 : Int32) * u2) 32 (fun v5 => jbd (fun (t7 : Int32) => (if t7 = (0 : Int32) then some (.inl ((u1, u2 + (1 : Int32)))) else some (.inl ((u1 + (1 : Int32), u2 + (1 : Int32)))))) (fun k8 => (if v5 = (3 : Int32) then jrd (μ.1 11) (((4 : Int32) * u2) + (1 : Int32)) 32 (fun v22 => (if ((jushr v22 x1) &&& (1 : Int32)) = (1 : Int32) then k8 (1 : Int32) else k8 (0 : Int32))) else jrd (μ.1 11) (((4 : Int32) * u2) + (1 : Int32)) 32 (fun v14 => (if v14 = x1 then k8 (1 : Int32) else jrd (μ.1 11) (((4 : Int32) * u2) + (2 : Int32)) 32 (fun v18 => (if v18 = x1 then k8 (1 : Int32) else k8 (0 : Int32)))))))))
def f_X5_constraintsOf (a0 : Nat) (x1 : Int32) (μ : jM) : Option (Int32) :=
  jcl (jloop (fun (s : Int32 × Int32) => f_X5_constraintsOf_L4 x1 μ s.1 s.2) jfu (((0 : Int32), (0 : Int32)))) (fun w25 => some w25)
set_option maxHeartbeats 4000000 in
set_option maxRecDepth 100000 in
theorem c_X5_constraintsOf {l : Launch} {G : jG} {L : jL} (hL : jOKL L) {a0 : Nat} {x1 : Int32} (ka0 : jK L a0 5) {μ : jM} {r : Int32} (h : f_X5_constraintsOf a0 x1 μ = some r) : jCt l G L 3 yX5_constraintsOf cX5_constraintsOf 6 (some .int) [.ref (L.2.2 a0), .int x1] μ (some (.int r)) μ := by
  refine jCt_of (by decide) (Nat.le_of_ble_eq_true rfl) (fun X hC hX hR => ?_)
  subst hX
  have hC : jC X G cX5_constraintsOf 6 RX5 (some .int) := hC
  unfold f_X5_constraintsOf at h
  show jJ X G 6 L 0 0 (jQM X G L (some (.int r)) μ 0 0) 0 [(0, .ref (L.2.2 a0)), (1, .int x1)] [] μ
  refine j_iconst (pc := 0) hC (0 : Int32) dX5_constraintsOf_0 (by decide) ?_
  refine j_istore_n (pc := 1) hC 2 [(2, .int (0 : Int32)), (0, .ref (L.2.2 a0)), (1, .int x1)] dX5_constraintsOf_1 rfl (by decide) rfl rfl ?_
  refine j_iconst (pc := 2) hC (0 : Int32) dX5_constraintsOf_2 (by decide) ?_
  refine j_istore_n (pc := 3) hC 3 [(3, .int (0 : Int32)), (2, .int (0 : Int32)), (0, .ref (L.2.2 a0)), (1, .int x1)] dX5_constraintsOf_3 rfl (by decide) rfl rfl ?_
  obtain ⟨w25, hw26, h⟩ := jcl_some h
  refine j_lv [2, 3, 1, 0] rfl ?_
  refine j_loop (step := (fun (s : Int32 × Int32) => f_X5_constraintsOf_L4 x1 μ s.1 s.2)) (P := (fun (s : Int32 × Int32) => jJ X G 6 L 0 0 (jQM X G L (some (.int r)) μ 0 0) 4 [(0, .ref (L.2.2 a0)), (1, .int x1), (2, .int s.1), (3, .int s.2)] [] μ)) (R := (fun (e : Int32) => jJ X G 6 L 0 0 (jQM X G L (some (.int r)) μ 0 0) 115 [(2, .int e)] [] μ)) ?_ jfu (((0 : Int32), (0 : Int32))) w25 hw26 ?_
  · intro s27 o h hk
    obtain ⟨u1, u2⟩ := s27
    change f_X5_constraintsOf_L4 x1 μ u1 u2 = some o at h
    unfold f_X5_constraintsOf_L4 at h
    show jJ X G 6 L 0 0 (jQM X G L (some (.int r)) μ 0 0) 4 [(0, .ref (L.2.2 a0)), (1, .int x1), (2, .int u1), (3, .int u2)] [] μ
    refine j_iload_n (pc := 4) hC 3 3 dX5_constraintsOf_4 rfl rfl ?_
    refine j_aload_n (pc := 5) hC 0 0 dX5_constraintsOf_5 rfl rfl ?_
    refine jgr_5 (pc := 6) hC 0 (by decide) rfl kf_X5_16 dX5_constraintsOf_6 ka0 (ly_5_0 hL ka0).1 ?_
    refine jgi_9 (pc := 9) hC 6 (by decide) rfl kf_X5_97 dX5_constraintsOf_9 (ly_5_0 hL ka0).2.1 ?_
    refine j_icmp_ge (pc := 12) hC 115 dX5_constraintsOf_12 (by decide) (fun c3 => ?_) (fun c3 => ?_)
    · rw [if_pos c3] at h
      obtain rfl := Option.some.inj h
      have hk : jJ X G 6 L 0 0 (jQM X G L (some (.int r)) μ 0 0) 115 [(2, .int u1)] [] μ := hk
      exact j_lv [2] rfl hk
    · rw [if_neg c3] at h
      refine j_iconst (pc := 15) hC (4 : Int32) dX5_constraintsOf_15 (by decide) ?_
      refine j_iload_n (pc := 16) hC 3 3 dX5_constraintsOf_16 rfl rfl ?_
      refine j_imul (pc := 17) hC dX5_constraintsOf_17 ?_
      refine j_istore (pc := 18) hC [(4, .int ((4 : Int32) * u2)), (0, .ref (L.2.2 a0)), (1, .int x1), (2, .int u1), (3, .int u2)] dX5_constraintsOf_18 (by decide) rfl rfl ?_
      refine j_aload_n (pc := 20) hC 0 1 dX5_constraintsOf_20 rfl rfl ?_
      refine jgr_5 (pc := 21) hC 0 (by decide) rfl kf_X5_16 dX5_constraintsOf_21 ka0 (ly_5_0 hL ka0).1 ?_
      refine jgr_9 (pc := 24) hC 4 (by decide) rfl kf_X5_100 dX5_constraintsOf_24 (ly_5_0 hL ka0).2.1 (ly_9_4 hL (ly_5_0 hL ka0).2.1).1 ?_
      refine j_iload (pc := 27) hC 0 dX5_constraintsOf_27 rfl ?_
      obtain ⟨i4, v5, e6, h⟩ := jrd_some h
      refine j_iald (pc := 29) hC dX5_constraintsOf_29 (ly_9_4 hL (ly_5_0 hL ka0).2.1).2.1 (ly_9_4 hL (ly_5_0 hL ka0).2.1).2.2 i4 e6 ?_
      refine j_iconst (pc := 30) hC (3 : Int32) dX5_constraintsOf_30 (by decide) ?_
      obtain ⟨k8, e10, h⟩ := jbd_ex h
      have q9 : ∀ (t7 : Int32), k8 t7 = some o → jJ X G 6 L 0 0 (jQM X G L (some (.int r)) μ 0 0) 99 [(0, .ref (L.2.2 a0)), (1, .int x1), (2, .int u1), (3, .int u2)] [.int t7] μ := by
        intro t7 h
        rw [e10] at h
        try dsimp only at h
        refine j_istore (pc := 99) hC [(5, .int t7), (0, .ref (L.2.2 a0)), (1, .int x1), (2, .int u1), (3, .int u2)] dX5_constraintsOf_99 (by decide) rfl rfl ?_
        refine j_iload (pc := 101) hC 0 dX5_constraintsOf_101 rfl ?_
        refine j_if_eq (pc := 103) hC 109 dX5_constraintsOf_103 (by decide) (fun c11 => ?_) (fun c11 => ?_)
        · rw [if_pos c11] at h
          refine j_iinc (pc := 109) hC 4 (u2 + (1 : Int32)) [(3, .int (u2 + (1 : Int32))), (5, .int t7), (0, .ref (L.2.2 a0)), (1, .int x1), (2, .int u1)] dX5_constraintsOf_109 rfl rfl (by decide) rfl ?_
          refine j_goto (pc := 112) hC 4 dX5_constraintsOf_112 (by decide) ?_
          obtain rfl := Option.some.inj h
          have hk : jJ X G 6 L 0 0 (jQM X G L (some (.int r)) μ 0 0) 4 [(0, .ref (L.2.2 a0)), (1, .int x1), (2, .int u1), (3, .int (u2 + (1 : Int32)))] [] μ := hk
          exact j_lv [2, 3, 4, 0] rfl hk
        · rw [if_neg c11] at h
          refine j_iinc (pc := 106) hC 3 (u1 + (1 : Int32)) [(2, .int (u1 + (1 : Int32))), (5, .int t7), (0, .ref (L.2.2 a0)), (1, .int x1), (3, .int u2)] dX5_constraintsOf_106 rfl rfl (by decide) rfl ?_
          refine j_iinc (pc := 109) hC 4 (u2 + (1 : Int32)) [(3, .int (u2 + (1 : Int32))), (2, .int (u1 + (1 : Int32))), (5, .int t7), (0, .ref (L.2.2 a0)), (1, .int x1)] dX5_constraintsOf_109 rfl rfl (by decide) rfl ?_
          refine j_goto (pc := 112) hC 4 dX5_constraintsOf_112 (by decide) ?_
          obtain rfl := Option.some.inj h
          have hk : jJ X G 6 L 0 0 (jQM X G L (some (.int r)) μ 0 0) 4 [(0, .ref (L.2.2 a0)), (1, .int x1), (2, .int (u1 + (1 : Int32))), (3, .int (u2 + (1 : Int32)))] [] μ := hk
          exact j_lv [3, 4, 1, 0] rfl hk
      refine j_icmp_ne (pc := 31) hC 62 dX5_constraintsOf_31 (by decide) (fun c12 => ?_) (fun c12 => ?_)
      · rw [if_neg c12] at h
        refine j_aload_n (pc := 62) hC 0 1 dX5_constraintsOf_62 rfl rfl ?_
        refine jgr_5 (pc := 63) hC 0 (by decide) rfl kf_X5_16 dX5_constraintsOf_63 ka0 (ly_5_0 hL ka0).1 ?_
        refine jgr_9 (pc := 66) hC 4 (by decide) rfl kf_X5_100 dX5_constraintsOf_66 (ly_5_0 hL ka0).2.1 (ly_9_4 hL (ly_5_0 hL ka0).2.1).1 ?_
        refine j_iload (pc := 69) hC 0 dX5_constraintsOf_69 rfl ?_
        refine j_iconst (pc := 71) hC (1 : Int32) dX5_constraintsOf_71 (by decide) ?_
        refine j_iadd (pc := 72) hC dX5_constraintsOf_72 ?_
        obtain ⟨i13, v14, e15, h⟩ := jrd_some h
        refine j_iald (pc := 73) hC dX5_constraintsOf_73 (ly_9_4 hL (ly_5_0 hL ka0).2.1).2.1 (ly_9_4 hL (ly_5_0 hL ka0).2.1).2.2 i13 e15 ?_
        refine j_iload_n (pc := 74) hC 1 2 dX5_constraintsOf_74 rfl rfl ?_
        refine j_icmp_eq (pc := 75) hC 94 dX5_constraintsOf_75 (by decide) (fun c16 => ?_) (fun c16 => ?_)
        · rw [if_pos c16] at h
          refine j_iconst (pc := 94) hC (1 : Int32) dX5_constraintsOf_94 (by decide) ?_
          refine j_goto (pc := 95) hC 99 dX5_constraintsOf_95 (by decide) ?_
          exact j_lv [1, 2, 3, 4] rfl (q9 _ h)
        · rw [if_neg c16] at h
          refine j_aload_n (pc := 78) hC 0 1 dX5_constraintsOf_78 rfl rfl ?_
          refine jgr_5 (pc := 79) hC 0 (by decide) rfl kf_X5_16 dX5_constraintsOf_79 ka0 (ly_5_0 hL ka0).1 ?_
          refine jgr_9 (pc := 82) hC 4 (by decide) rfl kf_X5_100 dX5_constraintsOf_82 (ly_5_0 hL ka0).2.1 (ly_9_4 hL (ly_5_0 hL ka0).2.1).1 ?_
          refine j_iload (pc := 85) hC 0 dX5_constraintsOf_85 rfl ?_
          refine j_iconst (pc := 87) hC (2 : Int32) dX5_constraintsOf_87 (by decide) ?_
          refine j_iadd (pc := 88) hC dX5_constraintsOf_88 ?_
          obtain ⟨i17, v18, e19, h⟩ := jrd_some h
          refine j_iald (pc := 89) hC dX5_constraintsOf_89 (ly_9_4 hL (ly_5_0 hL ka0).2.1).2.1 (ly_9_4 hL (ly_5_0 hL ka0).2.1).2.2 i17 e19 ?_
          refine j_iload_n (pc := 90) hC 1 2 dX5_constraintsOf_90 rfl rfl ?_
          refine j_icmp_ne (pc := 91) hC 98 dX5_constraintsOf_91 (by decide) (fun c20 => ?_) (fun c20 => ?_)
          · rw [if_neg c20] at h
            refine j_iconst (pc := 98) hC (0 : Int32) dX5_constraintsOf_98 (by decide) ?_
            exact j_lv [1, 2, 3, 4] rfl (q9 _ h)
          · rw [if_pos c20] at h
            refine j_iconst (pc := 94) hC (1 : Int32) dX5_constraintsOf_94 (by decide) ?_
            refine j_goto (pc := 95) hC 99 dX5_constraintsOf_95 (by decide) ?_
            exact j_lv [1, 2, 3, 4] rfl (q9 _ h)
      · rw [if_pos c12] at h
        refine j_aload_n (pc := 34) hC 0 1 dX5_constraintsOf_34 rfl rfl ?_
        refine jgr_5 (pc := 35) hC 0 (by decide) rfl kf_X5_16 dX5_constraintsOf_35 ka0 (ly_5_0 hL ka0).1 ?_
        refine jgr_9 (pc := 38) hC 4 (by decide) rfl kf_X5_100 dX5_constraintsOf_38 (ly_5_0 hL ka0).2.1 (ly_9_4 hL (ly_5_0 hL ka0).2.1).1 ?_
        refine j_iload (pc := 41) hC 0 dX5_constraintsOf_41 rfl ?_
        refine j_iconst (pc := 43) hC (1 : Int32) dX5_constraintsOf_43 (by decide) ?_
        refine j_iadd (pc := 44) hC dX5_constraintsOf_44 ?_
        obtain ⟨i21, v22, e23, h⟩ := jrd_some h
        refine j_iald (pc := 45) hC dX5_constraintsOf_45 (ly_9_4 hL (ly_5_0 hL ka0).2.1).2.1 (ly_9_4 hL (ly_5_0 hL ka0).2.1).2.2 i21 e23 ?_
        refine j_iload_n (pc := 46) hC 1 2 dX5_constraintsOf_46 rfl rfl ?_
        refine j_iushr (pc := 47) hC dX5_constraintsOf_47 ?_
        refine j_iconst (pc := 48) hC (1 : Int32) dX5_constraintsOf_48 (by decide) ?_
        refine j_iand (pc := 49) hC dX5_constraintsOf_49 ?_
        refine j_iconst (pc := 50) hC (1 : Int32) dX5_constraintsOf_50 (by decide) ?_
        refine j_icmp_ne (pc := 51) hC 58 dX5_constraintsOf_51 (by decide) (fun c24 => ?_) (fun c24 => ?_)
        · rw [if_neg c24] at h
          refine j_iconst (pc := 58) hC (0 : Int32) dX5_constraintsOf_58 (by decide) ?_
          refine j_goto (pc := 59) hC 99 dX5_constraintsOf_59 (by decide) ?_
          exact j_lv [1, 2, 3, 4] rfl (q9 _ h)
        · rw [if_pos c24] at h
          refine j_iconst (pc := 54) hC (1 : Int32) dX5_constraintsOf_54 (by decide) ?_
          refine j_goto (pc := 55) hC 99 dX5_constraintsOf_55 (by decide) ?_
          exact j_lv [1, 2, 3, 4] rfl (q9 _ h)
  · obtain ⟨z28, rfl⟩ : ∃ y, y = w25 := ⟨_, rfl⟩
    try dsimp only at h
    show jJ X G 6 L 0 0 (jQM X G L (some (.int r)) μ 0 0) 115 [(2, .int z28)] [] μ
    refine j_iload_n (pc := 115) hC 2 0 dX5_constraintsOf_115 rfl rfl ?_
    obtain rfl := Option.some.inj h
    exact j_iret (pc := 116) hC dX5_constraintsOf_116 rfl
theorem dX5_isBetter_0 : decode cX5_isBetter 0 = .ok (.aload_n 0, 1) := by decide +kernel
theorem dX5_isBetter_1 : decode cX5_isBetter 1 = .ok (.getfield 24, 3) := by decide +kernel
theorem dX5_isBetter_4 : decode cX5_isBetter 4 = .ok (.lookupswitch 63 #[(0, 28), (1, 30)], 28) := by decide +kernel
theorem dX5_isBetter_32 : decode cX5_isBetter 32 = .ok (.iconst 0, 1) := by decide +kernel
theorem dX5_isBetter_33 : decode cX5_isBetter 33 = .ok (.ireturn, 1) := by decide +kernel
theorem dX5_isBetter_34 : decode cX5_isBetter 34 = .ok (.aload_n 0, 1) := by decide +kernel
theorem dX5_isBetter_35 : decode cX5_isBetter 35 = .ok (.getfield 20, 3) := by decide +kernel
theorem dX5_isBetter_38 : decode cX5_isBetter 38 = .ok (.getfield 68, 3) := by decide +kernel
theorem dX5_isBetter_41 : decode cX5_isBetter 41 = .ok (.iload_n 1, 1) := by decide +kernel
theorem dX5_isBetter_42 : decode cX5_isBetter 42 = .ok (.iaload, 1) := by decide +kernel
theorem dX5_isBetter_43 : decode cX5_isBetter 43 = .ok (.invokestatic 85, 3) := by decide +kernel
theorem dX5_isBetter_46 : decode cX5_isBetter 46 = .ok (.aload_n 0, 1) := by decide +kernel
theorem dX5_isBetter_47 : decode cX5_isBetter 47 = .ok (.getfield 20, 3) := by decide +kernel
theorem dX5_isBetter_50 : decode cX5_isBetter 50 = .ok (.getfield 68, 3) := by decide +kernel
theorem dX5_isBetter_53 : decode cX5_isBetter 53 = .ok (.iload_n 2, 1) := by decide +kernel
theorem dX5_isBetter_54 : decode cX5_isBetter 54 = .ok (.iaload, 1) := by decide +kernel
theorem dX5_isBetter_55 : decode cX5_isBetter 55 = .ok (.invokestatic 85, 3) := by decide +kernel
theorem dX5_isBetter_58 : decode cX5_isBetter 58 = .ok (.if_icmp .ge 7, 3) := by decide +kernel
theorem dX5_isBetter_61 : decode cX5_isBetter 61 = .ok (.iconst 1, 1) := by decide +kernel
theorem dX5_isBetter_62 : decode cX5_isBetter 62 = .ok (.goto 4, 3) := by decide +kernel
theorem dX5_isBetter_65 : decode cX5_isBetter 65 = .ok (.iconst 0, 1) := by decide +kernel
theorem dX5_isBetter_66 : decode cX5_isBetter 66 = .ok (.ireturn, 1) := by decide +kernel
theorem dX5_isBetter_67 : decode cX5_isBetter 67 = .ok (.aload_n 0, 1) := by decide +kernel
theorem dX5_isBetter_68 : decode cX5_isBetter 68 = .ok (.iload_n 1, 1) := by decide +kernel
theorem dX5_isBetter_69 : decode cX5_isBetter 69 = .ok (.invokevirtual 94, 3) := by decide +kernel
theorem dX5_isBetter_72 : decode cX5_isBetter 72 = .ok (.aload_n 0, 1) := by decide +kernel
theorem dX5_isBetter_73 : decode cX5_isBetter 73 = .ok (.iload_n 2, 1) := by decide +kernel
theorem dX5_isBetter_74 : decode cX5_isBetter 74 = .ok (.invokevirtual 94, 3) := by decide +kernel
theorem dX5_isBetter_77 : decode cX5_isBetter 77 = .ok (.if_icmp .le 7, 3) := by decide +kernel
theorem dX5_isBetter_80 : decode cX5_isBetter 80 = .ok (.iconst 1, 1) := by decide +kernel
theorem dX5_isBetter_81 : decode cX5_isBetter 81 = .ok (.goto 4, 3) := by decide +kernel
theorem dX5_isBetter_84 : decode cX5_isBetter 84 = .ok (.iconst 0, 1) := by decide +kernel
theorem dX5_isBetter_85 : decode cX5_isBetter 85 = .ok (.ireturn, 1) := by decide +kernel
def f_X5_isBetter (a0 : Nat) (x1 : Int32) (x2 : Int32) (μ : jM) : Option (Int32) :=
  (if (μ.1 a0 3) = (0 : Int32) then some (0 : Int32) else (if (μ.1 a0 3) = (1 : Int32) then jrd (μ.1 166) x1 5 (fun v4 => jrd (μ.1 166) x2 5 (fun v7 => some (((if (f_J6_bitCount_0f7a4 v7) ≤ (f_J6_bitCount_0f7a4 v4) then (0 : Int32) else (1 : Int32))) &&& 1))) else jcl (f_X5_constraintsOf a0 x1 μ) (fun v10 => jcl (f_X5_constraintsOf a0 x2 μ) (fun v12 => some (((if v10 ≤ v12 then (0 : Int32) else (1 : Int32))) &&& 1)))))
set_option maxHeartbeats 4000000 in
set_option maxRecDepth 100000 in
theorem c_X5_isBetter {l : Launch} {G : jG} {L : jL} (hL : jOKL L) {a0 : Nat} {x1 : Int32} {x2 : Int32} (ka0 : jK L a0 5) {μ : jM} {r : Int32} (h : f_X5_isBetter a0 x1 x2 μ = some r) : jCt l G L 4 yX5_isBetter cX5_isBetter 3 (some .boolean) [.ref (L.2.2 a0), .int x1, .int x2] μ (some (.int r)) μ := by
  refine jCt_of (by decide) (Nat.le_of_ble_eq_true rfl) (fun X hC hX hR => ?_)
  subst hX
  have hC : jC X G cX5_isBetter 3 RX5 (some .boolean) := hC
  unfold f_X5_isBetter at h
  show jJ X G 3 L 0 0 (jQM X G L (some (.int r)) μ 0 0) 0 [(0, .ref (L.2.2 a0)), (1, .int x1), (2, .int x2)] [] μ
  refine j_aload_n (pc := 0) hC 0 0 dX5_isBetter_0 rfl rfl ?_
  refine jgi_5 (pc := 1) hC 3 (by decide) rfl kf_X5_24 dX5_isBetter_1 ka0 ?_
  by_cases c1 : (μ.1 a0 3) = (0 : Int32)
  · rw [if_pos c1] at h
    refine j_lookup (pc := 4) (off := 28) hC 32 dX5_isBetter_4 (by decide) (by rw [c1]; rfl) (by decide) ?_
    refine j_iconst (pc := 32) hC (0 : Int32) dX5_isBetter_32 (by decide) ?_
    obtain rfl := Option.some.inj h
    exact j_bret (pc := 33) hC dX5_isBetter_33 rfl rfl
  · rw [if_neg c1] at h
    by_cases c2 : (μ.1 a0 3) = (1 : Int32)
    · rw [if_pos c2] at h
      refine j_lookup (pc := 4) (off := 30) hC 34 dX5_isBetter_4 (by decide) (by rw [c2]; rfl) (by decide) ?_
      refine j_aload_n (pc := 34) hC 0 0 dX5_isBetter_34 rfl rfl ?_
      refine jgr_5 (pc := 35) hC 1 (by decide) rfl kf_X5_20 dX5_isBetter_35 ka0 (ly_5_1 hL ka0).1 ?_
      refine jgr_6 (pc := 38) hC 0 (by decide) rfl kf_X5_68 dX5_isBetter_38 (ly_5_1 hL ka0).2.1 (ly_6_0 hL (ly_5_1 hL ka0).2.1).1 ?_
      refine j_iload_n (pc := 41) hC 1 1 dX5_isBetter_41 rfl rfl ?_
      obtain ⟨i3, v4, e5, h⟩ := jrd_some h
      refine j_iald (pc := 42) hC dX5_isBetter_42 (ly_6_0 hL (ly_5_1 hL ka0).2.1).2.1 (ly_6_0 hL (ly_5_1 hL ka0).2.1).2.2 i3 e5 ?_
      refine j_si (pc := 43) hC hR [.int v4] iy_J6_bitCount_0f7a4 km_X5_85 dX5_isBetter_43 rfl (by decide) (c_J6_bitCount_0f7a4 hL  rfl) (by decide) (Nat.le_of_ble_eq_true rfl) rfl ?_
      refine j_aload_n (pc := 46) hC 0 0 dX5_isBetter_46 rfl rfl ?_
      refine jgr_5 (pc := 47) hC 1 (by decide) rfl kf_X5_20 dX5_isBetter_47 ka0 (ly_5_1 hL ka0).1 ?_
      refine jgr_6 (pc := 50) hC 0 (by decide) rfl kf_X5_68 dX5_isBetter_50 (ly_5_1 hL ka0).2.1 (ly_6_0 hL (ly_5_1 hL ka0).2.1).1 ?_
      refine j_iload_n (pc := 53) hC 2 2 dX5_isBetter_53 rfl rfl ?_
      obtain ⟨i6, v7, e8, h⟩ := jrd_some h
      refine j_iald (pc := 54) hC dX5_isBetter_54 (ly_6_0 hL (ly_5_1 hL ka0).2.1).2.1 (ly_6_0 hL (ly_5_1 hL ka0).2.1).2.2 i6 e8 ?_
      refine j_si (pc := 55) hC hR [.int v7] iy_J6_bitCount_0f7a4 km_X5_85 dX5_isBetter_55 rfl (by decide) (c_J6_bitCount_0f7a4 hL  rfl) (by decide) (Nat.le_of_ble_eq_true rfl) rfl ?_
      refine jmg (B := jJ X G 3 L 0 0 (jQM X G L (some (.int r)) μ 0 0) 66 [(0, .ref (L.2.2 a0)), (1, .int x1), (2, .int x2)] [.int ((if (f_J6_bitCount_0f7a4 v7) ≤ (f_J6_bitCount_0f7a4 v4) then (0 : Int32) else (1 : Int32)))] μ) (fun hj => ?_) ?_
      · refine j_icmp_ge (pc := 58) hC 65 dX5_isBetter_58 (by decide) (fun c9 => ?_) (fun c9 => ?_)
        · rw [if_pos c9] at hj
          refine j_iconst (pc := 65) hC (0 : Int32) dX5_isBetter_65 (by decide) ?_
          exact hj
        · rw [if_neg c9] at hj
          refine j_iconst (pc := 61) hC (1 : Int32) dX5_isBetter_61 (by decide) ?_
          refine j_goto (pc := 62) hC 66 dX5_isBetter_62 (by decide) ?_
          exact hj
      obtain rfl := Option.some.inj h
      exact j_bret (pc := 66) hC dX5_isBetter_66 rfl (j_nz _)
    · rw [if_neg c2] at h
      refine j_lookup (pc := 4) (off := 63) hC 67 dX5_isBetter_4 (by decide) (by show Op.lookupswitch.offset [(0, 28), (1, 30)] 63 _ = _; rw [lv_osw (a := 0) (o := 28) c1 (by decide), lv_osw (a := 1) (o := 30) c2 (by decide)]; rfl) (by decide) ?_
      refine j_aload_n (pc := 67) hC 0 0 dX5_isBetter_67 rfl rfl ?_
      refine j_iload_n (pc := 68) hC 1 1 dX5_isBetter_68 rfl rfl ?_
      obtain ⟨v10, e11, h⟩ := jcl_some h
      refine j_vi (pc := 69) hC hR [.int x1] iy_X5_constraintsOf (q := (RX5, TX5, 8)) (ci := 5) rfl rfl (by decide) km_X5_94 dX5_isBetter_69 rfl (by decide) ka0 (c_X5_constraintsOf hL ka0 e11) (by decide) (Nat.le_of_ble_eq_true rfl) rfl ?_
      refine j_aload_n (pc := 72) hC 0 0 dX5_isBetter_72 rfl rfl ?_
      refine j_iload_n (pc := 73) hC 2 2 dX5_isBetter_73 rfl rfl ?_
      obtain ⟨v12, e13, h⟩ := jcl_some h
      refine j_vi (pc := 74) hC hR [.int x2] iy_X5_constraintsOf (q := (RX5, TX5, 8)) (ci := 5) rfl rfl (by decide) km_X5_94 dX5_isBetter_74 rfl (by decide) ka0 (c_X5_constraintsOf hL ka0 e13) (by decide) (Nat.le_of_ble_eq_true rfl) rfl ?_
      refine jmg (B := jJ X G 3 L 0 0 (jQM X G L (some (.int r)) μ 0 0) 85 [(0, .ref (L.2.2 a0)), (1, .int x1), (2, .int x2)] [.int ((if v10 ≤ v12 then (0 : Int32) else (1 : Int32)))] μ) (fun hj => ?_) ?_
      · refine j_icmp_le (pc := 77) hC 84 dX5_isBetter_77 (by decide) (fun c14 => ?_) (fun c14 => ?_)
        · rw [if_pos c14] at hj
          refine j_iconst (pc := 84) hC (0 : Int32) dX5_isBetter_84 (by decide) ?_
          exact hj
        · rw [if_neg c14] at hj
          refine j_iconst (pc := 80) hC (1 : Int32) dX5_isBetter_80 (by decide) ?_
          refine j_goto (pc := 81) hC 85 dX5_isBetter_81 (by decide) ?_
          exact hj
      obtain rfl := Option.some.inj h
      exact j_bret (pc := 85) hC dX5_isBetter_85 rfl (j_nz _)
