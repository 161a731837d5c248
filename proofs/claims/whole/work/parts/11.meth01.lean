theorem dX2_fault_0 : decode cX2_fault 0 = .ok (.aload_n 0, 1) := by decide +kernel
theorem dX2_fault_1 : decode cX2_fault 1 = .ok (.iconst 0, 1) := by decide +kernel
theorem dX2_fault_2 : decode cX2_fault 2 = .ok (.putfield 19, 3) := by decide +kernel
theorem dX2_fault_5 : decode cX2_fault 5 = .ok (.aload_n 0, 1) := by decide +kernel
theorem dX2_fault_6 : decode cX2_fault 6 = .ok (.getfield 15, 3) := by decide +kernel
theorem dX2_fault_9 : decode cX2_fault 9 = .ok (.getfield 23, 3) := by decide +kernel
theorem dX2_fault_12 : decode cX2_fault 12 = .ok (.ifCond .ne 5, 3) := by decide +kernel
theorem dX2_fault_15 : decode cX2_fault 15 = .ok (.iconst (-1), 1) := by decide +kernel
theorem dX2_fault_16 : decode cX2_fault 16 = .ok (.ireturn, 1) := by decide +kernel
theorem dX2_fault_17 : decode cX2_fault 17 = .ok (.iconst 0, 1) := by decide +kernel
theorem dX2_fault_18 : decode cX2_fault 18 = .ok (.istore_n 1, 1) := by decide +kernel
theorem dX2_fault_19 : decode cX2_fault 19 = .ok (.iconst 0, 1) := by decide +kernel
theorem dX2_fault_20 : decode cX2_fault 20 = .ok (.istore_n 2, 1) := by decide +kernel
theorem dX2_fault_21 : decode cX2_fault 21 = .ok (.iload_n 2, 1) := by decide +kernel
theorem dX2_fault_22 : decode cX2_fault 22 = .ok (.bipush 80, 2) := by decide +kernel
theorem dX2_fault_24 : decode cX2_fault 24 = .ok (.if_icmp .ge 76, 3) := by decide +kernel
theorem dX2_fault_27 : decode cX2_fault 27 = .ok (.aload_n 0, 1) := by decide +kernel
theorem dX2_fault_28 : decode cX2_fault 28 = .ok (.getfield 15, 3) := by decide +kernel
theorem dX2_fault_31 : decode cX2_fault 31 = .ok (.iload_n 1, 1) := by decide +kernel
theorem dX2_fault_32 : decode cX2_fault 32 = .ok (.invokevirtual 28, 3) := by decide +kernel
theorem dX2_fault_35 : decode cX2_fault 35 = .ok (.bipush 33, 2) := by decide +kernel
theorem dX2_fault_37 : decode cX2_fault 37 = .ok (.if_icmp .ne 11, 3) := by decide +kernel
theorem dX2_fault_40 : decode cX2_fault 40 = .ok (.aload_n 0, 1) := by decide +kernel
theorem dX2_fault_41 : decode cX2_fault 41 = .ok (.iload_n 1, 1) := by decide +kernel
theorem dX2_fault_42 : decode cX2_fault 42 = .ok (.invokevirtual 32, 3) := by decide +kernel
theorem dX2_fault_45 : decode cX2_fault 45 = .ok (.goto 8, 3) := by decide +kernel
theorem dX2_fault_48 : decode cX2_fault 48 = .ok (.aload_n 0, 1) := by decide +kernel
theorem dX2_fault_49 : decode cX2_fault 49 = .ok (.iload_n 1, 1) := by decide +kernel
theorem dX2_fault_50 : decode cX2_fault 50 = .ok (.invokevirtual 35, 3) := by decide +kernel
theorem dX2_fault_53 : decode cX2_fault 53 = .ok (.istore_n 3, 1) := by decide +kernel
theorem dX2_fault_54 : decode cX2_fault 54 = .ok (.iload_n 3, 1) := by decide +kernel
theorem dX2_fault_55 : decode cX2_fault 55 = .ok (.ifCond .ge 7, 3) := by decide +kernel
theorem dX2_fault_58 : decode cX2_fault 58 = .ok (.iconst (-1), 1) := by decide +kernel
theorem dX2_fault_59 : decode cX2_fault 59 = .ok (.iload_n 3, 1) := by decide +kernel
theorem dX2_fault_60 : decode cX2_fault 60 = .ok (.isub, 1) := by decide +kernel
theorem dX2_fault_61 : decode cX2_fault 61 = .ok (.ireturn, 1) := by decide +kernel
theorem dX2_fault_62 : decode cX2_fault 62 = .ok (.iload_n 3, 1) := by decide +kernel
theorem dX2_fault_63 : decode cX2_fault 63 = .ok (.aload_n 0, 1) := by decide +kernel
theorem dX2_fault_64 : decode cX2_fault 64 = .ok (.getfield 15, 3) := by decide +kernel
theorem dX2_fault_67 : decode cX2_fault 67 = .ok (.getfield 23, 3) := by decide +kernel
theorem dX2_fault_70 : decode cX2_fault 70 = .ok (.if_icmp .ne 5, 3) := by decide +kernel
theorem dX2_fault_73 : decode cX2_fault 73 = .ok (.iconst (-1), 1) := by decide +kernel
theorem dX2_fault_74 : decode cX2_fault 74 = .ok (.ireturn, 1) := by decide +kernel
theorem dX2_fault_75 : decode cX2_fault 75 = .ok (.aload_n 0, 1) := by decide +kernel
theorem dX2_fault_76 : decode cX2_fault 76 = .ok (.getfield 15, 3) := by decide +kernel
theorem dX2_fault_79 : decode cX2_fault 79 = .ok (.iload_n 3, 1) := by decide +kernel
theorem dX2_fault_80 : decode cX2_fault 80 = .ok (.invokevirtual 28, 3) := by decide +kernel
theorem dX2_fault_83 : decode cX2_fault 83 = .ok (.bipush 44, 2) := by decide +kernel
theorem dX2_fault_85 : decode cX2_fault 85 = .ok (.if_icmp .eq 5, 3) := by decide +kernel
theorem dX2_fault_88 : decode cX2_fault 88 = .ok (.iload_n 3, 1) := by decide +kernel
theorem dX2_fault_89 : decode cX2_fault 89 = .ok (.ireturn, 1) := by decide +kernel
theorem dX2_fault_90 : decode cX2_fault 90 = .ok (.iload_n 3, 1) := by decide +kernel
theorem dX2_fault_91 : decode cX2_fault 91 = .ok (.iconst 1, 1) := by decide +kernel
theorem dX2_fault_92 : decode cX2_fault 92 = .ok (.iadd, 1) := by decide +kernel
theorem dX2_fault_93 : decode cX2_fault 93 = .ok (.istore_n 1, 1) := by decide +kernel
theorem dX2_fault_94 : decode cX2_fault 94 = .ok (.iinc 2 1, 3) := by decide +kernel
theorem dX2_fault_97 : decode cX2_fault 97 = .ok (.goto (-76), 3) := by decide +kernel
theorem dX2_fault_100 : decode cX2_fault 100 = .ok (.iconst (-1), 1) := by decide +kernel
theorem dX2_fault_101 : decode cX2_fault 101 = .ok (.ireturn, 1) := by decide +kernel
def f_X2_fault_L21 (a0 : Nat) (u4 : Int32) (u5 : Int32) (m6 : jM) : Option ((Int32 × Int32 × jM) ⊕ ((Int32 × jM) ⊕ ((jM) ⊕ ((Int32 × jM) ⊕ (jM))))) :=
  (if (80 : Int32) ≤ u5 then some (.inr (.inr (.inr (.inr (m6))))) else jcl (f_X8_signAt 1 u4 m6) (fun v8 => jbd (fun (t10 : Int32) (m11 : jM) => (if (0 : Int32) ≤ t10 then (if t10 = (m11.1 1 1) then some (.inr (.inr (.inl m11))) else jcl (f_X8_signAt 1 t10 m11) (fun v17 => (if v17 = (44 : Int32) then some (.inl ((t10 + (1 : Int32), u5 + (1 : Int32), m11))) else some (.inr (.inr (.inr (.inl ((t10, m11))))))))) else some (.inr (.inl ((t10, m11)))))) (fun k12 => (if v8 = (33 : Int32) then jcl2 (f_X2_readSet a0 u4 m6) (fun v24 m25 => k12 v24 m25) else jcl2 (f_X2_readTwo a0 u4 m6) (fun v21 m22 => k12 v21 m22)))))
def f_X2_fault (a0 : Nat) (μ : jM) : Option (Int32 × jM) :=
  jbd (jsi μ a0 1 (0 : Int32)) (fun m1 => (if (m1.1 1 1) = (0 : Int32) then some (((-1 : Int32), m1)) else jcl (jloop (fun (s : Int32 × Int32 × jM) => f_X2_fault_L21 a0 s.1 s.2.1 s.2.2) jfu (((0 : Int32), (0 : Int32), m1))) (fun w27 => match w27 with | .inl w27 => some (((-1 : Int32) - w27.1, w27.2)) | .inr w27 => match w27 with | .inl w27 => some (((-1 : Int32), w27)) | .inr w27 => match w27 with | .inl w27 => some ((w27.1, w27.2)) | .inr w27 => some (((-1 : Int32), w27)))))
set_option maxHeartbeats 4000000 in
set_option maxRecDepth 100000 in
theorem c_X2_fault {l : Launch} {G : jG} {L : jL} (hL : jOKL L) {a0 : Nat} (ka0 : jK L a0 2) {μ μ' : jM} {r : Int32} (h : f_X2_fault a0 μ = some ((r, μ'))) : jCt l G L 6 yX2_fault cX2_fault 4 (some .int) [.ref (L.2.2 a0)] μ (some (.int r)) μ' := by
  refine jCt_of (by decide) (Nat.le_of_ble_eq_true rfl) (fun X hC hX hR => ?_)
  subst hX
  have hC : jC X G cX2_fault 4 RX2 (some .int) := hC
  unfold f_X2_fault at h
  show jJ X G 4 L 0 0 (jQM X G L (some (.int r)) μ' 0 0) 0 [(0, .ref (L.2.2 a0))] [] μ
  refine j_aload_n (pc := 0) hC 0 0 dX2_fault_0 rfl rfl ?_
  refine j_iconst (pc := 1) hC (0 : Int32) dX2_fault_1 (by decide) ?_
  obtain ⟨m1, e2, h⟩ := jbd_ex h
  refine jpi_2 (pc := 2) hC 1 (by decide) rfl kf_X2_19 dX2_fault_2 rfl (by decide) ka0 e2 ?_
  refine j_aload_n (pc := 5) hC 0 0 dX2_fault_5 rfl rfl ?_
  refine jgr_2 (pc := 6) hC 2 (by decide) rfl kf_X2_15 dX2_fault_6 ka0 (ly_2_2 hL ka0).1 ?_
  refine jgi_8 (pc := 9) hC 1 (by decide) rfl kf_X2_23 dX2_fault_9 (ly_2_2 hL ka0).2.1 ?_
  refine j_if_ne (pc := 12) hC 17 dX2_fault_12 (by decide) (fun c3 => ?_) (fun c3 => ?_)
  · rw [if_neg c3] at h
    refine j_iconst (pc := 17) hC (0 : Int32) dX2_fault_17 (by decide) ?_
    refine j_istore_n (pc := 18) hC 1 [(1, .int (0 : Int32)), (0, .ref (L.2.2 a0))] dX2_fault_18 rfl (by decide) rfl rfl ?_
    refine j_iconst (pc := 19) hC (0 : Int32) dX2_fault_19 (by decide) ?_
    refine j_istore_n (pc := 20) hC 2 [(2, .int (0 : Int32)), (1, .int (0 : Int32)), (0, .ref (L.2.2 a0))] dX2_fault_20 rfl (by decide) rfl rfl ?_
    obtain ⟨w27, hw28, h⟩ := jcl_some h
    refine j_lv [2, 1, 0] rfl ?_
    refine j_loop (step := (fun (s : Int32 × Int32 × jM) => f_X2_fault_L21 a0 s.1 s.2.1 s.2.2)) (P := (fun (s : Int32 × Int32 × jM) => jJ X G 4 L 0 0 (jQM X G L (some (.int r)) μ' 0 0) 21 [(0, .ref (L.2.2 a0)), (1, .int s.1), (2, .int s.2.1)] [] s.2.2)) (R := (fun (e : (Int32 × jM) ⊕ ((jM) ⊕ ((Int32 × jM) ⊕ (jM)))) => match e with | .inl e => jJ X G 4 L 0 0 (jQM X G L (some (.int r)) μ' 0 0) 58 [(3, .int e.1)] [] e.2 | .inr e => match e with | .inl e => jJ X G 4 L 0 0 (jQM X G L (some (.int r)) μ' 0 0) 73 [] [] e | .inr e => match e with | .inl e => jJ X G 4 L 0 0 (jQM X G L (some (.int r)) μ' 0 0) 88 [(3, .int e.1)] [] e.2 | .inr e => jJ X G 4 L 0 0 (jQM X G L (some (.int r)) μ' 0 0) 100 [] [] e)) ?_ jfu (((0 : Int32), (0 : Int32), m1)) w27 hw28 ?_
    · intro s29 o h hk
      obtain ⟨u4, u5, m6⟩ := s29
      change f_X2_fault_L21 a0 u4 u5 m6 = some o at h
      unfold f_X2_fault_L21 at h
      show jJ X G 4 L 0 0 (jQM X G L (some (.int r)) μ' 0 0) 21 [(0, .ref (L.2.2 a0)), (1, .int u4), (2, .int u5)] [] m6
      refine j_iload_n (pc := 21) hC 2 2 dX2_fault_21 rfl rfl ?_
      refine j_bipush (pc := 22) hC (80 : Int32) dX2_fault_22 (by decide) ?_
      refine j_icmp_ge (pc := 24) hC 100 dX2_fault_24 (by decide) (fun c7 => ?_) (fun c7 => ?_)
      · rw [if_pos c7] at h
        obtain rfl := Option.some.inj h
        have hk : jJ X G 4 L 0 0 (jQM X G L (some (.int r)) μ' 0 0) 100 [] [] m6 := hk
        exact j_lv [] rfl hk
      · rw [if_neg c7] at h
        refine j_aload_n (pc := 27) hC 0 0 dX2_fault_27 rfl rfl ?_
        refine jgr_2 (pc := 28) hC 2 (by decide) rfl kf_X2_15 dX2_fault_28 ka0 (ly_2_2 hL ka0).1 ?_
        refine j_iload_n (pc := 31) hC 1 1 dX2_fault_31 rfl rfl ?_
        obtain ⟨v8, e9, h⟩ := jcl_some h
        refine j_vi (pc := 32) hC hR [.int u4] iy_X8_signAt (q := (RX8, TX8, 2)) (ci := 8) rfl rfl (by decide) km_X2_28 dX2_fault_32 rfl (by decide) (ly_2_2 hL ka0).2.1 (c_X8_signAt hL (ly_2_2 hL ka0).2.1 e9) (by decide) (Nat.le_of_ble_eq_true rfl) rfl ?_
        refine j_bipush (pc := 35) hC (33 : Int32) dX2_fault_35 (by decide) ?_
        obtain ⟨k12, e14, h⟩ := jbd_ex h
        have q13 : ∀ (t10 : Int32) (m11 : jM), k12 t10 m11 = some o → jJ X G 4 L 0 0 (jQM X G L (some (.int r)) μ' 0 0) 53 [(0, .ref (L.2.2 a0)), (2, .int u5)] [.int t10] m11 := by
          intro t10 m11 h
          rw [e14] at h
          try dsimp only at h
          refine j_istore_n (pc := 53) hC 3 [(3, .int t10), (0, .ref (L.2.2 a0)), (2, .int u5)] dX2_fault_53 rfl (by decide) rfl rfl ?_
          refine j_iload_n (pc := 54) hC 3 0 dX2_fault_54 rfl rfl ?_
          refine j_if_ge (pc := 55) hC 62 dX2_fault_55 (by decide) (fun c15 => ?_) (fun c15 => ?_)
          · rw [if_pos c15] at h
            refine j_iload_n (pc := 62) hC 3 0 dX2_fault_62 rfl rfl ?_
            refine j_aload_n (pc := 63) hC 0 1 dX2_fault_63 rfl rfl ?_
            refine jgr_2 (pc := 64) hC 2 (by decide) rfl kf_X2_15 dX2_fault_64 ka0 (ly_2_2 hL ka0).1 ?_
            refine jgi_8 (pc := 67) hC 1 (by decide) rfl kf_X2_23 dX2_fault_67 (ly_2_2 hL ka0).2.1 ?_
            refine j_icmp_ne (pc := 70) hC 75 dX2_fault_70 (by decide) (fun c16 => ?_) (fun c16 => ?_)
            · rw [if_neg c16] at h
              refine j_aload_n (pc := 75) hC 0 1 dX2_fault_75 rfl rfl ?_
              refine jgr_2 (pc := 76) hC 2 (by decide) rfl kf_X2_15 dX2_fault_76 ka0 (ly_2_2 hL ka0).1 ?_
              refine j_iload_n (pc := 79) hC 3 0 dX2_fault_79 rfl rfl ?_
              obtain ⟨v17, e18, h⟩ := jcl_some h
              refine j_vi (pc := 80) hC hR [.int t10] iy_X8_signAt (q := (RX8, TX8, 2)) (ci := 8) rfl rfl (by decide) km_X2_28 dX2_fault_80 rfl (by decide) (ly_2_2 hL ka0).2.1 (c_X8_signAt hL (ly_2_2 hL ka0).2.1 e18) (by decide) (Nat.le_of_ble_eq_true rfl) rfl ?_
              refine j_bipush (pc := 83) hC (44 : Int32) dX2_fault_83 (by decide) ?_
              refine j_icmp_eq (pc := 85) hC 90 dX2_fault_85 (by decide) (fun c19 => ?_) (fun c19 => ?_)
              · rw [if_pos c19] at h
                refine j_iload_n (pc := 90) hC 3 0 dX2_fault_90 rfl rfl ?_
                refine j_iconst (pc := 91) hC (1 : Int32) dX2_fault_91 (by decide) ?_
                refine j_iadd (pc := 92) hC dX2_fault_92 ?_
                refine j_istore_n (pc := 93) hC 1 [(1, .int (t10 + (1 : Int32))), (3, .int t10), (0, .ref (L.2.2 a0)), (2, .int u5)] dX2_fault_93 rfl (by decide) rfl rfl ?_
                refine j_iinc (pc := 94) hC 3 (u5 + (1 : Int32)) [(2, .int (u5 + (1 : Int32))), (1, .int (t10 + (1 : Int32))), (3, .int t10), (0, .ref (L.2.2 a0))] dX2_fault_94 rfl rfl (by decide) rfl ?_
                refine j_goto (pc := 97) hC 21 dX2_fault_97 (by decide) ?_
                obtain rfl := Option.some.inj h
                have hk : jJ X G 4 L 0 0 (jQM X G L (some (.int r)) μ' 0 0) 21 [(0, .ref (L.2.2 a0)), (1, .int (t10 + (1 : Int32))), (2, .int (u5 + (1 : Int32)))] [] m11 := hk
                exact j_lv [3, 1, 0] rfl hk
              · rw [if_neg c19] at h
                obtain rfl := Option.some.inj h
                have hk : jJ X G 4 L 0 0 (jQM X G L (some (.int r)) μ' 0 0) 88 [(3, .int t10)] [] m11 := hk
                exact j_lv [0] rfl hk
            · rw [if_pos c16] at h
              obtain rfl := Option.some.inj h
              have hk : jJ X G 4 L 0 0 (jQM X G L (some (.int r)) μ' 0 0) 73 [] [] m11 := hk
              exact j_lv [] rfl hk
          · rw [if_neg c15] at h
            obtain rfl := Option.some.inj h
            have hk : jJ X G 4 L 0 0 (jQM X G L (some (.int r)) μ' 0 0) 58 [(3, .int t10)] [] m11 := hk
            exact j_lv [0] rfl hk
        refine j_icmp_ne (pc := 37) hC 48 dX2_fault_37 (by decide) (fun c20 => ?_) (fun c20 => ?_)
        · rw [if_neg c20] at h
          refine j_aload_n (pc := 48) hC 0 0 dX2_fault_48 rfl rfl ?_
          refine j_iload_n (pc := 49) hC 1 1 dX2_fault_49 rfl rfl ?_
          obtain ⟨v21, m22, e23, h⟩ := jcl2_some h
          refine j_vi (pc := 50) hC hR [.int u4] iy_X2_readTwo (q := (RX2, TX2, 3)) (ci := 2) rfl rfl (by decide) km_X2_35 dX2_fault_50 rfl (by decide) ka0 (c_X2_readTwo hL ka0 e23) (by decide) (Nat.le_of_ble_eq_true rfl) rfl ?_
          exact j_lv [0, 2] rfl (q13 _ _ h)
        · rw [if_pos c20] at h
          refine j_aload_n (pc := 40) hC 0 0 dX2_fault_40 rfl rfl ?_
          refine j_iload_n (pc := 41) hC 1 1 dX2_fault_41 rfl rfl ?_
          obtain ⟨v24, m25, e26, h⟩ := jcl2_some h
          refine j_vi (pc := 42) hC hR [.int u4] iy_X2_readSet (q := (RX2, TX2, 3)) (ci := 2) rfl rfl (by decide) km_X2_32 dX2_fault_42 rfl (by decide) ka0 (c_X2_readSet hL ka0 e26) (by decide) (Nat.le_of_ble_eq_true rfl) rfl ?_
          refine j_goto (pc := 45) hC 53 dX2_fault_45 (by decide) ?_
          exact j_lv [0, 2] rfl (q13 _ _ h)
    · cases w27 with
      | inl w27 =>
        try dsimp only at h
        obtain ⟨z30, m31⟩ := w27
        try dsimp only at h
        show jJ X G 4 L 0 0 (jQM X G L (some (.int r)) μ' 0 0) 58 [(3, .int z30)] [] m31
        refine j_iconst (pc := 58) hC (-1 : Int32) dX2_fault_58 (by decide) ?_
        refine j_iload_n (pc := 59) hC 3 0 dX2_fault_59 rfl rfl ?_
        refine j_isub (pc := 60) hC dX2_fault_60 ?_
        obtain ⟨rfl, rfl⟩ := Prod.mk.inj (Option.some.inj h)
        exact j_iret (pc := 61) hC dX2_fault_61 rfl
      | inr w27 =>
        try dsimp only at h
        cases w27 with
        | inl w27 =>
          try dsimp only at h
          obtain ⟨m32, rfl⟩ : ∃ y, y = w27 := ⟨_, rfl⟩
          try dsimp only at h
          show jJ X G 4 L 0 0 (jQM X G L (some (.int r)) μ' 0 0) 73 [] [] m32
          refine j_iconst (pc := 73) hC (-1 : Int32) dX2_fault_73 (by decide) ?_
          obtain ⟨rfl, rfl⟩ := Prod.mk.inj (Option.some.inj h)
          exact j_iret (pc := 74) hC dX2_fault_74 rfl
        | inr w27 =>
          try dsimp only at h
          cases w27 with
          | inl w27 =>
            try dsimp only at h
            obtain ⟨z33, m34⟩ := w27
            try dsimp only at h
            show jJ X G 4 L 0 0 (jQM X G L (some (.int r)) μ' 0 0) 88 [(3, .int z33)] [] m34
            refine j_iload_n (pc := 88) hC 3 0 dX2_fault_88 rfl rfl ?_
            obtain ⟨rfl, rfl⟩ := Prod.mk.inj (Option.some.inj h)
            exact j_iret (pc := 89) hC dX2_fault_89 rfl
          | inr w27 =>
            try dsimp only at h
            obtain ⟨m35, rfl⟩ : ∃ y, y = w27 := ⟨_, rfl⟩
            try dsimp only at h
            show jJ X G 4 L 0 0 (jQM X G L (some (.int r)) μ' 0 0) 100 [] [] m35
            refine j_iconst (pc := 100) hC (-1 : Int32) dX2_fault_100 (by decide) ?_
            obtain ⟨rfl, rfl⟩ := Prod.mk.inj (Option.some.inj h)
            exact j_iret (pc := 101) hC dX2_fault_101 rfl
  · rw [if_pos c3] at h
    refine j_iconst (pc := 15) hC (-1 : Int32) dX2_fault_15 (by decide) ?_
    obtain ⟨rfl, rfl⟩ := Prod.mk.inj (Option.some.inj h)
    exact j_iret (pc := 16) hC dX2_fault_16 rfl
theorem dX3_empty_0 : decode cX3_empty 0 = .ok (.aload_n 0, 1) := by decide +kernel
theorem dX3_empty_1 : decode cX3_empty 1 = .ok (.iconst 0, 1) := by decide +kernel
theorem dX3_empty_2 : decode cX3_empty 2 = .ok (.putfield 15, 3) := by decide +kernel
theorem dX3_empty_5 : decode cX3_empty 5 = .ok (.return_, 1) := by decide +kernel
def f_X3_empty (a0 : Nat) (μ : jM) : jM :=
  jbd (jsi μ a0 1 (0 : Int32)) (fun m1 => m1)
set_option maxHeartbeats 4000000 in
set_option maxRecDepth 100000 in
theorem c_X3_empty {l : Launch} {G : jG} {L : jL} (hL : jOKL L) {a0 : Nat} (ka0 : jK L a0 3) {μ μ' : jM} (h : f_X3_empty a0 μ = μ') : jCt l G L 3 yX3_empty cX3_empty 1 none [.ref (L.2.2 a0)] μ none μ' := by
  refine jCt_of (by decide) (Nat.le_of_ble_eq_true rfl) (fun X hC hX hR => ?_)
  subst hX
  have hC : jC X G cX3_empty 1 RX3 none := hC
  unfold f_X3_empty at h
  show jJ X G 1 L 0 0 (jQM X G L none μ' 0 0) 0 [(0, .ref (L.2.2 a0))] [] μ
  refine j_aload_n (pc := 0) hC 0 0 dX3_empty_0 rfl rfl ?_
  refine j_iconst (pc := 1) hC (0 : Int32) dX3_empty_1 (by decide) ?_
  obtain ⟨m1, e2, h⟩ := jbd_ex h
  refine jpi_3 (pc := 2) hC 1 (by decide) rfl kf_X3_15 dX3_empty_2 rfl (by decide) ka0 e2 ?_
  subst h
  exact j_vret (pc := 5) hC dX3_empty_5 rfl
theorem dX3_tell_0 : decode cX3_tell 0 = .ok (.aload_n 0, 1) := by decide +kernel
theorem dX3_tell_1 : decode cX3_tell 1 = .ok (.getfield 15, 3) := by decide +kernel
theorem dX3_tell_4 : decode cX3_tell 4 = .ok (.aload_n 0, 1) := by decide +kernel
theorem dX3_tell_5 : decode cX3_tell 5 = .ok (.getfield 9, 3) := by decide +kernel
theorem dX3_tell_8 : decode cX3_tell 8 = .ok (.arraylength, 1) := by decide +kernel
theorem dX3_tell_9 : decode cX3_tell 9 = .ok (.if_icmp .ge 23, 3) := by decide +kernel
theorem dX3_tell_12 : decode cX3_tell 12 = .ok (.aload_n 0, 1) := by decide +kernel
theorem dX3_tell_13 : decode cX3_tell 13 = .ok (.getfield 9, 3) := by decide +kernel
theorem dX3_tell_16 : decode cX3_tell 16 = .ok (.aload_n 0, 1) := by decide +kernel
theorem dX3_tell_17 : decode cX3_tell 17 = .ok (.getfield 15, 3) := by decide +kernel
theorem dX3_tell_20 : decode cX3_tell 20 = .ok (.lload_n 1, 1) := by decide +kernel
theorem dX3_tell_21 : decode cX3_tell 21 = .ok (.lastore, 1) := by decide +kernel
theorem dX3_tell_22 : decode cX3_tell 22 = .ok (.aload_n 0, 1) := by decide +kernel
theorem dX3_tell_23 : decode cX3_tell 23 = .ok (.dup, 1) := by decide +kernel
theorem dX3_tell_24 : decode cX3_tell 24 = .ok (.getfield 15, 3) := by decide +kernel
theorem dX3_tell_27 : decode cX3_tell 27 = .ok (.iconst 1, 1) := by decide +kernel
theorem dX3_tell_28 : decode cX3_tell 28 = .ok (.iadd, 1) := by decide +kernel
theorem dX3_tell_29 : decode cX3_tell 29 = .ok (.putfield 15, 3) := by decide +kernel
theorem dX3_tell_32 : decode cX3_tell 32 = .ok (.return_, 1) := by decide +kernel
def f_X3_tell (a0 : Nat) (y1 : Int64) (μ : jM) : Option (jM) :=
  (if (nI 22) ≤ (μ.1 a0 1) then some μ else jin (μ.1 a0 1) 22 (jbd (jsl μ (a0 + 1) (μ.1 a0 1).toNatClampNeg y1) (fun m3 => jbd (jsi m3 a0 1 ((m3.1 a0 1) + (1 : Int32))) (fun m5 => some m5))))
set_option maxHeartbeats 4000000 in
set_option maxRecDepth 100000 in
theorem c_X3_tell {l : Launch} {G : jG} {L : jL} (hL : jOKL L) {a0 : Nat} {y1 : Int64} (ka0 : jK L a0 3) {μ μ' : jM} (h : f_X3_tell a0 y1 μ = some μ') : jCt l G L 3 yX3_tell cX3_tell 3 none [.ref (L.2.2 a0), .long y1] μ none μ' := by
  refine jCt_of (by decide) (Nat.le_of_ble_eq_true rfl) (fun X hC hX hR => ?_)
  subst hX
  have hC : jC X G cX3_tell 3 RX3 none := hC
  unfold f_X3_tell at h
  show jJ X G 3 L 0 0 (jQM X G L none μ' 0 0) 0 [(0, .ref (L.2.2 a0)), (1, .long y1)] [] μ
  refine j_aload_n (pc := 0) hC 0 0 dX3_tell_0 rfl rfl ?_
  refine jgi_3 (pc := 1) hC 1 (by decide) rfl kf_X3_15 dX3_tell_1 ka0 ?_
  refine j_aload_n (pc := 4) hC 0 0 dX3_tell_4 rfl rfl ?_
  refine jgr_3 (pc := 5) hC 0 (by decide) rfl kf_X3_9 dX3_tell_5 ka0 (ly_3_0 hL ka0).1 ?_
  refine j_alen (pc := 8) hC 1 dX3_tell_8 (ly_3_0 hL ka0).2.1 rfl (by decide) (ly_3_0 hL ka0).2.2 ?_
  refine j_icmp_ge (pc := 9) hC 32 dX3_tell_9 (by decide) (fun c1 => ?_) (fun c1 => ?_)
  · rw [if_pos c1] at h
    obtain rfl := Option.some.inj h
    exact j_vret (pc := 32) hC dX3_tell_32 rfl
  · rw [if_neg c1] at h
    refine j_aload_n (pc := 12) hC 0 0 dX3_tell_12 rfl rfl ?_
    refine jgr_3 (pc := 13) hC 0 (by decide) rfl kf_X3_9 dX3_tell_13 ka0 (ly_3_0 hL ka0).1 ?_
    refine j_aload_n (pc := 16) hC 0 0 dX3_tell_16 rfl rfl ?_
    refine jgi_3 (pc := 17) hC 1 (by decide) rfl kf_X3_15 dX3_tell_17 ka0 ?_
    refine j_lload_n (pc := 20) hC 1 1 dX3_tell_20 rfl rfl ?_
    obtain ⟨i2, h⟩ := jin_some h
    obtain ⟨m3, e4, h⟩ := jbd_ex h
    refine j_last (pc := 21) hC dX3_tell_21 (ly_3_0 hL ka0).2.1 (ly_3_0 hL ka0).2.2 i2 e4 ?_
    refine j_aload_n (pc := 22) hC 0 0 dX3_tell_22 rfl rfl ?_
    refine j_dup (pc := 23) hC dX3_tell_23 rfl ?_
    refine jgi_3 (pc := 24) hC 1 (by decide) rfl kf_X3_15 dX3_tell_24 ka0 ?_
    refine j_iconst (pc := 27) hC (1 : Int32) dX3_tell_27 (by decide) ?_
    refine j_iadd (pc := 28) hC dX3_tell_28 ?_
    obtain ⟨m5, e6, h⟩ := jbd_ex h
    refine jpi_3 (pc := 29) hC 1 (by decide) rfl kf_X3_15 dX3_tell_29 rfl (by decide) ka0 e6 ?_
    obtain rfl := Option.some.inj h
    exact j_vret (pc := 32) hC dX3_tell_32 rfl
theorem dX3_only_0 : decode cX3_only 0 = .ok (.aload_n 0, 1) := by decide +kernel
theorem dX3_only_1 : decode cX3_only 1 = .ok (.iconst 0, 1) := by decide +kernel
theorem dX3_only_2 : decode cX3_only 2 = .ok (.putfield 15, 3) := by decide +kernel
theorem dX3_only_5 : decode cX3_only 5 = .ok (.aload_n 0, 1) := by decide +kernel
theorem dX3_only_6 : decode cX3_only 6 = .ok (.lload_n 1, 1) := by decide +kernel
theorem dX3_only_7 : decode cX3_only 7 = .ok (.invokevirtual 19, 3) := by decide +kernel
theorem dX3_only_10 : decode cX3_only 10 = .ok (.return_, 1) := by decide +kernel
def f_X3_only (a0 : Nat) (y1 : Int64) (μ : jM) : Option (jM) :=
  jbd (jsi μ a0 1 (0 : Int32)) (fun m1 => jcl (f_X3_tell a0 y1 m1) (fun m3 => some m3))
set_option maxHeartbeats 4000000 in
set_option maxRecDepth 100000 in
theorem c_X3_only {l : Launch} {G : jG} {L : jL} (hL : jOKL L) {a0 : Nat} {y1 : Int64} (ka0 : jK L a0 3) {μ μ' : jM} (h : f_X3_only a0 y1 μ = some μ') : jCt l G L 4 yX3_only cX3_only 3 none [.ref (L.2.2 a0), .long y1] μ none μ' := by
  refine jCt_of (by decide) (Nat.le_of_ble_eq_true rfl) (fun X hC hX hR => ?_)
  subst hX
  have hC : jC X G cX3_only 3 RX3 none := hC
  unfold f_X3_only at h
  show jJ X G 3 L 0 0 (jQM X G L none μ' 0 0) 0 [(0, .ref (L.2.2 a0)), (1, .long y1)] [] μ
  refine j_aload_n (pc := 0) hC 0 0 dX3_only_0 rfl rfl ?_
  refine j_iconst (pc := 1) hC (0 : Int32) dX3_only_1 (by decide) ?_
  obtain ⟨m1, e2, h⟩ := jbd_ex h
  refine jpi_3 (pc := 2) hC 1 (by decide) rfl kf_X3_15 dX3_only_2 rfl (by decide) ka0 e2 ?_
  refine j_aload_n (pc := 5) hC 0 0 dX3_only_5 rfl rfl ?_
  refine j_lload_n (pc := 6) hC 1 1 dX3_only_6 rfl rfl ?_
  obtain ⟨m3, e4, h⟩ := jcl_some h
  refine j_vv (pc := 7) hC hR [.long y1] iy_X3_tell (q := (RX3, TX3, 2)) (ci := 3) rfl rfl (by decide) km_X3_19 dX3_only_7 rfl (by decide) ka0 (c_X3_tell hL ka0 e4) (by decide) (Nat.le_of_ble_eq_true rfl) rfl ?_
  obtain rfl := Option.some.inj h
  exact j_vret (pc := 10) hC dX3_only_10 rfl
theorem dX3_tellAll_0 : decode cX3_tellAll 0 = .ok (.aload_n 1, 1) := by decide +kernel
theorem dX3_tellAll_1 : decode cX3_tellAll 1 = .ok (.astore_n 2, 1) := by decide +kernel
theorem dX3_tellAll_2 : decode cX3_tellAll 2 = .ok (.aload_n 2, 1) := by decide +kernel
theorem dX3_tellAll_3 : decode cX3_tellAll 3 = .ok (.arraylength, 1) := by decide +kernel
theorem dX3_tellAll_4 : decode cX3_tellAll 4 = .ok (.istore_n 3, 1) := by decide +kernel
theorem dX3_tellAll_5 : decode cX3_tellAll 5 = .ok (.iconst 0, 1) := by decide +kernel
theorem dX3_tellAll_6 : decode cX3_tellAll 6 = .ok (.istore 4, 2) := by decide +kernel
theorem dX3_tellAll_8 : decode cX3_tellAll 8 = .ok (.iload 4, 2) := by decide +kernel
theorem dX3_tellAll_10 : decode cX3_tellAll 10 = .ok (.iload_n 3, 1) := by decide +kernel
theorem dX3_tellAll_11 : decode cX3_tellAll 11 = .ok (.if_icmp .ge 22, 3) := by decide +kernel
theorem dX3_tellAll_14 : decode cX3_tellAll 14 = .ok (.aload_n 2, 1) := by decide +kernel
theorem dX3_tellAll_15 : decode cX3_tellAll 15 = .ok (.iload 4, 2) := by decide +kernel
theorem dX3_tellAll_17 : decode cX3_tellAll 17 = .ok (.iaload, 1) := by decide +kernel
theorem dX3_tellAll_18 : decode cX3_tellAll 18 = .ok (.istore 5, 2) := by decide +kernel
theorem dX3_tellAll_20 : decode cX3_tellAll 20 = .ok (.aload_n 0, 1) := by decide +kernel
theorem dX3_tellAll_21 : decode cX3_tellAll 21 = .ok (.iload 5, 2) := by decide +kernel
theorem dX3_tellAll_23 : decode cX3_tellAll 23 = .ok (.i2l, 1) := by decide +kernel
theorem dX3_tellAll_24 : decode cX3_tellAll 24 = .ok (.invokevirtual 19, 3) := by decide +kernel
theorem dX3_tellAll_27 : decode cX3_tellAll 27 = .ok (.iinc 4 1, 3) := by decide +kernel
theorem dX3_tellAll_30 : decode cX3_tellAll 30 = .ok (.goto (-22), 3) := by decide +kernel
theorem dX3_tellAll_33 : decode cX3_tellAll 33 = .ok (.return_, 1) := by decide +kernel
def f_X3_tellAll_L8 (a0 : Nat) (a1 : Nat) (u1 : Int32) (m2 : jM) : Option ((Int32 × jM) ⊕ (jM)) :=
  (if (nI (jlen a1)) ≤ u1 then some (.inr m2) else jrd (m2.1 a1) u1 (jlen a1) (fun v5 => jcl (f_X3_tell a0 v5.toInt64 m2) (fun m7 => some (.inl ((u1 + (1 : Int32), m7))))))
def f_X3_tellAll (a0 : Nat) (a1 : Nat) (μ : jM) : Option (jM) :=
  jcl (jloop (fun (s : Int32 × jM) => f_X3_tellAll_L8 a0 a1 s.1 s.2) jfu (((0 : Int32), μ))) (fun w9 => some w9)
set_option maxHeartbeats 4000000 in
set_option maxRecDepth 100000 in
theorem c_X3_tellAll {l : Launch} {G : jG} {L : jL} (hL : jOKL L) {a0 : Nat} {a1 : Nat} (ka0 : jK L a0 3) (ka1 : jK L a1 13) {μ μ' : jM} (h : f_X3_tellAll a0 a1 μ = some μ') : jCt l G L 4 yX3_tellAll cX3_tellAll 6 none [.ref (L.2.2 a0), .ref (L.2.2 a1)] μ none μ' := by
  refine jCt_of (by decide) (Nat.le_of_ble_eq_true rfl) (fun X hC hX hR => ?_)
  subst hX
  have hC : jC X G cX3_tellAll 6 RX3 none := hC
  unfold f_X3_tellAll at h
  show jJ X G 6 L 0 0 (jQM X G L none μ' 0 0) 0 [(0, .ref (L.2.2 a0)), (1, .ref (L.2.2 a1))] [] μ
  refine j_aload_n (pc := 0) hC 1 1 dX3_tellAll_0 rfl rfl ?_
  refine j_astore_n (pc := 1) hC 2 [(2, .ref (L.2.2 a1)), (0, .ref (L.2.2 a0)), (1, .ref (L.2.2 a1))] dX3_tellAll_1 rfl (by decide) rfl rfl ?_
  refine j_aload_n (pc := 2) hC 2 0 dX3_tellAll_2 rfl rfl ?_
  refine j_alen (pc := 3) hC 0 dX3_tellAll_3 ka1 rfl (by decide) (jlen_ok hL _) ?_
  refine j_istore_n (pc := 4) hC 3 [(3, .int (nI (jlen a1))), (2, .ref (L.2.2 a1)), (0, .ref (L.2.2 a0)), (1, .ref (L.2.2 a1))] dX3_tellAll_4 rfl (by decide) rfl rfl ?_
  refine j_iconst (pc := 5) hC (0 : Int32) dX3_tellAll_5 (by decide) ?_
  refine j_istore (pc := 6) hC [(4, .int (0 : Int32)), (3, .int (nI (jlen a1))), (2, .ref (L.2.2 a1)), (0, .ref (L.2.2 a0)), (1, .ref (L.2.2 a1))] dX3_tellAll_6 (by decide) rfl rfl ?_
  obtain ⟨w9, hw10, h⟩ := jcl_some h
  refine j_lv [3, 2, 1, 0] rfl ?_
  refine j_loop (step := (fun (s : Int32 × jM) => f_X3_tellAll_L8 a0 a1 s.1 s.2)) (P := (fun (s : Int32 × jM) => jJ X G 6 L 0 0 (jQM X G L none μ' 0 0) 8 [(0, .ref (L.2.2 a0)), (2, .ref (L.2.2 a1)), (3, .int (nI (jlen a1))), (4, .int s.1)] [] s.2)) (R := (fun (e : jM) => jJ X G 6 L 0 0 (jQM X G L none μ' 0 0) 33 [] [] e)) ?_ jfu (((0 : Int32), μ)) w9 hw10 ?_
  · intro s11 o h hk
    obtain ⟨u1, m2⟩ := s11
    change f_X3_tellAll_L8 a0 a1 u1 m2 = some o at h
    unfold f_X3_tellAll_L8 at h
    show jJ X G 6 L 0 0 (jQM X G L none μ' 0 0) 8 [(0, .ref (L.2.2 a0)), (2, .ref (L.2.2 a1)), (3, .int (nI (jlen a1))), (4, .int u1)] [] m2
    refine j_iload (pc := 8) hC 3 dX3_tellAll_8 rfl ?_
    refine j_iload_n (pc := 10) hC 3 2 dX3_tellAll_10 rfl rfl ?_
    refine j_icmp_ge (pc := 11) hC 33 dX3_tellAll_11 (by decide) (fun c3 => ?_) (fun c3 => ?_)
    · rw [if_pos c3] at h
      obtain rfl := Option.some.inj h
      have hk : jJ X G 6 L 0 0 (jQM X G L none μ' 0 0) 33 [] [] m2 := hk
      exact j_lv [] rfl hk
    · rw [if_neg c3] at h
      refine j_aload_n (pc := 14) hC 2 1 dX3_tellAll_14 rfl rfl ?_
      refine j_iload (pc := 15) hC 3 dX3_tellAll_15 rfl ?_
      obtain ⟨i4, v5, e6, h⟩ := jrd_some h
      refine j_iald (pc := 17) hC dX3_tellAll_17 ka1 (jlen_ok hL _) i4 e6 ?_
      refine j_istore (pc := 18) hC [(5, .int v5), (0, .ref (L.2.2 a0)), (2, .ref (L.2.2 a1)), (3, .int (nI (jlen a1))), (4, .int u1)] dX3_tellAll_18 (by decide) rfl rfl ?_
      refine j_aload_n (pc := 20) hC 0 1 dX3_tellAll_20 rfl rfl ?_
      refine j_iload (pc := 21) hC 0 dX3_tellAll_21 rfl ?_
      refine j_i2l (pc := 23) hC dX3_tellAll_23 ?_
      obtain ⟨m7, e8, h⟩ := jcl_some h
      refine j_vv (pc := 24) hC hR [.long v5.toInt64] iy_X3_tell (q := (RX3, TX3, 2)) (ci := 3) rfl rfl (by decide) km_X3_19 dX3_tellAll_24 rfl (by decide) ka0 (c_X3_tell hL ka0 e8) (by decide) (Nat.le_of_ble_eq_true rfl) rfl ?_
      refine j_iinc (pc := 27) hC 4 (u1 + (1 : Int32)) [(4, .int (u1 + (1 : Int32))), (5, .int v5), (0, .ref (L.2.2 a0)), (2, .ref (L.2.2 a1)), (3, .int (nI (jlen a1)))] dX3_tellAll_27 rfl rfl (by decide) rfl ?_
      refine j_goto (pc := 30) hC 8 dX3_tellAll_30 (by decide) ?_
      obtain rfl := Option.some.inj h
      have hk : jJ X G 6 L 0 0 (jQM X G L none μ' 0 0) 8 [(0, .ref (L.2.2 a0)), (2, .ref (L.2.2 a1)), (3, .int (nI (jlen a1))), (4, .int (u1 + (1 : Int32)))] [] m7 := hk
      exact j_lv [2, 3, 4, 0] rfl hk
  · obtain ⟨m12, rfl⟩ : ∃ y, y = w9 := ⟨_, rfl⟩
    try dsimp only at h
    show jJ X G 6 L 0 0 (jQM X G L none μ' 0 0) 33 [] [] m12
    obtain rfl := Option.some.inj h
    exact j_vret (pc := 33) hC dX3_tellAll_33 rfl
theorem dX4_form_0 : decode cX4_form 0 = .ok (.iload_n 0, 1) := by decide +kernel
theorem dX4_form_1 : decode cX4_form 1 = .ok (.tableswitch 113 0 13 #[71, 74, 77, 80, 83, 86, 89, 92, 95, 98, 101, 104, 107, 110], 71) := by decide +kernel
theorem dX4_form_72 : decode cX4_form 72 = .ok (.ldc 27, 2) := by decide +kernel
theorem dX4_form_74 : decode cX4_form 74 = .ok (.areturn, 1) := by decide +kernel
theorem dX4_form_75 : decode cX4_form 75 = .ok (.ldc 29, 2) := by decide +kernel
theorem dX4_form_77 : decode cX4_form 77 = .ok (.areturn, 1) := by decide +kernel
theorem dX4_form_78 : decode cX4_form 78 = .ok (.ldc 31, 2) := by decide +kernel
theorem dX4_form_80 : decode cX4_form 80 = .ok (.areturn, 1) := by decide +kernel
theorem dX4_form_81 : decode cX4_form 81 = .ok (.ldc 33, 2) := by decide +kernel
theorem dX4_form_83 : decode cX4_form 83 = .ok (.areturn, 1) := by decide +kernel
theorem dX4_form_84 : decode cX4_form 84 = .ok (.ldc 35, 2) := by decide +kernel
theorem dX4_form_86 : decode cX4_form 86 = .ok (.areturn, 1) := by decide +kernel
theorem dX4_form_87 : decode cX4_form 87 = .ok (.ldc 37, 2) := by decide +kernel
theorem dX4_form_89 : decode cX4_form 89 = .ok (.areturn, 1) := by decide +kernel
theorem dX4_form_90 : decode cX4_form 90 = .ok (.ldc 39, 2) := by decide +kernel
theorem dX4_form_92 : decode cX4_form 92 = .ok (.areturn, 1) := by decide +kernel
theorem dX4_form_93 : decode cX4_form 93 = .ok (.ldc 41, 2) := by decide +kernel
theorem dX4_form_95 : decode cX4_form 95 = .ok (.areturn, 1) := by decide +kernel
theorem dX4_form_96 : decode cX4_form 96 = .ok (.ldc 43, 2) := by decide +kernel
theorem dX4_form_98 : decode cX4_form 98 = .ok (.areturn, 1) := by decide +kernel
theorem dX4_form_99 : decode cX4_form 99 = .ok (.ldc 45, 2) := by decide +kernel
theorem dX4_form_101 : decode cX4_form 101 = .ok (.areturn, 1) := by decide +kernel
theorem dX4_form_102 : decode cX4_form 102 = .ok (.ldc 47, 2) := by decide +kernel
theorem dX4_form_104 : decode cX4_form 104 = .ok (.areturn, 1) := by decide +kernel
theorem dX4_form_105 : decode cX4_form 105 = .ok (.ldc 49, 2) := by decide +kernel
theorem dX4_form_107 : decode cX4_form 107 = .ok (.areturn, 1) := by decide +kernel
theorem dX4_form_108 : decode cX4_form 108 = .ok (.ldc 51, 2) := by decide +kernel
theorem dX4_form_110 : decode cX4_form 110 = .ok (.areturn, 1) := by decide +kernel
theorem dX4_form_111 : decode cX4_form 111 = .ok (.ldc 53, 2) := by decide +kernel
theorem dX4_form_113 : decode cX4_form 113 = .ok (.areturn, 1) := by decide +kernel
theorem dX4_form_114 : decode cX4_form 114 = .ok (.ldc 55, 2) := by decide +kernel
theorem dX4_form_116 : decode cX4_form 116 = .ok (.areturn, 1) := by decide +kernel
def f_X4_form (x0 : Int32) : Nat :=
  (if x0 = (0 : Int32) then 0 else (if x0 = (1 : Int32) then 1 else (if x0 = (2 : Int32) then 2 else (if x0 = (3 : Int32) then 3 else (if x0 = (4 : Int32) then 4 else (if x0 = (5 : Int32) then 5 else (if x0 = (6 : Int32) then 6 else (if x0 = (7 : Int32) then 7 else (if x0 = (8 : Int32) then 8 else (if x0 = (9 : Int32) then 9 else (if x0 = (10 : Int32) then 10 else (if x0 = (11 : Int32) then 11 else (if x0 = (12 : Int32) then 12 else (if x0 = (13 : Int32) then 13 else 14))))))))))))))
set_option maxHeartbeats 4000000 in
set_option maxRecDepth 100000 in
theorem c_X4_form {l : Launch} {G : jG} {L : jL} (hL : jOKL L) {x0 : Int32}  {μ : jM} {r : Nat} (h : f_X4_form x0 = r) : jCt l G L 3 yX4_form cX4_form 1 (some (.object "java/lang/String")) [.int x0] μ (some (.ref (G.2.2.2.1 r))) μ := by
  refine jCt_of (by decide) (Nat.le_of_ble_eq_true rfl) (fun X hC hX hR => ?_)
  subst hX
  have hC : jC X G cX4_form 1 RX4 (some (.object "java/lang/String")) := hC
  unfold f_X4_form at h
  show jJ X G 1 L 0 0 (jQM X G L (some (.ref (G.2.2.2.1 r))) μ 0 0) 0 [(0, .int x0)] [] μ
  refine j_iload_n (pc := 0) hC 0 0 dX4_form_0 rfl rfl ?_
  by_cases c1 : x0 = (0 : Int32)
  · rw [if_pos c1] at h
    refine j_tableIn (pc := 1) hC 72 dX4_form_1 (by rw [c1]; decide) (by rw [c1]; decide) (by rw [c1]; rfl) (by decide) ?_
    refine j_ldcS (pc := 72) hC 0 ks_X4_27 dX4_form_72 ?_
    subst h
    exact j_aretS (pc := 74) hC dX4_form_74 rfl
  · rw [if_neg c1] at h
    by_cases c2 : x0 = (1 : Int32)
    · rw [if_pos c2] at h
      refine j_tableIn (pc := 1) hC 75 dX4_form_1 (by rw [c2]; decide) (by rw [c2]; decide) (by rw [c2]; rfl) (by decide) ?_
      refine j_ldcS (pc := 75) hC 1 ks_X4_29 dX4_form_75 ?_
      subst h
      exact j_aretS (pc := 77) hC dX4_form_77 rfl
    · rw [if_neg c2] at h
      by_cases c3 : x0 = (2 : Int32)
      · rw [if_pos c3] at h
        refine j_tableIn (pc := 1) hC 78 dX4_form_1 (by rw [c3]; decide) (by rw [c3]; decide) (by rw [c3]; rfl) (by decide) ?_
        refine j_ldcS (pc := 78) hC 2 ks_X4_31 dX4_form_78 ?_
        subst h
        exact j_aretS (pc := 80) hC dX4_form_80 rfl
      · rw [if_neg c3] at h
        by_cases c4 : x0 = (3 : Int32)
        · rw [if_pos c4] at h
          refine j_tableIn (pc := 1) hC 81 dX4_form_1 (by rw [c4]; decide) (by rw [c4]; decide) (by rw [c4]; rfl) (by decide) ?_
          refine j_ldcS (pc := 81) hC 3 ks_X4_33 dX4_form_81 ?_
          subst h
          exact j_aretS (pc := 83) hC dX4_form_83 rfl
        · rw [if_neg c4] at h
          by_cases c5 : x0 = (4 : Int32)
          · rw [if_pos c5] at h
            refine j_tableIn (pc := 1) hC 84 dX4_form_1 (by rw [c5]; decide) (by rw [c5]; decide) (by rw [c5]; rfl) (by decide) ?_
            refine j_ldcS (pc := 84) hC 4 ks_X4_35 dX4_form_84 ?_
            subst h
            exact j_aretS (pc := 86) hC dX4_form_86 rfl
          · rw [if_neg c5] at h
            by_cases c6 : x0 = (5 : Int32)
            · rw [if_pos c6] at h
              refine j_tableIn (pc := 1) hC 87 dX4_form_1 (by rw [c6]; decide) (by rw [c6]; decide) (by rw [c6]; rfl) (by decide) ?_
              refine j_ldcS (pc := 87) hC 5 ks_X4_37 dX4_form_87 ?_
              subst h
              exact j_aretS (pc := 89) hC dX4_form_89 rfl
            · rw [if_neg c6] at h
              by_cases c7 : x0 = (6 : Int32)
              · rw [if_pos c7] at h
                refine j_tableIn (pc := 1) hC 90 dX4_form_1 (by rw [c7]; decide) (by rw [c7]; decide) (by rw [c7]; rfl) (by decide) ?_
                refine j_ldcS (pc := 90) hC 6 ks_X4_39 dX4_form_90 ?_
                subst h
                exact j_aretS (pc := 92) hC dX4_form_92 rfl
              · rw [if_neg c7] at h
                by_cases c8 : x0 = (7 : Int32)
                · rw [if_pos c8] at h
                  refine j_tableIn (pc := 1) hC 93 dX4_form_1 (by rw [c8]; decide) (by rw [c8]; decide) (by rw [c8]; rfl) (by decide) ?_
                  refine j_ldcS (pc := 93) hC 7 ks_X4_41 dX4_form_93 ?_
                  subst h
                  exact j_aretS (pc := 95) hC dX4_form_95 rfl
                · rw [if_neg c8] at h
                  by_cases c9 : x0 = (8 : Int32)
                  · rw [if_pos c9] at h
                    refine j_tableIn (pc := 1) hC 96 dX4_form_1 (by rw [c9]; decide) (by rw [c9]; decide) (by rw [c9]; rfl) (by decide) ?_
                    refine j_ldcS (pc := 96) hC 8 ks_X4_43 dX4_form_96 ?_
                    subst h
                    exact j_aretS (pc := 98) hC dX4_form_98 rfl
                  · rw [if_neg c9] at h
                    by_cases c10 : x0 = (9 : Int32)
                    · rw [if_pos c10] at h
                      refine j_tableIn (pc := 1) hC 99 dX4_form_1 (by rw [c10]; decide) (by rw [c10]; decide) (by rw [c10]; rfl) (by decide) ?_
                      refine j_ldcS (pc := 99) hC 9 ks_X4_45 dX4_form_99 ?_
                      subst h
                      exact j_aretS (pc := 101) hC dX4_form_101 rfl
                    · rw [if_neg c10] at h
                      by_cases c11 : x0 = (10 : Int32)
                      · rw [if_pos c11] at h
                        refine j_tableIn (pc := 1) hC 102 dX4_form_1 (by rw [c11]; decide) (by rw [c11]; decide) (by rw [c11]; rfl) (by decide) ?_
                        refine j_ldcS (pc := 102) hC 10 ks_X4_47 dX4_form_102 ?_
                        subst h
                        exact j_aretS (pc := 104) hC dX4_form_104 rfl
                      · rw [if_neg c11] at h
                        by_cases c12 : x0 = (11 : Int32)
                        · rw [if_pos c12] at h
                          refine j_tableIn (pc := 1) hC 105 dX4_form_1 (by rw [c12]; decide) (by rw [c12]; decide) (by rw [c12]; rfl) (by decide) ?_
                          refine j_ldcS (pc := 105) hC 11 ks_X4_49 dX4_form_105 ?_
                          subst h
                          exact j_aretS (pc := 107) hC dX4_form_107 rfl
                        · rw [if_neg c12] at h
                          by_cases c13 : x0 = (12 : Int32)
                          · rw [if_pos c13] at h
                            refine j_tableIn (pc := 1) hC 108 dX4_form_1 (by rw [c13]; decide) (by rw [c13]; decide) (by rw [c13]; rfl) (by decide) ?_
                            refine j_ldcS (pc := 108) hC 12 ks_X4_51 dX4_form_108 ?_
                            subst h
                            exact j_aretS (pc := 110) hC dX4_form_110 rfl
                          · rw [if_neg c13] at h
                            by_cases c14 : x0 = (13 : Int32)
                            · rw [if_pos c14] at h
                              refine j_tableIn (pc := 1) hC 111 dX4_form_1 (by rw [c14]; decide) (by rw [c14]; decide) (by rw [c14]; rfl) (by decide) ?_
                              refine j_ldcS (pc := 111) hC 13 ks_X4_53 dX4_form_111 ?_
                              subst h
                              exact j_aretS (pc := 113) hC dX4_form_113 rfl
                            · rw [if_neg c14] at h
                              refine j_tableOut (pc := 1) hC 114 dX4_form_1 (by have := lv_neT c1 (show (0 : Int32).toInt = 0 by decide); have := lv_neT c2 (show (1 : Int32).toInt = 1 by decide); have := lv_neT c3 (show (2 : Int32).toInt = 2 by decide); have := lv_neT c4 (show (3 : Int32).toInt = 3 by decide); have := lv_neT c5 (show (4 : Int32).toInt = 4 by decide); have := lv_neT c6 (show (5 : Int32).toInt = 5 by decide); have := lv_neT c7 (show (6 : Int32).toInt = 6 by decide); have := lv_neT c8 (show (7 : Int32).toInt = 7 by decide); have := lv_neT c9 (show (8 : Int32).toInt = 8 by decide); have := lv_neT c10 (show (9 : Int32).toInt = 9 by decide); have := lv_neT c11 (show (10 : Int32).toInt = 10 by decide); have := lv_neT c12 (show (11 : Int32).toInt = 11 by decide); have := lv_neT c13 (show (12 : Int32).toInt = 12 by decide); have := lv_neT c14 (show (13 : Int32).toInt = 13 by decide); omega) (by decide) ?_
                              refine j_ldcS (pc := 114) hC 14 ks_X4_55 dX4_form_114 ?_
                              subst h
                              exact j_aretS (pc := 116) hC dX4_form_116 rfl
theorem jite_lt {c : Prop} [Decidable c] {a b n : Nat} (ha : a < n) (hb : b < n) : (if c then a else b) < n := by by_cases h : c <;> simp [h, ha, hb]
theorem kb_X4_form (x : Int32) : f_X4_form x < 26 := by
  unfold f_X4_form
  repeat (refine jite_lt (by decide) ?_)
  decide
theorem dX4_mayStand_0 : decode cX4_mayStand 0 = .ok (.iload_n 1, 1) := by decide +kernel
theorem dX4_mayStand_1 : decode cX4_mayStand 1 = .ok (.lookupswitch 115 #[(65, 43), (100, 79), (101, 97), (118, 61)], 43) := by decide +kernel
theorem dX4_mayStand_44 : decode cX4_mayStand 44 = .ok (.iload_n 0, 1) := by decide +kernel
theorem dX4_mayStand_45 : decode cX4_mayStand 45 = .ok (.bipush 65, 2) := by decide +kernel
theorem dX4_mayStand_47 : decode cX4_mayStand 47 = .ok (.if_icmp .lt 13, 3) := by decide +kernel
theorem dX4_mayStand_50 : decode cX4_mayStand 50 = .ok (.iload_n 0, 1) := by decide +kernel
theorem dX4_mayStand_51 : decode cX4_mayStand 51 = .ok (.bipush 70, 2) := by decide +kernel
theorem dX4_mayStand_53 : decode cX4_mayStand 53 = .ok (.if_icmp .gt 7, 3) := by decide +kernel
theorem dX4_mayStand_56 : decode cX4_mayStand 56 = .ok (.iconst 1, 1) := by decide +kernel
theorem dX4_mayStand_57 : decode cX4_mayStand 57 = .ok (.goto 4, 3) := by decide +kernel
theorem dX4_mayStand_60 : decode cX4_mayStand 60 = .ok (.iconst 0, 1) := by decide +kernel
theorem dX4_mayStand_61 : decode cX4_mayStand 61 = .ok (.ireturn, 1) := by decide +kernel
theorem dX4_mayStand_62 : decode cX4_mayStand 62 = .ok (.iload_n 0, 1) := by decide +kernel
theorem dX4_mayStand_63 : decode cX4_mayStand 63 = .ok (.bipush 118, 2) := by decide +kernel
theorem dX4_mayStand_65 : decode cX4_mayStand 65 = .ok (.if_icmp .lt 13, 3) := by decide +kernel
theorem dX4_mayStand_68 : decode cX4_mayStand 68 = .ok (.iload_n 0, 1) := by decide +kernel
theorem dX4_mayStand_69 : decode cX4_mayStand 69 = .ok (.bipush 122, 2) := by decide +kernel
theorem dX4_mayStand_71 : decode cX4_mayStand 71 = .ok (.if_icmp .gt 7, 3) := by decide +kernel
theorem dX4_mayStand_74 : decode cX4_mayStand 74 = .ok (.iconst 1, 1) := by decide +kernel
theorem dX4_mayStand_75 : decode cX4_mayStand 75 = .ok (.goto 4, 3) := by decide +kernel
theorem dX4_mayStand_78 : decode cX4_mayStand 78 = .ok (.iconst 0, 1) := by decide +kernel
theorem dX4_mayStand_79 : decode cX4_mayStand 79 = .ok (.ireturn, 1) := by decide +kernel
theorem dX4_mayStand_80 : decode cX4_mayStand 80 = .ok (.iload_n 0, 1) := by decide +kernel
theorem dX4_mayStand_81 : decode cX4_mayStand 81 = .ok (.bipush 48, 2) := by decide +kernel
theorem dX4_mayStand_83 : decode cX4_mayStand 83 = .ok (.if_icmp .lt 13, 3) := by decide +kernel
theorem dX4_mayStand_86 : decode cX4_mayStand 86 = .ok (.iload_n 0, 1) := by decide +kernel
theorem dX4_mayStand_87 : decode cX4_mayStand 87 = .ok (.bipush 57, 2) := by decide +kernel
theorem dX4_mayStand_89 : decode cX4_mayStand 89 = .ok (.if_icmp .gt 7, 3) := by decide +kernel
theorem dX4_mayStand_92 : decode cX4_mayStand 92 = .ok (.iconst 1, 1) := by decide +kernel
theorem dX4_mayStand_93 : decode cX4_mayStand 93 = .ok (.goto 4, 3) := by decide +kernel
theorem dX4_mayStand_96 : decode cX4_mayStand 96 = .ok (.iconst 0, 1) := by decide +kernel
theorem dX4_mayStand_97 : decode cX4_mayStand 97 = .ok (.ireturn, 1) := by decide +kernel
theorem dX4_mayStand_98 : decode cX4_mayStand 98 = .ok (.iload_n 0, 1) := by decide +kernel
theorem dX4_mayStand_99 : decode cX4_mayStand 99 = .ok (.bipush 48, 2) := by decide +kernel
theorem dX4_mayStand_101 : decode cX4_mayStand 101 = .ok (.if_icmp .lt 13, 3) := by decide +kernel
theorem dX4_mayStand_104 : decode cX4_mayStand 104 = .ok (.iload_n 0, 1) := by decide +kernel
theorem dX4_mayStand_105 : decode cX4_mayStand 105 = .ok (.bipush 53, 2) := by decide +kernel
theorem dX4_mayStand_107 : decode cX4_mayStand 107 = .ok (.if_icmp .gt 7, 3) := by decide +kernel
theorem dX4_mayStand_110 : decode cX4_mayStand 110 = .ok (.iconst 1, 1) := by decide +kernel
theorem dX4_mayStand_111 : decode cX4_mayStand 111 = .ok (.goto 4, 3) := by decide +kernel
theorem dX4_mayStand_114 : decode cX4_mayStand 114 = .ok (.iconst 0, 1) := by decide +kernel
theorem dX4_mayStand_115 : decode cX4_mayStand 115 = .ok (.ireturn, 1) := by decide +kernel
theorem dX4_mayStand_116 : decode cX4_mayStand 116 = .ok (.iload_n 0, 1) := by decide +kernel
theorem dX4_mayStand_117 : decode cX4_mayStand 117 = .ok (.iload_n 1, 1) := by decide +kernel
theorem dX4_mayStand_118 : decode cX4_mayStand 118 = .ok (.if_icmp .ne 7, 3) := by decide +kernel
theorem dX4_mayStand_121 : decode cX4_mayStand 121 = .ok (.iconst 1, 1) := by decide +kernel
theorem dX4_mayStand_122 : decode cX4_mayStand 122 = .ok (.goto 4, 3) := by decide +kernel
theorem dX4_mayStand_125 : decode cX4_mayStand 125 = .ok (.iconst 0, 1) := by decide +kernel
theorem dX4_mayStand_126 : decode cX4_mayStand 126 = .ok (.ireturn, 1) := by decide +kernel
def f_X4_mayStand (x0 : Int32) (x1 : Int32) : Int32 :=
  (if x1 = (65 : Int32) then (if x0 < (65 : Int32) then (0 : Int32) else (if (70 : Int32) < x0 then (0 : Int32) else (1 : Int32))) else (if x1 = (100 : Int32) then (if x0 < (48 : Int32) then (0 : Int32) else (if (57 : Int32) < x0 then (0 : Int32) else (1 : Int32))) else (if x1 = (101 : Int32) then (if x0 < (48 : Int32) then (0 : Int32) else (if (53 : Int32) < x0 then (0 : Int32) else (1 : Int32))) else (if x1 = (118 : Int32) then (if x0 < (118 : Int32) then (0 : Int32) else (if (122 : Int32) < x0 then (0 : Int32) else (1 : Int32))) else ((if x0 = x1 then (1 : Int32) else (0 : Int32))) &&& 1))))
set_option maxHeartbeats 4000000 in
set_option maxRecDepth 100000 in
theorem c_X4_mayStand {l : Launch} {G : jG} {L : jL} (hL : jOKL L) {x0 : Int32} {x1 : Int32}  {μ : jM} {r : Int32} (h : f_X4_mayStand x0 x1 = r) : jCt l G L 3 yX4_mayStand cX4_mayStand 2 (some .boolean) [.int x0, .int x1] μ (some (.int r)) μ := by
  refine jCt_of (by decide) (Nat.le_of_ble_eq_true rfl) (fun X hC hX hR => ?_)
  subst hX
  have hC : jC X G cX4_mayStand 2 RX4 (some .boolean) := hC
  unfold f_X4_mayStand at h
  show jJ X G 2 L 0 0 (jQM X G L (some (.int r)) μ 0 0) 0 [(0, .int x0), (1, .int x1)] [] μ
  refine j_iload_n (pc := 0) hC 1 1 dX4_mayStand_0 rfl rfl ?_
  by_cases c1 : x1 = (65 : Int32)
  · rw [if_pos c1] at h
    refine j_lookup (pc := 1) (off := 43) hC 44 dX4_mayStand_1 (by decide) (by rw [c1]; rfl) (by decide) ?_
    refine j_iload_n (pc := 44) hC 0 0 dX4_mayStand_44 rfl rfl ?_
    refine j_bipush (pc := 45) hC (65 : Int32) dX4_mayStand_45 (by decide) ?_
    refine j_icmp_lt (pc := 47) hC 60 dX4_mayStand_47 (by decide) (fun c2 => ?_) (fun c2 => ?_)
    · rw [if_pos c2] at h
      refine j_iconst (pc := 60) hC (0 : Int32) dX4_mayStand_60 (by decide) ?_
      subst h
      exact j_bret (pc := 61) hC dX4_mayStand_61 rfl rfl
    · rw [if_neg c2] at h
      refine j_iload_n (pc := 50) hC 0 0 dX4_mayStand_50 rfl rfl ?_
      refine j_bipush (pc := 51) hC (70 : Int32) dX4_mayStand_51 (by decide) ?_
      refine j_icmp_gt (pc := 53) hC 60 dX4_mayStand_53 (by decide) (fun c3 => ?_) (fun c3 => ?_)
      · rw [if_pos c3] at h
        refine j_iconst (pc := 60) hC (0 : Int32) dX4_mayStand_60 (by decide) ?_
        subst h
        exact j_bret (pc := 61) hC dX4_mayStand_61 rfl rfl
      · rw [if_neg c3] at h
        refine j_iconst (pc := 56) hC (1 : Int32) dX4_mayStand_56 (by decide) ?_
        refine j_goto (pc := 57) hC 61 dX4_mayStand_57 (by decide) ?_
        subst h
        exact j_bret (pc := 61) hC dX4_mayStand_61 rfl rfl
  · rw [if_neg c1] at h
    by_cases c4 : x1 = (100 : Int32)
    · rw [if_pos c4] at h
      refine j_lookup (pc := 1) (off := 79) hC 80 dX4_mayStand_1 (by decide) (by rw [c4]; rfl) (by decide) ?_
      refine j_iload_n (pc := 80) hC 0 0 dX4_mayStand_80 rfl rfl ?_
      refine j_bipush (pc := 81) hC (48 : Int32) dX4_mayStand_81 (by decide) ?_
      refine j_icmp_lt (pc := 83) hC 96 dX4_mayStand_83 (by decide) (fun c5 => ?_) (fun c5 => ?_)
      · rw [if_pos c5] at h
        refine j_iconst (pc := 96) hC (0 : Int32) dX4_mayStand_96 (by decide) ?_
        subst h
        exact j_bret (pc := 97) hC dX4_mayStand_97 rfl rfl
      · rw [if_neg c5] at h
        refine j_iload_n (pc := 86) hC 0 0 dX4_mayStand_86 rfl rfl ?_
        refine j_bipush (pc := 87) hC (57 : Int32) dX4_mayStand_87 (by decide) ?_
        refine j_icmp_gt (pc := 89) hC 96 dX4_mayStand_89 (by decide) (fun c6 => ?_) (fun c6 => ?_)
        · rw [if_pos c6] at h
          refine j_iconst (pc := 96) hC (0 : Int32) dX4_mayStand_96 (by decide) ?_
          subst h
          exact j_bret (pc := 97) hC dX4_mayStand_97 rfl rfl
        · rw [if_neg c6] at h
          refine j_iconst (pc := 92) hC (1 : Int32) dX4_mayStand_92 (by decide) ?_
          refine j_goto (pc := 93) hC 97 dX4_mayStand_93 (by decide) ?_
          subst h
          exact j_bret (pc := 97) hC dX4_mayStand_97 rfl rfl
    · rw [if_neg c4] at h
      by_cases c7 : x1 = (101 : Int32)
      · rw [if_pos c7] at h
        refine j_lookup (pc := 1) (off := 97) hC 98 dX4_mayStand_1 (by decide) (by rw [c7]; rfl) (by decide) ?_
        refine j_iload_n (pc := 98) hC 0 0 dX4_mayStand_98 rfl rfl ?_
        refine j_bipush (pc := 99) hC (48 : Int32) dX4_mayStand_99 (by decide) ?_
        refine j_icmp_lt (pc := 101) hC 114 dX4_mayStand_101 (by decide) (fun c8 => ?_) (fun c8 => ?_)
        · rw [if_pos c8] at h
          refine j_iconst (pc := 114) hC (0 : Int32) dX4_mayStand_114 (by decide) ?_
          subst h
          exact j_bret (pc := 115) hC dX4_mayStand_115 rfl rfl
        · rw [if_neg c8] at h
          refine j_iload_n (pc := 104) hC 0 0 dX4_mayStand_104 rfl rfl ?_
          refine j_bipush (pc := 105) hC (53 : Int32) dX4_mayStand_105 (by decide) ?_
          refine j_icmp_gt (pc := 107) hC 114 dX4_mayStand_107 (by decide) (fun c9 => ?_) (fun c9 => ?_)
          · rw [if_pos c9] at h
            refine j_iconst (pc := 114) hC (0 : Int32) dX4_mayStand_114 (by decide) ?_
            subst h
            exact j_bret (pc := 115) hC dX4_mayStand_115 rfl rfl
          · rw [if_neg c9] at h
            refine j_iconst (pc := 110) hC (1 : Int32) dX4_mayStand_110 (by decide) ?_
            refine j_goto (pc := 111) hC 115 dX4_mayStand_111 (by decide) ?_
            subst h
            exact j_bret (pc := 115) hC dX4_mayStand_115 rfl rfl
      · rw [if_neg c7] at h
        by_cases c10 : x1 = (118 : Int32)
        · rw [if_pos c10] at h
          refine j_lookup (pc := 1) (off := 61) hC 62 dX4_mayStand_1 (by decide) (by rw [c10]; rfl) (by decide) ?_
          refine j_iload_n (pc := 62) hC 0 0 dX4_mayStand_62 rfl rfl ?_
          refine j_bipush (pc := 63) hC (118 : Int32) dX4_mayStand_63 (by decide) ?_
          refine j_icmp_lt (pc := 65) hC 78 dX4_mayStand_65 (by decide) (fun c11 => ?_) (fun c11 => ?_)
          · rw [if_pos c11] at h
            refine j_iconst (pc := 78) hC (0 : Int32) dX4_mayStand_78 (by decide) ?_
            subst h
            exact j_bret (pc := 79) hC dX4_mayStand_79 rfl rfl
          · rw [if_neg c11] at h
            refine j_iload_n (pc := 68) hC 0 0 dX4_mayStand_68 rfl rfl ?_
            refine j_bipush (pc := 69) hC (122 : Int32) dX4_mayStand_69 (by decide) ?_
            refine j_icmp_gt (pc := 71) hC 78 dX4_mayStand_71 (by decide) (fun c12 => ?_) (fun c12 => ?_)
            · rw [if_pos c12] at h
              refine j_iconst (pc := 78) hC (0 : Int32) dX4_mayStand_78 (by decide) ?_
              subst h
              exact j_bret (pc := 79) hC dX4_mayStand_79 rfl rfl
            · rw [if_neg c12] at h
              refine j_iconst (pc := 74) hC (1 : Int32) dX4_mayStand_74 (by decide) ?_
              refine j_goto (pc := 75) hC 79 dX4_mayStand_75 (by decide) ?_
              subst h
              exact j_bret (pc := 79) hC dX4_mayStand_79 rfl rfl
        · rw [if_neg c10] at h
          refine j_lookup (pc := 1) (off := 115) hC 116 dX4_mayStand_1 (by decide) (by show Op.lookupswitch.offset [(65, 43), (100, 79), (101, 97), (118, 61)] 115 _ = _; rw [lv_osw (a := 65) (o := 43) c1 (by decide), lv_osw (a := 100) (o := 79) c4 (by decide), lv_osw (a := 101) (o := 97) c7 (by decide), lv_osw (a := 118) (o := 61) c10 (by decide)]; rfl) (by decide) ?_
          refine j_iload_n (pc := 116) hC 0 0 dX4_mayStand_116 rfl rfl ?_
          refine j_iload_n (pc := 117) hC 1 1 dX4_mayStand_117 rfl rfl ?_
          refine jmg (B := jJ X G 2 L 0 0 (jQM X G L (some (.int r)) μ 0 0) 126 [(0, .int x0), (1, .int x1)] [.int ((if x0 = x1 then (1 : Int32) else (0 : Int32)))] μ) (fun hj => ?_) ?_
          · refine j_icmp_ne (pc := 118) hC 125 dX4_mayStand_118 (by decide) (fun c13 => ?_) (fun c13 => ?_)
            · rw [if_neg c13] at hj
              refine j_iconst (pc := 125) hC (0 : Int32) dX4_mayStand_125 (by decide) ?_
              exact hj
            · rw [if_pos c13] at hj
              refine j_iconst (pc := 121) hC (1 : Int32) dX4_mayStand_121 (by decide) ?_
              refine j_goto (pc := 122) hC 126 dX4_mayStand_122 (by decide) ?_
              exact hj
          subst h
          exact j_bret (pc := 126) hC dX4_mayStand_126 rfl (j_nz _)
theorem dX4_isOpener_0 : decode cX4_isOpener 0 = .ok (.iload_n 0, 1) := by decide +kernel
theorem dX4_isOpener_1 : decode cX4_isOpener 1 = .ok (.bipush 40, 2) := by decide +kernel
theorem dX4_isOpener_3 : decode cX4_isOpener 3 = .ok (.if_icmp .eq 15, 3) := by decide +kernel
theorem dX4_isOpener_6 : decode cX4_isOpener 6 = .ok (.iload_n 0, 1) := by decide +kernel
theorem dX4_isOpener_7 : decode cX4_isOpener 7 = .ok (.bipush 91, 2) := by decide +kernel
theorem dX4_isOpener_9 : decode cX4_isOpener 9 = .ok (.if_icmp .eq 9, 3) := by decide +kernel
theorem dX4_isOpener_12 : decode cX4_isOpener 12 = .ok (.iload_n 0, 1) := by decide +kernel
theorem dX4_isOpener_13 : decode cX4_isOpener 13 = .ok (.bipush 123, 2) := by decide +kernel
theorem dX4_isOpener_15 : decode cX4_isOpener 15 = .ok (.if_icmp .ne 7, 3) := by decide +kernel
theorem dX4_isOpener_18 : decode cX4_isOpener 18 = .ok (.iconst 1, 1) := by decide +kernel
theorem dX4_isOpener_19 : decode cX4_isOpener 19 = .ok (.goto 4, 3) := by decide +kernel
theorem dX4_isOpener_22 : decode cX4_isOpener 22 = .ok (.iconst 0, 1) := by decide +kernel
theorem dX4_isOpener_23 : decode cX4_isOpener 23 = .ok (.ireturn, 1) := by decide +kernel
def f_X4_isOpener (x0 : Int32) : Int32 :=
  (if x0 = (40 : Int32) then (1 : Int32) else (if x0 = (91 : Int32) then (1 : Int32) else (if x0 = (123 : Int32) then (1 : Int32) else (0 : Int32))))
set_option maxHeartbeats 4000000 in
set_option maxRecDepth 100000 in
theorem c_X4_isOpener {l : Launch} {G : jG} {L : jL} (hL : jOKL L) {x0 : Int32}  {μ : jM} {r : Int32} (h : f_X4_isOpener x0 = r) : jCt l G L 3 yX4_isOpener cX4_isOpener 1 (some .boolean) [.int x0] μ (some (.int r)) μ := by
  refine jCt_of (by decide) (Nat.le_of_ble_eq_true rfl) (fun X hC hX hR => ?_)
  subst hX
  have hC : jC X G cX4_isOpener 1 RX4 (some .boolean) := hC
  unfold f_X4_isOpener at h
  show jJ X G 1 L 0 0 (jQM X G L (some (.int r)) μ 0 0) 0 [(0, .int x0)] [] μ
  refine j_iload_n (pc := 0) hC 0 0 dX4_isOpener_0 rfl rfl ?_
  refine j_bipush (pc := 1) hC (40 : Int32) dX4_isOpener_1 (by decide) ?_
  refine j_icmp_eq (pc := 3) hC 18 dX4_isOpener_3 (by decide) (fun c1 => ?_) (fun c1 => ?_)
  · rw [if_pos c1] at h
    refine j_iconst (pc := 18) hC (1 : Int32) dX4_isOpener_18 (by decide) ?_
    refine j_goto (pc := 19) hC 23 dX4_isOpener_19 (by decide) ?_
    subst h
    exact j_bret (pc := 23) hC dX4_isOpener_23 rfl rfl
  · rw [if_neg c1] at h
    refine j_iload_n (pc := 6) hC 0 0 dX4_isOpener_6 rfl rfl ?_
    refine j_bipush (pc := 7) hC (91 : Int32) dX4_isOpener_7 (by decide) ?_
    refine j_icmp_eq (pc := 9) hC 18 dX4_isOpener_9 (by decide) (fun c2 => ?_) (fun c2 => ?_)
    · rw [if_pos c2] at h
      refine j_iconst (pc := 18) hC (1 : Int32) dX4_isOpener_18 (by decide) ?_
      refine j_goto (pc := 19) hC 23 dX4_isOpener_19 (by decide) ?_
      subst h
      exact j_bret (pc := 23) hC dX4_isOpener_23 rfl rfl
    · rw [if_neg c2] at h
      refine j_iload_n (pc := 12) hC 0 0 dX4_isOpener_12 rfl rfl ?_
      refine j_bipush (pc := 13) hC (123 : Int32) dX4_isOpener_13 (by decide) ?_
      refine j_icmp_ne (pc := 15) hC 22 dX4_isOpener_15 (by decide) (fun c3 => ?_) (fun c3 => ?_)
      · rw [if_neg c3] at h
        refine j_iconst (pc := 22) hC (0 : Int32) dX4_isOpener_22 (by decide) ?_
        subst h
        exact j_bret (pc := 23) hC dX4_isOpener_23 rfl rfl
      · rw [if_pos c3] at h
        refine j_iconst (pc := 18) hC (1 : Int32) dX4_isOpener_18 (by decide) ?_
        refine j_goto (pc := 19) hC 23 dX4_isOpener_19 (by decide) ?_
        subst h
        exact j_bret (pc := 23) hC dX4_isOpener_23 rfl rfl
theorem dX4_isCloser_0 : decode cX4_isCloser 0 = .ok (.iload_n 0, 1) := by decide +kernel
theorem dX4_isCloser_1 : decode cX4_isCloser 1 = .ok (.bipush 41, 2) := by decide +kernel
theorem dX4_isCloser_3 : decode cX4_isCloser 3 = .ok (.if_icmp .eq 15, 3) := by decide +kernel
theorem dX4_isCloser_6 : decode cX4_isCloser 6 = .ok (.iload_n 0, 1) := by decide +kernel
theorem dX4_isCloser_7 : decode cX4_isCloser 7 = .ok (.bipush 93, 2) := by decide +kernel
theorem dX4_isCloser_9 : decode cX4_isCloser 9 = .ok (.if_icmp .eq 9, 3) := by decide +kernel
theorem dX4_isCloser_12 : decode cX4_isCloser 12 = .ok (.iload_n 0, 1) := by decide +kernel
theorem dX4_isCloser_13 : decode cX4_isCloser 13 = .ok (.bipush 125, 2) := by decide +kernel
theorem dX4_isCloser_15 : decode cX4_isCloser 15 = .ok (.if_icmp .ne 7, 3) := by decide +kernel
theorem dX4_isCloser_18 : decode cX4_isCloser 18 = .ok (.iconst 1, 1) := by decide +kernel
theorem dX4_isCloser_19 : decode cX4_isCloser 19 = .ok (.goto 4, 3) := by decide +kernel
theorem dX4_isCloser_22 : decode cX4_isCloser 22 = .ok (.iconst 0, 1) := by decide +kernel
theorem dX4_isCloser_23 : decode cX4_isCloser 23 = .ok (.ireturn, 1) := by decide +kernel
def f_X4_isCloser (x0 : Int32) : Int32 :=
  (if x0 = (41 : Int32) then (1 : Int32) else (if x0 = (93 : Int32) then (1 : Int32) else (if x0 = (125 : Int32) then (1 : Int32) else (0 : Int32))))
set_option maxHeartbeats 4000000 in
set_option maxRecDepth 100000 in
theorem c_X4_isCloser {l : Launch} {G : jG} {L : jL} (hL : jOKL L) {x0 : Int32}  {μ : jM} {r : Int32} (h : f_X4_isCloser x0 = r) : jCt l G L 3 yX4_isCloser cX4_isCloser 1 (some .boolean) [.int x0] μ (some (.int r)) μ := by
  refine jCt_of (by decide) (Nat.le_of_ble_eq_true rfl) (fun X hC hX hR => ?_)
  subst hX
  have hC : jC X G cX4_isCloser 1 RX4 (some .boolean) := hC
  unfold f_X4_isCloser at h
  show jJ X G 1 L 0 0 (jQM X G L (some (.int r)) μ 0 0) 0 [(0, .int x0)] [] μ
  refine j_iload_n (pc := 0) hC 0 0 dX4_isCloser_0 rfl rfl ?_
  refine j_bipush (pc := 1) hC (41 : Int32) dX4_isCloser_1 (by decide) ?_
  refine j_icmp_eq (pc := 3) hC 18 dX4_isCloser_3 (by decide) (fun c1 => ?_) (fun c1 => ?_)
  · rw [if_pos c1] at h
    refine j_iconst (pc := 18) hC (1 : Int32) dX4_isCloser_18 (by decide) ?_
    refine j_goto (pc := 19) hC 23 dX4_isCloser_19 (by decide) ?_
    subst h
    exact j_bret (pc := 23) hC dX4_isCloser_23 rfl rfl
  · rw [if_neg c1] at h
    refine j_iload_n (pc := 6) hC 0 0 dX4_isCloser_6 rfl rfl ?_
    refine j_bipush (pc := 7) hC (93 : Int32) dX4_isCloser_7 (by decide) ?_
    refine j_icmp_eq (pc := 9) hC 18 dX4_isCloser_9 (by decide) (fun c2 => ?_) (fun c2 => ?_)
    · rw [if_pos c2] at h
      refine j_iconst (pc := 18) hC (1 : Int32) dX4_isCloser_18 (by decide) ?_
      refine j_goto (pc := 19) hC 23 dX4_isCloser_19 (by decide) ?_
      subst h
      exact j_bret (pc := 23) hC dX4_isCloser_23 rfl rfl
    · rw [if_neg c2] at h
      refine j_iload_n (pc := 12) hC 0 0 dX4_isCloser_12 rfl rfl ?_
      refine j_bipush (pc := 13) hC (125 : Int32) dX4_isCloser_13 (by decide) ?_
      refine j_icmp_ne (pc := 15) hC 22 dX4_isCloser_15 (by decide) (fun c3 => ?_) (fun c3 => ?_)
      · rw [if_neg c3] at h
        refine j_iconst (pc := 22) hC (0 : Int32) dX4_isCloser_22 (by decide) ?_
        subst h
        exact j_bret (pc := 23) hC dX4_isCloser_23 rfl rfl
      · rw [if_pos c3] at h
        refine j_iconst (pc := 18) hC (1 : Int32) dX4_isCloser_18 (by decide) ?_
        refine j_goto (pc := 19) hC 23 dX4_isCloser_19 (by decide) ?_
        subst h
        exact j_bret (pc := 23) hC dX4_isCloser_23 rfl rfl
theorem dX4_belongs_0 : decode cX4_belongs 0 = .ok (.iload_n 1, 1) := by decide +kernel
theorem dX4_belongs_1 : decode cX4_belongs 1 = .ok (.lookupswitch 51 #[(40, 27), (91, 39)], 27) := by decide +kernel
theorem dX4_belongs_28 : decode cX4_belongs 28 = .ok (.iload_n 0, 1) := by decide +kernel
theorem dX4_belongs_29 : decode cX4_belongs 29 = .ok (.bipush 41, 2) := by decide +kernel
theorem dX4_belongs_31 : decode cX4_belongs 31 = .ok (.if_icmp .ne 7, 3) := by decide +kernel
theorem dX4_belongs_34 : decode cX4_belongs 34 = .ok (.iconst 1, 1) := by decide +kernel
theorem dX4_belongs_35 : decode cX4_belongs 35 = .ok (.goto 4, 3) := by decide +kernel
theorem dX4_belongs_38 : decode cX4_belongs 38 = .ok (.iconst 0, 1) := by decide +kernel
theorem dX4_belongs_39 : decode cX4_belongs 39 = .ok (.ireturn, 1) := by decide +kernel
theorem dX4_belongs_40 : decode cX4_belongs 40 = .ok (.iload_n 0, 1) := by decide +kernel
theorem dX4_belongs_41 : decode cX4_belongs 41 = .ok (.bipush 93, 2) := by decide +kernel
theorem dX4_belongs_43 : decode cX4_belongs 43 = .ok (.if_icmp .ne 7, 3) := by decide +kernel
theorem dX4_belongs_46 : decode cX4_belongs 46 = .ok (.iconst 1, 1) := by decide +kernel
theorem dX4_belongs_47 : decode cX4_belongs 47 = .ok (.goto 4, 3) := by decide +kernel
theorem dX4_belongs_50 : decode cX4_belongs 50 = .ok (.iconst 0, 1) := by decide +kernel
theorem dX4_belongs_51 : decode cX4_belongs 51 = .ok (.ireturn, 1) := by decide +kernel
theorem dX4_belongs_52 : decode cX4_belongs 52 = .ok (.iload_n 0, 1) := by decide +kernel
theorem dX4_belongs_53 : decode cX4_belongs 53 = .ok (.bipush 125, 2) := by decide +kernel
theorem dX4_belongs_55 : decode cX4_belongs 55 = .ok (.if_icmp .eq 9, 3) := by decide +kernel
theorem dX4_belongs_58 : decode cX4_belongs 58 = .ok (.iload_n 0, 1) := by decide +kernel
theorem dX4_belongs_59 : decode cX4_belongs 59 = .ok (.bipush 124, 2) := by decide +kernel
theorem dX4_belongs_61 : decode cX4_belongs 61 = .ok (.if_icmp .ne 7, 3) := by decide +kernel
theorem dX4_belongs_64 : decode cX4_belongs 64 = .ok (.iconst 1, 1) := by decide +kernel
theorem dX4_belongs_65 : decode cX4_belongs 65 = .ok (.goto 4, 3) := by decide +kernel
theorem dX4_belongs_68 : decode cX4_belongs 68 = .ok (.iconst 0, 1) := by decide +kernel
theorem dX4_belongs_69 : decode cX4_belongs 69 = .ok (.ireturn, 1) := by decide +kernel
def f_X4_belongs (x0 : Int32) (x1 : Int32) : Int32 :=
  (if x1 = (40 : Int32) then ((if x0 = (41 : Int32) then (1 : Int32) else (0 : Int32))) &&& 1 else (if x1 = (91 : Int32) then ((if x0 = (93 : Int32) then (1 : Int32) else (0 : Int32))) &&& 1 else (if x0 = (125 : Int32) then (1 : Int32) else (if x0 = (124 : Int32) then (1 : Int32) else (0 : Int32)))))
set_option maxHeartbeats 4000000 in
set_option maxRecDepth 100000 in
theorem c_X4_belongs {l : Launch} {G : jG} {L : jL} (hL : jOKL L) {x0 : Int32} {x1 : Int32}  {μ : jM} {r : Int32} (h : f_X4_belongs x0 x1 = r) : jCt l G L 3 yX4_belongs cX4_belongs 2 (some .boolean) [.int x0, .int x1] μ (some (.int r)) μ := by
  refine jCt_of (by decide) (Nat.le_of_ble_eq_true rfl) (fun X hC hX hR => ?_)
  subst hX
  have hC : jC X G cX4_belongs 2 RX4 (some .boolean) := hC
  unfold f_X4_belongs at h
  show jJ X G 2 L 0 0 (jQM X G L (some (.int r)) μ 0 0) 0 [(0, .int x0), (1, .int x1)] [] μ
  refine j_iload_n (pc := 0) hC 1 1 dX4_belongs_0 rfl rfl ?_
  by_cases c1 : x1 = (40 : Int32)
  · rw [if_pos c1] at h
    refine j_lookup (pc := 1) (off := 27) hC 28 dX4_belongs_1 (by decide) (by rw [c1]; rfl) (by decide) ?_
    refine j_iload_n (pc := 28) hC 0 0 dX4_belongs_28 rfl rfl ?_
    refine j_bipush (pc := 29) hC (41 : Int32) dX4_belongs_29 (by decide) ?_
    refine jmg (B := jJ X G 2 L 0 0 (jQM X G L (some (.int r)) μ 0 0) 39 [(0, .int x0), (1, .int x1)] [.int ((if x0 = (41 : Int32) then (1 : Int32) else (0 : Int32)))] μ) (fun hj => ?_) ?_
    · refine j_icmp_ne (pc := 31) hC 38 dX4_belongs_31 (by decide) (fun c2 => ?_) (fun c2 => ?_)
      · rw [if_neg c2] at hj
        refine j_iconst (pc := 38) hC (0 : Int32) dX4_belongs_38 (by decide) ?_
        exact hj
      · rw [if_pos c2] at hj
        refine j_iconst (pc := 34) hC (1 : Int32) dX4_belongs_34 (by decide) ?_
        refine j_goto (pc := 35) hC 39 dX4_belongs_35 (by decide) ?_
        exact hj
    subst h
    exact j_bret (pc := 39) hC dX4_belongs_39 rfl (j_nz _)
  · rw [if_neg c1] at h
    by_cases c3 : x1 = (91 : Int32)
    · rw [if_pos c3] at h
      refine j_lookup (pc := 1) (off := 39) hC 40 dX4_belongs_1 (by decide) (by rw [c3]; rfl) (by decide) ?_
      refine j_iload_n (pc := 40) hC 0 0 dX4_belongs_40 rfl rfl ?_
      refine j_bipush (pc := 41) hC (93 : Int32) dX4_belongs_41 (by decide) ?_
      refine jmg (B := jJ X G 2 L 0 0 (jQM X G L (some (.int r)) μ 0 0) 51 [(0, .int x0), (1, .int x1)] [.int ((if x0 = (93 : Int32) then (1 : Int32) else (0 : Int32)))] μ) (fun hj => ?_) ?_
      · refine j_icmp_ne (pc := 43) hC 50 dX4_belongs_43 (by decide) (fun c4 => ?_) (fun c4 => ?_)
        · rw [if_neg c4] at hj
          refine j_iconst (pc := 50) hC (0 : Int32) dX4_belongs_50 (by decide) ?_
          exact hj
        · rw [if_pos c4] at hj
          refine j_iconst (pc := 46) hC (1 : Int32) dX4_belongs_46 (by decide) ?_
          refine j_goto (pc := 47) hC 51 dX4_belongs_47 (by decide) ?_
          exact hj
      subst h
      exact j_bret (pc := 51) hC dX4_belongs_51 rfl (j_nz _)
    · rw [if_neg c3] at h
      refine j_lookup (pc := 1) (off := 51) hC 52 dX4_belongs_1 (by decide) (by show Op.lookupswitch.offset [(40, 27), (91, 39)] 51 _ = _; rw [lv_osw (a := 40) (o := 27) c1 (by decide), lv_osw (a := 91) (o := 39) c3 (by decide)]; rfl) (by decide) ?_
      refine j_iload_n (pc := 52) hC 0 0 dX4_belongs_52 rfl rfl ?_
      refine j_bipush (pc := 53) hC (125 : Int32) dX4_belongs_53 (by decide) ?_
      refine j_icmp_eq (pc := 55) hC 64 dX4_belongs_55 (by decide) (fun c5 => ?_) (fun c5 => ?_)
      · rw [if_pos c5] at h
        refine j_iconst (pc := 64) hC (1 : Int32) dX4_belongs_64 (by decide) ?_
        refine j_goto (pc := 65) hC 69 dX4_belongs_65 (by decide) ?_
        subst h
        exact j_bret (pc := 69) hC dX4_belongs_69 rfl rfl
      · rw [if_neg c5] at h
        refine j_iload_n (pc := 58) hC 0 0 dX4_belongs_58 rfl rfl ?_
        refine j_bipush (pc := 59) hC (124 : Int32) dX4_belongs_59 (by decide) ?_
        refine j_icmp_ne (pc := 61) hC 68 dX4_belongs_61 (by decide) (fun c6 => ?_) (fun c6 => ?_)
        · rw [if_neg c6] at h
          refine j_iconst (pc := 68) hC (0 : Int32) dX4_belongs_68 (by decide) ?_
          subst h
          exact j_bret (pc := 69) hC dX4_belongs_69 rfl rfl
        · rw [if_pos c6] at h
          refine j_iconst (pc := 64) hC (1 : Int32) dX4_belongs_64 (by decide) ?_
          refine j_goto (pc := 65) hC 69 dX4_belongs_65 (by decide) ?_
          subst h
          exact j_bret (pc := 69) hC dX4_belongs_69 rfl rfl
theorem dX4_signsOf_0 : decode cX4_signsOf 0 = .ok (.iload_n 1, 1) := by decide +kernel
theorem dX4_signsOf_1 : decode cX4_signsOf 1 = .ok (.invokestatic 57, 3) := by decide +kernel
theorem dX4_signsOf_4 : decode cX4_signsOf 4 = .ok (.astore_n 3, 1) := by decide +kernel
theorem dX4_signsOf_5 : decode cX4_signsOf 5 = .ok (.iconst 0, 1) := by decide +kernel
theorem dX4_signsOf_6 : decode cX4_signsOf 6 = .ok (.istore 4, 2) := by decide +kernel
theorem dX4_signsOf_8 : decode cX4_signsOf 8 = .ok (.iload 4, 2) := by decide +kernel
theorem dX4_signsOf_10 : decode cX4_signsOf 10 = .ok (.aload_n 3, 1) := by decide +kernel
theorem dX4_signsOf_11 : decode cX4_signsOf 11 = .ok (.invokevirtual 61, 3) := by decide +kernel
theorem dX4_signsOf_14 : decode cX4_signsOf 14 = .ok (.if_icmp .ge 32, 3) := by decide +kernel
theorem dX4_signsOf_17 : decode cX4_signsOf 17 = .ok (.aload_n 0, 1) := by decide +kernel
theorem dX4_signsOf_18 : decode cX4_signsOf 18 = .ok (.getfield 19, 3) := by decide +kernel
theorem dX4_signsOf_21 : decode cX4_signsOf 21 = .ok (.iload_n 2, 1) := by decide +kernel
theorem dX4_signsOf_22 : decode cX4_signsOf 22 = .ok (.iload 4, 2) := by decide +kernel
theorem dX4_signsOf_24 : decode cX4_signsOf 24 = .ok (.iadd, 1) := by decide +kernel
theorem dX4_signsOf_25 : decode cX4_signsOf 25 = .ok (.invokevirtual 67, 3) := by decide +kernel
theorem dX4_signsOf_28 : decode cX4_signsOf 28 = .ok (.aload_n 3, 1) := by decide +kernel
theorem dX4_signsOf_29 : decode cX4_signsOf 29 = .ok (.iload 4, 2) := by decide +kernel
theorem dX4_signsOf_31 : decode cX4_signsOf 31 = .ok (.invokevirtual 73, 3) := by decide +kernel
theorem dX4_signsOf_34 : decode cX4_signsOf 34 = .ok (.invokestatic 77, 3) := by decide +kernel
theorem dX4_signsOf_37 : decode cX4_signsOf 37 = .ok (.ifCond .eq 9, 3) := by decide +kernel
theorem dX4_signsOf_40 : decode cX4_signsOf 40 = .ok (.iinc 4 1, 3) := by decide +kernel
theorem dX4_signsOf_43 : decode cX4_signsOf 43 = .ok (.goto (-35), 3) := by decide +kernel
theorem dX4_signsOf_46 : decode cX4_signsOf 46 = .ok (.iload 4, 2) := by decide +kernel
theorem dX4_signsOf_48 : decode cX4_signsOf 48 = .ok (.ireturn, 1) := by decide +kernel
def f_X4_signsOf_L8 (x1 : Int32) (x2 : Int32) (μ : jM) (u1 : Int32) : Option ((Int32) ⊕ (Int32)) :=
  (if (jsLn (f_X4_form x1)) ≤ u1 then some (.inr u1) else jcl (f_X8_signAt 1 (x2 + u1) μ) (fun v3 => jrd (jsCh (f_X4_form x1)) u1 (jsLen.getD (f_X4_form x1) 0) (fun v6 => (if (f_X4_mayStand v3 v6) = (0 : Int32) then some (.inr u1) else some (.inl (u1 + (1 : Int32)))))))
def f_X4_signsOf (a0 : Nat) (x1 : Int32) (x2 : Int32) (μ : jM) : Option (Int32) :=
  jcl (jloop (fun (s : Int32) => f_X4_signsOf_L8 x1 x2 μ s) jfu (0 : Int32)) (fun w9 => some w9)
set_option maxHeartbeats 4000000 in
set_option maxRecDepth 100000 in
theorem c_X4_signsOf {l : Launch} {G : jG} {L : jL} (hL : jOKL L) {a0 : Nat} {x1 : Int32} {x2 : Int32} (ka0 : jK L a0 4) {μ : jM} {r : Int32} (h : f_X4_signsOf a0 x1 x2 μ = some r) : jCt l G L 7 yX4_signsOf cX4_signsOf 5 (some .int) [.ref (L.2.2 a0), .int x1, .int x2] μ (some (.int r)) μ := by
  refine jCt_of (by decide) (Nat.le_of_ble_eq_true rfl) (fun X hC hX hR => ?_)
  subst hX
  have hC : jC X G cX4_signsOf 5 RX4 (some .int) := hC
  unfold f_X4_signsOf at h
  show jJ X G 5 L 0 0 (jQM X G L (some (.int r)) μ 0 0) 0 [(0, .ref (L.2.2 a0)), (1, .int x1), (2, .int x2)] [] μ
  refine j_iload_n (pc := 0) hC 1 1 dX4_signsOf_0 rfl rfl ?_
  refine j_sr (pc := 1) hC hR [.int x1] iy_X4_form km_X4_57 dX4_signsOf_1 rfl (by decide) (c_X4_form hL  rfl) (by decide) (Nat.le_of_ble_eq_true rfl) rfl ?_
  refine j_astore_n (pc := 4) hC 3 [(3, .ref (G.2.2.2.1 (f_X4_form x1))), (0, .ref (L.2.2 a0)), (1, .int x1), (2, .int x2)] dX4_signsOf_4 rfl (by decide) rfl rfl ?_
  refine j_iconst (pc := 5) hC (0 : Int32) dX4_signsOf_5 (by decide) ?_
  refine j_istore (pc := 6) hC [(4, .int (0 : Int32)), (3, .ref (G.2.2.2.1 (f_X4_form x1))), (0, .ref (L.2.2 a0)), (1, .int x1), (2, .int x2)] dX4_signsOf_6 (by decide) rfl rfl ?_
  obtain ⟨w9, hw10, h⟩ := jcl_some h
  refine j_lv [2, 4, 1, 0] rfl ?_
  refine j_loop (step := (fun (s : Int32) => f_X4_signsOf_L8 x1 x2 μ s)) (P := (fun (s : Int32) => jJ X G 5 L 0 0 (jQM X G L (some (.int r)) μ 0 0) 8 [(0, .ref (L.2.2 a0)), (2, .int x2), (3, .ref (G.2.2.2.1 (f_X4_form x1))), (4, .int s)] [] μ)) (R := (fun (e : Int32) => jJ X G 5 L 0 0 (jQM X G L (some (.int r)) μ 0 0) 46 [(4, .int e)] [] μ)) ?_ jfu (0 : Int32) w9 hw10 ?_
  · intro u1 o h hk
    change f_X4_signsOf_L8 x1 x2 μ u1 = some o at h
    unfold f_X4_signsOf_L8 at h
    show jJ X G 5 L 0 0 (jQM X G L (some (.int r)) μ 0 0) 8 [(0, .ref (L.2.2 a0)), (2, .int x2), (3, .ref (G.2.2.2.1 (f_X4_form x1))), (4, .int u1)] [] μ
    refine j_iload (pc := 8) hC 3 dX4_signsOf_8 rfl ?_
    refine j_aload_n (pc := 10) hC 3 2 dX4_signsOf_10 rfl rfl ?_
    refine j_slen (pc := 11) hC hR kw_X4_61 dX4_signsOf_11 (kb_X4_form _) (by decide) (Nat.le_of_ble_eq_true rfl) ?_
    refine j_icmp_ge (pc := 14) hC 46 dX4_signsOf_14 (by decide) (fun c2 => ?_) (fun c2 => ?_)
    · rw [if_pos c2] at h
      obtain rfl := Option.some.inj h
      have hk : jJ X G 5 L 0 0 (jQM X G L (some (.int r)) μ 0 0) 46 [(4, .int u1)] [] μ := hk
      exact j_lv [3] rfl hk
    · rw [if_neg c2] at h
      refine j_aload_n (pc := 17) hC 0 0 dX4_signsOf_17 rfl rfl ?_
      refine jgr_4 (pc := 18) hC 1 (by decide) rfl kf_X4_19 dX4_signsOf_18 ka0 (ly_4_1 hL ka0).1 ?_
      refine j_iload_n (pc := 21) hC 2 1 dX4_signsOf_21 rfl rfl ?_
      refine j_iload (pc := 22) hC 3 dX4_signsOf_22 rfl ?_
      refine j_iadd (pc := 24) hC dX4_signsOf_24 ?_
      obtain ⟨v3, e4, h⟩ := jcl_some h
      refine j_vi (pc := 25) hC hR [.int (x2 + u1)] iy_X8_signAt (q := (RX8, TX8, 2)) (ci := 8) rfl rfl (by decide) km_X4_67 dX4_signsOf_25 rfl (by decide) (ly_4_1 hL ka0).2.1 (c_X8_signAt hL (ly_4_1 hL ka0).2.1 e4) (by decide) (Nat.le_of_ble_eq_true rfl) rfl ?_
      refine j_aload_n (pc := 28) hC 3 2 dX4_signsOf_28 rfl rfl ?_
      refine j_iload (pc := 29) hC 3 dX4_signsOf_29 rfl ?_
      obtain ⟨i5, v6, e7, h⟩ := jrd_some h
      refine j_schar (pc := 31) hC hR kw_X4_73 dX4_signsOf_31 (kb_X4_form _) i5 e7 (by decide) (Nat.le_of_ble_eq_true rfl) ?_
      refine j_si (pc := 34) hC hR [.int v3, .int v6] iy_X4_mayStand km_X4_77 dX4_signsOf_34 rfl (by decide) (c_X4_mayStand hL  rfl) (by decide) (Nat.le_of_ble_eq_true rfl) rfl ?_
      refine j_if_eq (pc := 37) hC 46 dX4_signsOf_37 (by decide) (fun c8 => ?_) (fun c8 => ?_)
      · rw [if_pos c8] at h
        obtain rfl := Option.some.inj h
        have hk : jJ X G 5 L 0 0 (jQM X G L (some (.int r)) μ 0 0) 46 [(4, .int u1)] [] μ := hk
        exact j_lv [3] rfl hk
      · rw [if_neg c8] at h
        refine j_iinc (pc := 40) hC 3 (u1 + (1 : Int32)) [(4, .int (u1 + (1 : Int32))), (0, .ref (L.2.2 a0)), (2, .int x2), (3, .ref (G.2.2.2.1 (f_X4_form x1)))] dX4_signsOf_40 rfl rfl (by decide) rfl ?_
        refine j_goto (pc := 43) hC 8 dX4_signsOf_43 (by decide) ?_
        obtain rfl := Option.some.inj h
        have hk : jJ X G 5 L 0 0 (jQM X G L (some (.int r)) μ 0 0) 8 [(0, .ref (L.2.2 a0)), (2, .int x2), (3, .ref (G.2.2.2.1 (f_X4_form x1))), (4, .int (u1 + (1 : Int32)))] [] μ := hk
        exact j_lv [1, 2, 3, 0] rfl hk
  · obtain ⟨z12, rfl⟩ : ∃ y, y = w9 := ⟨_, rfl⟩
    try dsimp only at h
    show jJ X G 5 L 0 0 (jQM X G L (some (.int r)) μ 0 0) 46 [(4, .int z12)] [] μ
    refine j_iload (pc := 46) hC 0 dX4_signsOf_46 rfl ?_
    obtain rfl := Option.some.inj h
    exact j_iret (pc := 48) hC dX4_signsOf_48 rfl
theorem dX4_actAt_0 : decode cX4_actAt 0 = .ok (.iconst 0, 1) := by decide +kernel
theorem dX4_actAt_1 : decode cX4_actAt 1 = .ok (.istore_n 2, 1) := by decide +kernel
theorem dX4_actAt_2 : decode cX4_actAt 2 = .ok (.iload_n 2, 1) := by decide +kernel
theorem dX4_actAt_3 : decode cX4_actAt 3 = .ok (.bipush 15, 2) := by decide +kernel
theorem dX4_actAt_5 : decode cX4_actAt 5 = .ok (.if_icmp .ge 27, 3) := by decide +kernel
theorem dX4_actAt_8 : decode cX4_actAt 8 = .ok (.aload_n 0, 1) := by decide +kernel
theorem dX4_actAt_9 : decode cX4_actAt 9 = .ok (.iload_n 2, 1) := by decide +kernel
theorem dX4_actAt_10 : decode cX4_actAt 10 = .ok (.iload_n 1, 1) := by decide +kernel
theorem dX4_actAt_11 : decode cX4_actAt 11 = .ok (.invokevirtual 81, 3) := by decide +kernel
theorem dX4_actAt_14 : decode cX4_actAt 14 = .ok (.iload_n 2, 1) := by decide +kernel
theorem dX4_actAt_15 : decode cX4_actAt 15 = .ok (.invokestatic 57, 3) := by decide +kernel
theorem dX4_actAt_18 : decode cX4_actAt 18 = .ok (.invokevirtual 61, 3) := by decide +kernel
theorem dX4_actAt_21 : decode cX4_actAt 21 = .ok (.if_icmp .ne 5, 3) := by decide +kernel
theorem dX4_actAt_24 : decode cX4_actAt 24 = .ok (.iload_n 2, 1) := by decide +kernel
theorem dX4_actAt_25 : decode cX4_actAt 25 = .ok (.ireturn, 1) := by decide +kernel
theorem dX4_actAt_26 : decode cX4_actAt 26 = .ok (.iinc 2 1, 3) := by decide +kernel
theorem dX4_actAt_29 : decode cX4_actAt 29 = .ok (.goto (-27), 3) := by decide +kernel
theorem dX4_actAt_32 : decode cX4_actAt 32 = .ok (.iconst (-1), 1) := by decide +kernel
theorem dX4_actAt_33 : decode cX4_actAt 33 = .ok (.ireturn, 1) := by decide +kernel
def f_X4_actAt_L2 (a0 : Nat) (x1 : Int32) (μ : jM) (u1 : Int32) : Option ((Int32) ⊕ ((Int32) ⊕ (Unit))) :=
  (if (15 : Int32) ≤ u1 then some (.inr (.inr (()))) else jcl (f_X4_signsOf a0 u1 x1 μ) (fun v3 => (if v3 = (jsLn (f_X4_form u1)) then some (.inr (.inl u1)) else some (.inl (u1 + (1 : Int32))))))
def f_X4_actAt (a0 : Nat) (x1 : Int32) (μ : jM) : Option (Int32) :=
  jcl (jloop (fun (s : Int32) => f_X4_actAt_L2 a0 x1 μ s) jfu (0 : Int32)) (fun w6 => match w6 with | .inl w6 => some w6 | .inr w6 => some (-1 : Int32))
set_option maxHeartbeats 4000000 in
set_option maxRecDepth 100000 in
theorem c_X4_actAt {l : Launch} {G : jG} {L : jL} (hL : jOKL L) {a0 : Nat} {x1 : Int32} (ka0 : jK L a0 4) {μ : jM} {r : Int32} (h : f_X4_actAt a0 x1 μ = some r) : jCt l G L 8 yX4_actAt cX4_actAt 3 (some .int) [.ref (L.2.2 a0), .int x1] μ (some (.int r)) μ := by
  refine jCt_of (by decide) (Nat.le_of_ble_eq_true rfl) (fun X hC hX hR => ?_)
  subst hX
  have hC : jC X G cX4_actAt 3 RX4 (some .int) := hC
  unfold f_X4_actAt at h
  show jJ X G 3 L 0 0 (jQM X G L (some (.int r)) μ 0 0) 0 [(0, .ref (L.2.2 a0)), (1, .int x1)] [] μ
  refine j_iconst (pc := 0) hC (0 : Int32) dX4_actAt_0 (by decide) ?_
  refine j_istore_n (pc := 1) hC 2 [(2, .int (0 : Int32)), (0, .ref (L.2.2 a0)), (1, .int x1)] dX4_actAt_1 rfl (by decide) rfl rfl ?_
  obtain ⟨w6, hw7, h⟩ := jcl_some h
  refine j_lv [1, 2, 0] rfl ?_
  refine j_loop (step := (fun (s : Int32) => f_X4_actAt_L2 a0 x1 μ s)) (P := (fun (s : Int32) => jJ X G 3 L 0 0 (jQM X G L (some (.int r)) μ 0 0) 2 [(0, .ref (L.2.2 a0)), (1, .int x1), (2, .int s)] [] μ)) (R := (fun (e : (Int32) ⊕ (Unit)) => match e with | .inl e => jJ X G 3 L 0 0 (jQM X G L (some (.int r)) μ 0 0) 24 [(2, .int e)] [] μ | .inr e => jJ X G 3 L 0 0 (jQM X G L (some (.int r)) μ 0 0) 32 [] [] μ)) ?_ jfu (0 : Int32) w6 hw7 ?_
  · intro u1 o h hk
    change f_X4_actAt_L2 a0 x1 μ u1 = some o at h
    unfold f_X4_actAt_L2 at h
    show jJ X G 3 L 0 0 (jQM X G L (some (.int r)) μ 0 0) 2 [(0, .ref (L.2.2 a0)), (1, .int x1), (2, .int u1)] [] μ
    refine j_iload_n (pc := 2) hC 2 2 dX4_actAt_2 rfl rfl ?_
    refine j_bipush (pc := 3) hC (15 : Int32) dX4_actAt_3 (by decide) ?_
    refine j_icmp_ge (pc := 5) hC 32 dX4_actAt_5 (by decide) (fun c2 => ?_) (fun c2 => ?_)
    · rw [if_pos c2] at h
      obtain rfl := Option.some.inj h
      have hk : jJ X G 3 L 0 0 (jQM X G L (some (.int r)) μ 0 0) 32 [] [] μ := hk
      exact j_lv [] rfl hk
    · rw [if_neg c2] at h
      refine j_aload_n (pc := 8) hC 0 0 dX4_actAt_8 rfl rfl ?_
      refine j_iload_n (pc := 9) hC 2 2 dX4_actAt_9 rfl rfl ?_
      refine j_iload_n (pc := 10) hC 1 1 dX4_actAt_10 rfl rfl ?_
      obtain ⟨v3, e4, h⟩ := jcl_some h
      refine j_vi (pc := 11) hC hR [.int u1, .int x1] iy_X4_signsOf (q := (RX4, TX4, 6)) (ci := 4) rfl rfl (by decide) km_X4_81 dX4_actAt_11 rfl (by decide) ka0 (c_X4_signsOf hL ka0 e4) (by decide) (Nat.le_of_ble_eq_true rfl) rfl ?_
      refine j_iload_n (pc := 14) hC 2 2 dX4_actAt_14 rfl rfl ?_
      refine j_sr (pc := 15) hC hR [.int u1] iy_X4_form km_X4_57 dX4_actAt_15 rfl (by decide) (c_X4_form hL  rfl) (by decide) (Nat.le_of_ble_eq_true rfl) rfl ?_
      refine j_slen (pc := 18) hC hR kw_X4_61 dX4_actAt_18 (kb_X4_form _) (by decide) (Nat.le_of_ble_eq_true rfl) ?_
      refine j_icmp_ne (pc := 21) hC 26 dX4_actAt_21 (by decide) (fun c5 => ?_) (fun c5 => ?_)
      · rw [if_neg c5] at h
        refine j_iinc (pc := 26) hC 2 (u1 + (1 : Int32)) [(2, .int (u1 + (1 : Int32))), (0, .ref (L.2.2 a0)), (1, .int x1)] dX4_actAt_26 rfl rfl (by decide) rfl ?_
        refine j_goto (pc := 29) hC 2 dX4_actAt_29 (by decide) ?_
        obtain rfl := Option.some.inj h
        have hk : jJ X G 3 L 0 0 (jQM X G L (some (.int r)) μ 0 0) 2 [(0, .ref (L.2.2 a0)), (1, .int x1), (2, .int (u1 + (1 : Int32)))] [] μ := hk
        exact j_lv [1, 2, 0] rfl hk
      · rw [if_pos c5] at h
        obtain rfl := Option.some.inj h
        have hk : jJ X G 3 L 0 0 (jQM X G L (some (.int r)) μ 0 0) 24 [(2, .int u1)] [] μ := hk
        exact j_lv [2] rfl hk
  · cases w6 with
    | inl w6 =>
      try dsimp only at h
      obtain ⟨z9, rfl⟩ : ∃ y, y = w6 := ⟨_, rfl⟩
      try dsimp only at h
      show jJ X G 3 L 0 0 (jQM X G L (some (.int r)) μ 0 0) 24 [(2, .int z9)] [] μ
      refine j_iload_n (pc := 24) hC 2 0 dX4_actAt_24 rfl rfl ?_
      obtain rfl := Option.some.inj h
      exact j_iret (pc := 25) hC dX4_actAt_25 rfl
    | inr w6 =>
      try dsimp only at h
      try dsimp only at h
      show jJ X G 3 L 0 0 (jQM X G L (some (.int r)) μ 0 0) 32 [] [] μ
      refine j_iconst (pc := 32) hC (-1 : Int32) dX4_actAt_32 (by decide) ?_
      obtain rfl := Option.some.inj h
      exact j_iret (pc := 33) hC dX4_actAt_33 rfl
theorem dX4_faultIn_0 : decode cX4_faultIn 0 = .ok (.iconst 0, 1) := by decide +kernel
theorem dX4_faultIn_1 : decode cX4_faultIn 1 = .ok (.istore_n 2, 1) := by decide +kernel
theorem dX4_faultIn_2 : decode cX4_faultIn 2 = .ok (.iconst 0, 1) := by decide +kernel
theorem dX4_faultIn_3 : decode cX4_faultIn 3 = .ok (.istore_n 3, 1) := by decide +kernel
theorem dX4_faultIn_4 : decode cX4_faultIn 4 = .ok (.iload_n 3, 1) := by decide +kernel
theorem dX4_faultIn_5 : decode cX4_faultIn 5 = .ok (.bipush 15, 2) := by decide +kernel
theorem dX4_faultIn_7 : decode cX4_faultIn 7 = .ok (.if_icmp .ge 20, 3) := by decide +kernel
theorem dX4_faultIn_10 : decode cX4_faultIn 10 = .ok (.iload_n 2, 1) := by decide +kernel
theorem dX4_faultIn_11 : decode cX4_faultIn 11 = .ok (.aload_n 0, 1) := by decide +kernel
theorem dX4_faultIn_12 : decode cX4_faultIn 12 = .ok (.iload_n 3, 1) := by decide +kernel
theorem dX4_faultIn_13 : decode cX4_faultIn 13 = .ok (.iload_n 1, 1) := by decide +kernel
theorem dX4_faultIn_14 : decode cX4_faultIn 14 = .ok (.invokevirtual 81, 3) := by decide +kernel
theorem dX4_faultIn_17 : decode cX4_faultIn 17 = .ok (.invokestatic 85, 3) := by decide +kernel
theorem dX4_faultIn_20 : decode cX4_faultIn 20 = .ok (.istore_n 2, 1) := by decide +kernel
theorem dX4_faultIn_21 : decode cX4_faultIn 21 = .ok (.iinc 3 1, 3) := by decide +kernel
theorem dX4_faultIn_24 : decode cX4_faultIn 24 = .ok (.goto (-20), 3) := by decide +kernel
theorem dX4_faultIn_27 : decode cX4_faultIn 27 = .ok (.iload_n 1, 1) := by decide +kernel
theorem dX4_faultIn_28 : decode cX4_faultIn 28 = .ok (.iload_n 2, 1) := by decide +kernel
theorem dX4_faultIn_29 : decode cX4_faultIn 29 = .ok (.iadd, 1) := by decide +kernel
theorem dX4_faultIn_30 : decode cX4_faultIn 30 = .ok (.ireturn, 1) := by decide +kernel
def f_X4_faultIn_L4 (a0 : Nat) (x1 : Int32) (μ : jM) (u1 : Int32) (u2 : Int32) : Option ((Int32 × Int32) ⊕ (Int32)) :=
  (if (15 : Int32) ≤ u2 then some (.inr u1) else jcl (f_X4_signsOf a0 u2 x1 μ) (fun v4 => some (.inl ((jmax u1 v4, u2 + (1 : Int32))))))
def f_X4_faultIn (a0 : Nat) (x1 : Int32) (μ : jM) : Option (Int32) :=
  jcl (jloop (fun (s : Int32 × Int32) => f_X4_faultIn_L4 a0 x1 μ s.1 s.2) jfu (((0 : Int32), (0 : Int32)))) (fun w6 => some (x1 + w6))
set_option maxHeartbeats 4000000 in
set_option maxRecDepth 100000 in
theorem c_X4_faultIn {l : Launch} {G : jG} {L : jL} (hL : jOKL L) {a0 : Nat} {x1 : Int32} (ka0 : jK L a0 4) {μ : jM} {r : Int32} (h : f_X4_faultIn a0 x1 μ = some r) : jCt l G L 8 yX4_faultIn cX4_faultIn 4 (some .int) [.ref (L.2.2 a0), .int x1] μ (some (.int r)) μ := by
  refine jCt_of (by decide) (Nat.le_of_ble_eq_true rfl) (fun X hC hX hR => ?_)
  subst hX
  have hC : jC X G cX4_faultIn 4 RX4 (some .int) := hC
  unfold f_X4_faultIn at h
  show jJ X G 4 L 0 0 (jQM X G L (some (.int r)) μ 0 0) 0 [(0, .ref (L.2.2 a0)), (1, .int x1)] [] μ
  refine j_iconst (pc := 0) hC (0 : Int32) dX4_faultIn_0 (by decide) ?_
  refine j_istore_n (pc := 1) hC 2 [(2, .int (0 : Int32)), (0, .ref (L.2.2 a0)), (1, .int x1)] dX4_faultIn_1 rfl (by decide) rfl rfl ?_
  refine j_iconst (pc := 2) hC (0 : Int32) dX4_faultIn_2 (by decide) ?_
  refine j_istore_n (pc := 3) hC 3 [(3, .int (0 : Int32)), (2, .int (0 : Int32)), (0, .ref (L.2.2 a0)), (1, .int x1)] dX4_faultIn_3 rfl (by decide) rfl rfl ?_
  obtain ⟨w6, hw7, h⟩ := jcl_some h
  refine j_lv [2, 3, 1, 0] rfl ?_
  refine j_loop (step := (fun (s : Int32 × Int32) => f_X4_faultIn_L4 a0 x1 μ s.1 s.2)) (P := (fun (s : Int32 × Int32) => jJ X G 4 L 0 0 (jQM X G L (some (.int r)) μ 0 0) 4 [(0, .ref (L.2.2 a0)), (1, .int x1), (2, .int s.1), (3, .int s.2)] [] μ)) (R := (fun (e : Int32) => jJ X G 4 L 0 0 (jQM X G L (some (.int r)) μ 0 0) 27 [(1, .int x1), (2, .int e)] [] μ)) ?_ jfu (((0 : Int32), (0 : Int32))) w6 hw7 ?_
  · intro s8 o h hk
    obtain ⟨u1, u2⟩ := s8
    change f_X4_faultIn_L4 a0 x1 μ u1 u2 = some o at h
    unfold f_X4_faultIn_L4 at h
    show jJ X G 4 L 0 0 (jQM X G L (some (.int r)) μ 0 0) 4 [(0, .ref (L.2.2 a0)), (1, .int x1), (2, .int u1), (3, .int u2)] [] μ
    refine j_iload_n (pc := 4) hC 3 3 dX4_faultIn_4 rfl rfl ?_
    refine j_bipush (pc := 5) hC (15 : Int32) dX4_faultIn_5 (by decide) ?_
    refine j_icmp_ge (pc := 7) hC 27 dX4_faultIn_7 (by decide) (fun c3 => ?_) (fun c3 => ?_)
    · rw [if_pos c3] at h
      obtain rfl := Option.some.inj h
      have hk : jJ X G 4 L 0 0 (jQM X G L (some (.int r)) μ 0 0) 27 [(1, .int x1), (2, .int u1)] [] μ := hk
      exact j_lv [1, 2] rfl hk
    · rw [if_neg c3] at h
      refine j_iload_n (pc := 10) hC 2 2 dX4_faultIn_10 rfl rfl ?_
      refine j_aload_n (pc := 11) hC 0 0 dX4_faultIn_11 rfl rfl ?_
      refine j_iload_n (pc := 12) hC 3 3 dX4_faultIn_12 rfl rfl ?_
      refine j_iload_n (pc := 13) hC 1 1 dX4_faultIn_13 rfl rfl ?_
      obtain ⟨v4, e5, h⟩ := jcl_some h
      refine j_vi (pc := 14) hC hR [.int u2, .int x1] iy_X4_signsOf (q := (RX4, TX4, 6)) (ci := 4) rfl rfl (by decide) km_X4_81 dX4_faultIn_14 rfl (by decide) ka0 (c_X4_signsOf hL ka0 e5) (by decide) (Nat.le_of_ble_eq_true rfl) rfl ?_
      refine j_mmax (pc := 17) hC hR kx_X4_85 dX4_faultIn_17 (by decide) (Nat.le_of_ble_eq_true rfl) ?_
      refine j_istore_n (pc := 20) hC 2 [(2, .int (jmax u1 v4)), (0, .ref (L.2.2 a0)), (1, .int x1), (3, .int u2)] dX4_faultIn_20 rfl (by decide) rfl rfl ?_
      refine j_iinc (pc := 21) hC 3 (u2 + (1 : Int32)) [(3, .int (u2 + (1 : Int32))), (2, .int (jmax u1 v4)), (0, .ref (L.2.2 a0)), (1, .int x1)] dX4_faultIn_21 rfl rfl (by decide) rfl ?_
      refine j_goto (pc := 24) hC 4 dX4_faultIn_24 (by decide) ?_
      obtain rfl := Option.some.inj h
      have hk : jJ X G 4 L 0 0 (jQM X G L (some (.int r)) μ 0 0) 4 [(0, .ref (L.2.2 a0)), (1, .int x1), (2, .int (jmax u1 v4)), (3, .int (u2 + (1 : Int32)))] [] μ := hk
      exact j_lv [2, 3, 1, 0] rfl hk
  · obtain ⟨z9, rfl⟩ : ∃ y, y = w6 := ⟨_, rfl⟩
    try dsimp only at h
    show jJ X G 4 L 0 0 (jQM X G L (some (.int r)) μ 0 0) 27 [(1, .int x1), (2, .int z9)] [] μ
    refine j_iload_n (pc := 27) hC 1 0 dX4_faultIn_27 rfl rfl ?_
    refine j_iload_n (pc := 28) hC 2 1 dX4_faultIn_28 rfl rfl ?_
    refine j_iadd (pc := 29) hC dX4_faultIn_29 ?_
    obtain rfl := Option.some.inj h
    exact j_iret (pc := 30) hC dX4_faultIn_30 rfl
theorem dX4_fault_0 : decode cX4_fault 0 = .ok (.iconst 0, 1) := by decide +kernel
theorem dX4_fault_1 : decode cX4_fault 1 = .ok (.istore_n 1, 1) := by decide +kernel
theorem dX4_fault_2 : decode cX4_fault 2 = .ok (.iconst 0, 1) := by decide +kernel
theorem dX4_fault_3 : decode cX4_fault 3 = .ok (.istore_n 2, 1) := by decide +kernel
theorem dX4_fault_4 : decode cX4_fault 4 = .ok (.iconst 0, 1) := by decide +kernel
theorem dX4_fault_5 : decode cX4_fault 5 = .ok (.istore_n 3, 1) := by decide +kernel
theorem dX4_fault_6 : decode cX4_fault 6 = .ok (.iload_n 3, 1) := by decide +kernel
theorem dX4_fault_7 : decode cX4_fault 7 = .ok (.bipush 80, 2) := by decide +kernel
theorem dX4_fault_9 : decode cX4_fault 9 = .ok (.if_icmp .ge 150, 3) := by decide +kernel
theorem dX4_fault_12 : decode cX4_fault 12 = .ok (.iload_n 2, 1) := by decide +kernel
theorem dX4_fault_13 : decode cX4_fault 13 = .ok (.aload_n 0, 1) := by decide +kernel
theorem dX4_fault_14 : decode cX4_fault 14 = .ok (.getfield 19, 3) := by decide +kernel
theorem dX4_fault_17 : decode cX4_fault 17 = .ok (.getfield 90, 3) := by decide +kernel
theorem dX4_fault_20 : decode cX4_fault 20 = .ok (.if_icmp .ge 139, 3) := by decide +kernel
theorem dX4_fault_23 : decode cX4_fault 23 = .ok (.aload_n 0, 1) := by decide +kernel
theorem dX4_fault_24 : decode cX4_fault 24 = .ok (.getfield 19, 3) := by decide +kernel
theorem dX4_fault_27 : decode cX4_fault 27 = .ok (.iload_n 2, 1) := by decide +kernel
theorem dX4_fault_28 : decode cX4_fault 28 = .ok (.invokevirtual 67, 3) := by decide +kernel
theorem dX4_fault_31 : decode cX4_fault 31 = .ok (.istore 4, 2) := by decide +kernel
theorem dX4_fault_33 : decode cX4_fault 33 = .ok (.iload 4, 2) := by decide +kernel
theorem dX4_fault_35 : decode cX4_fault 35 = .ok (.invokestatic 94, 3) := by decide +kernel
theorem dX4_fault_38 : decode cX4_fault 38 = .ok (.ifCond .eq 27, 3) := by decide +kernel
theorem dX4_fault_41 : decode cX4_fault 41 = .ok (.iload_n 1, 1) := by decide +kernel
theorem dX4_fault_42 : decode cX4_fault 42 = .ok (.iconst 4, 1) := by decide +kernel
theorem dX4_fault_43 : decode cX4_fault 43 = .ok (.if_icmp .lt 5, 3) := by decide +kernel
theorem dX4_fault_46 : decode cX4_fault 46 = .ok (.iload_n 2, 1) := by decide +kernel
theorem dX4_fault_47 : decode cX4_fault 47 = .ok (.ireturn, 1) := by decide +kernel
theorem dX4_fault_48 : decode cX4_fault 48 = .ok (.aload_n 0, 1) := by decide +kernel
theorem dX4_fault_49 : decode cX4_fault 49 = .ok (.getfield 11, 3) := by decide +kernel
theorem dX4_fault_52 : decode cX4_fault 52 = .ok (.iload_n 1, 1) := by decide +kernel
theorem dX4_fault_53 : decode cX4_fault 53 = .ok (.iload 4, 2) := by decide +kernel
theorem dX4_fault_55 : decode cX4_fault 55 = .ok (.iastore, 1) := by decide +kernel
theorem dX4_fault_56 : decode cX4_fault 56 = .ok (.iinc 1 1, 3) := by decide +kernel
theorem dX4_fault_59 : decode cX4_fault 59 = .ok (.iinc 2 1, 3) := by decide +kernel
theorem dX4_fault_62 : decode cX4_fault 62 = .ok (.goto 91, 3) := by decide +kernel
theorem dX4_fault_65 : decode cX4_fault 65 = .ok (.iload 4, 2) := by decide +kernel
theorem dX4_fault_67 : decode cX4_fault 67 = .ok (.bipush 124, 2) := by decide +kernel
theorem dX4_fault_69 : decode cX4_fault 69 = .ok (.if_icmp .eq 11, 3) := by decide +kernel
theorem dX4_fault_72 : decode cX4_fault 72 = .ok (.iload 4, 2) := by decide +kernel
theorem dX4_fault_74 : decode cX4_fault 74 = .ok (.invokestatic 98, 3) := by decide +kernel
theorem dX4_fault_77 : decode cX4_fault 77 = .ok (.ifCond .eq 46, 3) := by decide +kernel
theorem dX4_fault_80 : decode cX4_fault 80 = .ok (.iload_n 1, 1) := by decide +kernel
theorem dX4_fault_81 : decode cX4_fault 81 = .ok (.ifCond .eq 19, 3) := by decide +kernel
theorem dX4_fault_84 : decode cX4_fault 84 = .ok (.iload 4, 2) := by decide +kernel
theorem dX4_fault_86 : decode cX4_fault 86 = .ok (.aload_n 0, 1) := by decide +kernel
theorem dX4_fault_87 : decode cX4_fault 87 = .ok (.getfield 11, 3) := by decide +kernel
theorem dX4_fault_90 : decode cX4_fault 90 = .ok (.iload_n 1, 1) := by decide +kernel
theorem dX4_fault_91 : decode cX4_fault 91 = .ok (.iconst 1, 1) := by decide +kernel
theorem dX4_fault_92 : decode cX4_fault 92 = .ok (.isub, 1) := by decide +kernel
theorem dX4_fault_93 : decode cX4_fault 93 = .ok (.iaload, 1) := by decide +kernel
theorem dX4_fault_94 : decode cX4_fault 94 = .ok (.invokestatic 101, 3) := by decide +kernel
theorem dX4_fault_97 : decode cX4_fault 97 = .ok (.ifCond .ne 5, 3) := by decide +kernel
theorem dX4_fault_100 : decode cX4_fault 100 = .ok (.iload_n 2, 1) := by decide +kernel
theorem dX4_fault_101 : decode cX4_fault 101 = .ok (.ireturn, 1) := by decide +kernel
theorem dX4_fault_102 : decode cX4_fault 102 = .ok (.iload_n 1, 1) := by decide +kernel
theorem dX4_fault_103 : decode cX4_fault 103 = .ok (.iload 4, 2) := by decide +kernel
theorem dX4_fault_105 : decode cX4_fault 105 = .ok (.bipush 124, 2) := by decide +kernel
theorem dX4_fault_107 : decode cX4_fault 107 = .ok (.if_icmp .ne 7, 3) := by decide +kernel
theorem dX4_fault_110 : decode cX4_fault 110 = .ok (.iconst 0, 1) := by decide +kernel
theorem dX4_fault_111 : decode cX4_fault 111 = .ok (.goto 4, 3) := by decide +kernel
theorem dX4_fault_114 : decode cX4_fault 114 = .ok (.iconst 1, 1) := by decide +kernel
theorem dX4_fault_115 : decode cX4_fault 115 = .ok (.isub, 1) := by decide +kernel
theorem dX4_fault_116 : decode cX4_fault 116 = .ok (.istore_n 1, 1) := by decide +kernel
theorem dX4_fault_117 : decode cX4_fault 117 = .ok (.iinc 2 1, 3) := by decide +kernel
theorem dX4_fault_120 : decode cX4_fault 120 = .ok (.goto 33, 3) := by decide +kernel
theorem dX4_fault_123 : decode cX4_fault 123 = .ok (.aload_n 0, 1) := by decide +kernel
theorem dX4_fault_124 : decode cX4_fault 124 = .ok (.iload_n 2, 1) := by decide +kernel
theorem dX4_fault_125 : decode cX4_fault 125 = .ok (.invokevirtual 105, 3) := by decide +kernel
theorem dX4_fault_128 : decode cX4_fault 128 = .ok (.istore 5, 2) := by decide +kernel
theorem dX4_fault_130 : decode cX4_fault 130 = .ok (.iload 5, 2) := by decide +kernel
theorem dX4_fault_132 : decode cX4_fault 132 = .ok (.iconst (-1), 1) := by decide +kernel
theorem dX4_fault_133 : decode cX4_fault 133 = .ok (.if_icmp .ne 9, 3) := by decide +kernel
theorem dX4_fault_136 : decode cX4_fault 136 = .ok (.aload_n 0, 1) := by decide +kernel
theorem dX4_fault_137 : decode cX4_fault 137 = .ok (.iload_n 2, 1) := by decide +kernel
theorem dX4_fault_138 : decode cX4_fault 138 = .ok (.invokevirtual 108, 3) := by decide +kernel
theorem dX4_fault_141 : decode cX4_fault 141 = .ok (.ireturn, 1) := by decide +kernel
theorem dX4_fault_142 : decode cX4_fault 142 = .ok (.iload_n 2, 1) := by decide +kernel
theorem dX4_fault_143 : decode cX4_fault 143 = .ok (.iload 5, 2) := by decide +kernel
theorem dX4_fault_145 : decode cX4_fault 145 = .ok (.invokestatic 57, 3) := by decide +kernel
theorem dX4_fault_148 : decode cX4_fault 148 = .ok (.invokevirtual 61, 3) := by decide +kernel
theorem dX4_fault_151 : decode cX4_fault 151 = .ok (.iadd, 1) := by decide +kernel
theorem dX4_fault_152 : decode cX4_fault 152 = .ok (.istore_n 2, 1) := by decide +kernel
theorem dX4_fault_153 : decode cX4_fault 153 = .ok (.iinc 3 1, 3) := by decide +kernel
theorem dX4_fault_156 : decode cX4_fault 156 = .ok (.goto (-150), 3) := by decide +kernel
theorem dX4_fault_159 : decode cX4_fault 159 = .ok (.iload_n 1, 1) := by decide +kernel
theorem dX4_fault_160 : decode cX4_fault 160 = .ok (.ifCond .le 7, 3) := by decide +kernel
theorem dX4_fault_163 : decode cX4_fault 163 = .ok (.iload_n 2, 1) := by decide +kernel
theorem dX4_fault_164 : decode cX4_fault 164 = .ok (.goto 4, 3) := by decide +kernel
theorem dX4_fault_167 : decode cX4_fault 167 = .ok (.iconst (-1), 1) := by decide +kernel
theorem dX4_fault_168 : decode cX4_fault 168 = .ok (.ireturn, 1) := by decide +kernel
def f_X4_fault_L6 (a0 : Nat) (u1 : Int32) (u2 : Int32) (u3 : Int32) (m4 : jM) : Option ((Int32 × Int32 × Int32 × jM) ⊕ ((Int32 × jM) ⊕ ((Int32 × jM) ⊕ ((Int32 × jM) ⊕ (Int32 × Int32 × jM))))) :=
  (if (80 : Int32) ≤ u3 then some (.inr (.inr (.inr (.inr ((u1, u2, m4)))))) else (if (m4.1 1 1) ≤ u2 then some (.inr (.inr (.inr (.inr ((u1, u2, m4)))))) else jcl (f_X8_signAt 1 u2 m4) (fun v7 => (if (f_X4_isOpener v7) = (0 : Int32) then jbd ((if u1 = (0 : Int32) then some (.inr (.inr (.inl ((u2, m4))))) else jrd (m4.1 (a0 + 1)) (u1 - (1 : Int32)) 4 (fun v15 => (if (f_X4_belongs v7 v15) = (0 : Int32) then some (.inr (.inr (.inl ((u2, m4))))) else jbd (u1 - ((if v7 = (124 : Int32) then (0 : Int32) else (1 : Int32))) : Int32) (fun v19 => some (.inl ((v19, u2 + (1 : Int32), u3 + (1 : Int32), m4)))))))) (fun k10 => (if v7 = (124 : Int32) then k10 else (if (f_X4_isCloser v7) = (0 : Int32) then jcl (f_X4_actAt a0 u2 m4) (fun v23 => (if v23 = (-1 : Int32) then some (.inr (.inr (.inr (.inl ((u2, m4)))))) else jbd (u2 + (jsLn (f_X4_form v23)) : Int32) (fun v26 => some (.inl ((u1, v26, u3 + (1 : Int32), m4)))))) else k10))) else (if u1 < (4 : Int32) then jin u1 4 (jbd (jsi m4 (a0 + 1) u1.toNatClampNeg v7) (fun m30 => some (.inl ((u1 + (1 : Int32), u2 + (1 : Int32), u3 + (1 : Int32), m30))))) else some (.inr (.inl ((u2, m4)))))))))
def f_X4_fault (a0 : Nat) (μ : jM) : Option (Int32 × jM) :=
  jcl (jloop (fun (s : Int32 × Int32 × Int32 × jM) => f_X4_fault_L6 a0 s.1 s.2.1 s.2.2.1 s.2.2.2) jfu (((0 : Int32), (0 : Int32), (0 : Int32), μ))) (fun w32 => match w32 with | .inl w32 => some ((w32.1, w32.2)) | .inr w32 => match w32 with | .inl w32 => some ((w32.1, w32.2)) | .inr w32 => match w32 with | .inl w32 => jcl (f_X4_faultIn a0 w32.1 w32.2) (fun v41 => some ((v41, w32.2))) | .inr w32 => some (((if w32.1 ≤ (0 : Int32) then (-1 : Int32) else w32.2.1), w32.2.2)))
set_option maxHeartbeats 4000000 in
set_option maxRecDepth 100000 in
theorem c_X4_fault {l : Launch} {G : jG} {L : jL} (hL : jOKL L) {a0 : Nat} (ka0 : jK L a0 4) {μ μ' : jM} {r : Int32} (h : f_X4_fault a0 μ = some ((r, μ'))) : jCt l G L 9 yX4_fault cX4_fault 6 (some .int) [.ref (L.2.2 a0)] μ (some (.int r)) μ' := by
  refine jCt_of (by decide) (Nat.le_of_ble_eq_true rfl) (fun X hC hX hR => ?_)
  subst hX
  have hC : jC X G cX4_fault 6 RX4 (some .int) := hC
  unfold f_X4_fault at h
  show jJ X G 6 L 0 0 (jQM X G L (some (.int r)) μ' 0 0) 0 [(0, .ref (L.2.2 a0))] [] μ
  refine j_iconst (pc := 0) hC (0 : Int32) dX4_fault_0 (by decide) ?_
  refine j_istore_n (pc := 1) hC 1 [(1, .int (0 : Int32)), (0, .ref (L.2.2 a0))] dX4_fault_1 rfl (by decide) rfl rfl ?_
  refine j_iconst (pc := 2) hC (0 : Int32) dX4_fault_2 (by decide) ?_
  refine j_istore_n (pc := 3) hC 2 [(2, .int (0 : Int32)), (1, .int (0 : Int32)), (0, .ref (L.2.2 a0))] dX4_fault_3 rfl (by decide) rfl rfl ?_
  refine j_iconst (pc := 4) hC (0 : Int32) dX4_fault_4 (by decide) ?_
  refine j_istore_n (pc := 5) hC 3 [(3, .int (0 : Int32)), (2, .int (0 : Int32)), (1, .int (0 : Int32)), (0, .ref (L.2.2 a0))] dX4_fault_5 rfl (by decide) rfl rfl ?_
  obtain ⟨w32, hw33, h⟩ := jcl_some h
  refine j_lv [3, 2, 1, 0] rfl ?_
  refine j_loop (step := (fun (s : Int32 × Int32 × Int32 × jM) => f_X4_fault_L6 a0 s.1 s.2.1 s.2.2.1 s.2.2.2)) (P := (fun (s : Int32 × Int32 × Int32 × jM) => jJ X G 6 L 0 0 (jQM X G L (some (.int r)) μ' 0 0) 6 [(0, .ref (L.2.2 a0)), (1, .int s.1), (2, .int s.2.1), (3, .int s.2.2.1)] [] s.2.2.2)) (R := (fun (e : (Int32 × jM) ⊕ ((Int32 × jM) ⊕ ((Int32 × jM) ⊕ (Int32 × Int32 × jM)))) => match e with | .inl e => jJ X G 6 L 0 0 (jQM X G L (some (.int r)) μ' 0 0) 46 [(2, .int e.1)] [] e.2 | .inr e => match e with | .inl e => jJ X G 6 L 0 0 (jQM X G L (some (.int r)) μ' 0 0) 100 [(2, .int e.1)] [] e.2 | .inr e => match e with | .inl e => jJ X G 6 L 0 0 (jQM X G L (some (.int r)) μ' 0 0) 136 [(0, .ref (L.2.2 a0)), (2, .int e.1)] [] e.2 | .inr e => jJ X G 6 L 0 0 (jQM X G L (some (.int r)) μ' 0 0) 159 [(1, .int e.1), (2, .int e.2.1)] [] e.2.2)) ?_ jfu (((0 : Int32), (0 : Int32), (0 : Int32), μ)) w32 hw33 ?_
  · intro s34 o h hk
    obtain ⟨u1, u2, u3, m4⟩ := s34
    change f_X4_fault_L6 a0 u1 u2 u3 m4 = some o at h
    unfold f_X4_fault_L6 at h
    show jJ X G 6 L 0 0 (jQM X G L (some (.int r)) μ' 0 0) 6 [(0, .ref (L.2.2 a0)), (1, .int u1), (2, .int u2), (3, .int u3)] [] m4
    refine j_iload_n (pc := 6) hC 3 3 dX4_fault_6 rfl rfl ?_
    refine j_bipush (pc := 7) hC (80 : Int32) dX4_fault_7 (by decide) ?_
    refine j_icmp_ge (pc := 9) hC 159 dX4_fault_9 (by decide) (fun c5 => ?_) (fun c5 => ?_)
    · rw [if_pos c5] at h
      obtain rfl := Option.some.inj h
      have hk : jJ X G 6 L 0 0 (jQM X G L (some (.int r)) μ' 0 0) 159 [(1, .int u1), (2, .int u2)] [] m4 := hk
      exact j_lv [1, 2] rfl hk
    · rw [if_neg c5] at h
      refine j_iload_n (pc := 12) hC 2 2 dX4_fault_12 rfl rfl ?_
      refine j_aload_n (pc := 13) hC 0 0 dX4_fault_13 rfl rfl ?_
      refine jgr_4 (pc := 14) hC 1 (by decide) rfl kf_X4_19 dX4_fault_14 ka0 (ly_4_1 hL ka0).1 ?_
      refine jgi_8 (pc := 17) hC 1 (by decide) rfl kf_X4_90 dX4_fault_17 (ly_4_1 hL ka0).2.1 ?_
      refine j_icmp_ge (pc := 20) hC 159 dX4_fault_20 (by decide) (fun c6 => ?_) (fun c6 => ?_)
      · rw [if_pos c6] at h
        obtain rfl := Option.some.inj h
        have hk : jJ X G 6 L 0 0 (jQM X G L (some (.int r)) μ' 0 0) 159 [(1, .int u1), (2, .int u2)] [] m4 := hk
        exact j_lv [1, 2] rfl hk
      · rw [if_neg c6] at h
        refine j_aload_n (pc := 23) hC 0 0 dX4_fault_23 rfl rfl ?_
        refine jgr_4 (pc := 24) hC 1 (by decide) rfl kf_X4_19 dX4_fault_24 ka0 (ly_4_1 hL ka0).1 ?_
        refine j_iload_n (pc := 27) hC 2 2 dX4_fault_27 rfl rfl ?_
        obtain ⟨v7, e8, h⟩ := jcl_some h
        refine j_vi (pc := 28) hC hR [.int u2] iy_X8_signAt (q := (RX8, TX8, 2)) (ci := 8) rfl rfl (by decide) km_X4_67 dX4_fault_28 rfl (by decide) (ly_4_1 hL ka0).2.1 (c_X8_signAt hL (ly_4_1 hL ka0).2.1 e8) (by decide) (Nat.le_of_ble_eq_true rfl) rfl ?_
        refine j_istore (pc := 31) hC [(4, .int v7), (0, .ref (L.2.2 a0)), (1, .int u1), (2, .int u2), (3, .int u3)] dX4_fault_31 (by decide) rfl rfl ?_
        refine j_iload (pc := 33) hC 0 dX4_fault_33 rfl ?_
        refine j_si (pc := 35) hC hR [.int v7] iy_X4_isOpener km_X4_94 dX4_fault_35 rfl (by decide) (c_X4_isOpener hL  rfl) (by decide) (Nat.le_of_ble_eq_true rfl) rfl ?_
        refine j_if_eq (pc := 38) hC 65 dX4_fault_38 (by decide) (fun c9 => ?_) (fun c9 => ?_)
        · rw [if_pos c9] at h
          refine j_iload (pc := 65) hC 0 dX4_fault_65 rfl ?_
          refine j_bipush (pc := 67) hC (124 : Int32) dX4_fault_67 (by decide) ?_
          obtain ⟨k10, e12, h⟩ := jbd_ex h
          have q11 : k10 = some o → jJ X G 6 L 0 0 (jQM X G L (some (.int r)) μ' 0 0) 80 [(0, .ref (L.2.2 a0)), (1, .int u1), (2, .int u2), (3, .int u3), (4, .int v7)] [] m4 := by
            intro h
            rw [e12] at h
            refine j_iload_n (pc := 80) hC 1 1 dX4_fault_80 rfl rfl ?_
            refine j_if_eq (pc := 81) hC 100 dX4_fault_81 (by decide) (fun c13 => ?_) (fun c13 => ?_)
            · rw [if_pos c13] at h
              obtain rfl := Option.some.inj h
              have hk : jJ X G 6 L 0 0 (jQM X G L (some (.int r)) μ' 0 0) 100 [(2, .int u2)] [] m4 := hk
              exact j_lv [2] rfl hk
            · rw [if_neg c13] at h
              refine j_iload (pc := 84) hC 4 dX4_fault_84 rfl ?_
              refine j_aload_n (pc := 86) hC 0 0 dX4_fault_86 rfl rfl ?_
              refine jgr_4 (pc := 87) hC 3 (by decide) rfl kf_X4_11 dX4_fault_87 ka0 (ly_4_3 hL ka0).1 ?_
              refine j_iload_n (pc := 90) hC 1 1 dX4_fault_90 rfl rfl ?_
              refine j_iconst (pc := 91) hC (1 : Int32) dX4_fault_91 (by decide) ?_
              refine j_isub (pc := 92) hC dX4_fault_92 ?_
              obtain ⟨i14, v15, e16, h⟩ := jrd_some h
              refine j_iald (pc := 93) hC dX4_fault_93 (ly_4_3 hL ka0).2.1 (ly_4_3 hL ka0).2.2 i14 e16 ?_
              refine j_si (pc := 94) hC hR [.int v7, .int v15] iy_X4_belongs km_X4_101 dX4_fault_94 rfl (by decide) (c_X4_belongs hL  rfl) (by decide) (Nat.le_of_ble_eq_true rfl) rfl ?_
              refine j_if_ne (pc := 97) hC 102 dX4_fault_97 (by decide) (fun c17 => ?_) (fun c17 => ?_)
              · rw [if_neg c17] at h
                refine j_iload_n (pc := 102) hC 1 1 dX4_fault_102 rfl rfl ?_
                refine j_iload (pc := 103) hC 4 dX4_fault_103 rfl ?_
                refine j_bipush (pc := 105) hC (124 : Int32) dX4_fault_105 (by decide) ?_
                refine jmg (B := jJ X G 6 L 0 0 (jQM X G L (some (.int r)) μ' 0 0) 115 [(0, .ref (L.2.2 a0)), (1, .int u1), (2, .int u2), (3, .int u3), (4, .int v7)] [.int ((if v7 = (124 : Int32) then (0 : Int32) else (1 : Int32))), .int u1] m4) (fun hj => ?_) ?_
                · refine j_icmp_ne (pc := 107) hC 114 dX4_fault_107 (by decide) (fun c18 => ?_) (fun c18 => ?_)
                  · rw [if_neg c18] at hj
                    refine j_iconst (pc := 114) hC (1 : Int32) dX4_fault_114 (by decide) ?_
                    exact hj
                  · rw [if_pos c18] at hj
                    refine j_iconst (pc := 110) hC (0 : Int32) dX4_fault_110 (by decide) ?_
                    refine j_goto (pc := 111) hC 115 dX4_fault_111 (by decide) ?_
                    exact hj
                refine j_isub (pc := 115) hC dX4_fault_115 ?_
                obtain ⟨v19, e20, h⟩ := jbd_ex h
                refine j_istore_n (pc := 116) hC 1 [(1, .int v19), (0, .ref (L.2.2 a0)), (2, .int u2), (3, .int u3), (4, .int v7)] dX4_fault_116 rfl (by decide) e20 rfl ?_
                refine j_iinc (pc := 117) hC 2 (u2 + (1 : Int32)) [(2, .int (u2 + (1 : Int32))), (1, .int v19), (0, .ref (L.2.2 a0)), (3, .int u3), (4, .int v7)] dX4_fault_117 rfl rfl (by decide) rfl ?_
                refine j_goto (pc := 120) hC 153 dX4_fault_120 (by decide) ?_
                refine j_iinc (pc := 153) hC 3 (u3 + (1 : Int32)) [(3, .int (u3 + (1 : Int32))), (2, .int (u2 + (1 : Int32))), (1, .int v19), (0, .ref (L.2.2 a0)), (4, .int v7)] dX4_fault_153 rfl rfl (by decide) rfl ?_
                refine j_goto (pc := 156) hC 6 dX4_fault_156 (by decide) ?_
                obtain rfl := Option.some.inj h
                have hk : jJ X G 6 L 0 0 (jQM X G L (some (.int r)) μ' 0 0) 6 [(0, .ref (L.2.2 a0)), (1, .int v19), (2, .int (u2 + (1 : Int32))), (3, .int (u3 + (1 : Int32)))] [] m4 := hk
                exact j_lv [3, 2, 1, 0] rfl hk
              · rw [if_pos c17] at h
                obtain rfl := Option.some.inj h
                have hk : jJ X G 6 L 0 0 (jQM X G L (some (.int r)) μ' 0 0) 100 [(2, .int u2)] [] m4 := hk
                exact j_lv [2] rfl hk
          refine j_icmp_eq (pc := 69) hC 80 dX4_fault_69 (by decide) (fun c21 => ?_) (fun c21 => ?_)
          · rw [if_pos c21] at h
            exact j_lv [1, 2, 3, 4, 0] rfl (q11 h)
          · rw [if_neg c21] at h
            refine j_iload (pc := 72) hC 0 dX4_fault_72 rfl ?_
            refine j_si (pc := 74) hC hR [.int v7] iy_X4_isCloser km_X4_98 dX4_fault_74 rfl (by decide) (c_X4_isCloser hL  rfl) (by decide) (Nat.le_of_ble_eq_true rfl) rfl ?_
            refine j_if_eq (pc := 77) hC 123 dX4_fault_77 (by decide) (fun c22 => ?_) (fun c22 => ?_)
            · rw [if_pos c22] at h
              refine j_aload_n (pc := 123) hC 0 1 dX4_fault_123 rfl rfl ?_
              refine j_iload_n (pc := 124) hC 2 3 dX4_fault_124 rfl rfl ?_
              obtain ⟨v23, e24, h⟩ := jcl_some h
              refine j_vi (pc := 125) hC hR [.int u2] iy_X4_actAt (q := (RX4, TX4, 6)) (ci := 4) rfl rfl (by decide) km_X4_105 dX4_fault_125 rfl (by decide) ka0 (c_X4_actAt hL ka0 e24) (by decide) (Nat.le_of_ble_eq_true rfl) rfl ?_
              refine j_istore (pc := 128) hC [(5, .int v23), (4, .int v7), (0, .ref (L.2.2 a0)), (1, .int u1), (2, .int u2), (3, .int u3)] dX4_fault_128 (by decide) rfl rfl ?_
              refine j_iload (pc := 130) hC 0 dX4_fault_130 rfl ?_
              refine j_iconst (pc := 132) hC (-1 : Int32) dX4_fault_132 (by decide) ?_
              refine j_icmp_ne (pc := 133) hC 142 dX4_fault_133 (by decide) (fun c25 => ?_) (fun c25 => ?_)
              · rw [if_neg c25] at h
                refine j_iload_n (pc := 142) hC 2 4 dX4_fault_142 rfl rfl ?_
                refine j_iload (pc := 143) hC 0 dX4_fault_143 rfl ?_
                refine j_sr (pc := 145) hC hR [.int v23] iy_X4_form km_X4_57 dX4_fault_145 rfl (by decide) (c_X4_form hL  rfl) (by decide) (Nat.le_of_ble_eq_true rfl) rfl ?_
                refine j_slen (pc := 148) hC hR kw_X4_61 dX4_fault_148 (kb_X4_form _) (by decide) (Nat.le_of_ble_eq_true rfl) ?_
                refine j_iadd (pc := 151) hC dX4_fault_151 ?_
                obtain ⟨v26, e27, h⟩ := jbd_ex h
                refine j_istore_n (pc := 152) hC 2 [(2, .int v26), (5, .int v23), (4, .int v7), (0, .ref (L.2.2 a0)), (1, .int u1), (3, .int u3)] dX4_fault_152 rfl (by decide) e27 rfl ?_
                refine j_iinc (pc := 153) hC 5 (u3 + (1 : Int32)) [(3, .int (u3 + (1 : Int32))), (2, .int v26), (5, .int v23), (4, .int v7), (0, .ref (L.2.2 a0)), (1, .int u1)] dX4_fault_153 rfl rfl (by decide) rfl ?_
                refine j_goto (pc := 156) hC 6 dX4_fault_156 (by decide) ?_
                obtain rfl := Option.some.inj h
                have hk : jJ X G 6 L 0 0 (jQM X G L (some (.int r)) μ' 0 0) 6 [(0, .ref (L.2.2 a0)), (1, .int u1), (2, .int v26), (3, .int (u3 + (1 : Int32)))] [] m4 := hk
                exact j_lv [4, 5, 1, 0] rfl hk
              · rw [if_pos c25] at h
                obtain rfl := Option.some.inj h
                have hk : jJ X G 6 L 0 0 (jQM X G L (some (.int r)) μ' 0 0) 136 [(0, .ref (L.2.2 a0)), (2, .int u2)] [] m4 := hk
                exact j_lv [2, 4] rfl hk
            · rw [if_neg c22] at h
              exact j_lv [1, 2, 3, 4, 0] rfl (q11 h)
        · rw [if_neg c9] at h
          refine j_iload_n (pc := 41) hC 1 2 dX4_fault_41 rfl rfl ?_
          refine j_iconst (pc := 42) hC (4 : Int32) dX4_fault_42 (by decide) ?_
          refine j_icmp_lt (pc := 43) hC 48 dX4_fault_43 (by decide) (fun c28 => ?_) (fun c28 => ?_)
          · rw [if_pos c28] at h
            refine j_aload_n (pc := 48) hC 0 1 dX4_fault_48 rfl rfl ?_
            refine jgr_4 (pc := 49) hC 3 (by decide) rfl kf_X4_11 dX4_fault_49 ka0 (ly_4_3 hL ka0).1 ?_
            refine j_iload_n (pc := 52) hC 1 2 dX4_fault_52 rfl rfl ?_
            refine j_iload (pc := 53) hC 0 dX4_fault_53 rfl ?_
            obtain ⟨i29, h⟩ := jin_some h
            obtain ⟨m30, e31, h⟩ := jbd_ex h
            refine j_iast (pc := 55) hC dX4_fault_55 (ly_4_3 hL ka0).2.1 (ly_4_3 hL ka0).2.2 i29 e31 ?_
            refine j_iinc (pc := 56) hC 2 (u1 + (1 : Int32)) [(1, .int (u1 + (1 : Int32))), (4, .int v7), (0, .ref (L.2.2 a0)), (2, .int u2), (3, .int u3)] dX4_fault_56 rfl rfl (by decide) rfl ?_
            refine j_iinc (pc := 59) hC 3 (u2 + (1 : Int32)) [(2, .int (u2 + (1 : Int32))), (1, .int (u1 + (1 : Int32))), (4, .int v7), (0, .ref (L.2.2 a0)), (3, .int u3)] dX4_fault_59 rfl rfl (by decide) rfl ?_
            refine j_goto (pc := 62) hC 153 dX4_fault_62 (by decide) ?_
            refine j_iinc (pc := 153) hC 4 (u3 + (1 : Int32)) [(3, .int (u3 + (1 : Int32))), (2, .int (u2 + (1 : Int32))), (1, .int (u1 + (1 : Int32))), (4, .int v7), (0, .ref (L.2.2 a0))] dX4_fault_153 rfl rfl (by decide) rfl ?_
            refine j_goto (pc := 156) hC 6 dX4_fault_156 (by decide) ?_
            obtain rfl := Option.some.inj h
            have hk : jJ X G 6 L 0 0 (jQM X G L (some (.int r)) μ' 0 0) 6 [(0, .ref (L.2.2 a0)), (1, .int (u1 + (1 : Int32))), (2, .int (u2 + (1 : Int32))), (3, .int (u3 + (1 : Int32)))] [] m30 := hk
            exact j_lv [4, 2, 1, 0] rfl hk
          · rw [if_neg c28] at h
            obtain rfl := Option.some.inj h
            have hk : jJ X G 6 L 0 0 (jQM X G L (some (.int r)) μ' 0 0) 46 [(2, .int u2)] [] m4 := hk
            exact j_lv [3] rfl hk
  · cases w32 with
    | inl w32 =>
      try dsimp only at h
      obtain ⟨z35, m36⟩ := w32
      try dsimp only at h
      show jJ X G 6 L 0 0 (jQM X G L (some (.int r)) μ' 0 0) 46 [(2, .int z35)] [] m36
      refine j_iload_n (pc := 46) hC 2 0 dX4_fault_46 rfl rfl ?_
      obtain ⟨rfl, rfl⟩ := Prod.mk.inj (Option.some.inj h)
      exact j_iret (pc := 47) hC dX4_fault_47 rfl
    | inr w32 =>
      try dsimp only at h
      cases w32 with
      | inl w32 =>
        try dsimp only at h
        obtain ⟨z37, m38⟩ := w32
        try dsimp only at h
        show jJ X G 6 L 0 0 (jQM X G L (some (.int r)) μ' 0 0) 100 [(2, .int z37)] [] m38
        refine j_iload_n (pc := 100) hC 2 0 dX4_fault_100 rfl rfl ?_
        obtain ⟨rfl, rfl⟩ := Prod.mk.inj (Option.some.inj h)
        exact j_iret (pc := 101) hC dX4_fault_101 rfl
      | inr w32 =>
        try dsimp only at h
        cases w32 with
        | inl w32 =>
          try dsimp only at h
          obtain ⟨z39, m40⟩ := w32
          try dsimp only at h
          show jJ X G 6 L 0 0 (jQM X G L (some (.int r)) μ' 0 0) 136 [(0, .ref (L.2.2 a0)), (2, .int z39)] [] m40
          refine j_aload_n (pc := 136) hC 0 0 dX4_fault_136 rfl rfl ?_
          refine j_iload_n (pc := 137) hC 2 1 dX4_fault_137 rfl rfl ?_
          obtain ⟨v41, e42, h⟩ := jcl_some h
          refine j_vi (pc := 138) hC hR [.int z39] iy_X4_faultIn (q := (RX4, TX4, 6)) (ci := 4) rfl rfl (by decide) km_X4_108 dX4_fault_138 rfl (by decide) ka0 (c_X4_faultIn hL ka0 e42) (by decide) (Nat.le_of_ble_eq_true rfl) rfl ?_
          obtain ⟨rfl, rfl⟩ := Prod.mk.inj (Option.some.inj h)
          exact j_iret (pc := 141) hC dX4_fault_141 rfl
        | inr w32 =>
          try dsimp only at h
          obtain ⟨z43, z44, m45⟩ := w32
          try dsimp only at h
          show jJ X G 6 L 0 0 (jQM X G L (some (.int r)) μ' 0 0) 159 [(1, .int z43), (2, .int z44)] [] m45
          refine j_iload_n (pc := 159) hC 1 0 dX4_fault_159 rfl rfl ?_
          refine jmg (B := jJ X G 6 L 0 0 (jQM X G L (some (.int r)) μ' 0 0) 168 [(1, .int z43), (2, .int z44)] [.int ((if z43 ≤ (0 : Int32) then (-1 : Int32) else z44))] m45) (fun hj => ?_) ?_
          · refine j_if_le (pc := 160) hC 167 dX4_fault_160 (by decide) (fun c46 => ?_) (fun c46 => ?_)
            · rw [if_pos c46] at hj
              refine j_iconst (pc := 167) hC (-1 : Int32) dX4_fault_167 (by decide) ?_
              exact hj
            · rw [if_neg c46] at hj
              refine j_iload_n (pc := 163) hC 2 1 dX4_fault_163 rfl rfl ?_
              refine j_goto (pc := 164) hC 168 dX4_fault_164 (by decide) ?_
              exact hj
          obtain ⟨rfl, rfl⟩ := Prod.mk.inj (Option.some.inj h)
          exact j_iret (pc := 168) hC dX4_fault_168 rfl
