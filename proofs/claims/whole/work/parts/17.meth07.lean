theorem dX9_tellThing_0 : decode cX9_tellThing 0 = .ok (.iload_n 1, 1) := by decide +kernel
theorem dX9_tellThing_1 : decode cX9_tellThing 1 = .ok (.invokestatic 53, 3) := by decide +kernel
theorem dX9_tellThing_4 : decode cX9_tellThing 4 = .ok (.ifCond .eq 14, 3) := by decide +kernel
theorem dX9_tellThing_7 : decode cX9_tellThing 7 = .ok (.sipush 1000, 3) := by decide +kernel
theorem dX9_tellThing_10 : decode cX9_tellThing 10 = .ok (.aload_n 0, 1) := by decide +kernel
theorem dX9_tellThing_11 : decode cX9_tellThing 11 = .ok (.getfield 9, 3) := by decide +kernel
theorem dX9_tellThing_14 : decode cX9_tellThing 14 = .ok (.iload_n 1, 1) := by decide +kernel
theorem dX9_tellThing_15 : decode cX9_tellThing 15 = .ok (.iaload, 1) := by decide +kernel
theorem dX9_tellThing_16 : decode cX9_tellThing 16 = .ok (.iadd, 1) := by decide +kernel
theorem dX9_tellThing_17 : decode cX9_tellThing 17 = .ok (.ireturn, 1) := by decide +kernel
theorem dX9_tellThing_18 : decode cX9_tellThing 18 = .ok (.iload_n 1, 1) := by decide +kernel
theorem dX9_tellThing_19 : decode cX9_tellThing 19 = .ok (.bipush 10, 2) := by decide +kernel
theorem dX9_tellThing_21 : decode cX9_tellThing 21 = .ok (.isub, 1) := by decide +kernel
theorem dX9_tellThing_22 : decode cX9_tellThing 22 = .ok (.invokestatic 46, 3) := by decide +kernel
theorem dX9_tellThing_25 : decode cX9_tellThing 25 = .ok (.ifCond .eq 13, 3) := by decide +kernel
theorem dX9_tellThing_28 : decode cX9_tellThing 28 = .ok (.aload_n 0, 1) := by decide +kernel
theorem dX9_tellThing_29 : decode cX9_tellThing 29 = .ok (.getfield 15, 3) := by decide +kernel
theorem dX9_tellThing_32 : decode cX9_tellThing 32 = .ok (.iload_n 1, 1) := by decide +kernel
theorem dX9_tellThing_33 : decode cX9_tellThing 33 = .ok (.bipush 10, 2) := by decide +kernel
theorem dX9_tellThing_35 : decode cX9_tellThing 35 = .ok (.isub, 1) := by decide +kernel
theorem dX9_tellThing_36 : decode cX9_tellThing 36 = .ok (.iaload, 1) := by decide +kernel
theorem dX9_tellThing_37 : decode cX9_tellThing 37 = .ok (.ireturn, 1) := by decide +kernel
theorem dX9_tellThing_38 : decode cX9_tellThing 38 = .ok (.iload_n 1, 1) := by decide +kernel
theorem dX9_tellThing_39 : decode cX9_tellThing 39 = .ok (.bipush 20, 2) := by decide +kernel
theorem dX9_tellThing_41 : decode cX9_tellThing 41 = .ok (.isub, 1) := by decide +kernel
theorem dX9_tellThing_42 : decode cX9_tellThing 42 = .ok (.invokestatic 56, 3) := by decide +kernel
theorem dX9_tellThing_45 : decode cX9_tellThing 45 = .ok (.ifCond .eq 32, 3) := by decide +kernel
theorem dX9_tellThing_48 : decode cX9_tellThing 48 = .ok (.aload_n 0, 1) := by decide +kernel
theorem dX9_tellThing_49 : decode cX9_tellThing 49 = .ok (.iload_n 1, 1) := by decide +kernel
theorem dX9_tellThing_50 : decode cX9_tellThing 50 = .ok (.bipush 20, 2) := by decide +kernel
theorem dX9_tellThing_52 : decode cX9_tellThing 52 = .ok (.isub, 1) := by decide +kernel
theorem dX9_tellThing_53 : decode cX9_tellThing 53 = .ok (.invokevirtual 59, 3) := by decide +kernel
theorem dX9_tellThing_56 : decode cX9_tellThing 56 = .ok (.istore_n 2, 1) := by decide +kernel
theorem dX9_tellThing_57 : decode cX9_tellThing 57 = .ok (.iload_n 2, 1) := by decide +kernel
theorem dX9_tellThing_58 : decode cX9_tellThing 58 = .ok (.iconst (-1), 1) := by decide +kernel
theorem dX9_tellThing_59 : decode cX9_tellThing 59 = .ok (.if_icmp .ne 7, 3) := by decide +kernel
theorem dX9_tellThing_62 : decode cX9_tellThing 62 = .ok (.iconst 0, 1) := by decide +kernel
theorem dX9_tellThing_63 : decode cX9_tellThing 63 = .ok (.goto 13, 3) := by decide +kernel
theorem dX9_tellThing_66 : decode cX9_tellThing 66 = .ok (.sipush 1000, 3) := by decide +kernel
theorem dX9_tellThing_69 : decode cX9_tellThing 69 = .ok (.aload_n 0, 1) := by decide +kernel
theorem dX9_tellThing_70 : decode cX9_tellThing 70 = .ok (.getfield 21, 3) := by decide +kernel
theorem dX9_tellThing_73 : decode cX9_tellThing 73 = .ok (.iload_n 2, 1) := by decide +kernel
theorem dX9_tellThing_74 : decode cX9_tellThing 74 = .ok (.iaload, 1) := by decide +kernel
theorem dX9_tellThing_75 : decode cX9_tellThing 75 = .ok (.iadd, 1) := by decide +kernel
theorem dX9_tellThing_76 : decode cX9_tellThing 76 = .ok (.ireturn, 1) := by decide +kernel
theorem dX9_tellThing_77 : decode cX9_tellThing 77 = .ok (.aload_n 0, 1) := by decide +kernel
theorem dX9_tellThing_78 : decode cX9_tellThing 78 = .ok (.getfield 43, 3) := by decide +kernel
theorem dX9_tellThing_81 : decode cX9_tellThing 81 = .ok (.ireturn, 1) := by decide +kernel
def f_X9_tellThing (a0 : Nat) (x1 : Int32) (μ : jM) : Option (Int32) :=
  (if (f_X11_isCell x1) = (0 : Int32) then (if (f_X11_isVariable (x1 - (10 : Int32))) = (0 : Int32) then (if (f_X11_isKey (x1 - (20 : Int32))) = (0 : Int32) then some (μ.1 a0 6) else jcl (f_X9_placeOf a0 (x1 - (20 : Int32)) μ) (fun v4 => (if v4 = (-1 : Int32) then some (0 : Int32) else jrd (μ.1 (a0 + 4)) v4 8 (fun v8 => some ((1000 : Int32) + v8))))) else jrd (μ.1 (a0 + 2)) (x1 - (10 : Int32)) 5 (fun v11 => some v11)) else jrd (μ.1 (a0 + 1)) x1 6 (fun v14 => some ((1000 : Int32) + v14)))
set_option maxHeartbeats 4000000 in
set_option maxRecDepth 100000 in
theorem c_X9_tellThing {l : Launch} {G : jG} {L : jL} (hL : jOKL L) {a0 : Nat} {x1 : Int32} (ka0 : jK L a0 9) {μ : jM} {r : Int32} (h : f_X9_tellThing a0 x1 μ = some r) : jCt l G L 4 yX9_tellThing cX9_tellThing 3 (some .int) [.ref (L.2.2 a0), .int x1] μ (some (.int r)) μ := by
  refine jCt_of (by decide) (Nat.le_of_ble_eq_true rfl) (fun X hC hX hR => ?_)
  subst hX
  have hC : jC X G cX9_tellThing 3 RX9 (some .int) := hC
  unfold f_X9_tellThing at h
  show jJ X G 3 L 0 0 (jQM X G L (some (.int r)) μ 0 0) 0 [(0, .ref (L.2.2 a0)), (1, .int x1)] [] μ
  refine j_iload_n (pc := 0) hC 1 1 dX9_tellThing_0 rfl rfl ?_
  refine j_ni (pc := 1) hC hR [.int x1] iy_X11_isCell kn_X9_53 dX9_tellThing_1 rfl (by decide) (c_X11_isCell hL  rfl) (by decide) (Nat.le_of_ble_eq_true rfl) rfl ?_
  refine j_if_eq (pc := 4) hC 18 dX9_tellThing_4 (by decide) (fun c1 => ?_) (fun c1 => ?_)
  · rw [if_pos c1] at h
    refine j_iload_n (pc := 18) hC 1 1 dX9_tellThing_18 rfl rfl ?_
    refine j_bipush (pc := 19) hC (10 : Int32) dX9_tellThing_19 (by decide) ?_
    refine j_isub (pc := 21) hC dX9_tellThing_21 ?_
    refine j_ni (pc := 22) hC hR [.int (x1 - (10 : Int32))] iy_X11_isVariable kn_X9_46 dX9_tellThing_22 rfl (by decide) (c_X11_isVariable hL  rfl) (by decide) (Nat.le_of_ble_eq_true rfl) rfl ?_
    refine j_if_eq (pc := 25) hC 38 dX9_tellThing_25 (by decide) (fun c2 => ?_) (fun c2 => ?_)
    · rw [if_pos c2] at h
      refine j_iload_n (pc := 38) hC 1 1 dX9_tellThing_38 rfl rfl ?_
      refine j_bipush (pc := 39) hC (20 : Int32) dX9_tellThing_39 (by decide) ?_
      refine j_isub (pc := 41) hC dX9_tellThing_41 ?_
      refine j_ni (pc := 42) hC hR [.int (x1 - (20 : Int32))] iy_X11_isKey kn_X9_56 dX9_tellThing_42 rfl (by decide) (c_X11_isKey hL  rfl) (by decide) (Nat.le_of_ble_eq_true rfl) rfl ?_
      refine j_if_eq (pc := 45) hC 77 dX9_tellThing_45 (by decide) (fun c3 => ?_) (fun c3 => ?_)
      · rw [if_pos c3] at h
        refine j_aload_n (pc := 77) hC 0 0 dX9_tellThing_77 rfl rfl ?_
        refine jgi_9 (pc := 78) hC 6 (by decide) rfl kf_X9_43 dX9_tellThing_78 ka0 ?_
        obtain rfl := Option.some.inj h
        exact j_iret (pc := 81) hC dX9_tellThing_81 rfl
      · rw [if_neg c3] at h
        refine j_aload_n (pc := 48) hC 0 0 dX9_tellThing_48 rfl rfl ?_
        refine j_iload_n (pc := 49) hC 1 1 dX9_tellThing_49 rfl rfl ?_
        refine j_bipush (pc := 50) hC (20 : Int32) dX9_tellThing_50 (by decide) ?_
        refine j_isub (pc := 52) hC dX9_tellThing_52 ?_
        obtain ⟨v4, e5, h⟩ := jcl_some h
        refine j_vi (pc := 53) hC hR [.int (x1 - (20 : Int32))] iy_X9_placeOf (q := (RX9, TX9, 7)) (ci := 9) rfl rfl (by decide) km_X9_59 dX9_tellThing_53 rfl (by decide) ka0 (c_X9_placeOf hL ka0 e5) (by decide) (Nat.le_of_ble_eq_true rfl) rfl ?_
        refine j_istore_n (pc := 56) hC 2 [(2, .int v4), (0, .ref (L.2.2 a0)), (1, .int x1)] dX9_tellThing_56 rfl (by decide) rfl rfl ?_
        refine j_iload_n (pc := 57) hC 2 0 dX9_tellThing_57 rfl rfl ?_
        refine j_iconst (pc := 58) hC (-1 : Int32) dX9_tellThing_58 (by decide) ?_
        refine j_icmp_ne (pc := 59) hC 66 dX9_tellThing_59 (by decide) (fun c6 => ?_) (fun c6 => ?_)
        · rw [if_neg c6] at h
          refine j_sipush (pc := 66) hC (1000 : Int32) dX9_tellThing_66 (by decide) ?_
          refine j_aload_n (pc := 69) hC 0 1 dX9_tellThing_69 rfl rfl ?_
          refine jgr_9 (pc := 70) hC 3 (by decide) rfl kf_X9_21 dX9_tellThing_70 ka0 (ly_9_3 hL ka0).1 ?_
          refine j_iload_n (pc := 73) hC 2 0 dX9_tellThing_73 rfl rfl ?_
          obtain ⟨i7, v8, e9, h⟩ := jrd_some h
          refine j_iald (pc := 74) hC dX9_tellThing_74 (ly_9_3 hL ka0).2.1 (ly_9_3 hL ka0).2.2 i7 e9 ?_
          refine j_iadd (pc := 75) hC dX9_tellThing_75 ?_
          obtain rfl := Option.some.inj h
          exact j_iret (pc := 76) hC dX9_tellThing_76 rfl
        · rw [if_pos c6] at h
          refine j_iconst (pc := 62) hC (0 : Int32) dX9_tellThing_62 (by decide) ?_
          refine j_goto (pc := 63) hC 76 dX9_tellThing_63 (by decide) ?_
          obtain rfl := Option.some.inj h
          exact j_iret (pc := 76) hC dX9_tellThing_76 rfl
    · rw [if_neg c2] at h
      refine j_aload_n (pc := 28) hC 0 0 dX9_tellThing_28 rfl rfl ?_
      refine jgr_9 (pc := 29) hC 1 (by decide) rfl kf_X9_15 dX9_tellThing_29 ka0 (ly_9_1 hL ka0).1 ?_
      refine j_iload_n (pc := 32) hC 1 1 dX9_tellThing_32 rfl rfl ?_
      refine j_bipush (pc := 33) hC (10 : Int32) dX9_tellThing_33 (by decide) ?_
      refine j_isub (pc := 35) hC dX9_tellThing_35 ?_
      obtain ⟨i10, v11, e12, h⟩ := jrd_some h
      refine j_iald (pc := 36) hC dX9_tellThing_36 (ly_9_1 hL ka0).2.1 (ly_9_1 hL ka0).2.2 i10 e12 ?_
      obtain rfl := Option.some.inj h
      exact j_iret (pc := 37) hC dX9_tellThing_37 rfl
  · rw [if_neg c1] at h
    refine j_sipush (pc := 7) hC (1000 : Int32) dX9_tellThing_7 (by decide) ?_
    refine j_aload_n (pc := 10) hC 0 0 dX9_tellThing_10 rfl rfl ?_
    refine jgr_9 (pc := 11) hC 0 (by decide) rfl kf_X9_9 dX9_tellThing_11 ka0 (ly_9_0 hL ka0).1 ?_
    refine j_iload_n (pc := 14) hC 1 1 dX9_tellThing_14 rfl rfl ?_
    obtain ⟨i13, v14, e15, h⟩ := jrd_some h
    refine j_iald (pc := 15) hC dX9_tellThing_15 (ly_9_0 hL ka0).2.1 (ly_9_0 hL ka0).2.2 i13 e15 ?_
    refine j_iadd (pc := 16) hC dX9_tellThing_16 ?_
    obtain rfl := Option.some.inj h
    exact j_iret (pc := 17) hC dX9_tellThing_17 rfl
theorem dX9_hasOtherParts_0 : decode cX9_hasOtherParts 0 = .ok (.iconst 0, 1) := by decide +kernel
theorem dX9_hasOtherParts_1 : decode cX9_hasOtherParts 1 = .ok (.istore_n 2, 1) := by decide +kernel
theorem dX9_hasOtherParts_2 : decode cX9_hasOtherParts 2 = .ok (.iload_n 2, 1) := by decide +kernel
theorem dX9_hasOtherParts_3 : decode cX9_hasOtherParts 3 = .ok (.iconst 4, 1) := by decide +kernel
theorem dX9_hasOtherParts_4 : decode cX9_hasOtherParts 4 = .ok (.aload_n 0, 1) := by decide +kernel
theorem dX9_hasOtherParts_5 : decode cX9_hasOtherParts 5 = .ok (.getfield 43, 3) := by decide +kernel
theorem dX9_hasOtherParts_8 : decode cX9_hasOtherParts 8 = .ok (.imul, 1) := by decide +kernel
theorem dX9_hasOtherParts_9 : decode cX9_hasOtherParts 9 = .ok (.if_icmp .ge 26, 3) := by decide +kernel
theorem dX9_hasOtherParts_12 : decode cX9_hasOtherParts 12 = .ok (.aload_n 0, 1) := by decide +kernel
theorem dX9_hasOtherParts_13 : decode cX9_hasOtherParts 13 = .ok (.getfield 24, 3) := by decide +kernel
theorem dX9_hasOtherParts_16 : decode cX9_hasOtherParts 16 = .ok (.iload_n 2, 1) := by decide +kernel
theorem dX9_hasOtherParts_17 : decode cX9_hasOtherParts 17 = .ok (.iaload, 1) := by decide +kernel
theorem dX9_hasOtherParts_18 : decode cX9_hasOtherParts 18 = .ok (.aload_n 1, 1) := by decide +kernel
theorem dX9_hasOtherParts_19 : decode cX9_hasOtherParts 19 = .ok (.getfield 24, 3) := by decide +kernel
theorem dX9_hasOtherParts_22 : decode cX9_hasOtherParts 22 = .ok (.iload_n 2, 1) := by decide +kernel
theorem dX9_hasOtherParts_23 : decode cX9_hasOtherParts 23 = .ok (.iaload, 1) := by decide +kernel
theorem dX9_hasOtherParts_24 : decode cX9_hasOtherParts 24 = .ok (.if_icmp .eq 5, 3) := by decide +kernel
theorem dX9_hasOtherParts_27 : decode cX9_hasOtherParts 27 = .ok (.iconst 1, 1) := by decide +kernel
theorem dX9_hasOtherParts_28 : decode cX9_hasOtherParts 28 = .ok (.ireturn, 1) := by decide +kernel
theorem dX9_hasOtherParts_29 : decode cX9_hasOtherParts 29 = .ok (.iinc 2 1, 3) := by decide +kernel
theorem dX9_hasOtherParts_32 : decode cX9_hasOtherParts 32 = .ok (.goto (-30), 3) := by decide +kernel
theorem dX9_hasOtherParts_35 : decode cX9_hasOtherParts 35 = .ok (.iconst 0, 1) := by decide +kernel
theorem dX9_hasOtherParts_36 : decode cX9_hasOtherParts 36 = .ok (.ireturn, 1) := by decide +kernel
def f_X9_hasOtherParts_L2 (a0 : Nat) (a1 : Nat) (μ : jM) (u1 : Int32) : Option ((Int32) ⊕ ((Unit) ⊕ (Unit))) :=
  (if ((4 : Int32) * (μ.1 a0 6)) ≤ u1 then some (.inr (.inr (()))) else jrd (μ.1 (a0 + 5)) u1 32 (fun v4 => jrd (μ.1 (a1 + 5)) u1 32 (fun v7 => (if v4 = v7 then some (.inl (u1 + (1 : Int32))) else some (.inr (.inl (())))))))
def f_X9_hasOtherParts (a0 : Nat) (a1 : Nat) (μ : jM) : Option (Int32) :=
  jcl (jloop (fun (s : Int32) => f_X9_hasOtherParts_L2 a0 a1 μ s) jfu (0 : Int32)) (fun w10 => match w10 with | .inl w10 => some (1 : Int32) | .inr w10 => some (0 : Int32))
set_option maxHeartbeats 4000000 in
set_option maxRecDepth 100000 in
theorem c_X9_hasOtherParts {l : Launch} {G : jG} {L : jL} (hL : jOKL L) {a0 : Nat} {a1 : Nat} (ka0 : jK L a0 9) (ka1 : jK L a1 9) {μ : jM} {r : Int32} (h : f_X9_hasOtherParts a0 a1 μ = some r) : jCt l G L 3 yX9_hasOtherParts cX9_hasOtherParts 3 (some .boolean) [.ref (L.2.2 a0), .ref (L.2.2 a1)] μ (some (.int r)) μ := by
  refine jCt_of (by decide) (Nat.le_of_ble_eq_true rfl) (fun X hC hX hR => ?_)
  subst hX
  have hC : jC X G cX9_hasOtherParts 3 RX9 (some .boolean) := hC
  unfold f_X9_hasOtherParts at h
  show jJ X G 3 L 0 0 (jQM X G L (some (.int r)) μ 0 0) 0 [(0, .ref (L.2.2 a0)), (1, .ref (L.2.2 a1))] [] μ
  refine j_iconst (pc := 0) hC (0 : Int32) dX9_hasOtherParts_0 (by decide) ?_
  refine j_istore_n (pc := 1) hC 2 [(2, .int (0 : Int32)), (0, .ref (L.2.2 a0)), (1, .ref (L.2.2 a1))] dX9_hasOtherParts_1 rfl (by decide) rfl rfl ?_
  obtain ⟨w10, hw11, h⟩ := jcl_some h
  refine j_lv [1, 2, 0] rfl ?_
  refine j_loop (step := (fun (s : Int32) => f_X9_hasOtherParts_L2 a0 a1 μ s)) (P := (fun (s : Int32) => jJ X G 3 L 0 0 (jQM X G L (some (.int r)) μ 0 0) 2 [(0, .ref (L.2.2 a0)), (1, .ref (L.2.2 a1)), (2, .int s)] [] μ)) (R := (fun (e : (Unit) ⊕ (Unit)) => match e with | .inl e => jJ X G 3 L 0 0 (jQM X G L (some (.int r)) μ 0 0) 27 [] [] μ | .inr e => jJ X G 3 L 0 0 (jQM X G L (some (.int r)) μ 0 0) 35 [] [] μ)) ?_ jfu (0 : Int32) w10 hw11 ?_
  · intro u1 o h hk
    change f_X9_hasOtherParts_L2 a0 a1 μ u1 = some o at h
    unfold f_X9_hasOtherParts_L2 at h
    show jJ X G 3 L 0 0 (jQM X G L (some (.int r)) μ 0 0) 2 [(0, .ref (L.2.2 a0)), (1, .ref (L.2.2 a1)), (2, .int u1)] [] μ
    refine j_iload_n (pc := 2) hC 2 2 dX9_hasOtherParts_2 rfl rfl ?_
    refine j_iconst (pc := 3) hC (4 : Int32) dX9_hasOtherParts_3 (by decide) ?_
    refine j_aload_n (pc := 4) hC 0 0 dX9_hasOtherParts_4 rfl rfl ?_
    refine jgi_9 (pc := 5) hC 6 (by decide) rfl kf_X9_43 dX9_hasOtherParts_5 ka0 ?_
    refine j_imul (pc := 8) hC dX9_hasOtherParts_8 ?_
    refine j_icmp_ge (pc := 9) hC 35 dX9_hasOtherParts_9 (by decide) (fun c2 => ?_) (fun c2 => ?_)
    · rw [if_pos c2] at h
      obtain rfl := Option.some.inj h
      have hk : jJ X G 3 L 0 0 (jQM X G L (some (.int r)) μ 0 0) 35 [] [] μ := hk
      exact j_lv [] rfl hk
    · rw [if_neg c2] at h
      refine j_aload_n (pc := 12) hC 0 0 dX9_hasOtherParts_12 rfl rfl ?_
      refine jgr_9 (pc := 13) hC 4 (by decide) rfl kf_X9_24 dX9_hasOtherParts_13 ka0 (ly_9_4 hL ka0).1 ?_
      refine j_iload_n (pc := 16) hC 2 2 dX9_hasOtherParts_16 rfl rfl ?_
      obtain ⟨i3, v4, e5, h⟩ := jrd_some h
      refine j_iald (pc := 17) hC dX9_hasOtherParts_17 (ly_9_4 hL ka0).2.1 (ly_9_4 hL ka0).2.2 i3 e5 ?_
      refine j_aload_n (pc := 18) hC 1 1 dX9_hasOtherParts_18 rfl rfl ?_
      refine jgr_9 (pc := 19) hC 4 (by decide) rfl kf_X9_24 dX9_hasOtherParts_19 ka1 (ly_9_4 hL ka1).1 ?_
      refine j_iload_n (pc := 22) hC 2 2 dX9_hasOtherParts_22 rfl rfl ?_
      obtain ⟨i6, v7, e8, h⟩ := jrd_some h
      refine j_iald (pc := 23) hC dX9_hasOtherParts_23 (ly_9_4 hL ka1).2.1 (ly_9_4 hL ka1).2.2 i6 e8 ?_
      refine j_icmp_eq (pc := 24) hC 29 dX9_hasOtherParts_24 (by decide) (fun c9 => ?_) (fun c9 => ?_)
      · rw [if_pos c9] at h
        refine j_iinc (pc := 29) hC 2 (u1 + (1 : Int32)) [(2, .int (u1 + (1 : Int32))), (0, .ref (L.2.2 a0)), (1, .ref (L.2.2 a1))] dX9_hasOtherParts_29 rfl rfl (by decide) rfl ?_
        refine j_goto (pc := 32) hC 2 dX9_hasOtherParts_32 (by decide) ?_
        obtain rfl := Option.some.inj h
        have hk : jJ X G 3 L 0 0 (jQM X G L (some (.int r)) μ 0 0) 2 [(0, .ref (L.2.2 a0)), (1, .ref (L.2.2 a1)), (2, .int (u1 + (1 : Int32)))] [] μ := hk
        exact j_lv [1, 2, 0] rfl hk
      · rw [if_neg c9] at h
        obtain rfl := Option.some.inj h
        have hk : jJ X G 3 L 0 0 (jQM X G L (some (.int r)) μ 0 0) 27 [] [] μ := hk
        exact j_lv [] rfl hk
  · cases w10 with
    | inl w10 =>
      try dsimp only at h
      try dsimp only at h
      show jJ X G 3 L 0 0 (jQM X G L (some (.int r)) μ 0 0) 27 [] [] μ
      refine j_iconst (pc := 27) hC (1 : Int32) dX9_hasOtherParts_27 (by decide) ?_
      obtain rfl := Option.some.inj h
      exact j_bret (pc := 28) hC dX9_hasOtherParts_28 rfl rfl
    | inr w10 =>
      try dsimp only at h
      try dsimp only at h
      show jJ X G 3 L 0 0 (jQM X G L (some (.int r)) μ 0 0) 35 [] [] μ
      refine j_iconst (pc := 35) hC (0 : Int32) dX9_hasOtherParts_35 (by decide) ?_
      obtain rfl := Option.some.inj h
      exact j_bret (pc := 36) hC dX9_hasOtherParts_36 rfl rfl
theorem dX9_isOtherwise_0 : decode cX9_isOtherwise 0 = .ok (.aload_n 0, 1) := by decide +kernel
theorem dX9_isOtherwise_1 : decode cX9_isOtherwise 1 = .ok (.iload_n 1, 1) := by decide +kernel
theorem dX9_isOtherwise_2 : decode cX9_isOtherwise 2 = .ok (.invokevirtual 63, 3) := by decide +kernel
theorem dX9_isOtherwise_5 : decode cX9_isOtherwise 5 = .ok (.aload_n 2, 1) := by decide +kernel
theorem dX9_isOtherwise_6 : decode cX9_isOtherwise 6 = .ok (.iload_n 1, 1) := by decide +kernel
theorem dX9_isOtherwise_7 : decode cX9_isOtherwise 7 = .ok (.invokevirtual 63, 3) := by decide +kernel
theorem dX9_isOtherwise_10 : decode cX9_isOtherwise 10 = .ok (.if_icmp .eq 5, 3) := by decide +kernel
theorem dX9_isOtherwise_13 : decode cX9_isOtherwise 13 = .ok (.iconst 1, 1) := by decide +kernel
theorem dX9_isOtherwise_14 : decode cX9_isOtherwise 14 = .ok (.ireturn, 1) := by decide +kernel
theorem dX9_isOtherwise_15 : decode cX9_isOtherwise 15 = .ok (.iload_n 1, 1) := by decide +kernel
theorem dX9_isOtherwise_16 : decode cX9_isOtherwise 16 = .ok (.bipush 30, 2) := by decide +kernel
theorem dX9_isOtherwise_18 : decode cX9_isOtherwise 18 = .ok (.if_icmp .ne 15, 3) := by decide +kernel
theorem dX9_isOtherwise_21 : decode cX9_isOtherwise 21 = .ok (.aload_n 0, 1) := by decide +kernel
theorem dX9_isOtherwise_22 : decode cX9_isOtherwise 22 = .ok (.aload_n 2, 1) := by decide +kernel
theorem dX9_isOtherwise_23 : decode cX9_isOtherwise 23 = .ok (.invokevirtual 66, 3) := by decide +kernel
theorem dX9_isOtherwise_26 : decode cX9_isOtherwise 26 = .ok (.ifCond .eq 7, 3) := by decide +kernel
theorem dX9_isOtherwise_29 : decode cX9_isOtherwise 29 = .ok (.iconst 1, 1) := by decide +kernel
theorem dX9_isOtherwise_30 : decode cX9_isOtherwise 30 = .ok (.goto 4, 3) := by decide +kernel
theorem dX9_isOtherwise_33 : decode cX9_isOtherwise 33 = .ok (.iconst 0, 1) := by decide +kernel
theorem dX9_isOtherwise_34 : decode cX9_isOtherwise 34 = .ok (.ireturn, 1) := by decide +kernel
def f_X9_isOtherwise (a0 : Nat) (x1 : Int32) (a2 : Nat) (μ : jM) : Option (Int32) :=
  jcl (f_X9_tellThing a0 x1 μ) (fun v1 => jcl (f_X9_tellThing a2 x1 μ) (fun v3 => (if v1 = v3 then (if x1 = (30 : Int32) then jcl (f_X9_hasOtherParts a0 a2 μ) (fun v7 => (if v7 = (0 : Int32) then some (0 : Int32) else some (1 : Int32))) else some (0 : Int32)) else some (1 : Int32))))
set_option maxHeartbeats 4000000 in
set_option maxRecDepth 100000 in
theorem c_X9_isOtherwise {l : Launch} {G : jG} {L : jL} (hL : jOKL L) {a0 : Nat} {x1 : Int32} {a2 : Nat} (ka0 : jK L a0 9) (ka2 : jK L a2 9) {μ : jM} {r : Int32} (h : f_X9_isOtherwise a0 x1 a2 μ = some r) : jCt l G L 5 yX9_isOtherwise cX9_isOtherwise 3 (some .boolean) [.ref (L.2.2 a0), .int x1, .ref (L.2.2 a2)] μ (some (.int r)) μ := by
  refine jCt_of (by decide) (Nat.le_of_ble_eq_true rfl) (fun X hC hX hR => ?_)
  subst hX
  have hC : jC X G cX9_isOtherwise 3 RX9 (some .boolean) := hC
  unfold f_X9_isOtherwise at h
  show jJ X G 3 L 0 0 (jQM X G L (some (.int r)) μ 0 0) 0 [(0, .ref (L.2.2 a0)), (1, .int x1), (2, .ref (L.2.2 a2))] [] μ
  refine j_aload_n (pc := 0) hC 0 0 dX9_isOtherwise_0 rfl rfl ?_
  refine j_iload_n (pc := 1) hC 1 1 dX9_isOtherwise_1 rfl rfl ?_
  obtain ⟨v1, e2, h⟩ := jcl_some h
  refine j_vi (pc := 2) hC hR [.int x1] iy_X9_tellThing (q := (RX9, TX9, 7)) (ci := 9) rfl rfl (by decide) km_X9_63 dX9_isOtherwise_2 rfl (by decide) ka0 (c_X9_tellThing hL ka0 e2) (by decide) (Nat.le_of_ble_eq_true rfl) rfl ?_
  refine j_aload_n (pc := 5) hC 2 2 dX9_isOtherwise_5 rfl rfl ?_
  refine j_iload_n (pc := 6) hC 1 1 dX9_isOtherwise_6 rfl rfl ?_
  obtain ⟨v3, e4, h⟩ := jcl_some h
  refine j_vi (pc := 7) hC hR [.int x1] iy_X9_tellThing (q := (RX9, TX9, 7)) (ci := 9) rfl rfl (by decide) km_X9_63 dX9_isOtherwise_7 rfl (by decide) ka2 (c_X9_tellThing hL ka2 e4) (by decide) (Nat.le_of_ble_eq_true rfl) rfl ?_
  refine j_icmp_eq (pc := 10) hC 15 dX9_isOtherwise_10 (by decide) (fun c5 => ?_) (fun c5 => ?_)
  · rw [if_pos c5] at h
    refine j_iload_n (pc := 15) hC 1 1 dX9_isOtherwise_15 rfl rfl ?_
    refine j_bipush (pc := 16) hC (30 : Int32) dX9_isOtherwise_16 (by decide) ?_
    refine j_icmp_ne (pc := 18) hC 33 dX9_isOtherwise_18 (by decide) (fun c6 => ?_) (fun c6 => ?_)
    · rw [if_neg c6] at h
      refine j_iconst (pc := 33) hC (0 : Int32) dX9_isOtherwise_33 (by decide) ?_
      obtain rfl := Option.some.inj h
      exact j_bret (pc := 34) hC dX9_isOtherwise_34 rfl rfl
    · rw [if_pos c6] at h
      refine j_aload_n (pc := 21) hC 0 0 dX9_isOtherwise_21 rfl rfl ?_
      refine j_aload_n (pc := 22) hC 2 2 dX9_isOtherwise_22 rfl rfl ?_
      obtain ⟨v7, e8, h⟩ := jcl_some h
      refine j_vi (pc := 23) hC hR [.ref (L.2.2 a2)] iy_X9_hasOtherParts (q := (RX9, TX9, 7)) (ci := 9) rfl rfl (by decide) km_X9_66 dX9_isOtherwise_23 rfl (by decide) ka0 (c_X9_hasOtherParts hL ka0 ka2 e8) (by decide) (Nat.le_of_ble_eq_true rfl) rfl ?_
      refine j_if_eq (pc := 26) hC 33 dX9_isOtherwise_26 (by decide) (fun c9 => ?_) (fun c9 => ?_)
      · rw [if_pos c9] at h
        refine j_iconst (pc := 33) hC (0 : Int32) dX9_isOtherwise_33 (by decide) ?_
        obtain rfl := Option.some.inj h
        exact j_bret (pc := 34) hC dX9_isOtherwise_34 rfl rfl
      · rw [if_neg c9] at h
        refine j_iconst (pc := 29) hC (1 : Int32) dX9_isOtherwise_29 (by decide) ?_
        refine j_goto (pc := 30) hC 34 dX9_isOtherwise_30 (by decide) ?_
        obtain rfl := Option.some.inj h
        exact j_bret (pc := 34) hC dX9_isOtherwise_34 rfl rfl
  · rw [if_neg c5] at h
    refine j_iconst (pc := 13) hC (1 : Int32) dX9_isOtherwise_13 (by decide) ?_
    obtain rfl := Option.some.inj h
    exact j_bret (pc := 14) hC dX9_isOtherwise_14 rfl rfl
theorem dX11_isThing_0 : decode cX11_isThing 0 = .ok (.iload_n 0, 1) := by decide +kernel
theorem dX11_isThing_1 : decode cX11_isThing 1 = .ok (.invokestatic 113, 3) := by decide +kernel
theorem dX11_isThing_4 : decode cX11_isThing 4 = .ok (.ifCond .ne 29, 3) := by decide +kernel
theorem dX11_isThing_7 : decode cX11_isThing 7 = .ok (.iload_n 0, 1) := by decide +kernel
theorem dX11_isThing_8 : decode cX11_isThing 8 = .ok (.bipush 10, 2) := by decide +kernel
theorem dX11_isThing_10 : decode cX11_isThing 10 = .ok (.isub, 1) := by decide +kernel
theorem dX11_isThing_11 : decode cX11_isThing 11 = .ok (.invokestatic 122, 3) := by decide +kernel
theorem dX11_isThing_14 : decode cX11_isThing 14 = .ok (.ifCond .ne 19, 3) := by decide +kernel
theorem dX11_isThing_17 : decode cX11_isThing 17 = .ok (.iload_n 0, 1) := by decide +kernel
theorem dX11_isThing_18 : decode cX11_isThing 18 = .ok (.bipush 20, 2) := by decide +kernel
theorem dX11_isThing_20 : decode cX11_isThing 20 = .ok (.isub, 1) := by decide +kernel
theorem dX11_isThing_21 : decode cX11_isThing 21 = .ok (.invokestatic 429, 3) := by decide +kernel
theorem dX11_isThing_24 : decode cX11_isThing 24 = .ok (.ifCond .ne 9, 3) := by decide +kernel
theorem dX11_isThing_27 : decode cX11_isThing 27 = .ok (.iload_n 0, 1) := by decide +kernel
theorem dX11_isThing_28 : decode cX11_isThing 28 = .ok (.bipush 30, 2) := by decide +kernel
theorem dX11_isThing_30 : decode cX11_isThing 30 = .ok (.if_icmp .ne 7, 3) := by decide +kernel
theorem dX11_isThing_33 : decode cX11_isThing 33 = .ok (.iconst 1, 1) := by decide +kernel
theorem dX11_isThing_34 : decode cX11_isThing 34 = .ok (.goto 4, 3) := by decide +kernel
theorem dX11_isThing_37 : decode cX11_isThing 37 = .ok (.iconst 0, 1) := by decide +kernel
theorem dX11_isThing_38 : decode cX11_isThing 38 = .ok (.ireturn, 1) := by decide +kernel
def f_X11_isThing (x0 : Int32) : Int32 :=
  (if (f_X11_isCell x0) = (0 : Int32) then (if (f_X11_isVariable (x0 - (10 : Int32))) = (0 : Int32) then (if (f_X11_isKey (x0 - (20 : Int32))) = (0 : Int32) then (if x0 = (30 : Int32) then (1 : Int32) else (0 : Int32)) else (1 : Int32)) else (1 : Int32)) else (1 : Int32))
set_option maxHeartbeats 4000000 in
set_option maxRecDepth 100000 in
theorem c_X11_isThing {l : Launch} {G : jG} {L : jL} (hL : jOKL L) {x0 : Int32}  {μ : jM} {r : Int32} (h : f_X11_isThing x0 = r) : jCt l G L 4 yX11_isThing cX11_isThing 1 (some .boolean) [.int x0] μ (some (.int r)) μ := by
  refine jCt_of (by decide) (Nat.le_of_ble_eq_true rfl) (fun X hC hX hR => ?_)
  subst hX
  have hC : jC X G cX11_isThing 1 RX11 (some .boolean) := hC
  unfold f_X11_isThing at h
  show jJ X G 1 L 0 0 (jQM X G L (some (.int r)) μ 0 0) 0 [(0, .int x0)] [] μ
  refine j_iload_n (pc := 0) hC 0 0 dX11_isThing_0 rfl rfl ?_
  refine j_si (pc := 1) hC hR [.int x0] iy_X11_isCell km_X11_113 dX11_isThing_1 rfl (by decide) (c_X11_isCell hL  rfl) (by decide) (Nat.le_of_ble_eq_true rfl) rfl ?_
  refine j_if_ne (pc := 4) hC 33 dX11_isThing_4 (by decide) (fun c1 => ?_) (fun c1 => ?_)
  · rw [if_neg c1] at h
    refine j_iconst (pc := 33) hC (1 : Int32) dX11_isThing_33 (by decide) ?_
    refine j_goto (pc := 34) hC 38 dX11_isThing_34 (by decide) ?_
    subst h
    exact j_bret (pc := 38) hC dX11_isThing_38 rfl rfl
  · rw [if_pos c1] at h
    refine j_iload_n (pc := 7) hC 0 0 dX11_isThing_7 rfl rfl ?_
    refine j_bipush (pc := 8) hC (10 : Int32) dX11_isThing_8 (by decide) ?_
    refine j_isub (pc := 10) hC dX11_isThing_10 ?_
    refine j_si (pc := 11) hC hR [.int (x0 - (10 : Int32))] iy_X11_isVariable km_X11_122 dX11_isThing_11 rfl (by decide) (c_X11_isVariable hL  rfl) (by decide) (Nat.le_of_ble_eq_true rfl) rfl ?_
    refine j_if_ne (pc := 14) hC 33 dX11_isThing_14 (by decide) (fun c2 => ?_) (fun c2 => ?_)
    · rw [if_neg c2] at h
      refine j_iconst (pc := 33) hC (1 : Int32) dX11_isThing_33 (by decide) ?_
      refine j_goto (pc := 34) hC 38 dX11_isThing_34 (by decide) ?_
      subst h
      exact j_bret (pc := 38) hC dX11_isThing_38 rfl rfl
    · rw [if_pos c2] at h
      refine j_iload_n (pc := 17) hC 0 0 dX11_isThing_17 rfl rfl ?_
      refine j_bipush (pc := 18) hC (20 : Int32) dX11_isThing_18 (by decide) ?_
      refine j_isub (pc := 20) hC dX11_isThing_20 ?_
      refine j_si (pc := 21) hC hR [.int (x0 - (20 : Int32))] iy_X11_isKey km_X11_429 dX11_isThing_21 rfl (by decide) (c_X11_isKey hL  rfl) (by decide) (Nat.le_of_ble_eq_true rfl) rfl ?_
      refine j_if_ne (pc := 24) hC 33 dX11_isThing_24 (by decide) (fun c3 => ?_) (fun c3 => ?_)
      · rw [if_neg c3] at h
        refine j_iconst (pc := 33) hC (1 : Int32) dX11_isThing_33 (by decide) ?_
        refine j_goto (pc := 34) hC 38 dX11_isThing_34 (by decide) ?_
        subst h
        exact j_bret (pc := 38) hC dX11_isThing_38 rfl rfl
      · rw [if_pos c3] at h
        refine j_iload_n (pc := 27) hC 0 0 dX11_isThing_27 rfl rfl ?_
        refine j_bipush (pc := 28) hC (30 : Int32) dX11_isThing_28 (by decide) ?_
        refine j_icmp_ne (pc := 30) hC 37 dX11_isThing_30 (by decide) (fun c4 => ?_) (fun c4 => ?_)
        · rw [if_neg c4] at h
          refine j_iconst (pc := 37) hC (0 : Int32) dX11_isThing_37 (by decide) ?_
          subst h
          exact j_bret (pc := 38) hC dX11_isThing_38 rfl rfl
        · rw [if_pos c4] at h
          refine j_iconst (pc := 33) hC (1 : Int32) dX11_isThing_33 (by decide) ?_
          refine j_goto (pc := 34) hC 38 dX11_isThing_34 (by decide) ?_
          subst h
          exact j_bret (pc := 38) hC dX11_isThing_38 rfl rfl
theorem dX9_otherThings_0 : decode cX9_otherThings 0 = .ok (.iconst 0, 1) := by decide +kernel
theorem dX9_otherThings_1 : decode cX9_otherThings 1 = .ok (.istore_n 2, 1) := by decide +kernel
theorem dX9_otherThings_2 : decode cX9_otherThings 2 = .ok (.iconst 0, 1) := by decide +kernel
theorem dX9_otherThings_3 : decode cX9_otherThings 3 = .ok (.istore_n 3, 1) := by decide +kernel
theorem dX9_otherThings_4 : decode cX9_otherThings 4 = .ok (.iload_n 3, 1) := by decide +kernel
theorem dX9_otherThings_5 : decode cX9_otherThings 5 = .ok (.bipush 30, 2) := by decide +kernel
theorem dX9_otherThings_7 : decode cX9_otherThings 7 = .ok (.if_icmp .gt 28, 3) := by decide +kernel
theorem dX9_otherThings_10 : decode cX9_otherThings 10 = .ok (.iload_n 3, 1) := by decide +kernel
theorem dX9_otherThings_11 : decode cX9_otherThings 11 = .ok (.invokestatic 70, 3) := by decide +kernel
theorem dX9_otherThings_14 : decode cX9_otherThings 14 = .ok (.ifCond .eq 15, 3) := by decide +kernel
theorem dX9_otherThings_17 : decode cX9_otherThings 17 = .ok (.aload_n 0, 1) := by decide +kernel
theorem dX9_otherThings_18 : decode cX9_otherThings 18 = .ok (.iload_n 3, 1) := by decide +kernel
theorem dX9_otherThings_19 : decode cX9_otherThings 19 = .ok (.aload_n 1, 1) := by decide +kernel
theorem dX9_otherThings_20 : decode cX9_otherThings 20 = .ok (.invokevirtual 73, 3) := by decide +kernel
theorem dX9_otherThings_23 : decode cX9_otherThings 23 = .ok (.ifCond .eq 6, 3) := by decide +kernel
theorem dX9_otherThings_26 : decode cX9_otherThings 26 = .ok (.iinc 2 1, 3) := by decide +kernel
theorem dX9_otherThings_29 : decode cX9_otherThings 29 = .ok (.iinc 3 1, 3) := by decide +kernel
theorem dX9_otherThings_32 : decode cX9_otherThings 32 = .ok (.goto (-28), 3) := by decide +kernel
theorem dX9_otherThings_35 : decode cX9_otherThings 35 = .ok (.iload_n 2, 1) := by decide +kernel
theorem dX9_otherThings_36 : decode cX9_otherThings 36 = .ok (.ireturn, 1) := by decide +kernel
def f_X9_otherThings_L4 (a0 : Nat) (a1 : Nat) (μ : jM) (u1 : Int32) (u2 : Int32) : Option ((Int32 × Int32) ⊕ (Int32)) :=
  (if (30 : Int32) < u2 then some (.inr u1) else (if (f_X11_isThing u2) = (0 : Int32) then some (.inl ((u1, u2 + (1 : Int32)))) else jcl (f_X9_isOtherwise a0 u2 a1 μ) (fun v5 => (if v5 = (0 : Int32) then some (.inl ((u1, u2 + (1 : Int32)))) else some (.inl ((u1 + (1 : Int32), u2 + (1 : Int32))))))))
def f_X9_otherThings (a0 : Nat) (a1 : Nat) (μ : jM) : Option (Int32) :=
  jcl (jloop (fun (s : Int32 × Int32) => f_X9_otherThings_L4 a0 a1 μ s.1 s.2) jfu (((0 : Int32), (0 : Int32)))) (fun w8 => some w8)
set_option maxHeartbeats 4000000 in
set_option maxRecDepth 100000 in
theorem c_X9_otherThings {l : Launch} {G : jG} {L : jL} (hL : jOKL L) {a0 : Nat} {a1 : Nat} (ka0 : jK L a0 9) (ka1 : jK L a1 9) {μ : jM} {r : Int32} (h : f_X9_otherThings a0 a1 μ = some r) : jCt l G L 6 yX9_otherThings cX9_otherThings 4 (some .int) [.ref (L.2.2 a0), .ref (L.2.2 a1)] μ (some (.int r)) μ := by
  refine jCt_of (by decide) (Nat.le_of_ble_eq_true rfl) (fun X hC hX hR => ?_)
  subst hX
  have hC : jC X G cX9_otherThings 4 RX9 (some .int) := hC
  unfold f_X9_otherThings at h
  show jJ X G 4 L 0 0 (jQM X G L (some (.int r)) μ 0 0) 0 [(0, .ref (L.2.2 a0)), (1, .ref (L.2.2 a1))] [] μ
  refine j_iconst (pc := 0) hC (0 : Int32) dX9_otherThings_0 (by decide) ?_
  refine j_istore_n (pc := 1) hC 2 [(2, .int (0 : Int32)), (0, .ref (L.2.2 a0)), (1, .ref (L.2.2 a1))] dX9_otherThings_1 rfl (by decide) rfl rfl ?_
  refine j_iconst (pc := 2) hC (0 : Int32) dX9_otherThings_2 (by decide) ?_
  refine j_istore_n (pc := 3) hC 3 [(3, .int (0 : Int32)), (2, .int (0 : Int32)), (0, .ref (L.2.2 a0)), (1, .ref (L.2.2 a1))] dX9_otherThings_3 rfl (by decide) rfl rfl ?_
  obtain ⟨w8, hw9, h⟩ := jcl_some h
  refine j_lv [2, 3, 1, 0] rfl ?_
  refine j_loop (step := (fun (s : Int32 × Int32) => f_X9_otherThings_L4 a0 a1 μ s.1 s.2)) (P := (fun (s : Int32 × Int32) => jJ X G 4 L 0 0 (jQM X G L (some (.int r)) μ 0 0) 4 [(0, .ref (L.2.2 a0)), (1, .ref (L.2.2 a1)), (2, .int s.1), (3, .int s.2)] [] μ)) (R := (fun (e : Int32) => jJ X G 4 L 0 0 (jQM X G L (some (.int r)) μ 0 0) 35 [(2, .int e)] [] μ)) ?_ jfu (((0 : Int32), (0 : Int32))) w8 hw9 ?_
  · intro s10 o h hk
    obtain ⟨u1, u2⟩ := s10
    change f_X9_otherThings_L4 a0 a1 μ u1 u2 = some o at h
    unfold f_X9_otherThings_L4 at h
    show jJ X G 4 L 0 0 (jQM X G L (some (.int r)) μ 0 0) 4 [(0, .ref (L.2.2 a0)), (1, .ref (L.2.2 a1)), (2, .int u1), (3, .int u2)] [] μ
    refine j_iload_n (pc := 4) hC 3 3 dX9_otherThings_4 rfl rfl ?_
    refine j_bipush (pc := 5) hC (30 : Int32) dX9_otherThings_5 (by decide) ?_
    refine j_icmp_gt (pc := 7) hC 35 dX9_otherThings_7 (by decide) (fun c3 => ?_) (fun c3 => ?_)
    · rw [if_pos c3] at h
      obtain rfl := Option.some.inj h
      have hk : jJ X G 4 L 0 0 (jQM X G L (some (.int r)) μ 0 0) 35 [(2, .int u1)] [] μ := hk
      exact j_lv [2] rfl hk
    · rw [if_neg c3] at h
      refine j_iload_n (pc := 10) hC 3 3 dX9_otherThings_10 rfl rfl ?_
      refine j_ni (pc := 11) hC hR [.int u2] iy_X11_isThing kn_X9_70 dX9_otherThings_11 rfl (by decide) (c_X11_isThing hL  rfl) (by decide) (Nat.le_of_ble_eq_true rfl) rfl ?_
      refine j_if_eq (pc := 14) hC 29 dX9_otherThings_14 (by decide) (fun c4 => ?_) (fun c4 => ?_)
      · rw [if_pos c4] at h
        refine j_iinc (pc := 29) hC 3 (u2 + (1 : Int32)) [(3, .int (u2 + (1 : Int32))), (0, .ref (L.2.2 a0)), (1, .ref (L.2.2 a1)), (2, .int u1)] dX9_otherThings_29 rfl rfl (by decide) rfl ?_
        refine j_goto (pc := 32) hC 4 dX9_otherThings_32 (by decide) ?_
        obtain rfl := Option.some.inj h
        have hk : jJ X G 4 L 0 0 (jQM X G L (some (.int r)) μ 0 0) 4 [(0, .ref (L.2.2 a0)), (1, .ref (L.2.2 a1)), (2, .int u1), (3, .int (u2 + (1 : Int32)))] [] μ := hk
        exact j_lv [1, 2, 3, 0] rfl hk
      · rw [if_neg c4] at h
        refine j_aload_n (pc := 17) hC 0 0 dX9_otherThings_17 rfl rfl ?_
        refine j_iload_n (pc := 18) hC 3 3 dX9_otherThings_18 rfl rfl ?_
        refine j_aload_n (pc := 19) hC 1 1 dX9_otherThings_19 rfl rfl ?_
        obtain ⟨v5, e6, h⟩ := jcl_some h
        refine j_vi (pc := 20) hC hR [.int u2, .ref (L.2.2 a1)] iy_X9_isOtherwise (q := (RX9, TX9, 7)) (ci := 9) rfl rfl (by decide) km_X9_73 dX9_otherThings_20 rfl (by decide) ka0 (c_X9_isOtherwise hL ka0 ka1 e6) (by decide) (Nat.le_of_ble_eq_true rfl) rfl ?_
        refine j_if_eq (pc := 23) hC 29 dX9_otherThings_23 (by decide) (fun c7 => ?_) (fun c7 => ?_)
        · rw [if_pos c7] at h
          refine j_iinc (pc := 29) hC 3 (u2 + (1 : Int32)) [(3, .int (u2 + (1 : Int32))), (0, .ref (L.2.2 a0)), (1, .ref (L.2.2 a1)), (2, .int u1)] dX9_otherThings_29 rfl rfl (by decide) rfl ?_
          refine j_goto (pc := 32) hC 4 dX9_otherThings_32 (by decide) ?_
          obtain rfl := Option.some.inj h
          have hk : jJ X G 4 L 0 0 (jQM X G L (some (.int r)) μ 0 0) 4 [(0, .ref (L.2.2 a0)), (1, .ref (L.2.2 a1)), (2, .int u1), (3, .int (u2 + (1 : Int32)))] [] μ := hk
          exact j_lv [1, 2, 3, 0] rfl hk
        · rw [if_neg c7] at h
          refine j_iinc (pc := 26) hC 2 (u1 + (1 : Int32)) [(2, .int (u1 + (1 : Int32))), (0, .ref (L.2.2 a0)), (1, .ref (L.2.2 a1)), (3, .int u2)] dX9_otherThings_26 rfl rfl (by decide) rfl ?_
          refine j_iinc (pc := 29) hC 3 (u2 + (1 : Int32)) [(3, .int (u2 + (1 : Int32))), (2, .int (u1 + (1 : Int32))), (0, .ref (L.2.2 a0)), (1, .ref (L.2.2 a1))] dX9_otherThings_29 rfl rfl (by decide) rfl ?_
          refine j_goto (pc := 32) hC 4 dX9_otherThings_32 (by decide) ?_
          obtain rfl := Option.some.inj h
          have hk : jJ X G 4 L 0 0 (jQM X G L (some (.int r)) μ 0 0) 4 [(0, .ref (L.2.2 a0)), (1, .ref (L.2.2 a1)), (2, .int (u1 + (1 : Int32))), (3, .int (u2 + (1 : Int32)))] [] μ := hk
          exact j_lv [2, 3, 1, 0] rfl hk
  · obtain ⟨z11, rfl⟩ : ∃ y, y = w8 := ⟨_, rfl⟩
    try dsimp only at h
    show jJ X G 4 L 0 0 (jQM X G L (some (.int r)) μ 0 0) 35 [(2, .int z11)] [] μ
    refine j_iload_n (pc := 35) hC 2 0 dX9_otherThings_35 rfl rfl ?_
    obtain rfl := Option.some.inj h
    exact j_iret (pc := 36) hC dX9_otherThings_36 rfl
theorem dX9_sumOfCells_0 : decode cX9_sumOfCells 0 = .ok (.iconst 0, 1) := by decide +kernel
theorem dX9_sumOfCells_1 : decode cX9_sumOfCells 1 = .ok (.istore_n 1, 1) := by decide +kernel
theorem dX9_sumOfCells_2 : decode cX9_sumOfCells 2 = .ok (.aload_n 0, 1) := by decide +kernel
theorem dX9_sumOfCells_3 : decode cX9_sumOfCells 3 = .ok (.getfield 9, 3) := by decide +kernel
theorem dX9_sumOfCells_6 : decode cX9_sumOfCells 6 = .ok (.astore_n 2, 1) := by decide +kernel
theorem dX9_sumOfCells_7 : decode cX9_sumOfCells 7 = .ok (.aload_n 2, 1) := by decide +kernel
theorem dX9_sumOfCells_8 : decode cX9_sumOfCells 8 = .ok (.arraylength, 1) := by decide +kernel
theorem dX9_sumOfCells_9 : decode cX9_sumOfCells 9 = .ok (.istore_n 3, 1) := by decide +kernel
theorem dX9_sumOfCells_10 : decode cX9_sumOfCells 10 = .ok (.iconst 0, 1) := by decide +kernel
theorem dX9_sumOfCells_11 : decode cX9_sumOfCells 11 = .ok (.istore 4, 2) := by decide +kernel
theorem dX9_sumOfCells_13 : decode cX9_sumOfCells 13 = .ok (.iload 4, 2) := by decide +kernel
theorem dX9_sumOfCells_15 : decode cX9_sumOfCells 15 = .ok (.iload_n 3, 1) := by decide +kernel
theorem dX9_sumOfCells_16 : decode cX9_sumOfCells 16 = .ok (.if_icmp .ge 20, 3) := by decide +kernel
theorem dX9_sumOfCells_19 : decode cX9_sumOfCells 19 = .ok (.aload_n 2, 1) := by decide +kernel
theorem dX9_sumOfCells_20 : decode cX9_sumOfCells 20 = .ok (.iload 4, 2) := by decide +kernel
theorem dX9_sumOfCells_22 : decode cX9_sumOfCells 22 = .ok (.iaload, 1) := by decide +kernel
theorem dX9_sumOfCells_23 : decode cX9_sumOfCells 23 = .ok (.istore 5, 2) := by decide +kernel
theorem dX9_sumOfCells_25 : decode cX9_sumOfCells 25 = .ok (.iload_n 1, 1) := by decide +kernel
theorem dX9_sumOfCells_26 : decode cX9_sumOfCells 26 = .ok (.iload 5, 2) := by decide +kernel
theorem dX9_sumOfCells_28 : decode cX9_sumOfCells 28 = .ok (.iadd, 1) := by decide +kernel
theorem dX9_sumOfCells_29 : decode cX9_sumOfCells 29 = .ok (.istore_n 1, 1) := by decide +kernel
theorem dX9_sumOfCells_30 : decode cX9_sumOfCells 30 = .ok (.iinc 4 1, 3) := by decide +kernel
theorem dX9_sumOfCells_33 : decode cX9_sumOfCells 33 = .ok (.goto (-20), 3) := by decide +kernel
theorem dX9_sumOfCells_36 : decode cX9_sumOfCells 36 = .ok (.iload_n 1, 1) := by decide +kernel
theorem dX9_sumOfCells_37 : decode cX9_sumOfCells 37 = .ok (.ireturn, 1) := by decide +kernel
def f_X9_sumOfCells_L13 (a0 : Nat) (μ : jM) (u1 : Int32) (u2 : Int32) : Option ((Int32 × Int32) ⊕ (Int32)) :=
  (if (nI 6) ≤ u2 then some (.inr u1) else jrd (μ.1 (a0 + 1)) u2 6 (fun v5 => some (.inl ((u1 + v5, u2 + (1 : Int32))))))
def f_X9_sumOfCells (a0 : Nat) (μ : jM) : Option (Int32) :=
  jcl (jloop (fun (s : Int32 × Int32) => f_X9_sumOfCells_L13 a0 μ s.1 s.2) jfu (((0 : Int32), (0 : Int32)))) (fun w7 => some w7)
set_option maxHeartbeats 4000000 in
set_option maxRecDepth 100000 in
theorem c_X9_sumOfCells {l : Launch} {G : jG} {L : jL} (hL : jOKL L) {a0 : Nat} (ka0 : jK L a0 9) {μ : jM} {r : Int32} (h : f_X9_sumOfCells a0 μ = some r) : jCt l G L 3 yX9_sumOfCells cX9_sumOfCells 6 (some .int) [.ref (L.2.2 a0)] μ (some (.int r)) μ := by
  refine jCt_of (by decide) (Nat.le_of_ble_eq_true rfl) (fun X hC hX hR => ?_)
  subst hX
  have hC : jC X G cX9_sumOfCells 6 RX9 (some .int) := hC
  unfold f_X9_sumOfCells at h
  show jJ X G 6 L 0 0 (jQM X G L (some (.int r)) μ 0 0) 0 [(0, .ref (L.2.2 a0))] [] μ
  refine j_iconst (pc := 0) hC (0 : Int32) dX9_sumOfCells_0 (by decide) ?_
  refine j_istore_n (pc := 1) hC 1 [(1, .int (0 : Int32)), (0, .ref (L.2.2 a0))] dX9_sumOfCells_1 rfl (by decide) rfl rfl ?_
  refine j_aload_n (pc := 2) hC 0 1 dX9_sumOfCells_2 rfl rfl ?_
  refine jgr_9 (pc := 3) hC 0 (by decide) rfl kf_X9_9 dX9_sumOfCells_3 ka0 (ly_9_0 hL ka0).1 ?_
  refine j_astore_n (pc := 6) hC 2 [(2, .ref (L.2.2 (a0 + 1))), (1, .int (0 : Int32)), (0, .ref (L.2.2 a0))] dX9_sumOfCells_6 rfl (by decide) rfl rfl ?_
  refine j_aload_n (pc := 7) hC 2 0 dX9_sumOfCells_7 rfl rfl ?_
  refine j_alen (pc := 8) hC 0 dX9_sumOfCells_8 (ly_9_0 hL ka0).2.1 rfl (by decide) (ly_9_0 hL ka0).2.2 ?_
  refine j_istore_n (pc := 9) hC 3 [(3, .int (nI 6)), (2, .ref (L.2.2 (a0 + 1))), (1, .int (0 : Int32)), (0, .ref (L.2.2 a0))] dX9_sumOfCells_9 rfl (by decide) rfl rfl ?_
  refine j_iconst (pc := 10) hC (0 : Int32) dX9_sumOfCells_10 (by decide) ?_
  refine j_istore (pc := 11) hC [(4, .int (0 : Int32)), (3, .int (nI 6)), (2, .ref (L.2.2 (a0 + 1))), (1, .int (0 : Int32)), (0, .ref (L.2.2 a0))] dX9_sumOfCells_11 (by decide) rfl rfl ?_
  obtain ⟨w7, hw8, h⟩ := jcl_some h
  refine j_lv [3, 2, 1, 0] rfl ?_
  refine j_loop (step := (fun (s : Int32 × Int32) => f_X9_sumOfCells_L13 a0 μ s.1 s.2)) (P := (fun (s : Int32 × Int32) => jJ X G 6 L 0 0 (jQM X G L (some (.int r)) μ 0 0) 13 [(1, .int s.1), (2, .ref (L.2.2 (a0 + 1))), (3, .int (nI 6)), (4, .int s.2)] [] μ)) (R := (fun (e : Int32) => jJ X G 6 L 0 0 (jQM X G L (some (.int r)) μ 0 0) 36 [(1, .int e)] [] μ)) ?_ jfu (((0 : Int32), (0 : Int32))) w7 hw8 ?_
  · intro s9 o h hk
    obtain ⟨u1, u2⟩ := s9
    change f_X9_sumOfCells_L13 a0 μ u1 u2 = some o at h
    unfold f_X9_sumOfCells_L13 at h
    show jJ X G 6 L 0 0 (jQM X G L (some (.int r)) μ 0 0) 13 [(1, .int u1), (2, .ref (L.2.2 (a0 + 1))), (3, .int (nI 6)), (4, .int u2)] [] μ
    refine j_iload (pc := 13) hC 3 dX9_sumOfCells_13 rfl ?_
    refine j_iload_n (pc := 15) hC 3 2 dX9_sumOfCells_15 rfl rfl ?_
    refine j_icmp_ge (pc := 16) hC 36 dX9_sumOfCells_16 (by decide) (fun c3 => ?_) (fun c3 => ?_)
    · rw [if_pos c3] at h
      obtain rfl := Option.some.inj h
      have hk : jJ X G 6 L 0 0 (jQM X G L (some (.int r)) μ 0 0) 36 [(1, .int u1)] [] μ := hk
      exact j_lv [0] rfl hk
    · rw [if_neg c3] at h
      refine j_aload_n (pc := 19) hC 2 1 dX9_sumOfCells_19 rfl rfl ?_
      refine j_iload (pc := 20) hC 3 dX9_sumOfCells_20 rfl ?_
      obtain ⟨i4, v5, e6, h⟩ := jrd_some h
      refine j_iald (pc := 22) hC dX9_sumOfCells_22 (ly_9_0 hL ka0).2.1 (ly_9_0 hL ka0).2.2 i4 e6 ?_
      refine j_istore (pc := 23) hC [(5, .int v5), (1, .int u1), (2, .ref (L.2.2 (a0 + 1))), (3, .int (nI 6)), (4, .int u2)] dX9_sumOfCells_23 (by decide) rfl rfl ?_
      refine j_iload_n (pc := 25) hC 1 1 dX9_sumOfCells_25 rfl rfl ?_
      refine j_iload (pc := 26) hC 0 dX9_sumOfCells_26 rfl ?_
      refine j_iadd (pc := 28) hC dX9_sumOfCells_28 ?_
      refine j_istore_n (pc := 29) hC 1 [(1, .int (u1 + v5)), (5, .int v5), (2, .ref (L.2.2 (a0 + 1))), (3, .int (nI 6)), (4, .int u2)] dX9_sumOfCells_29 rfl (by decide) rfl rfl ?_
      refine j_iinc (pc := 30) hC 4 (u2 + (1 : Int32)) [(4, .int (u2 + (1 : Int32))), (1, .int (u1 + v5)), (5, .int v5), (2, .ref (L.2.2 (a0 + 1))), (3, .int (nI 6))] dX9_sumOfCells_30 rfl rfl (by decide) rfl ?_
      refine j_goto (pc := 33) hC 13 dX9_sumOfCells_33 (by decide) ?_
      obtain rfl := Option.some.inj h
      have hk : jJ X G 6 L 0 0 (jQM X G L (some (.int r)) μ 0 0) 13 [(1, .int (u1 + v5)), (2, .ref (L.2.2 (a0 + 1))), (3, .int (nI 6)), (4, .int (u2 + (1 : Int32)))] [] μ := hk
      exact j_lv [1, 3, 4, 0] rfl hk
  · obtain ⟨z10, rfl⟩ : ∃ y, y = w7 := ⟨_, rfl⟩
    try dsimp only at h
    show jJ X G 6 L 0 0 (jQM X G L (some (.int r)) μ 0 0) 36 [(1, .int z10)] [] μ
    refine j_iload_n (pc := 36) hC 1 0 dX9_sumOfCells_36 rfl rfl ?_
    obtain rfl := Option.some.inj h
    exact j_iret (pc := 37) hC dX9_sumOfCells_37 rfl
theorem dX9_valuesLeft_0 : decode cX9_valuesLeft 0 = .ok (.iconst 0, 1) := by decide +kernel
theorem dX9_valuesLeft_1 : decode cX9_valuesLeft 1 = .ok (.istore_n 1, 1) := by decide +kernel
theorem dX9_valuesLeft_2 : decode cX9_valuesLeft 2 = .ok (.aload_n 0, 1) := by decide +kernel
theorem dX9_valuesLeft_3 : decode cX9_valuesLeft 3 = .ok (.getfield 15, 3) := by decide +kernel
theorem dX9_valuesLeft_6 : decode cX9_valuesLeft 6 = .ok (.astore_n 2, 1) := by decide +kernel
theorem dX9_valuesLeft_7 : decode cX9_valuesLeft 7 = .ok (.aload_n 2, 1) := by decide +kernel
theorem dX9_valuesLeft_8 : decode cX9_valuesLeft 8 = .ok (.arraylength, 1) := by decide +kernel
theorem dX9_valuesLeft_9 : decode cX9_valuesLeft 9 = .ok (.istore_n 3, 1) := by decide +kernel
theorem dX9_valuesLeft_10 : decode cX9_valuesLeft 10 = .ok (.iconst 0, 1) := by decide +kernel
theorem dX9_valuesLeft_11 : decode cX9_valuesLeft 11 = .ok (.istore 4, 2) := by decide +kernel
theorem dX9_valuesLeft_13 : decode cX9_valuesLeft 13 = .ok (.iload 4, 2) := by decide +kernel
theorem dX9_valuesLeft_15 : decode cX9_valuesLeft 15 = .ok (.iload_n 3, 1) := by decide +kernel
theorem dX9_valuesLeft_16 : decode cX9_valuesLeft 16 = .ok (.if_icmp .ge 23, 3) := by decide +kernel
theorem dX9_valuesLeft_19 : decode cX9_valuesLeft 19 = .ok (.aload_n 2, 1) := by decide +kernel
theorem dX9_valuesLeft_20 : decode cX9_valuesLeft 20 = .ok (.iload 4, 2) := by decide +kernel
theorem dX9_valuesLeft_22 : decode cX9_valuesLeft 22 = .ok (.iaload, 1) := by decide +kernel
theorem dX9_valuesLeft_23 : decode cX9_valuesLeft 23 = .ok (.istore 5, 2) := by decide +kernel
theorem dX9_valuesLeft_25 : decode cX9_valuesLeft 25 = .ok (.iload_n 1, 1) := by decide +kernel
theorem dX9_valuesLeft_26 : decode cX9_valuesLeft 26 = .ok (.iload 5, 2) := by decide +kernel
theorem dX9_valuesLeft_28 : decode cX9_valuesLeft 28 = .ok (.invokestatic 77, 3) := by decide +kernel
theorem dX9_valuesLeft_31 : decode cX9_valuesLeft 31 = .ok (.iadd, 1) := by decide +kernel
theorem dX9_valuesLeft_32 : decode cX9_valuesLeft 32 = .ok (.istore_n 1, 1) := by decide +kernel
theorem dX9_valuesLeft_33 : decode cX9_valuesLeft 33 = .ok (.iinc 4 1, 3) := by decide +kernel
theorem dX9_valuesLeft_36 : decode cX9_valuesLeft 36 = .ok (.goto (-23), 3) := by decide +kernel
theorem dX9_valuesLeft_39 : decode cX9_valuesLeft 39 = .ok (.iload_n 1, 1) := by decide +kernel
theorem dX9_valuesLeft_40 : decode cX9_valuesLeft 40 = .ok (.ireturn, 1) := by decide +kernel
def f_X9_valuesLeft_L13 (a0 : Nat) (μ : jM) (u1 : Int32) (u2 : Int32) : Option ((Int32 × Int32) ⊕ (Int32)) :=
  (if (nI 5) ≤ u2 then some (.inr u1) else jrd (μ.1 (a0 + 2)) u2 5 (fun v5 => jbd (u1 + (f_J6_bitCount_0f7a4 v5) : Int32) (fun v7 => some (.inl ((v7, u2 + (1 : Int32)))))))
def f_X9_valuesLeft (a0 : Nat) (μ : jM) : Option (Int32) :=
  jcl (jloop (fun (s : Int32 × Int32) => f_X9_valuesLeft_L13 a0 μ s.1 s.2) jfu (((0 : Int32), (0 : Int32)))) (fun w9 => some w9)
set_option maxHeartbeats 4000000 in
set_option maxRecDepth 100000 in
theorem c_X9_valuesLeft {l : Launch} {G : jG} {L : jL} (hL : jOKL L) {a0 : Nat} (ka0 : jK L a0 9) {μ : jM} {r : Int32} (h : f_X9_valuesLeft a0 μ = some r) : jCt l G L 4 yX9_valuesLeft cX9_valuesLeft 6 (some .int) [.ref (L.2.2 a0)] μ (some (.int r)) μ := by
  refine jCt_of (by decide) (Nat.le_of_ble_eq_true rfl) (fun X hC hX hR => ?_)
  subst hX
  have hC : jC X G cX9_valuesLeft 6 RX9 (some .int) := hC
  unfold f_X9_valuesLeft at h
  show jJ X G 6 L 0 0 (jQM X G L (some (.int r)) μ 0 0) 0 [(0, .ref (L.2.2 a0))] [] μ
  refine j_iconst (pc := 0) hC (0 : Int32) dX9_valuesLeft_0 (by decide) ?_
  refine j_istore_n (pc := 1) hC 1 [(1, .int (0 : Int32)), (0, .ref (L.2.2 a0))] dX9_valuesLeft_1 rfl (by decide) rfl rfl ?_
  refine j_aload_n (pc := 2) hC 0 1 dX9_valuesLeft_2 rfl rfl ?_
  refine jgr_9 (pc := 3) hC 1 (by decide) rfl kf_X9_15 dX9_valuesLeft_3 ka0 (ly_9_1 hL ka0).1 ?_
  refine j_astore_n (pc := 6) hC 2 [(2, .ref (L.2.2 (a0 + 2))), (1, .int (0 : Int32)), (0, .ref (L.2.2 a0))] dX9_valuesLeft_6 rfl (by decide) rfl rfl ?_
  refine j_aload_n (pc := 7) hC 2 0 dX9_valuesLeft_7 rfl rfl ?_
  refine j_alen (pc := 8) hC 0 dX9_valuesLeft_8 (ly_9_1 hL ka0).2.1 rfl (by decide) (ly_9_1 hL ka0).2.2 ?_
  refine j_istore_n (pc := 9) hC 3 [(3, .int (nI 5)), (2, .ref (L.2.2 (a0 + 2))), (1, .int (0 : Int32)), (0, .ref (L.2.2 a0))] dX9_valuesLeft_9 rfl (by decide) rfl rfl ?_
  refine j_iconst (pc := 10) hC (0 : Int32) dX9_valuesLeft_10 (by decide) ?_
  refine j_istore (pc := 11) hC [(4, .int (0 : Int32)), (3, .int (nI 5)), (2, .ref (L.2.2 (a0 + 2))), (1, .int (0 : Int32)), (0, .ref (L.2.2 a0))] dX9_valuesLeft_11 (by decide) rfl rfl ?_
  obtain ⟨w9, hw10, h⟩ := jcl_some h
  refine j_lv [3, 2, 1, 0] rfl ?_
  refine j_loop (step := (fun (s : Int32 × Int32) => f_X9_valuesLeft_L13 a0 μ s.1 s.2)) (P := (fun (s : Int32 × Int32) => jJ X G 6 L 0 0 (jQM X G L (some (.int r)) μ 0 0) 13 [(1, .int s.1), (2, .ref (L.2.2 (a0 + 2))), (3, .int (nI 5)), (4, .int s.2)] [] μ)) (R := (fun (e : Int32) => jJ X G 6 L 0 0 (jQM X G L (some (.int r)) μ 0 0) 39 [(1, .int e)] [] μ)) ?_ jfu (((0 : Int32), (0 : Int32))) w9 hw10 ?_
  · intro s11 o h hk
    obtain ⟨u1, u2⟩ := s11
    change f_X9_valuesLeft_L13 a0 μ u1 u2 = some o at h
    unfold f_X9_valuesLeft_L13 at h
    show jJ X G 6 L 0 0 (jQM X G L (some (.int r)) μ 0 0) 13 [(1, .int u1), (2, .ref (L.2.2 (a0 + 2))), (3, .int (nI 5)), (4, .int u2)] [] μ
    refine j_iload (pc := 13) hC 3 dX9_valuesLeft_13 rfl ?_
    refine j_iload_n (pc := 15) hC 3 2 dX9_valuesLeft_15 rfl rfl ?_
    refine j_icmp_ge (pc := 16) hC 39 dX9_valuesLeft_16 (by decide) (fun c3 => ?_) (fun c3 => ?_)
    · rw [if_pos c3] at h
      obtain rfl := Option.some.inj h
      have hk : jJ X G 6 L 0 0 (jQM X G L (some (.int r)) μ 0 0) 39 [(1, .int u1)] [] μ := hk
      exact j_lv [0] rfl hk
    · rw [if_neg c3] at h
      refine j_aload_n (pc := 19) hC 2 1 dX9_valuesLeft_19 rfl rfl ?_
      refine j_iload (pc := 20) hC 3 dX9_valuesLeft_20 rfl ?_
      obtain ⟨i4, v5, e6, h⟩ := jrd_some h
      refine j_iald (pc := 22) hC dX9_valuesLeft_22 (ly_9_1 hL ka0).2.1 (ly_9_1 hL ka0).2.2 i4 e6 ?_
      refine j_istore (pc := 23) hC [(5, .int v5), (1, .int u1), (2, .ref (L.2.2 (a0 + 2))), (3, .int (nI 5)), (4, .int u2)] dX9_valuesLeft_23 (by decide) rfl rfl ?_
      refine j_iload_n (pc := 25) hC 1 1 dX9_valuesLeft_25 rfl rfl ?_
      refine j_iload (pc := 26) hC 0 dX9_valuesLeft_26 rfl ?_
      refine j_si (pc := 28) hC hR [.int v5] iy_J6_bitCount_0f7a4 km_X9_77 dX9_valuesLeft_28 rfl (by decide) (c_J6_bitCount_0f7a4 hL  rfl) (by decide) (Nat.le_of_ble_eq_true rfl) rfl ?_
      refine j_iadd (pc := 31) hC dX9_valuesLeft_31 ?_
      obtain ⟨v7, e8, h⟩ := jbd_ex h
      refine j_istore_n (pc := 32) hC 1 [(1, .int v7), (5, .int v5), (2, .ref (L.2.2 (a0 + 2))), (3, .int (nI 5)), (4, .int u2)] dX9_valuesLeft_32 rfl (by decide) e8 rfl ?_
      refine j_iinc (pc := 33) hC 4 (u2 + (1 : Int32)) [(4, .int (u2 + (1 : Int32))), (1, .int v7), (5, .int v5), (2, .ref (L.2.2 (a0 + 2))), (3, .int (nI 5))] dX9_valuesLeft_33 rfl rfl (by decide) rfl ?_
      refine j_goto (pc := 36) hC 13 dX9_valuesLeft_36 (by decide) ?_
      obtain rfl := Option.some.inj h
      have hk : jJ X G 6 L 0 0 (jQM X G L (some (.int r)) μ 0 0) 13 [(1, .int v7), (2, .ref (L.2.2 (a0 + 2))), (3, .int (nI 5)), (4, .int (u2 + (1 : Int32)))] [] μ := hk
      exact j_lv [1, 3, 4, 0] rfl hk
  · obtain ⟨z12, rfl⟩ : ∃ y, y = w9 := ⟨_, rfl⟩
    try dsimp only at h
    show jJ X G 6 L 0 0 (jQM X G L (some (.int r)) μ 0 0) 39 [(1, .int z12)] [] μ
    refine j_iload_n (pc := 39) hC 1 0 dX9_valuesLeft_39 rfl rfl ?_
    obtain rfl := Option.some.inj h
    exact j_iret (pc := 40) hC dX9_valuesLeft_40 rfl
theorem dX9_settled_0 : decode cX9_settled 0 = .ok (.iconst 0, 1) := by decide +kernel
theorem dX9_settled_1 : decode cX9_settled 1 = .ok (.istore_n 1, 1) := by decide +kernel
theorem dX9_settled_2 : decode cX9_settled 2 = .ok (.iconst 0, 1) := by decide +kernel
theorem dX9_settled_3 : decode cX9_settled 3 = .ok (.istore_n 2, 1) := by decide +kernel
theorem dX9_settled_4 : decode cX9_settled 4 = .ok (.iload_n 2, 1) := by decide +kernel
theorem dX9_settled_5 : decode cX9_settled 5 = .ok (.iconst 5, 1) := by decide +kernel
theorem dX9_settled_6 : decode cX9_settled 6 = .ok (.if_icmp .ge 28, 3) := by decide +kernel
theorem dX9_settled_9 : decode cX9_settled 9 = .ok (.aload_n 0, 1) := by decide +kernel
theorem dX9_settled_10 : decode cX9_settled 10 = .ok (.getfield 15, 3) := by decide +kernel
theorem dX9_settled_13 : decode cX9_settled 13 = .ok (.iload_n 2, 1) := by decide +kernel
theorem dX9_settled_14 : decode cX9_settled 14 = .ok (.iaload, 1) := by decide +kernel
theorem dX9_settled_15 : decode cX9_settled 15 = .ok (.invokestatic 77, 3) := by decide +kernel
theorem dX9_settled_18 : decode cX9_settled 18 = .ok (.iconst 1, 1) := by decide +kernel
theorem dX9_settled_19 : decode cX9_settled 19 = .ok (.if_icmp .ne 9, 3) := by decide +kernel
theorem dX9_settled_22 : decode cX9_settled 22 = .ok (.iload_n 1, 1) := by decide +kernel
theorem dX9_settled_23 : decode cX9_settled 23 = .ok (.iconst 1, 1) := by decide +kernel
theorem dX9_settled_24 : decode cX9_settled 24 = .ok (.iload_n 2, 1) := by decide +kernel
theorem dX9_settled_25 : decode cX9_settled 25 = .ok (.ishl, 1) := by decide +kernel
theorem dX9_settled_26 : decode cX9_settled 26 = .ok (.ior, 1) := by decide +kernel
theorem dX9_settled_27 : decode cX9_settled 27 = .ok (.istore_n 1, 1) := by decide +kernel
theorem dX9_settled_28 : decode cX9_settled 28 = .ok (.iinc 2 1, 3) := by decide +kernel
theorem dX9_settled_31 : decode cX9_settled 31 = .ok (.goto (-27), 3) := by decide +kernel
theorem dX9_settled_34 : decode cX9_settled 34 = .ok (.iload_n 1, 1) := by decide +kernel
theorem dX9_settled_35 : decode cX9_settled 35 = .ok (.ireturn, 1) := by decide +kernel
def f_X9_settled_L4 (a0 : Nat) (μ : jM) (u1 : Int32) (u2 : Int32) : Option ((Int32 × Int32) ⊕ (Int32)) :=
  (if (5 : Int32) ≤ u2 then some (.inr u1) else jrd (μ.1 (a0 + 2)) u2 5 (fun v5 => (if (f_J6_bitCount_0f7a4 v5) = (1 : Int32) then jbd (u1 ||| ((1 : Int32) <<< (u2 &&& 31)) : Int32) (fun v8 => some (.inl ((v8, u2 + (1 : Int32))))) else some (.inl ((u1, u2 + (1 : Int32)))))))
def f_X9_settled (a0 : Nat) (μ : jM) : Option (Int32) :=
  jcl (jloop (fun (s : Int32 × Int32) => f_X9_settled_L4 a0 μ s.1 s.2) jfu (((0 : Int32), (0 : Int32)))) (fun w10 => some w10)
set_option maxHeartbeats 4000000 in
set_option maxRecDepth 100000 in
theorem c_X9_settled {l : Launch} {G : jG} {L : jL} (hL : jOKL L) {a0 : Nat} (ka0 : jK L a0 9) {μ : jM} {r : Int32} (h : f_X9_settled a0 μ = some r) : jCt l G L 4 yX9_settled cX9_settled 3 (some .int) [.ref (L.2.2 a0)] μ (some (.int r)) μ := by
  refine jCt_of (by decide) (Nat.le_of_ble_eq_true rfl) (fun X hC hX hR => ?_)
  subst hX
  have hC : jC X G cX9_settled 3 RX9 (some .int) := hC
  unfold f_X9_settled at h
  show jJ X G 3 L 0 0 (jQM X G L (some (.int r)) μ 0 0) 0 [(0, .ref (L.2.2 a0))] [] μ
  refine j_iconst (pc := 0) hC (0 : Int32) dX9_settled_0 (by decide) ?_
  refine j_istore_n (pc := 1) hC 1 [(1, .int (0 : Int32)), (0, .ref (L.2.2 a0))] dX9_settled_1 rfl (by decide) rfl rfl ?_
  refine j_iconst (pc := 2) hC (0 : Int32) dX9_settled_2 (by decide) ?_
  refine j_istore_n (pc := 3) hC 2 [(2, .int (0 : Int32)), (1, .int (0 : Int32)), (0, .ref (L.2.2 a0))] dX9_settled_3 rfl (by decide) rfl rfl ?_
  obtain ⟨w10, hw11, h⟩ := jcl_some h
  refine j_lv [2, 1, 0] rfl ?_
  refine j_loop (step := (fun (s : Int32 × Int32) => f_X9_settled_L4 a0 μ s.1 s.2)) (P := (fun (s : Int32 × Int32) => jJ X G 3 L 0 0 (jQM X G L (some (.int r)) μ 0 0) 4 [(0, .ref (L.2.2 a0)), (1, .int s.1), (2, .int s.2)] [] μ)) (R := (fun (e : Int32) => jJ X G 3 L 0 0 (jQM X G L (some (.int r)) μ 0 0) 34 [(1, .int e)] [] μ)) ?_ jfu (((0 : Int32), (0 : Int32))) w10 hw11 ?_
  · intro s12 o h hk
    obtain ⟨u1, u2⟩ := s12
    change f_X9_settled_L4 a0 μ u1 u2 = some o at h
    unfold f_X9_settled_L4 at h
    show jJ X G 3 L 0 0 (jQM X G L (some (.int r)) μ 0 0) 4 [(0, .ref (L.2.2 a0)), (1, .int u1), (2, .int u2)] [] μ
    refine j_iload_n (pc := 4) hC 2 2 dX9_settled_4 rfl rfl ?_
    refine j_iconst (pc := 5) hC (5 : Int32) dX9_settled_5 (by decide) ?_
    refine j_icmp_ge (pc := 6) hC 34 dX9_settled_6 (by decide) (fun c3 => ?_) (fun c3 => ?_)
    · rw [if_pos c3] at h
      obtain rfl := Option.some.inj h
      have hk : jJ X G 3 L 0 0 (jQM X G L (some (.int r)) μ 0 0) 34 [(1, .int u1)] [] μ := hk
      exact j_lv [1] rfl hk
    · rw [if_neg c3] at h
      refine j_aload_n (pc := 9) hC 0 0 dX9_settled_9 rfl rfl ?_
      refine jgr_9 (pc := 10) hC 1 (by decide) rfl kf_X9_15 dX9_settled_10 ka0 (ly_9_1 hL ka0).1 ?_
      refine j_iload_n (pc := 13) hC 2 2 dX9_settled_13 rfl rfl ?_
      obtain ⟨i4, v5, e6, h⟩ := jrd_some h
      refine j_iald (pc := 14) hC dX9_settled_14 (ly_9_1 hL ka0).2.1 (ly_9_1 hL ka0).2.2 i4 e6 ?_
      refine j_si (pc := 15) hC hR [.int v5] iy_J6_bitCount_0f7a4 km_X9_77 dX9_settled_15 rfl (by decide) (c_J6_bitCount_0f7a4 hL  rfl) (by decide) (Nat.le_of_ble_eq_true rfl) rfl ?_
      refine j_iconst (pc := 18) hC (1 : Int32) dX9_settled_18 (by decide) ?_
      refine j_icmp_ne (pc := 19) hC 28 dX9_settled_19 (by decide) (fun c7 => ?_) (fun c7 => ?_)
      · rw [if_neg c7] at h
        refine j_iinc (pc := 28) hC 2 (u2 + (1 : Int32)) [(2, .int (u2 + (1 : Int32))), (0, .ref (L.2.2 a0)), (1, .int u1)] dX9_settled_28 rfl rfl (by decide) rfl ?_
        refine j_goto (pc := 31) hC 4 dX9_settled_31 (by decide) ?_
        obtain rfl := Option.some.inj h
        have hk : jJ X G 3 L 0 0 (jQM X G L (some (.int r)) μ 0 0) 4 [(0, .ref (L.2.2 a0)), (1, .int u1), (2, .int (u2 + (1 : Int32)))] [] μ := hk
        exact j_lv [1, 2, 0] rfl hk
      · rw [if_pos c7] at h
        refine j_iload_n (pc := 22) hC 1 1 dX9_settled_22 rfl rfl ?_
        refine j_iconst (pc := 23) hC (1 : Int32) dX9_settled_23 (by decide) ?_
        refine j_iload_n (pc := 24) hC 2 2 dX9_settled_24 rfl rfl ?_
        refine j_ishl (pc := 25) hC dX9_settled_25 ?_
        refine j_ior (pc := 26) hC dX9_settled_26 ?_
        obtain ⟨v8, e9, h⟩ := jbd_ex h
        refine j_istore_n (pc := 27) hC 1 [(1, .int v8), (0, .ref (L.2.2 a0)), (2, .int u2)] dX9_settled_27 rfl (by decide) e9 rfl ?_
        refine j_iinc (pc := 28) hC 2 (u2 + (1 : Int32)) [(2, .int (u2 + (1 : Int32))), (1, .int v8), (0, .ref (L.2.2 a0))] dX9_settled_28 rfl rfl (by decide) rfl ?_
        refine j_goto (pc := 31) hC 4 dX9_settled_31 (by decide) ?_
        obtain rfl := Option.some.inj h
        have hk : jJ X G 3 L 0 0 (jQM X G L (some (.int r)) μ 0 0) 4 [(0, .ref (L.2.2 a0)), (1, .int v8), (2, .int (u2 + (1 : Int32)))] [] μ := hk
        exact j_lv [2, 1, 0] rfl hk
  · obtain ⟨z13, rfl⟩ : ∃ y, y = w10 := ⟨_, rfl⟩
    try dsimp only at h
    show jJ X G 3 L 0 0 (jQM X G L (some (.int r)) μ 0 0) 34 [(1, .int z13)] [] μ
    refine j_iload_n (pc := 34) hC 1 0 dX9_settled_34 rfl rfl ?_
    obtain rfl := Option.some.inj h
    exact j_iret (pc := 35) hC dX9_settled_35 rfl
theorem dX10_begin_0 : decode cX10_begin 0 = .ok (.aload_n 0, 1) := by decide +kernel
theorem dX10_begin_1 : decode cX10_begin 1 = .ok (.iload_n 1, 1) := by decide +kernel
theorem dX10_begin_2 : decode cX10_begin 2 = .ok (.putfield 22, 3) := by decide +kernel
theorem dX10_begin_5 : decode cX10_begin 5 = .ok (.aload_n 0, 1) := by decide +kernel
theorem dX10_begin_6 : decode cX10_begin 6 = .ok (.iconst 0, 1) := by decide +kernel
theorem dX10_begin_7 : decode cX10_begin 7 = .ok (.putfield 26, 3) := by decide +kernel
theorem dX10_begin_10 : decode cX10_begin 10 = .ok (.return_, 1) := by decide +kernel
def f_X10_begin (a0 : Nat) (x1 : Int32) (μ : jM) : Option (jM) :=
  jbz x1 (jbd (jsi μ a0 3 x1) (fun m1 => jbd (jsi m1 a0 4 (0 : Int32)) (fun m4 => some m4)))
set_option maxHeartbeats 4000000 in
set_option maxRecDepth 100000 in
theorem c_X10_begin {l : Launch} {G : jG} {L : jL} (hL : jOKL L) {a0 : Nat} {x1 : Int32} (ka0 : jK L a0 10) {μ μ' : jM} (h : f_X10_begin a0 x1 μ = some μ') : jCt l G L 3 yX10_begin cX10_begin 2 none [.ref (L.2.2 a0), .int x1] μ none μ' := by
  refine jCt_of (by decide) (Nat.le_of_ble_eq_true rfl) (fun X hC hX hR => ?_)
  subst hX
  have hC : jC X G cX10_begin 2 RX10 none := hC
  unfold f_X10_begin at h
  show jJ X G 2 L 0 0 (jQM X G L none μ' 0 0) 0 [(0, .ref (L.2.2 a0)), (1, .int x1)] [] μ
  refine j_aload_n (pc := 0) hC 0 0 dX10_begin_0 rfl rfl ?_
  refine j_iload_n (pc := 1) hC 1 1 dX10_begin_1 rfl rfl ?_
  obtain ⟨b3, h⟩ := jbz_some h
  obtain ⟨m1, e2, h⟩ := jbd_ex h
  refine jpz_10 (pc := 2) hC 3 (by decide) rfl kf_X10_22 dX10_begin_2 rfl (by decide) b3 ka0 e2 ?_
  refine j_aload_n (pc := 5) hC 0 0 dX10_begin_5 rfl rfl ?_
  refine j_iconst (pc := 6) hC (0 : Int32) dX10_begin_6 (by decide) ?_
  obtain ⟨m4, e5, h⟩ := jbd_ex h
  refine jpz_10 (pc := 7) hC 4 (by decide) rfl kf_X10_26 dX10_begin_7 rfl (by decide) (by decide) ka0 e5 ?_
  obtain rfl := Option.some.inj h
  exact j_vret (pc := 10) hC dX10_begin_10 rfl
theorem dX10_brokenInAll_0 : decode cX10_brokenInAll 0 = .ok (.aload_n 0, 1) := by decide +kernel
theorem dX10_brokenInAll_1 : decode cX10_brokenInAll 1 = .ok (.getfield 15, 3) := by decide +kernel
theorem dX10_brokenInAll_4 : decode cX10_brokenInAll 4 = .ok (.iconst 4, 1) := by decide +kernel
theorem dX10_brokenInAll_5 : decode cX10_brokenInAll 5 = .ok (.iaload, 1) := by decide +kernel
theorem dX10_brokenInAll_6 : decode cX10_brokenInAll 6 = .ok (.ireturn, 1) := by decide +kernel
def f_X10_brokenInAll (a0 : Nat) (μ : jM) : Option (Int32) :=
  jrd (μ.1 (a0 + 2)) (4 : Int32) 5 (fun v2 => some v2)
set_option maxHeartbeats 4000000 in
set_option maxRecDepth 100000 in
theorem c_X10_brokenInAll {l : Launch} {G : jG} {L : jL} (hL : jOKL L) {a0 : Nat} (ka0 : jK L a0 10) {μ : jM} {r : Int32} (h : f_X10_brokenInAll a0 μ = some r) : jCt l G L 3 yX10_brokenInAll cX10_brokenInAll 1 (some .int) [.ref (L.2.2 a0)] μ (some (.int r)) μ := by
  refine jCt_of (by decide) (Nat.le_of_ble_eq_true rfl) (fun X hC hX hR => ?_)
  subst hX
  have hC : jC X G cX10_brokenInAll 1 RX10 (some .int) := hC
  unfold f_X10_brokenInAll at h
  show jJ X G 1 L 0 0 (jQM X G L (some (.int r)) μ 0 0) 0 [(0, .ref (L.2.2 a0))] [] μ
  refine j_aload_n (pc := 0) hC 0 0 dX10_brokenInAll_0 rfl rfl ?_
  refine jgr_10 (pc := 1) hC 2 (by decide) rfl kf_X10_15 dX10_brokenInAll_1 ka0 (ly_10_2 hL ka0).1 ?_
  refine j_iconst (pc := 4) hC (4 : Int32) dX10_brokenInAll_4 (by decide) ?_
  obtain ⟨i1, v2, e3, h⟩ := jrd_some h
  refine j_iald (pc := 5) hC dX10_brokenInAll_5 (ly_10_2 hL ka0).2.1 (ly_10_2 hL ka0).2.2 i1 e3 ?_
  obtain rfl := Option.some.inj h
  exact j_iret (pc := 6) hC dX10_brokenInAll_6 rfl
theorem dX10_breaks_0 : decode cX10_breaks 0 = .ok (.aload_n 0, 1) := by decide +kernel
theorem dX10_breaks_1 : decode cX10_breaks 1 = .ok (.getfield 18, 3) := by decide +kernel
theorem dX10_breaks_4 : decode cX10_breaks 4 = .ok (.getfield 53, 3) := by decide +kernel
theorem dX10_breaks_7 : decode cX10_breaks 7 = .ok (.iload_n 1, 1) := by decide +kernel
theorem dX10_breaks_8 : decode cX10_breaks 8 = .ok (.iconst 1, 1) := by decide +kernel
theorem dX10_breaks_9 : decode cX10_breaks 9 = .ok (.iadd, 1) := by decide +kernel
theorem dX10_breaks_10 : decode cX10_breaks 10 = .ok (.iaload, 1) := by decide +kernel
theorem dX10_breaks_11 : decode cX10_breaks 11 = .ok (.istore_n 3, 1) := by decide +kernel
theorem dX10_breaks_12 : decode cX10_breaks 12 = .ok (.aload_n 0, 1) := by decide +kernel
theorem dX10_breaks_13 : decode cX10_breaks 13 = .ok (.getfield 18, 3) := by decide +kernel
theorem dX10_breaks_16 : decode cX10_breaks 16 = .ok (.getfield 53, 3) := by decide +kernel
theorem dX10_breaks_19 : decode cX10_breaks 19 = .ok (.iload_n 1, 1) := by decide +kernel
theorem dX10_breaks_20 : decode cX10_breaks 20 = .ok (.iconst 2, 1) := by decide +kernel
theorem dX10_breaks_21 : decode cX10_breaks 21 = .ok (.iadd, 1) := by decide +kernel
theorem dX10_breaks_22 : decode cX10_breaks 22 = .ok (.iaload, 1) := by decide +kernel
theorem dX10_breaks_23 : decode cX10_breaks 23 = .ok (.istore 4, 2) := by decide +kernel
theorem dX10_breaks_25 : decode cX10_breaks 25 = .ok (.iload_n 3, 1) := by decide +kernel
theorem dX10_breaks_26 : decode cX10_breaks 26 = .ok (.iload 4, 2) := by decide +kernel
theorem dX10_breaks_28 : decode cX10_breaks 28 = .ok (.invokestatic 63, 3) := by decide +kernel
theorem dX10_breaks_31 : decode cX10_breaks 31 = .ok (.iload_n 2, 1) := by decide +kernel
theorem dX10_breaks_32 : decode cX10_breaks 32 = .ok (.if_icmp .eq 5, 3) := by decide +kernel
theorem dX10_breaks_35 : decode cX10_breaks 35 = .ok (.iconst 0, 1) := by decide +kernel
theorem dX10_breaks_36 : decode cX10_breaks 36 = .ok (.ireturn, 1) := by decide +kernel
theorem dX10_breaks_37 : decode cX10_breaks 37 = .ok (.aload_n 0, 1) := by decide +kernel
theorem dX10_breaks_38 : decode cX10_breaks 38 = .ok (.getfield 9, 3) := by decide +kernel
theorem dX10_breaks_41 : decode cX10_breaks 41 = .ok (.iload 4, 2) := by decide +kernel
theorem dX10_breaks_43 : decode cX10_breaks 43 = .ok (.iaload, 1) := by decide +kernel
theorem dX10_breaks_44 : decode cX10_breaks 44 = .ok (.aload_n 0, 1) := by decide +kernel
theorem dX10_breaks_45 : decode cX10_breaks 45 = .ok (.getfield 18, 3) := by decide +kernel
theorem dX10_breaks_48 : decode cX10_breaks 48 = .ok (.getfield 53, 3) := by decide +kernel
theorem dX10_breaks_51 : decode cX10_breaks 51 = .ok (.iload_n 1, 1) := by decide +kernel
theorem dX10_breaks_52 : decode cX10_breaks 52 = .ok (.iconst 3, 1) := by decide +kernel
theorem dX10_breaks_53 : decode cX10_breaks 53 = .ok (.iadd, 1) := by decide +kernel
theorem dX10_breaks_54 : decode cX10_breaks 54 = .ok (.iaload, 1) := by decide +kernel
theorem dX10_breaks_55 : decode cX10_breaks 55 = .ok (.iadd, 1) := by decide +kernel
theorem dX10_breaks_56 : decode cX10_breaks 56 = .ok (.istore 5, 2) := by decide +kernel
theorem dX10_breaks_58 : decode cX10_breaks 58 = .ok (.aload_n 0, 1) := by decide +kernel
theorem dX10_breaks_59 : decode cX10_breaks 59 = .ok (.getfield 18, 3) := by decide +kernel
theorem dX10_breaks_62 : decode cX10_breaks 62 = .ok (.getfield 53, 3) := by decide +kernel
theorem dX10_breaks_65 : decode cX10_breaks 65 = .ok (.iload_n 1, 1) := by decide +kernel
theorem dX10_breaks_66 : decode cX10_breaks 66 = .ok (.iaload, 1) := by decide +kernel
theorem dX10_breaks_67 : decode cX10_breaks 67 = .ok (.lookupswitch 59 #[(0, 25), (1, 42)], 25) := by decide +kernel
theorem dX10_breaks_92 : decode cX10_breaks 92 = .ok (.aload_n 0, 1) := by decide +kernel
theorem dX10_breaks_93 : decode cX10_breaks 93 = .ok (.getfield 9, 3) := by decide +kernel
theorem dX10_breaks_96 : decode cX10_breaks 96 = .ok (.iload_n 3, 1) := by decide +kernel
theorem dX10_breaks_97 : decode cX10_breaks 97 = .ok (.iaload, 1) := by decide +kernel
theorem dX10_breaks_98 : decode cX10_breaks 98 = .ok (.iload 5, 2) := by decide +kernel
theorem dX10_breaks_100 : decode cX10_breaks 100 = .ok (.if_icmp .lt 7, 3) := by decide +kernel
theorem dX10_breaks_103 : decode cX10_breaks 103 = .ok (.iconst 1, 1) := by decide +kernel
theorem dX10_breaks_104 : decode cX10_breaks 104 = .ok (.goto 4, 3) := by decide +kernel
theorem dX10_breaks_107 : decode cX10_breaks 107 = .ok (.iconst 0, 1) := by decide +kernel
theorem dX10_breaks_108 : decode cX10_breaks 108 = .ok (.ireturn, 1) := by decide +kernel
theorem dX10_breaks_109 : decode cX10_breaks 109 = .ok (.aload_n 0, 1) := by decide +kernel
theorem dX10_breaks_110 : decode cX10_breaks 110 = .ok (.getfield 9, 3) := by decide +kernel
theorem dX10_breaks_113 : decode cX10_breaks 113 = .ok (.iload_n 3, 1) := by decide +kernel
theorem dX10_breaks_114 : decode cX10_breaks 114 = .ok (.iaload, 1) := by decide +kernel
theorem dX10_breaks_115 : decode cX10_breaks 115 = .ok (.iload 5, 2) := by decide +kernel
theorem dX10_breaks_117 : decode cX10_breaks 117 = .ok (.if_icmp .eq 7, 3) := by decide +kernel
theorem dX10_breaks_120 : decode cX10_breaks 120 = .ok (.iconst 1, 1) := by decide +kernel
theorem dX10_breaks_121 : decode cX10_breaks 121 = .ok (.goto 4, 3) := by decide +kernel
theorem dX10_breaks_124 : decode cX10_breaks 124 = .ok (.iconst 0, 1) := by decide +kernel
theorem dX10_breaks_125 : decode cX10_breaks 125 = .ok (.ireturn, 1) := by decide +kernel
theorem dX10_breaks_126 : decode cX10_breaks 126 = .ok (.aload_n 0, 1) := by decide +kernel
theorem dX10_breaks_127 : decode cX10_breaks 127 = .ok (.getfield 9, 3) := by decide +kernel
theorem dX10_breaks_130 : decode cX10_breaks 130 = .ok (.iload_n 3, 1) := by decide +kernel
theorem dX10_breaks_131 : decode cX10_breaks 131 = .ok (.iaload, 1) := by decide +kernel
theorem dX10_breaks_132 : decode cX10_breaks 132 = .ok (.iload 5, 2) := by decide +kernel
theorem dX10_breaks_134 : decode cX10_breaks 134 = .ok (.if_icmp .ne 7, 3) := by decide +kernel
theorem dX10_breaks_137 : decode cX10_breaks 137 = .ok (.iconst 1, 1) := by decide +kernel
theorem dX10_breaks_138 : decode cX10_breaks 138 = .ok (.goto 4, 3) := by decide +kernel
theorem dX10_breaks_141 : decode cX10_breaks 141 = .ok (.iconst 0, 1) := by decide +kernel
theorem dX10_breaks_142 : decode cX10_breaks 142 = .ok (.ireturn, 1) := by decide +kernel
def f_X10_breaks (a0 : Nat) (x1 : Int32) (x2 : Int32) (μ : jM) : Option (Int32) :=
  jrd (μ.1 11) (x1 + (1 : Int32)) 32 (fun v2 => jrd (μ.1 11) (x1 + (2 : Int32)) 32 (fun v5 => (if (jmax v2 v5) = x2 then jrd (μ.1 (a0 + 1)) v5 5 (fun v9 => jrd (μ.1 11) (x1 + (3 : Int32)) 32 (fun v12 => jrd (μ.1 11) x1 32 (fun v15 => (if v15 = (0 : Int32) then jrd (μ.1 (a0 + 1)) v2 5 (fun v19 => some (((if v19 < (v9 + v12) then (0 : Int32) else (1 : Int32))) &&& 1)) else (if v15 = (1 : Int32) then jrd (μ.1 (a0 + 1)) v2 5 (fun v24 => some (((if v24 = (v9 + v12) then (0 : Int32) else (1 : Int32))) &&& 1)) else jrd (μ.1 (a0 + 1)) v2 5 (fun v28 => some (((if v28 = (v9 + v12) then (1 : Int32) else (0 : Int32))) &&& 1))))))) else some (0 : Int32))))
set_option maxHeartbeats 4000000 in
set_option maxRecDepth 100000 in
theorem c_X10_breaks {l : Launch} {G : jG} {L : jL} (hL : jOKL L) {a0 : Nat} {x1 : Int32} {x2 : Int32} (ka0 : jK L a0 10) {μ : jM} {r : Int32} (h : f_X10_breaks a0 x1 x2 μ = some r) : jCt l G L 3 yX10_breaks cX10_breaks 6 (some .boolean) [.ref (L.2.2 a0), .int x1, .int x2] μ (some (.int r)) μ := by
  refine jCt_of (by decide) (Nat.le_of_ble_eq_true rfl) (fun X hC hX hR => ?_)
  subst hX
  have hC : jC X G cX10_breaks 6 RX10 (some .boolean) := hC
  unfold f_X10_breaks at h
  show jJ X G 6 L 0 0 (jQM X G L (some (.int r)) μ 0 0) 0 [(0, .ref (L.2.2 a0)), (1, .int x1), (2, .int x2)] [] μ
  refine j_aload_n (pc := 0) hC 0 0 dX10_breaks_0 rfl rfl ?_
  refine jgr_10 (pc := 1) hC 1 (by decide) rfl kf_X10_18 dX10_breaks_1 ka0 (ly_10_1 hL ka0).1 ?_
  refine jgr_9 (pc := 4) hC 4 (by decide) rfl kf_X10_53 dX10_breaks_4 (ly_10_1 hL ka0).2.1 (ly_9_4 hL (ly_10_1 hL ka0).2.1).1 ?_
  refine j_iload_n (pc := 7) hC 1 1 dX10_breaks_7 rfl rfl ?_
  refine j_iconst (pc := 8) hC (1 : Int32) dX10_breaks_8 (by decide) ?_
  refine j_iadd (pc := 9) hC dX10_breaks_9 ?_
  obtain ⟨i1, v2, e3, h⟩ := jrd_some h
  refine j_iald (pc := 10) hC dX10_breaks_10 (ly_9_4 hL (ly_10_1 hL ka0).2.1).2.1 (ly_9_4 hL (ly_10_1 hL ka0).2.1).2.2 i1 e3 ?_
  refine j_istore_n (pc := 11) hC 3 [(3, .int v2), (0, .ref (L.2.2 a0)), (1, .int x1), (2, .int x2)] dX10_breaks_11 rfl (by decide) rfl rfl ?_
  refine j_aload_n (pc := 12) hC 0 1 dX10_breaks_12 rfl rfl ?_
  refine jgr_10 (pc := 13) hC 1 (by decide) rfl kf_X10_18 dX10_breaks_13 ka0 (ly_10_1 hL ka0).1 ?_
  refine jgr_9 (pc := 16) hC 4 (by decide) rfl kf_X10_53 dX10_breaks_16 (ly_10_1 hL ka0).2.1 (ly_9_4 hL (ly_10_1 hL ka0).2.1).1 ?_
  refine j_iload_n (pc := 19) hC 1 2 dX10_breaks_19 rfl rfl ?_
  refine j_iconst (pc := 20) hC (2 : Int32) dX10_breaks_20 (by decide) ?_
  refine j_iadd (pc := 21) hC dX10_breaks_21 ?_
  obtain ⟨i4, v5, e6, h⟩ := jrd_some h
  refine j_iald (pc := 22) hC dX10_breaks_22 (ly_9_4 hL (ly_10_1 hL ka0).2.1).2.1 (ly_9_4 hL (ly_10_1 hL ka0).2.1).2.2 i4 e6 ?_
  refine j_istore (pc := 23) hC [(4, .int v5), (3, .int v2), (0, .ref (L.2.2 a0)), (1, .int x1), (2, .int x2)] dX10_breaks_23 (by decide) rfl rfl ?_
  refine j_iload_n (pc := 25) hC 3 1 dX10_breaks_25 rfl rfl ?_
  refine j_iload (pc := 26) hC 0 dX10_breaks_26 rfl ?_
  refine j_mmax (pc := 28) hC hR kx_X10_63 dX10_breaks_28 (by decide) (Nat.le_of_ble_eq_true rfl) ?_
  refine j_iload_n (pc := 31) hC 2 4 dX10_breaks_31 rfl rfl ?_
  refine j_icmp_eq (pc := 32) hC 37 dX10_breaks_32 (by decide) (fun c7 => ?_) (fun c7 => ?_)
  · rw [if_pos c7] at h
    refine j_aload_n (pc := 37) hC 0 2 dX10_breaks_37 rfl rfl ?_
    refine jgr_10 (pc := 38) hC 0 (by decide) rfl kf_X10_9 dX10_breaks_38 ka0 (ly_10_0 hL ka0).1 ?_
    refine j_iload (pc := 41) hC 0 dX10_breaks_41 rfl ?_
    obtain ⟨i8, v9, e10, h⟩ := jrd_some h
    refine j_iald (pc := 43) hC dX10_breaks_43 (ly_10_0 hL ka0).2.1 (ly_10_0 hL ka0).2.2 i8 e10 ?_
    refine j_aload_n (pc := 44) hC 0 2 dX10_breaks_44 rfl rfl ?_
    refine jgr_10 (pc := 45) hC 1 (by decide) rfl kf_X10_18 dX10_breaks_45 ka0 (ly_10_1 hL ka0).1 ?_
    refine jgr_9 (pc := 48) hC 4 (by decide) rfl kf_X10_53 dX10_breaks_48 (ly_10_1 hL ka0).2.1 (ly_9_4 hL (ly_10_1 hL ka0).2.1).1 ?_
    refine j_iload_n (pc := 51) hC 1 3 dX10_breaks_51 rfl rfl ?_
    refine j_iconst (pc := 52) hC (3 : Int32) dX10_breaks_52 (by decide) ?_
    refine j_iadd (pc := 53) hC dX10_breaks_53 ?_
    obtain ⟨i11, v12, e13, h⟩ := jrd_some h
    refine j_iald (pc := 54) hC dX10_breaks_54 (ly_9_4 hL (ly_10_1 hL ka0).2.1).2.1 (ly_9_4 hL (ly_10_1 hL ka0).2.1).2.2 i11 e13 ?_
    refine j_iadd (pc := 55) hC dX10_breaks_55 ?_
    refine j_istore (pc := 56) hC [(5, .int (v9 + v12)), (4, .int v5), (3, .int v2), (0, .ref (L.2.2 a0)), (1, .int x1), (2, .int x2)] dX10_breaks_56 (by decide) rfl rfl ?_
    refine j_aload_n (pc := 58) hC 0 3 dX10_breaks_58 rfl rfl ?_
    refine jgr_10 (pc := 59) hC 1 (by decide) rfl kf_X10_18 dX10_breaks_59 ka0 (ly_10_1 hL ka0).1 ?_
    refine jgr_9 (pc := 62) hC 4 (by decide) rfl kf_X10_53 dX10_breaks_62 (ly_10_1 hL ka0).2.1 (ly_9_4 hL (ly_10_1 hL ka0).2.1).1 ?_
    refine j_iload_n (pc := 65) hC 1 4 dX10_breaks_65 rfl rfl ?_
    obtain ⟨i14, v15, e16, h⟩ := jrd_some h
    refine j_iald (pc := 66) hC dX10_breaks_66 (ly_9_4 hL (ly_10_1 hL ka0).2.1).2.1 (ly_9_4 hL (ly_10_1 hL ka0).2.1).2.2 i14 e16 ?_
    by_cases c17 : v15 = (0 : Int32)
    · rw [if_pos c17] at h
      refine j_lookup (pc := 67) (off := 25) hC 92 dX10_breaks_67 (by decide) (by rw [c17]; rfl) (by decide) ?_
      refine j_aload_n (pc := 92) hC 0 3 dX10_breaks_92 rfl rfl ?_
      refine jgr_10 (pc := 93) hC 0 (by decide) rfl kf_X10_9 dX10_breaks_93 ka0 (ly_10_0 hL ka0).1 ?_
      refine j_iload_n (pc := 96) hC 3 2 dX10_breaks_96 rfl rfl ?_
      obtain ⟨i18, v19, e20, h⟩ := jrd_some h
      refine j_iald (pc := 97) hC dX10_breaks_97 (ly_10_0 hL ka0).2.1 (ly_10_0 hL ka0).2.2 i18 e20 ?_
      refine j_iload (pc := 98) hC 0 dX10_breaks_98 rfl ?_
      refine jmg (B := jJ X G 6 L 0 0 (jQM X G L (some (.int r)) μ 0 0) 108 [(5, .int (v9 + v12)), (4, .int v5), (3, .int v2), (0, .ref (L.2.2 a0)), (1, .int x1), (2, .int x2)] [.int ((if v19 < (v9 + v12) then (0 : Int32) else (1 : Int32)))] μ) (fun hj => ?_) ?_
      · refine j_icmp_lt (pc := 100) hC 107 dX10_breaks_100 (by decide) (fun c21 => ?_) (fun c21 => ?_)
        · rw [if_pos c21] at hj
          refine j_iconst (pc := 107) hC (0 : Int32) dX10_breaks_107 (by decide) ?_
          exact hj
        · rw [if_neg c21] at hj
          refine j_iconst (pc := 103) hC (1 : Int32) dX10_breaks_103 (by decide) ?_
          refine j_goto (pc := 104) hC 108 dX10_breaks_104 (by decide) ?_
          exact hj
      obtain rfl := Option.some.inj h
      exact j_bret (pc := 108) hC dX10_breaks_108 rfl (j_nz _)
    · rw [if_neg c17] at h
      by_cases c22 : v15 = (1 : Int32)
      · rw [if_pos c22] at h
        refine j_lookup (pc := 67) (off := 42) hC 109 dX10_breaks_67 (by decide) (by rw [c22]; rfl) (by decide) ?_
        refine j_aload_n (pc := 109) hC 0 3 dX10_breaks_109 rfl rfl ?_
        refine jgr_10 (pc := 110) hC 0 (by decide) rfl kf_X10_9 dX10_breaks_110 ka0 (ly_10_0 hL ka0).1 ?_
        refine j_iload_n (pc := 113) hC 3 2 dX10_breaks_113 rfl rfl ?_
        obtain ⟨i23, v24, e25, h⟩ := jrd_some h
        refine j_iald (pc := 114) hC dX10_breaks_114 (ly_10_0 hL ka0).2.1 (ly_10_0 hL ka0).2.2 i23 e25 ?_
        refine j_iload (pc := 115) hC 0 dX10_breaks_115 rfl ?_
        refine jmg (B := jJ X G 6 L 0 0 (jQM X G L (some (.int r)) μ 0 0) 125 [(5, .int (v9 + v12)), (4, .int v5), (3, .int v2), (0, .ref (L.2.2 a0)), (1, .int x1), (2, .int x2)] [.int ((if v24 = (v9 + v12) then (0 : Int32) else (1 : Int32)))] μ) (fun hj => ?_) ?_
        · refine j_icmp_eq (pc := 117) hC 124 dX10_breaks_117 (by decide) (fun c26 => ?_) (fun c26 => ?_)
          · rw [if_pos c26] at hj
            refine j_iconst (pc := 124) hC (0 : Int32) dX10_breaks_124 (by decide) ?_
            exact hj
          · rw [if_neg c26] at hj
            refine j_iconst (pc := 120) hC (1 : Int32) dX10_breaks_120 (by decide) ?_
            refine j_goto (pc := 121) hC 125 dX10_breaks_121 (by decide) ?_
            exact hj
        obtain rfl := Option.some.inj h
        exact j_bret (pc := 125) hC dX10_breaks_125 rfl (j_nz _)
      · rw [if_neg c22] at h
        refine j_lookup (pc := 67) (off := 59) hC 126 dX10_breaks_67 (by decide) (by show Op.lookupswitch.offset [(0, 25), (1, 42)] 59 _ = _; rw [lv_osw (a := 0) (o := 25) c17 (by decide), lv_osw (a := 1) (o := 42) c22 (by decide)]; rfl) (by decide) ?_
        refine j_aload_n (pc := 126) hC 0 3 dX10_breaks_126 rfl rfl ?_
        refine jgr_10 (pc := 127) hC 0 (by decide) rfl kf_X10_9 dX10_breaks_127 ka0 (ly_10_0 hL ka0).1 ?_
        refine j_iload_n (pc := 130) hC 3 2 dX10_breaks_130 rfl rfl ?_
        obtain ⟨i27, v28, e29, h⟩ := jrd_some h
        refine j_iald (pc := 131) hC dX10_breaks_131 (ly_10_0 hL ka0).2.1 (ly_10_0 hL ka0).2.2 i27 e29 ?_
        refine j_iload (pc := 132) hC 0 dX10_breaks_132 rfl ?_
        refine jmg (B := jJ X G 6 L 0 0 (jQM X G L (some (.int r)) μ 0 0) 142 [(5, .int (v9 + v12)), (4, .int v5), (3, .int v2), (0, .ref (L.2.2 a0)), (1, .int x1), (2, .int x2)] [.int ((if v28 = (v9 + v12) then (1 : Int32) else (0 : Int32)))] μ) (fun hj => ?_) ?_
        · refine j_icmp_ne (pc := 134) hC 141 dX10_breaks_134 (by decide) (fun c30 => ?_) (fun c30 => ?_)
          · rw [if_neg c30] at hj
            refine j_iconst (pc := 141) hC (0 : Int32) dX10_breaks_141 (by decide) ?_
            exact hj
          · rw [if_pos c30] at hj
            refine j_iconst (pc := 137) hC (1 : Int32) dX10_breaks_137 (by decide) ?_
            refine j_goto (pc := 138) hC 142 dX10_breaks_138 (by decide) ?_
            exact hj
        obtain rfl := Option.some.inj h
        exact j_bret (pc := 142) hC dX10_breaks_142 rfl (j_nz _)
  · rw [if_neg c7] at h
    refine j_iconst (pc := 35) hC (0 : Int32) dX10_breaks_35 (by decide) ?_
    obtain rfl := Option.some.inj h
    exact j_bret (pc := 36) hC dX10_breaks_36 rfl rfl
theorem dX10_repeats_0 : decode cX10_repeats 0 = .ok (.iload_n 1, 1) := by decide +kernel
theorem dX10_repeats_1 : decode cX10_repeats 1 = .ok (.iload_n 2, 1) := by decide +kernel
theorem dX10_repeats_2 : decode cX10_repeats 2 = .ok (.iushr, 1) := by decide +kernel
theorem dX10_repeats_3 : decode cX10_repeats 3 = .ok (.iconst 1, 1) := by decide +kernel
theorem dX10_repeats_4 : decode cX10_repeats 4 = .ok (.iand, 1) := by decide +kernel
theorem dX10_repeats_5 : decode cX10_repeats 5 = .ok (.ifCond .ne 5, 3) := by decide +kernel
theorem dX10_repeats_8 : decode cX10_repeats 8 = .ok (.iconst 0, 1) := by decide +kernel
theorem dX10_repeats_9 : decode cX10_repeats 9 = .ok (.ireturn, 1) := by decide +kernel
theorem dX10_repeats_10 : decode cX10_repeats 10 = .ok (.iconst 0, 1) := by decide +kernel
theorem dX10_repeats_11 : decode cX10_repeats 11 = .ok (.istore_n 3, 1) := by decide +kernel
theorem dX10_repeats_12 : decode cX10_repeats 12 = .ok (.iload_n 3, 1) := by decide +kernel
theorem dX10_repeats_13 : decode cX10_repeats 13 = .ok (.iload_n 2, 1) := by decide +kernel
theorem dX10_repeats_14 : decode cX10_repeats 14 = .ok (.if_icmp .ge 35, 3) := by decide +kernel
theorem dX10_repeats_17 : decode cX10_repeats 17 = .ok (.iload_n 1, 1) := by decide +kernel
theorem dX10_repeats_18 : decode cX10_repeats 18 = .ok (.iload_n 3, 1) := by decide +kernel
theorem dX10_repeats_19 : decode cX10_repeats 19 = .ok (.iushr, 1) := by decide +kernel
theorem dX10_repeats_20 : decode cX10_repeats 20 = .ok (.iconst 1, 1) := by decide +kernel
theorem dX10_repeats_21 : decode cX10_repeats 21 = .ok (.iand, 1) := by decide +kernel
theorem dX10_repeats_22 : decode cX10_repeats 22 = .ok (.iconst 1, 1) := by decide +kernel
theorem dX10_repeats_23 : decode cX10_repeats 23 = .ok (.if_icmp .ne 20, 3) := by decide +kernel
theorem dX10_repeats_26 : decode cX10_repeats 26 = .ok (.aload_n 0, 1) := by decide +kernel
theorem dX10_repeats_27 : decode cX10_repeats 27 = .ok (.getfield 9, 3) := by decide +kernel
theorem dX10_repeats_30 : decode cX10_repeats 30 = .ok (.iload_n 3, 1) := by decide +kernel
theorem dX10_repeats_31 : decode cX10_repeats 31 = .ok (.iaload, 1) := by decide +kernel
theorem dX10_repeats_32 : decode cX10_repeats 32 = .ok (.aload_n 0, 1) := by decide +kernel
theorem dX10_repeats_33 : decode cX10_repeats 33 = .ok (.getfield 9, 3) := by decide +kernel
theorem dX10_repeats_36 : decode cX10_repeats 36 = .ok (.iload_n 2, 1) := by decide +kernel
theorem dX10_repeats_37 : decode cX10_repeats 37 = .ok (.iaload, 1) := by decide +kernel
theorem dX10_repeats_38 : decode cX10_repeats 38 = .ok (.if_icmp .ne 5, 3) := by decide +kernel
theorem dX10_repeats_41 : decode cX10_repeats 41 = .ok (.iconst 1, 1) := by decide +kernel
theorem dX10_repeats_42 : decode cX10_repeats 42 = .ok (.ireturn, 1) := by decide +kernel
theorem dX10_repeats_43 : decode cX10_repeats 43 = .ok (.iinc 3 1, 3) := by decide +kernel
theorem dX10_repeats_46 : decode cX10_repeats 46 = .ok (.goto (-34), 3) := by decide +kernel
theorem dX10_repeats_49 : decode cX10_repeats 49 = .ok (.iconst 0, 1) := by decide +kernel
theorem dX10_repeats_50 : decode cX10_repeats 50 = .ok (.ireturn, 1) := by decide +kernel
def f_X10_repeats_L12 (a0 : Nat) (x1 : Int32) (x2 : Int32) (μ : jM) (u2 : Int32) : Option ((Int32) ⊕ ((Unit) ⊕ (Unit))) :=
  (if x2 ≤ u2 then some (.inr (.inr (()))) else (if ((jushr x1 u2) &&& (1 : Int32)) = (1 : Int32) then jrd (μ.1 (a0 + 1)) u2 5 (fun v6 => jrd (μ.1 (a0 + 1)) x2 5 (fun v9 => (if v6 = v9 then some (.inr (.inl (()))) else some (.inl (u2 + (1 : Int32)))))) else some (.inl (u2 + (1 : Int32)))))
def f_X10_repeats (a0 : Nat) (x1 : Int32) (x2 : Int32) (μ : jM) : Option (Int32) :=
  (if ((jushr x1 x2) &&& (1 : Int32)) = (0 : Int32) then some (0 : Int32) else jcl (jloop (fun (s : Int32) => f_X10_repeats_L12 a0 x1 x2 μ s) jfu (0 : Int32)) (fun w12 => match w12 with | .inl w12 => some (1 : Int32) | .inr w12 => some (0 : Int32)))
set_option maxHeartbeats 4000000 in
set_option maxRecDepth 100000 in
theorem c_X10_repeats {l : Launch} {G : jG} {L : jL} (hL : jOKL L) {a0 : Nat} {x1 : Int32} {x2 : Int32} (ka0 : jK L a0 10) {μ : jM} {r : Int32} (h : f_X10_repeats a0 x1 x2 μ = some r) : jCt l G L 3 yX10_repeats cX10_repeats 4 (some .boolean) [.ref (L.2.2 a0), .int x1, .int x2] μ (some (.int r)) μ := by
  refine jCt_of (by decide) (Nat.le_of_ble_eq_true rfl) (fun X hC hX hR => ?_)
  subst hX
  have hC : jC X G cX10_repeats 4 RX10 (some .boolean) := hC
  unfold f_X10_repeats at h
  show jJ X G 4 L 0 0 (jQM X G L (some (.int r)) μ 0 0) 0 [(0, .ref (L.2.2 a0)), (1, .int x1), (2, .int x2)] [] μ
  refine j_iload_n (pc := 0) hC 1 1 dX10_repeats_0 rfl rfl ?_
  refine j_iload_n (pc := 1) hC 2 2 dX10_repeats_1 rfl rfl ?_
  refine j_iushr (pc := 2) hC dX10_repeats_2 ?_
  refine j_iconst (pc := 3) hC (1 : Int32) dX10_repeats_3 (by decide) ?_
  refine j_iand (pc := 4) hC dX10_repeats_4 ?_
  refine j_if_ne (pc := 5) hC 10 dX10_repeats_5 (by decide) (fun c1 => ?_) (fun c1 => ?_)
  · rw [if_neg c1] at h
    refine j_iconst (pc := 10) hC (0 : Int32) dX10_repeats_10 (by decide) ?_
    refine j_istore_n (pc := 11) hC 3 [(3, .int (0 : Int32)), (0, .ref (L.2.2 a0)), (1, .int x1), (2, .int x2)] dX10_repeats_11 rfl (by decide) rfl rfl ?_
    obtain ⟨w12, hw13, h⟩ := jcl_some h
    refine j_lv [1, 2, 3, 0] rfl ?_
    refine j_loop (step := (fun (s : Int32) => f_X10_repeats_L12 a0 x1 x2 μ s)) (P := (fun (s : Int32) => jJ X G 4 L 0 0 (jQM X G L (some (.int r)) μ 0 0) 12 [(0, .ref (L.2.2 a0)), (1, .int x1), (2, .int x2), (3, .int s)] [] μ)) (R := (fun (e : (Unit) ⊕ (Unit)) => match e with | .inl e => jJ X G 4 L 0 0 (jQM X G L (some (.int r)) μ 0 0) 41 [] [] μ | .inr e => jJ X G 4 L 0 0 (jQM X G L (some (.int r)) μ 0 0) 49 [] [] μ)) ?_ jfu (0 : Int32) w12 hw13 ?_
    · intro u2 o h hk
      change f_X10_repeats_L12 a0 x1 x2 μ u2 = some o at h
      unfold f_X10_repeats_L12 at h
      show jJ X G 4 L 0 0 (jQM X G L (some (.int r)) μ 0 0) 12 [(0, .ref (L.2.2 a0)), (1, .int x1), (2, .int x2), (3, .int u2)] [] μ
      refine j_iload_n (pc := 12) hC 3 3 dX10_repeats_12 rfl rfl ?_
      refine j_iload_n (pc := 13) hC 2 2 dX10_repeats_13 rfl rfl ?_
      refine j_icmp_ge (pc := 14) hC 49 dX10_repeats_14 (by decide) (fun c3 => ?_) (fun c3 => ?_)
      · rw [if_pos c3] at h
        obtain rfl := Option.some.inj h
        have hk : jJ X G 4 L 0 0 (jQM X G L (some (.int r)) μ 0 0) 49 [] [] μ := hk
        exact j_lv [] rfl hk
      · rw [if_neg c3] at h
        refine j_iload_n (pc := 17) hC 1 1 dX10_repeats_17 rfl rfl ?_
        refine j_iload_n (pc := 18) hC 3 3 dX10_repeats_18 rfl rfl ?_
        refine j_iushr (pc := 19) hC dX10_repeats_19 ?_
        refine j_iconst (pc := 20) hC (1 : Int32) dX10_repeats_20 (by decide) ?_
        refine j_iand (pc := 21) hC dX10_repeats_21 ?_
        refine j_iconst (pc := 22) hC (1 : Int32) dX10_repeats_22 (by decide) ?_
        refine j_icmp_ne (pc := 23) hC 43 dX10_repeats_23 (by decide) (fun c4 => ?_) (fun c4 => ?_)
        · rw [if_neg c4] at h
          refine j_iinc (pc := 43) hC 3 (u2 + (1 : Int32)) [(3, .int (u2 + (1 : Int32))), (0, .ref (L.2.2 a0)), (1, .int x1), (2, .int x2)] dX10_repeats_43 rfl rfl (by decide) rfl ?_
          refine j_goto (pc := 46) hC 12 dX10_repeats_46 (by decide) ?_
          obtain rfl := Option.some.inj h
          have hk : jJ X G 4 L 0 0 (jQM X G L (some (.int r)) μ 0 0) 12 [(0, .ref (L.2.2 a0)), (1, .int x1), (2, .int x2), (3, .int (u2 + (1 : Int32)))] [] μ := hk
          exact j_lv [1, 2, 3, 0] rfl hk
        · rw [if_pos c4] at h
          refine j_aload_n (pc := 26) hC 0 0 dX10_repeats_26 rfl rfl ?_
          refine jgr_10 (pc := 27) hC 0 (by decide) rfl kf_X10_9 dX10_repeats_27 ka0 (ly_10_0 hL ka0).1 ?_
          refine j_iload_n (pc := 30) hC 3 3 dX10_repeats_30 rfl rfl ?_
          obtain ⟨i5, v6, e7, h⟩ := jrd_some h
          refine j_iald (pc := 31) hC dX10_repeats_31 (ly_10_0 hL ka0).2.1 (ly_10_0 hL ka0).2.2 i5 e7 ?_
          refine j_aload_n (pc := 32) hC 0 0 dX10_repeats_32 rfl rfl ?_
          refine jgr_10 (pc := 33) hC 0 (by decide) rfl kf_X10_9 dX10_repeats_33 ka0 (ly_10_0 hL ka0).1 ?_
          refine j_iload_n (pc := 36) hC 2 2 dX10_repeats_36 rfl rfl ?_
          obtain ⟨i8, v9, e10, h⟩ := jrd_some h
          refine j_iald (pc := 37) hC dX10_repeats_37 (ly_10_0 hL ka0).2.1 (ly_10_0 hL ka0).2.2 i8 e10 ?_
          refine j_icmp_ne (pc := 38) hC 43 dX10_repeats_38 (by decide) (fun c11 => ?_) (fun c11 => ?_)
          · rw [if_neg c11] at h
            refine j_iinc (pc := 43) hC 3 (u2 + (1 : Int32)) [(3, .int (u2 + (1 : Int32))), (0, .ref (L.2.2 a0)), (1, .int x1), (2, .int x2)] dX10_repeats_43 rfl rfl (by decide) rfl ?_
            refine j_goto (pc := 46) hC 12 dX10_repeats_46 (by decide) ?_
            obtain rfl := Option.some.inj h
            have hk : jJ X G 4 L 0 0 (jQM X G L (some (.int r)) μ 0 0) 12 [(0, .ref (L.2.2 a0)), (1, .int x1), (2, .int x2), (3, .int (u2 + (1 : Int32)))] [] μ := hk
            exact j_lv [1, 2, 3, 0] rfl hk
          · rw [if_pos c11] at h
            obtain rfl := Option.some.inj h
            have hk : jJ X G 4 L 0 0 (jQM X G L (some (.int r)) μ 0 0) 41 [] [] μ := hk
            exact j_lv [] rfl hk
    · cases w12 with
      | inl w12 =>
        try dsimp only at h
        try dsimp only at h
        show jJ X G 4 L 0 0 (jQM X G L (some (.int r)) μ 0 0) 41 [] [] μ
        refine j_iconst (pc := 41) hC (1 : Int32) dX10_repeats_41 (by decide) ?_
        obtain rfl := Option.some.inj h
        exact j_bret (pc := 42) hC dX10_repeats_42 rfl rfl
      | inr w12 =>
        try dsimp only at h
        try dsimp only at h
        show jJ X G 4 L 0 0 (jQM X G L (some (.int r)) μ 0 0) 49 [] [] μ
        refine j_iconst (pc := 49) hC (0 : Int32) dX10_repeats_49 (by decide) ?_
        obtain rfl := Option.some.inj h
        exact j_bret (pc := 50) hC dX10_repeats_50 rfl rfl
  · rw [if_pos c1] at h
    refine j_iconst (pc := 8) hC (0 : Int32) dX10_repeats_8 (by decide) ?_
    obtain rfl := Option.some.inj h
    exact j_bret (pc := 9) hC dX10_repeats_9 rfl rfl
theorem dX10_brokenAt_0 : decode cX10_brokenAt 0 = .ok (.iconst 0, 1) := by decide +kernel
theorem dX10_brokenAt_1 : decode cX10_brokenAt 1 = .ok (.istore_n 2, 1) := by decide +kernel
theorem dX10_brokenAt_2 : decode cX10_brokenAt 2 = .ok (.iconst 0, 1) := by decide +kernel
theorem dX10_brokenAt_3 : decode cX10_brokenAt 3 = .ok (.istore_n 3, 1) := by decide +kernel
theorem dX10_brokenAt_4 : decode cX10_brokenAt 4 = .ok (.iload_n 3, 1) := by decide +kernel
theorem dX10_brokenAt_5 : decode cX10_brokenAt 5 = .ok (.aload_n 0, 1) := by decide +kernel
theorem dX10_brokenAt_6 : decode cX10_brokenAt 6 = .ok (.getfield 18, 3) := by decide +kernel
theorem dX10_brokenAt_9 : decode cX10_brokenAt 9 = .ok (.getfield 49, 3) := by decide +kernel
theorem dX10_brokenAt_12 : decode cX10_brokenAt 12 = .ok (.if_icmp .ge 67, 3) := by decide +kernel
theorem dX10_brokenAt_15 : decode cX10_brokenAt 15 = .ok (.iconst 4, 1) := by decide +kernel
theorem dX10_brokenAt_16 : decode cX10_brokenAt 16 = .ok (.iload_n 3, 1) := by decide +kernel
theorem dX10_brokenAt_17 : decode cX10_brokenAt 17 = .ok (.imul, 1) := by decide +kernel
theorem dX10_brokenAt_18 : decode cX10_brokenAt 18 = .ok (.istore 4, 2) := by decide +kernel
theorem dX10_brokenAt_20 : decode cX10_brokenAt 20 = .ok (.aload_n 0, 1) := by decide +kernel
theorem dX10_brokenAt_21 : decode cX10_brokenAt 21 = .ok (.getfield 18, 3) := by decide +kernel
theorem dX10_brokenAt_24 : decode cX10_brokenAt 24 = .ok (.getfield 53, 3) := by decide +kernel
theorem dX10_brokenAt_27 : decode cX10_brokenAt 27 = .ok (.iload 4, 2) := by decide +kernel
theorem dX10_brokenAt_29 : decode cX10_brokenAt 29 = .ok (.iaload, 1) := by decide +kernel
theorem dX10_brokenAt_30 : decode cX10_brokenAt 30 = .ok (.iconst 3, 1) := by decide +kernel
theorem dX10_brokenAt_31 : decode cX10_brokenAt 31 = .ok (.if_icmp .ne 26, 3) := by decide +kernel
theorem dX10_brokenAt_34 : decode cX10_brokenAt 34 = .ok (.aload_n 0, 1) := by decide +kernel
theorem dX10_brokenAt_35 : decode cX10_brokenAt 35 = .ok (.aload_n 0, 1) := by decide +kernel
theorem dX10_brokenAt_36 : decode cX10_brokenAt 36 = .ok (.getfield 18, 3) := by decide +kernel
theorem dX10_brokenAt_39 : decode cX10_brokenAt 39 = .ok (.getfield 53, 3) := by decide +kernel
theorem dX10_brokenAt_42 : decode cX10_brokenAt 42 = .ok (.iload 4, 2) := by decide +kernel
theorem dX10_brokenAt_44 : decode cX10_brokenAt 44 = .ok (.iconst 1, 1) := by decide +kernel
theorem dX10_brokenAt_45 : decode cX10_brokenAt 45 = .ok (.iadd, 1) := by decide +kernel
theorem dX10_brokenAt_46 : decode cX10_brokenAt 46 = .ok (.iaload, 1) := by decide +kernel
theorem dX10_brokenAt_47 : decode cX10_brokenAt 47 = .ok (.iload_n 1, 1) := by decide +kernel
theorem dX10_brokenAt_48 : decode cX10_brokenAt 48 = .ok (.invokevirtual 56, 3) := by decide +kernel
theorem dX10_brokenAt_51 : decode cX10_brokenAt 51 = .ok (.ifCond .eq 22, 3) := by decide +kernel
theorem dX10_brokenAt_54 : decode cX10_brokenAt 54 = .ok (.goto 13, 3) := by decide +kernel
theorem dX10_brokenAt_57 : decode cX10_brokenAt 57 = .ok (.aload_n 0, 1) := by decide +kernel
theorem dX10_brokenAt_58 : decode cX10_brokenAt 58 = .ok (.iload 4, 2) := by decide +kernel
theorem dX10_brokenAt_60 : decode cX10_brokenAt 60 = .ok (.iload_n 1, 1) := by decide +kernel
theorem dX10_brokenAt_61 : decode cX10_brokenAt 61 = .ok (.invokevirtual 60, 3) := by decide +kernel
theorem dX10_brokenAt_64 : decode cX10_brokenAt 64 = .ok (.ifCond .eq 9, 3) := by decide +kernel
theorem dX10_brokenAt_67 : decode cX10_brokenAt 67 = .ok (.iload_n 2, 1) := by decide +kernel
theorem dX10_brokenAt_68 : decode cX10_brokenAt 68 = .ok (.iconst 1, 1) := by decide +kernel
theorem dX10_brokenAt_69 : decode cX10_brokenAt 69 = .ok (.iload_n 3, 1) := by decide +kernel
theorem dX10_brokenAt_70 : decode cX10_brokenAt 70 = .ok (.ishl, 1) := by decide +kernel
theorem dX10_brokenAt_71 : decode cX10_brokenAt 71 = .ok (.ior, 1) := by decide +kernel
theorem dX10_brokenAt_72 : decode cX10_brokenAt 72 = .ok (.istore_n 2, 1) := by decide +kernel
theorem dX10_brokenAt_73 : decode cX10_brokenAt 73 = .ok (.iinc 3 1, 3) := by decide +kernel
theorem dX10_brokenAt_76 : decode cX10_brokenAt 76 = .ok (.goto (-72), 3) := by decide +kernel
theorem dX10_brokenAt_79 : decode cX10_brokenAt 79 = .ok (.iload_n 2, 1) := by decide +kernel
theorem dX10_brokenAt_80 : decode cX10_brokenAt 80 = .ok (.ireturn, 1) := by decide +kernel
def f_X10_brokenAt_L4 (a0 : Nat) (x1 : Int32) (μ : jM) (u1 : Int32) (u2 : Int32) : Option ((Int32 × Int32) ⊕ (Int32)) :=
  (if (μ.1 6 6) ≤ u2 then some (.inr u1) else jrd (μ.1 11) ((4 : Int32) * u2) 32 (fun v5 => jbd (jbd (u1 ||| ((1 : Int32) <<< (u2 &&& 31)) : Int32) (fun v10 => some (.inl ((v10, u2 + (1 : Int32)))))) (fun k7 => (if v5 = (3 : Int32) then jrd (μ.1 11) (((4 : Int32) * u2) + (1 : Int32)) 32 (fun v17 => jcl (f_X10_repeats a0 v17 x1 μ) (fun v19 => (if v19 = (0 : Int32) then some (.inl ((u1, u2 + (1 : Int32)))) else k7))) else jcl (f_X10_breaks a0 ((4 : Int32) * u2) x1 μ) (fun v13 => (if v13 = (0 : Int32) then some (.inl ((u1, u2 + (1 : Int32)))) else k7))))))
def f_X10_brokenAt (a0 : Nat) (x1 : Int32) (μ : jM) : Option (Int32) :=
  jcl (jloop (fun (s : Int32 × Int32) => f_X10_brokenAt_L4 a0 x1 μ s.1 s.2) jfu (((0 : Int32), (0 : Int32)))) (fun w22 => some w22)
set_option maxHeartbeats 4000000 in
set_option maxRecDepth 100000 in
theorem c_X10_brokenAt {l : Launch} {G : jG} {L : jL} (hL : jOKL L) {a0 : Nat} {x1 : Int32} (ka0 : jK L a0 10) {μ : jM} {r : Int32} (h : f_X10_brokenAt a0 x1 μ = some r) : jCt l G L 4 yX10_brokenAt cX10_brokenAt 5 (some .int) [.ref (L.2.2 a0), .int x1] μ (some (.int r)) μ := by
  refine jCt_of (by decide) (Nat.le_of_ble_eq_true rfl) (fun X hC hX hR => ?_)
  subst hX
  have hC : jC X G cX10_brokenAt 5 RX10 (some .int) := hC
  unfold f_X10_brokenAt at h
  show jJ X G 5 L 0 0 (jQM X G L (some (.int r)) μ 0 0) 0 [(0, .ref (L.2.2 a0)), (1, .int x1)] [] μ
  refine j_iconst (pc := 0) hC (0 : Int32) dX10_brokenAt_0 (by decide) ?_
  refine j_istore_n (pc := 1) hC 2 [(2, .int (0 : Int32)), (0, .ref (L.2.2 a0)), (1, .int x1)] dX10_brokenAt_1 rfl (by decide) rfl rfl ?_
  refine j_iconst (pc := 2) hC (0 : Int32) dX10_brokenAt_2 (by decide) ?_
  refine j_istore_n (pc := 3) hC 3 [(3, .int (0 : Int32)), (2, .int (0 : Int32)), (0, .ref (L.2.2 a0)), (1, .int x1)] dX10_brokenAt_3 rfl (by decide) rfl rfl ?_
  obtain ⟨w22, hw23, h⟩ := jcl_some h
  refine j_lv [2, 3, 1, 0] rfl ?_
  refine j_loop (step := (fun (s : Int32 × Int32) => f_X10_brokenAt_L4 a0 x1 μ s.1 s.2)) (P := (fun (s : Int32 × Int32) => jJ X G 5 L 0 0 (jQM X G L (some (.int r)) μ 0 0) 4 [(0, .ref (L.2.2 a0)), (1, .int x1), (2, .int s.1), (3, .int s.2)] [] μ)) (R := (fun (e : Int32) => jJ X G 5 L 0 0 (jQM X G L (some (.int r)) μ 0 0) 79 [(2, .int e)] [] μ)) ?_ jfu (((0 : Int32), (0 : Int32))) w22 hw23 ?_
  · intro s24 o h hk
    obtain ⟨u1, u2⟩ := s24
    change f_X10_brokenAt_L4 a0 x1 μ u1 u2 = some o at h
    unfold f_X10_brokenAt_L4 at h
    show jJ X G 5 L 0 0 (jQM X G L (some (.int r)) μ 0 0) 4 [(0, .ref (L.2.2 a0)), (1, .int x1), (2, .int u1), (3, .int u2)] [] μ
    refine j_iload_n (pc := 4) hC 3 3 dX10_brokenAt_4 rfl rfl ?_
    refine j_aload_n (pc := 5) hC 0 0 dX10_brokenAt_5 rfl rfl ?_
    refine jgr_10 (pc := 6) hC 1 (by decide) rfl kf_X10_18 dX10_brokenAt_6 ka0 (ly_10_1 hL ka0).1 ?_
    refine jgi_9 (pc := 9) hC 6 (by decide) rfl kf_X10_49 dX10_brokenAt_9 (ly_10_1 hL ka0).2.1 ?_
    refine j_icmp_ge (pc := 12) hC 79 dX10_brokenAt_12 (by decide) (fun c3 => ?_) (fun c3 => ?_)
    · rw [if_pos c3] at h
      obtain rfl := Option.some.inj h
      have hk : jJ X G 5 L 0 0 (jQM X G L (some (.int r)) μ 0 0) 79 [(2, .int u1)] [] μ := hk
      exact j_lv [2] rfl hk
    · rw [if_neg c3] at h
      refine j_iconst (pc := 15) hC (4 : Int32) dX10_brokenAt_15 (by decide) ?_
      refine j_iload_n (pc := 16) hC 3 3 dX10_brokenAt_16 rfl rfl ?_
      refine j_imul (pc := 17) hC dX10_brokenAt_17 ?_
      refine j_istore (pc := 18) hC [(4, .int ((4 : Int32) * u2)), (0, .ref (L.2.2 a0)), (1, .int x1), (2, .int u1), (3, .int u2)] dX10_brokenAt_18 (by decide) rfl rfl ?_
      refine j_aload_n (pc := 20) hC 0 1 dX10_brokenAt_20 rfl rfl ?_
      refine jgr_10 (pc := 21) hC 1 (by decide) rfl kf_X10_18 dX10_brokenAt_21 ka0 (ly_10_1 hL ka0).1 ?_
      refine jgr_9 (pc := 24) hC 4 (by decide) rfl kf_X10_53 dX10_brokenAt_24 (ly_10_1 hL ka0).2.1 (ly_9_4 hL (ly_10_1 hL ka0).2.1).1 ?_
      refine j_iload (pc := 27) hC 0 dX10_brokenAt_27 rfl ?_
      obtain ⟨i4, v5, e6, h⟩ := jrd_some h
      refine j_iald (pc := 29) hC dX10_brokenAt_29 (ly_9_4 hL (ly_10_1 hL ka0).2.1).2.1 (ly_9_4 hL (ly_10_1 hL ka0).2.1).2.2 i4 e6 ?_
      refine j_iconst (pc := 30) hC (3 : Int32) dX10_brokenAt_30 (by decide) ?_
      obtain ⟨k7, e9, h⟩ := jbd_ex h
      have q8 : k7 = some o → jJ X G 5 L 0 0 (jQM X G L (some (.int r)) μ 0 0) 67 [(0, .ref (L.2.2 a0)), (1, .int x1), (2, .int u1), (3, .int u2)] [] μ := by
        intro h
        rw [e9] at h
        refine j_iload_n (pc := 67) hC 2 2 dX10_brokenAt_67 rfl rfl ?_
        refine j_iconst (pc := 68) hC (1 : Int32) dX10_brokenAt_68 (by decide) ?_
        refine j_iload_n (pc := 69) hC 3 3 dX10_brokenAt_69 rfl rfl ?_
        refine j_ishl (pc := 70) hC dX10_brokenAt_70 ?_
        refine j_ior (pc := 71) hC dX10_brokenAt_71 ?_
        obtain ⟨v10, e11, h⟩ := jbd_ex h
        refine j_istore_n (pc := 72) hC 2 [(2, .int v10), (0, .ref (L.2.2 a0)), (1, .int x1), (3, .int u2)] dX10_brokenAt_72 rfl (by decide) e11 rfl ?_
        refine j_iinc (pc := 73) hC 3 (u2 + (1 : Int32)) [(3, .int (u2 + (1 : Int32))), (2, .int v10), (0, .ref (L.2.2 a0)), (1, .int x1)] dX10_brokenAt_73 rfl rfl (by decide) rfl ?_
        refine j_goto (pc := 76) hC 4 dX10_brokenAt_76 (by decide) ?_
        obtain rfl := Option.some.inj h
        have hk : jJ X G 5 L 0 0 (jQM X G L (some (.int r)) μ 0 0) 4 [(0, .ref (L.2.2 a0)), (1, .int x1), (2, .int v10), (3, .int (u2 + (1 : Int32)))] [] μ := hk
        exact j_lv [2, 3, 1, 0] rfl hk
      refine j_icmp_ne (pc := 31) hC 57 dX10_brokenAt_31 (by decide) (fun c12 => ?_) (fun c12 => ?_)
      · rw [if_neg c12] at h
        refine j_aload_n (pc := 57) hC 0 1 dX10_brokenAt_57 rfl rfl ?_
        refine j_iload (pc := 58) hC 0 dX10_brokenAt_58 rfl ?_
        refine j_iload_n (pc := 60) hC 1 2 dX10_brokenAt_60 rfl rfl ?_
        obtain ⟨v13, e14, h⟩ := jcl_some h
        refine j_vi (pc := 61) hC hR [.int ((4 : Int32) * u2), .int x1] iy_X10_breaks (q := (RX10, TX10, 5)) (ci := 10) rfl rfl (by decide) km_X10_60 dX10_brokenAt_61 rfl (by decide) ka0 (c_X10_breaks hL ka0 e14) (by decide) (Nat.le_of_ble_eq_true rfl) rfl ?_
        refine j_if_eq (pc := 64) hC 73 dX10_brokenAt_64 (by decide) (fun c15 => ?_) (fun c15 => ?_)
        · rw [if_pos c15] at h
          refine j_iinc (pc := 73) hC 4 (u2 + (1 : Int32)) [(3, .int (u2 + (1 : Int32))), (4, .int ((4 : Int32) * u2)), (0, .ref (L.2.2 a0)), (1, .int x1), (2, .int u1)] dX10_brokenAt_73 rfl rfl (by decide) rfl ?_
          refine j_goto (pc := 76) hC 4 dX10_brokenAt_76 (by decide) ?_
          obtain rfl := Option.some.inj h
          have hk : jJ X G 5 L 0 0 (jQM X G L (some (.int r)) μ 0 0) 4 [(0, .ref (L.2.2 a0)), (1, .int x1), (2, .int u1), (3, .int (u2 + (1 : Int32)))] [] μ := hk
          exact j_lv [2, 3, 4, 0] rfl hk
        · rw [if_neg c15] at h
          exact j_lv [1, 2, 3, 4] rfl (q8 h)
      · rw [if_pos c12] at h
        refine j_aload_n (pc := 34) hC 0 1 dX10_brokenAt_34 rfl rfl ?_
        refine j_aload_n (pc := 35) hC 0 1 dX10_brokenAt_35 rfl rfl ?_
        refine jgr_10 (pc := 36) hC 1 (by decide) rfl kf_X10_18 dX10_brokenAt_36 ka0 (ly_10_1 hL ka0).1 ?_
        refine jgr_9 (pc := 39) hC 4 (by decide) rfl kf_X10_53 dX10_brokenAt_39 (ly_10_1 hL ka0).2.1 (ly_9_4 hL (ly_10_1 hL ka0).2.1).1 ?_
        refine j_iload (pc := 42) hC 0 dX10_brokenAt_42 rfl ?_
        refine j_iconst (pc := 44) hC (1 : Int32) dX10_brokenAt_44 (by decide) ?_
        refine j_iadd (pc := 45) hC dX10_brokenAt_45 ?_
        obtain ⟨i16, v17, e18, h⟩ := jrd_some h
        refine j_iald (pc := 46) hC dX10_brokenAt_46 (ly_9_4 hL (ly_10_1 hL ka0).2.1).2.1 (ly_9_4 hL (ly_10_1 hL ka0).2.1).2.2 i16 e18 ?_
        refine j_iload_n (pc := 47) hC 1 2 dX10_brokenAt_47 rfl rfl ?_
        obtain ⟨v19, e20, h⟩ := jcl_some h
        refine j_vi (pc := 48) hC hR [.int v17, .int x1] iy_X10_repeats (q := (RX10, TX10, 5)) (ci := 10) rfl rfl (by decide) km_X10_56 dX10_brokenAt_48 rfl (by decide) ka0 (c_X10_repeats hL ka0 e20) (by decide) (Nat.le_of_ble_eq_true rfl) rfl ?_
        refine j_if_eq (pc := 51) hC 73 dX10_brokenAt_51 (by decide) (fun c21 => ?_) (fun c21 => ?_)
        · rw [if_pos c21] at h
          refine j_iinc (pc := 73) hC 4 (u2 + (1 : Int32)) [(3, .int (u2 + (1 : Int32))), (4, .int ((4 : Int32) * u2)), (0, .ref (L.2.2 a0)), (1, .int x1), (2, .int u1)] dX10_brokenAt_73 rfl rfl (by decide) rfl ?_
          refine j_goto (pc := 76) hC 4 dX10_brokenAt_76 (by decide) ?_
          obtain rfl := Option.some.inj h
          have hk : jJ X G 5 L 0 0 (jQM X G L (some (.int r)) μ 0 0) 4 [(0, .ref (L.2.2 a0)), (1, .int x1), (2, .int u1), (3, .int (u2 + (1 : Int32)))] [] μ := hk
          exact j_lv [2, 3, 4, 0] rfl hk
        · rw [if_neg c21] at h
          refine j_goto (pc := 54) hC 67 dX10_brokenAt_54 (by decide) ?_
          exact j_lv [1, 2, 3, 4] rfl (q8 h)
  · obtain ⟨z25, rfl⟩ : ∃ y, y = w22 := ⟨_, rfl⟩
    try dsimp only at h
    show jJ X G 5 L 0 0 (jQM X G L (some (.int r)) μ 0 0) 79 [(2, .int z25)] [] μ
    refine j_iload_n (pc := 79) hC 2 0 dX10_brokenAt_79 rfl rfl ?_
    obtain rfl := Option.some.inj h
    exact j_iret (pc := 80) hC dX10_brokenAt_80 rfl
theorem dX10_advance_0 : decode cX10_advance 0 = .ok (.iconst 4, 1) := by decide +kernel
theorem dX10_advance_1 : decode cX10_advance 1 = .ok (.istore_n 1, 1) := by decide +kernel
theorem dX10_advance_2 : decode cX10_advance 2 = .ok (.aload_n 0, 1) := by decide +kernel
theorem dX10_advance_3 : decode cX10_advance 3 = .ok (.getfield 26, 3) := by decide +kernel
theorem dX10_advance_6 : decode cX10_advance 6 = .ok (.ifCond .ne 17, 3) := by decide +kernel
theorem dX10_advance_9 : decode cX10_advance 9 = .ok (.aload_n 0, 1) := by decide +kernel
theorem dX10_advance_10 : decode cX10_advance 10 = .ok (.iconst 1, 1) := by decide +kernel
theorem dX10_advance_11 : decode cX10_advance 11 = .ok (.putfield 26, 3) := by decide +kernel
theorem dX10_advance_14 : decode cX10_advance 14 = .ok (.iconst 0, 1) := by decide +kernel
theorem dX10_advance_15 : decode cX10_advance 15 = .ok (.istore_n 1, 1) := by decide +kernel
theorem dX10_advance_16 : decode cX10_advance 16 = .ok (.aload_n 0, 1) := by decide +kernel
theorem dX10_advance_17 : decode cX10_advance 17 = .ok (.getfield 9, 3) := by decide +kernel
theorem dX10_advance_20 : decode cX10_advance 20 = .ok (.iconst 0, 1) := by decide +kernel
theorem dX10_advance_21 : decode cX10_advance 21 = .ok (.iconst (-1), 1) := by decide +kernel
theorem dX10_advance_22 : decode cX10_advance 22 = .ok (.iastore, 1) := by decide +kernel
theorem dX10_advance_23 : decode cX10_advance 23 = .ok (.iconst 0, 1) := by decide +kernel
theorem dX10_advance_24 : decode cX10_advance 24 = .ok (.istore_n 2, 1) := by decide +kernel
theorem dX10_advance_25 : decode cX10_advance 25 = .ok (.iload_n 2, 1) := by decide +kernel
theorem dX10_advance_26 : decode cX10_advance 26 = .ok (.ldc 29, 2) := by decide +kernel
theorem dX10_advance_28 : decode cX10_advance 28 = .ok (.if_icmp .ge 121, 3) := by decide +kernel
theorem dX10_advance_31 : decode cX10_advance 31 = .ok (.iload_n 1, 1) := by decide +kernel
theorem dX10_advance_32 : decode cX10_advance 32 = .ok (.ifCond .lt 117, 3) := by decide +kernel
theorem dX10_advance_35 : decode cX10_advance 35 = .ok (.aload_n 0, 1) := by decide +kernel
theorem dX10_advance_36 : decode cX10_advance 36 = .ok (.getfield 18, 3) := by decide +kernel
theorem dX10_advance_39 : decode cX10_advance 39 = .ok (.getfield 30, 3) := by decide +kernel
theorem dX10_advance_42 : decode cX10_advance 42 = .ok (.iload_n 1, 1) := by decide +kernel
theorem dX10_advance_43 : decode cX10_advance 43 = .ok (.iaload, 1) := by decide +kernel
theorem dX10_advance_44 : decode cX10_advance 44 = .ok (.aload_n 0, 1) := by decide +kernel
theorem dX10_advance_45 : decode cX10_advance 45 = .ok (.getfield 9, 3) := by decide +kernel
theorem dX10_advance_48 : decode cX10_advance 48 = .ok (.iload_n 1, 1) := by decide +kernel
theorem dX10_advance_49 : decode cX10_advance 49 = .ok (.iaload, 1) := by decide +kernel
theorem dX10_advance_50 : decode cX10_advance 50 = .ok (.iconst 1, 1) := by decide +kernel
theorem dX10_advance_51 : decode cX10_advance 51 = .ok (.iadd, 1) := by decide +kernel
theorem dX10_advance_52 : decode cX10_advance 52 = .ok (.invokestatic 35, 3) := by decide +kernel
theorem dX10_advance_55 : decode cX10_advance 55 = .ok (.iconst (-1), 1) := by decide +kernel
theorem dX10_advance_56 : decode cX10_advance 56 = .ok (.ixor, 1) := by decide +kernel
theorem dX10_advance_57 : decode cX10_advance 57 = .ok (.iand, 1) := by decide +kernel
theorem dX10_advance_58 : decode cX10_advance 58 = .ok (.istore_n 3, 1) := by decide +kernel
theorem dX10_advance_59 : decode cX10_advance 59 = .ok (.iload_n 3, 1) := by decide +kernel
theorem dX10_advance_60 : decode cX10_advance 60 = .ok (.ifCond .ne 9, 3) := by decide +kernel
theorem dX10_advance_63 : decode cX10_advance 63 = .ok (.iinc 1 (-1), 3) := by decide +kernel
theorem dX10_advance_66 : decode cX10_advance 66 = .ok (.goto 77, 3) := by decide +kernel
theorem dX10_advance_69 : decode cX10_advance 69 = .ok (.aload_n 0, 1) := by decide +kernel
theorem dX10_advance_70 : decode cX10_advance 70 = .ok (.getfield 9, 3) := by decide +kernel
theorem dX10_advance_73 : decode cX10_advance 73 = .ok (.iload_n 1, 1) := by decide +kernel
theorem dX10_advance_74 : decode cX10_advance 74 = .ok (.iload_n 3, 1) := by decide +kernel
theorem dX10_advance_75 : decode cX10_advance 75 = .ok (.invokestatic 41, 3) := by decide +kernel
theorem dX10_advance_78 : decode cX10_advance 78 = .ok (.iastore, 1) := by decide +kernel
theorem dX10_advance_79 : decode cX10_advance 79 = .ok (.aload_n 0, 1) := by decide +kernel
theorem dX10_advance_80 : decode cX10_advance 80 = .ok (.getfield 15, 3) := by decide +kernel
theorem dX10_advance_83 : decode cX10_advance 83 = .ok (.iload_n 1, 1) := by decide +kernel
theorem dX10_advance_84 : decode cX10_advance 84 = .ok (.aload_n 0, 1) := by decide +kernel
theorem dX10_advance_85 : decode cX10_advance 85 = .ok (.iload_n 1, 1) := by decide +kernel
theorem dX10_advance_86 : decode cX10_advance 86 = .ok (.invokevirtual 46, 3) := by decide +kernel
theorem dX10_advance_89 : decode cX10_advance 89 = .ok (.iload_n 1, 1) := by decide +kernel
theorem dX10_advance_90 : decode cX10_advance 90 = .ok (.ifCond .ne 7, 3) := by decide +kernel
theorem dX10_advance_93 : decode cX10_advance 93 = .ok (.iconst 0, 1) := by decide +kernel
theorem dX10_advance_94 : decode cX10_advance 94 = .ok (.goto 11, 3) := by decide +kernel
theorem dX10_advance_97 : decode cX10_advance 97 = .ok (.aload_n 0, 1) := by decide +kernel
theorem dX10_advance_98 : decode cX10_advance 98 = .ok (.getfield 15, 3) := by decide +kernel
theorem dX10_advance_101 : decode cX10_advance 101 = .ok (.iload_n 1, 1) := by decide +kernel
theorem dX10_advance_102 : decode cX10_advance 102 = .ok (.iconst 1, 1) := by decide +kernel
theorem dX10_advance_103 : decode cX10_advance 103 = .ok (.isub, 1) := by decide +kernel
theorem dX10_advance_104 : decode cX10_advance 104 = .ok (.iaload, 1) := by decide +kernel
theorem dX10_advance_105 : decode cX10_advance 105 = .ok (.ior, 1) := by decide +kernel
theorem dX10_advance_106 : decode cX10_advance 106 = .ok (.iastore, 1) := by decide +kernel
theorem dX10_advance_107 : decode cX10_advance 107 = .ok (.aload_n 0, 1) := by decide +kernel
theorem dX10_advance_108 : decode cX10_advance 108 = .ok (.getfield 22, 3) := by decide +kernel
theorem dX10_advance_111 : decode cX10_advance 111 = .ok (.ifCond .eq 15, 3) := by decide +kernel
theorem dX10_advance_114 : decode cX10_advance 114 = .ok (.aload_n 0, 1) := by decide +kernel
theorem dX10_advance_115 : decode cX10_advance 115 = .ok (.getfield 15, 3) := by decide +kernel
theorem dX10_advance_118 : decode cX10_advance 118 = .ok (.iload_n 1, 1) := by decide +kernel
theorem dX10_advance_119 : decode cX10_advance 119 = .ok (.iaload, 1) := by decide +kernel
theorem dX10_advance_120 : decode cX10_advance 120 = .ok (.ifCond .eq 6, 3) := by decide +kernel
theorem dX10_advance_123 : decode cX10_advance 123 = .ok (.goto 20, 3) := by decide +kernel
theorem dX10_advance_126 : decode cX10_advance 126 = .ok (.iload_n 1, 1) := by decide +kernel
theorem dX10_advance_127 : decode cX10_advance 127 = .ok (.iconst 4, 1) := by decide +kernel
theorem dX10_advance_128 : decode cX10_advance 128 = .ok (.if_icmp .ne 5, 3) := by decide +kernel
theorem dX10_advance_131 : decode cX10_advance 131 = .ok (.iconst 1, 1) := by decide +kernel
theorem dX10_advance_132 : decode cX10_advance 132 = .ok (.ireturn, 1) := by decide +kernel
theorem dX10_advance_133 : decode cX10_advance 133 = .ok (.iinc 1 1, 3) := by decide +kernel
theorem dX10_advance_136 : decode cX10_advance 136 = .ok (.aload_n 0, 1) := by decide +kernel
theorem dX10_advance_137 : decode cX10_advance 137 = .ok (.getfield 9, 3) := by decide +kernel
theorem dX10_advance_140 : decode cX10_advance 140 = .ok (.iload_n 1, 1) := by decide +kernel
theorem dX10_advance_141 : decode cX10_advance 141 = .ok (.iconst (-1), 1) := by decide +kernel
theorem dX10_advance_142 : decode cX10_advance 142 = .ok (.iastore, 1) := by decide +kernel
theorem dX10_advance_143 : decode cX10_advance 143 = .ok (.iinc 2 1, 3) := by decide +kernel
theorem dX10_advance_146 : decode cX10_advance 146 = .ok (.goto (-121), 3) := by decide +kernel
theorem dX10_advance_149 : decode cX10_advance 149 = .ok (.iconst 0, 1) := by decide +kernel
theorem dX10_advance_150 : decode cX10_advance 150 = .ok (.ireturn, 1) := by decide +kernel
def f_X10_advance_L25 (a0 : Nat) (u6 : Int32) (u7 : Int32) (m8 : jM) : Option ((Int32 × Int32 × jM) ⊕ ((jM) ⊕ (jM))) :=
  (if (1000000 : Int32) ≤ u7 then some (.inr (.inr (m8))) else (if u6 < (0 : Int32) then some (.inr (.inr (m8))) else jrd (m8.1 8) u6 5 (fun v12 => jrd (m8.1 (a0 + 1)) u6 5 (fun v15 => jbd (v12 &&& ((f_X6_below (v15 + (1 : Int32))) ^^^ (-1 : Int32)) : Int32) (fun v17 => (if v17 = (0 : Int32) then some (.inl ((u6 + (-1 : Int32), u7 + (1 : Int32), m8))) else jin u6 5 (jbd (jsi m8 (a0 + 1) u6.toNatClampNeg (f_J6_numberOfTrailingZeros_0f7a4 v17)) (fun m21 => jcl (f_X10_brokenAt a0 u6 m21) (fun v23 => jbd (fun (t25 : Int32) => jin u6 5 (jbd (jsi m21 (a0 + 2) u6.toNatClampNeg (v23 ||| t25)) (fun m30 => jbd ((if u6 = (4 : Int32) then some (.inr (.inl m30)) else jin (u6 + (1 : Int32)) 5 (jbd (jsi m30 (a0 + 1) (u6 + (1 : Int32)).toNatClampNeg (-1 : Int32)) (fun m37 => some (.inl ((u6 + (1 : Int32), u7 + (1 : Int32), m37))))))) (fun k32 => (if (m30.1 a0 3) = (0 : Int32) then k32 else jrd (m30.1 (a0 + 2)) u6 5 (fun v41 => (if v41 = (0 : Int32) then k32 else some (.inl ((u6, u7 + (1 : Int32), m30)))))))))) (fun k26 => (if u6 = (0 : Int32) then k26 (0 : Int32) else jrd (m21.1 (a0 + 2)) (u6 - (1 : Int32)) 5 (fun v46 => k26 v46))))))))))))
def f_X10_advance (a0 : Nat) (μ : jM) : Option (Int32 × jM) :=
  jbd (fun (t1 : Int32) (m2 : jM) => jcl (jloop (fun (s : Int32 × Int32 × jM) => f_X10_advance_L25 a0 s.1 s.2.1 s.2.2) jfu ((t1, (0 : Int32), m2))) (fun w48 => match w48 with | .inl w48 => some (((1 : Int32), w48)) | .inr w48 => some (((0 : Int32), w48)))) (fun k3 => (if (μ.1 a0 4) = (0 : Int32) then jbd (jsi μ a0 4 (1 : Int32)) (fun m54 => jin (0 : Int32) 5 (jbd (jsi m54 (a0 + 1) (0 : Int32).toNatClampNeg (-1 : Int32)) (fun m57 => k3 (0 : Int32) m57))) else k3 (4 : Int32) μ))
set_option maxHeartbeats 4000000 in
set_option maxRecDepth 100000 in
theorem c_X10_advance {l : Launch} {G : jG} {L : jL} (hL : jOKL L) {a0 : Nat} (ka0 : jK L a0 10) {μ μ' : jM} {r : Int32} (h : f_X10_advance a0 μ = some ((r, μ'))) : jCt l G L 5 yX10_advance cX10_advance 4 (some .boolean) [.ref (L.2.2 a0)] μ (some (.int r)) μ' := by
  refine jCt_of (by decide) (Nat.le_of_ble_eq_true rfl) (fun X hC hX hR => ?_)
  subst hX
  have hC : jC X G cX10_advance 4 RX10 (some .boolean) := hC
  unfold f_X10_advance at h
  show jJ X G 4 L 0 0 (jQM X G L (some (.int r)) μ' 0 0) 0 [(0, .ref (L.2.2 a0))] [] μ
  refine j_iconst (pc := 0) hC (4 : Int32) dX10_advance_0 (by decide) ?_
  refine j_istore_n (pc := 1) hC 1 [(1, .int (4 : Int32)), (0, .ref (L.2.2 a0))] dX10_advance_1 rfl (by decide) rfl rfl ?_
  refine j_aload_n (pc := 2) hC 0 1 dX10_advance_2 rfl rfl ?_
  refine jgi_10 (pc := 3) hC 4 (by decide) rfl kf_X10_26 dX10_advance_3 ka0 ?_
  obtain ⟨k3, e5, h⟩ := jbd_ex h
  have q4 : ∀ (t1 : Int32) (m2 : jM), k3 t1 m2 = some ((r, μ')) → jJ X G 4 L 0 0 (jQM X G L (some (.int r)) μ' 0 0) 23 [(0, .ref (L.2.2 a0)), (1, .int t1)] [] m2 := by
    intro t1 m2 h
    rw [e5] at h
    try dsimp only at h
    refine j_iconst (pc := 23) hC (0 : Int32) dX10_advance_23 (by decide) ?_
    refine j_istore_n (pc := 24) hC 2 [(2, .int (0 : Int32)), (0, .ref (L.2.2 a0)), (1, .int t1)] dX10_advance_24 rfl (by decide) rfl rfl ?_
    obtain ⟨w48, hw49, h⟩ := jcl_some h
    refine j_lv [1, 2, 0] rfl ?_
    refine j_loop (step := (fun (s : Int32 × Int32 × jM) => f_X10_advance_L25 a0 s.1 s.2.1 s.2.2)) (P := (fun (s : Int32 × Int32 × jM) => jJ X G 4 L 0 0 (jQM X G L (some (.int r)) μ' 0 0) 25 [(0, .ref (L.2.2 a0)), (1, .int s.1), (2, .int s.2.1)] [] s.2.2)) (R := (fun (e : (jM) ⊕ (jM)) => match e with | .inl e => jJ X G 4 L 0 0 (jQM X G L (some (.int r)) μ' 0 0) 131 [] [] e | .inr e => jJ X G 4 L 0 0 (jQM X G L (some (.int r)) μ' 0 0) 149 [] [] e)) ?_ jfu ((t1, (0 : Int32), m2)) w48 hw49 ?_
    · intro s50 o h hk
      obtain ⟨u6, u7, m8⟩ := s50
      change f_X10_advance_L25 a0 u6 u7 m8 = some o at h
      unfold f_X10_advance_L25 at h
      show jJ X G 4 L 0 0 (jQM X G L (some (.int r)) μ' 0 0) 25 [(0, .ref (L.2.2 a0)), (1, .int u6), (2, .int u7)] [] m8
      refine j_iload_n (pc := 25) hC 2 2 dX10_advance_25 rfl rfl ?_
      refine j_ldc (pc := 26) hC dX10_advance_26 kc_X10_29 ?_
      refine j_icmp_ge (pc := 28) hC 149 dX10_advance_28 (by decide) (fun c9 => ?_) (fun c9 => ?_)
      · rw [if_pos c9] at h
        obtain rfl := Option.some.inj h
        have hk : jJ X G 4 L 0 0 (jQM X G L (some (.int r)) μ' 0 0) 149 [] [] m8 := hk
        exact j_lv [] rfl hk
      · rw [if_neg c9] at h
        refine j_iload_n (pc := 31) hC 1 1 dX10_advance_31 rfl rfl ?_
        refine j_if_lt (pc := 32) hC 149 dX10_advance_32 (by decide) (fun c10 => ?_) (fun c10 => ?_)
        · rw [if_pos c10] at h
          obtain rfl := Option.some.inj h
          have hk : jJ X G 4 L 0 0 (jQM X G L (some (.int r)) μ' 0 0) 149 [] [] m8 := hk
          exact j_lv [] rfl hk
        · rw [if_neg c10] at h
          refine j_aload_n (pc := 35) hC 0 0 dX10_advance_35 rfl rfl ?_
          refine jgr_10 (pc := 36) hC 1 (by decide) rfl kf_X10_18 dX10_advance_36 ka0 (ly_10_1 hL ka0).1 ?_
          refine jgr_9 (pc := 39) hC 1 (by decide) rfl kf_X10_30 dX10_advance_39 (ly_10_1 hL ka0).2.1 (ly_9_1 hL (ly_10_1 hL ka0).2.1).1 ?_
          refine j_iload_n (pc := 42) hC 1 1 dX10_advance_42 rfl rfl ?_
          obtain ⟨i11, v12, e13, h⟩ := jrd_some h
          refine j_iald (pc := 43) hC dX10_advance_43 (ly_9_1 hL (ly_10_1 hL ka0).2.1).2.1 (ly_9_1 hL (ly_10_1 hL ka0).2.1).2.2 i11 e13 ?_
          refine j_aload_n (pc := 44) hC 0 0 dX10_advance_44 rfl rfl ?_
          refine jgr_10 (pc := 45) hC 0 (by decide) rfl kf_X10_9 dX10_advance_45 ka0 (ly_10_0 hL ka0).1 ?_
          refine j_iload_n (pc := 48) hC 1 1 dX10_advance_48 rfl rfl ?_
          obtain ⟨i14, v15, e16, h⟩ := jrd_some h
          refine j_iald (pc := 49) hC dX10_advance_49 (ly_10_0 hL ka0).2.1 (ly_10_0 hL ka0).2.2 i14 e16 ?_
          refine j_iconst (pc := 50) hC (1 : Int32) dX10_advance_50 (by decide) ?_
          refine j_iadd (pc := 51) hC dX10_advance_51 ?_
          refine j_si (pc := 52) hC hR [.int (v15 + (1 : Int32))] iy_X6_below km_X10_35 dX10_advance_52 rfl (by decide) (c_X6_below hL  rfl) (by decide) (Nat.le_of_ble_eq_true rfl) rfl ?_
          refine j_iconst (pc := 55) hC (-1 : Int32) dX10_advance_55 (by decide) ?_
          refine j_ixor (pc := 56) hC dX10_advance_56 ?_
          refine j_iand (pc := 57) hC dX10_advance_57 ?_
          obtain ⟨v17, e18, h⟩ := jbd_ex h
          refine j_istore_n (pc := 58) hC 3 [(3, .int v17), (0, .ref (L.2.2 a0)), (1, .int u6), (2, .int u7)] dX10_advance_58 rfl (by decide) e18 rfl ?_
          refine j_iload_n (pc := 59) hC 3 0 dX10_advance_59 rfl rfl ?_
          refine j_if_ne (pc := 60) hC 69 dX10_advance_60 (by decide) (fun c19 => ?_) (fun c19 => ?_)
          · rw [if_neg c19] at h
            refine j_aload_n (pc := 69) hC 0 1 dX10_advance_69 rfl rfl ?_
            refine jgr_10 (pc := 70) hC 0 (by decide) rfl kf_X10_9 dX10_advance_70 ka0 (ly_10_0 hL ka0).1 ?_
            refine j_iload_n (pc := 73) hC 1 2 dX10_advance_73 rfl rfl ?_
            refine j_iload_n (pc := 74) hC 3 0 dX10_advance_74 rfl rfl ?_
            refine j_si (pc := 75) hC hR [.int v17] iy_J6_numberOfTrailingZeros_0f7a4 km_X10_41 dX10_advance_75 rfl (by decide) (c_J6_numberOfTrailingZeros_0f7a4 hL  rfl) (by decide) (Nat.le_of_ble_eq_true rfl) rfl ?_
            obtain ⟨i20, h⟩ := jin_some h
            obtain ⟨m21, e22, h⟩ := jbd_ex h
            refine j_iast (pc := 78) hC dX10_advance_78 (ly_10_0 hL ka0).2.1 (ly_10_0 hL ka0).2.2 i20 e22 ?_
            refine j_aload_n (pc := 79) hC 0 1 dX10_advance_79 rfl rfl ?_
            refine jgr_10 (pc := 80) hC 2 (by decide) rfl kf_X10_15 dX10_advance_80 ka0 (ly_10_2 hL ka0).1 ?_
            refine j_iload_n (pc := 83) hC 1 2 dX10_advance_83 rfl rfl ?_
            refine j_aload_n (pc := 84) hC 0 1 dX10_advance_84 rfl rfl ?_
            refine j_iload_n (pc := 85) hC 1 2 dX10_advance_85 rfl rfl ?_
            obtain ⟨v23, e24, h⟩ := jcl_some h
            refine j_vi (pc := 86) hC hR [.int u6] iy_X10_brokenAt (q := (RX10, TX10, 5)) (ci := 10) rfl rfl (by decide) km_X10_46 dX10_advance_86 rfl (by decide) ka0 (c_X10_brokenAt hL ka0 e24) (by decide) (Nat.le_of_ble_eq_true rfl) rfl ?_
            refine j_iload_n (pc := 89) hC 1 2 dX10_advance_89 rfl rfl ?_
            obtain ⟨k26, e28, h⟩ := jbd_ex h
            have q27 : ∀ (t25 : Int32), k26 t25 = some o → jJ X G 4 L 0 0 (jQM X G L (some (.int r)) μ' 0 0) 105 [(0, .ref (L.2.2 a0)), (1, .int u6), (2, .int u7)] [.int t25, .int v23, .int u6, .ref (L.2.2 (a0 + 2))] m21 := by
              intro t25 h
              rw [e28] at h
              try dsimp only at h
              refine j_ior (pc := 105) hC dX10_advance_105 ?_
              obtain ⟨i29, h⟩ := jin_some h
              obtain ⟨m30, e31, h⟩ := jbd_ex h
              refine j_iast (pc := 106) hC dX10_advance_106 (ly_10_2 hL ka0).2.1 (ly_10_2 hL ka0).2.2 i29 e31 ?_
              refine j_aload_n (pc := 107) hC 0 0 dX10_advance_107 rfl rfl ?_
              refine jgi_10 (pc := 108) hC 3 (by decide) rfl kf_X10_22 dX10_advance_108 ka0 ?_
              obtain ⟨k32, e34, h⟩ := jbd_ex h
              have q33 : k32 = some o → jJ X G 4 L 0 0 (jQM X G L (some (.int r)) μ' 0 0) 126 [(0, .ref (L.2.2 a0)), (1, .int u6), (2, .int u7)] [] m30 := by
                intro h
                rw [e34] at h
                refine j_iload_n (pc := 126) hC 1 1 dX10_advance_126 rfl rfl ?_
                refine j_iconst (pc := 127) hC (4 : Int32) dX10_advance_127 (by decide) ?_
                refine j_icmp_ne (pc := 128) hC 133 dX10_advance_128 (by decide) (fun c35 => ?_) (fun c35 => ?_)
                · rw [if_neg c35] at h
                  refine j_iinc (pc := 133) hC 1 (u6 + (1 : Int32)) [(1, .int (u6 + (1 : Int32))), (0, .ref (L.2.2 a0)), (2, .int u7)] dX10_advance_133 rfl rfl (by decide) rfl ?_
                  refine j_aload_n (pc := 136) hC 0 1 dX10_advance_136 rfl rfl ?_
                  refine jgr_10 (pc := 137) hC 0 (by decide) rfl kf_X10_9 dX10_advance_137 ka0 (ly_10_0 hL ka0).1 ?_
                  refine j_iload_n (pc := 140) hC 1 0 dX10_advance_140 rfl rfl ?_
                  refine j_iconst (pc := 141) hC (-1 : Int32) dX10_advance_141 (by decide) ?_
                  obtain ⟨i36, h⟩ := jin_some h
                  obtain ⟨m37, e38, h⟩ := jbd_ex h
                  refine j_iast (pc := 142) hC dX10_advance_142 (ly_10_0 hL ka0).2.1 (ly_10_0 hL ka0).2.2 i36 e38 ?_
                  refine j_iinc (pc := 143) hC 2 (u7 + (1 : Int32)) [(2, .int (u7 + (1 : Int32))), (1, .int (u6 + (1 : Int32))), (0, .ref (L.2.2 a0))] dX10_advance_143 rfl rfl (by decide) rfl ?_
                  refine j_goto (pc := 146) hC 25 dX10_advance_146 (by decide) ?_
                  obtain rfl := Option.some.inj h
                  have hk : jJ X G 4 L 0 0 (jQM X G L (some (.int r)) μ' 0 0) 25 [(0, .ref (L.2.2 a0)), (1, .int (u6 + (1 : Int32))), (2, .int (u7 + (1 : Int32)))] [] m37 := hk
                  exact j_lv [2, 1, 0] rfl hk
                · rw [if_pos c35] at h
                  obtain rfl := Option.some.inj h
                  have hk : jJ X G 4 L 0 0 (jQM X G L (some (.int r)) μ' 0 0) 131 [] [] m30 := hk
                  exact j_lv [] rfl hk
              refine j_if_eq (pc := 111) hC 126 dX10_advance_111 (by decide) (fun c39 => ?_) (fun c39 => ?_)
              · rw [if_pos c39] at h
                exact j_lv [0, 1, 2] rfl (q33 h)
              · rw [if_neg c39] at h
                refine j_aload_n (pc := 114) hC 0 0 dX10_advance_114 rfl rfl ?_
                refine jgr_10 (pc := 115) hC 2 (by decide) rfl kf_X10_15 dX10_advance_115 ka0 (ly_10_2 hL ka0).1 ?_
                refine j_iload_n (pc := 118) hC 1 1 dX10_advance_118 rfl rfl ?_
                obtain ⟨i40, v41, e42, h⟩ := jrd_some h
                refine j_iald (pc := 119) hC dX10_advance_119 (ly_10_2 hL ka0).2.1 (ly_10_2 hL ka0).2.2 i40 e42 ?_
                refine j_if_eq (pc := 120) hC 126 dX10_advance_120 (by decide) (fun c43 => ?_) (fun c43 => ?_)
                · rw [if_pos c43] at h
                  exact j_lv [0, 1, 2] rfl (q33 h)
                · rw [if_neg c43] at h
                  refine j_goto (pc := 123) hC 143 dX10_advance_123 (by decide) ?_
                  refine j_iinc (pc := 143) hC 2 (u7 + (1 : Int32)) [(2, .int (u7 + (1 : Int32))), (0, .ref (L.2.2 a0)), (1, .int u6)] dX10_advance_143 rfl rfl (by decide) rfl ?_
                  refine j_goto (pc := 146) hC 25 dX10_advance_146 (by decide) ?_
                  obtain rfl := Option.some.inj h
                  have hk : jJ X G 4 L 0 0 (jQM X G L (some (.int r)) μ' 0 0) 25 [(0, .ref (L.2.2 a0)), (1, .int u6), (2, .int (u7 + (1 : Int32)))] [] m30 := hk
                  exact j_lv [1, 2, 0] rfl hk
            refine j_if_ne (pc := 90) hC 97 dX10_advance_90 (by decide) (fun c44 => ?_) (fun c44 => ?_)
            · rw [if_neg c44] at h
              refine j_aload_n (pc := 97) hC 0 1 dX10_advance_97 rfl rfl ?_
              refine jgr_10 (pc := 98) hC 2 (by decide) rfl kf_X10_15 dX10_advance_98 ka0 (ly_10_2 hL ka0).1 ?_
              refine j_iload_n (pc := 101) hC 1 2 dX10_advance_101 rfl rfl ?_
              refine j_iconst (pc := 102) hC (1 : Int32) dX10_advance_102 (by decide) ?_
              refine j_isub (pc := 103) hC dX10_advance_103 ?_
              obtain ⟨i45, v46, e47, h⟩ := jrd_some h
              refine j_iald (pc := 104) hC dX10_advance_104 (ly_10_2 hL ka0).2.1 (ly_10_2 hL ka0).2.2 i45 e47 ?_
              exact j_lv [1, 2, 3] rfl (q27 _ h)
            · rw [if_pos c44] at h
              refine j_iconst (pc := 93) hC (0 : Int32) dX10_advance_93 (by decide) ?_
              refine j_goto (pc := 94) hC 105 dX10_advance_94 (by decide) ?_
              exact j_lv [1, 2, 3] rfl (q27 _ h)
          · rw [if_pos c19] at h
            refine j_iinc (pc := 63) hC 2 (u6 + (-1 : Int32)) [(1, .int (u6 + (-1 : Int32))), (3, .int v17), (0, .ref (L.2.2 a0)), (2, .int u7)] dX10_advance_63 rfl rfl (by decide) rfl ?_
            refine j_goto (pc := 66) hC 143 dX10_advance_66 (by decide) ?_
            refine j_iinc (pc := 143) hC 3 (u7 + (1 : Int32)) [(2, .int (u7 + (1 : Int32))), (1, .int (u6 + (-1 : Int32))), (3, .int v17), (0, .ref (L.2.2 a0))] dX10_advance_143 rfl rfl (by decide) rfl ?_
            refine j_goto (pc := 146) hC 25 dX10_advance_146 (by decide) ?_
            obtain rfl := Option.some.inj h
            have hk : jJ X G 4 L 0 0 (jQM X G L (some (.int r)) μ' 0 0) 25 [(0, .ref (L.2.2 a0)), (1, .int (u6 + (-1 : Int32))), (2, .int (u7 + (1 : Int32)))] [] m8 := hk
            exact j_lv [3, 1, 0] rfl hk
    · cases w48 with
      | inl w48 =>
        try dsimp only at h
        obtain ⟨m51, rfl⟩ : ∃ y, y = w48 := ⟨_, rfl⟩
        try dsimp only at h
        show jJ X G 4 L 0 0 (jQM X G L (some (.int r)) μ' 0 0) 131 [] [] m51
        refine j_iconst (pc := 131) hC (1 : Int32) dX10_advance_131 (by decide) ?_
        obtain ⟨rfl, rfl⟩ := Prod.mk.inj (Option.some.inj h)
        exact j_bret (pc := 132) hC dX10_advance_132 rfl rfl
      | inr w48 =>
        try dsimp only at h
        obtain ⟨m52, rfl⟩ : ∃ y, y = w48 := ⟨_, rfl⟩
        try dsimp only at h
        show jJ X G 4 L 0 0 (jQM X G L (some (.int r)) μ' 0 0) 149 [] [] m52
        refine j_iconst (pc := 149) hC (0 : Int32) dX10_advance_149 (by decide) ?_
        obtain ⟨rfl, rfl⟩ := Prod.mk.inj (Option.some.inj h)
        exact j_bret (pc := 150) hC dX10_advance_150 rfl rfl
  refine j_if_ne (pc := 6) hC 23 dX10_advance_6 (by decide) (fun c53 => ?_) (fun c53 => ?_)
  · rw [if_neg c53] at h
    exact j_lv [1, 0] rfl (q4 _ _ h)
  · rw [if_pos c53] at h
    refine j_aload_n (pc := 9) hC 0 1 dX10_advance_9 rfl rfl ?_
    refine j_iconst (pc := 10) hC (1 : Int32) dX10_advance_10 (by decide) ?_
    obtain ⟨m54, e55, h⟩ := jbd_ex h
    refine jpz_10 (pc := 11) hC 4 (by decide) rfl kf_X10_26 dX10_advance_11 rfl (by decide) (by decide) ka0 e55 ?_
    refine j_iconst (pc := 14) hC (0 : Int32) dX10_advance_14 (by decide) ?_
    refine j_istore_n (pc := 15) hC 1 [(1, .int (0 : Int32)), (0, .ref (L.2.2 a0))] dX10_advance_15 rfl (by decide) rfl rfl ?_
    refine j_aload_n (pc := 16) hC 0 1 dX10_advance_16 rfl rfl ?_
    refine jgr_10 (pc := 17) hC 0 (by decide) rfl kf_X10_9 dX10_advance_17 ka0 (ly_10_0 hL ka0).1 ?_
    refine j_iconst (pc := 20) hC (0 : Int32) dX10_advance_20 (by decide) ?_
    refine j_iconst (pc := 21) hC (-1 : Int32) dX10_advance_21 (by decide) ?_
    obtain ⟨i56, h⟩ := jin_some h
    obtain ⟨m57, e58, h⟩ := jbd_ex h
    refine j_iast (pc := 22) hC dX10_advance_22 (ly_10_0 hL ka0).2.1 (ly_10_0 hL ka0).2.2 i56 e58 ?_
    exact j_lv [1, 0] rfl (q4 _ _ h)
