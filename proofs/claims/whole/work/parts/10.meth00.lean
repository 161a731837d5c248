theorem dX0_add_0 : decode cX0_add 0 = .ok (.aload_n 0, 1) := by decide +kernel
theorem dX0_add_1 : decode cX0_add 1 = .ok (.getfield 21, 3) := by decide +kernel
theorem dX0_add_4 : decode cX0_add 4 = .ok (.bipush 10, 2) := by decide +kernel
theorem dX0_add_6 : decode cX0_add 6 = .ok (.if_icmp .lt 5, 3) := by decide +kernel
theorem dX0_add_9 : decode cX0_add 9 = .ok (.iconst (-1), 1) := by decide +kernel
theorem dX0_add_10 : decode cX0_add 10 = .ok (.ireturn, 1) := by decide +kernel
theorem dX0_add_11 : decode cX0_add 11 = .ok (.aload_n 0, 1) := by decide +kernel
theorem dX0_add_12 : decode cX0_add 12 = .ok (.getfield 9, 3) := by decide +kernel
theorem dX0_add_15 : decode cX0_add 15 = .ok (.aload_n 0, 1) := by decide +kernel
theorem dX0_add_16 : decode cX0_add 16 = .ok (.getfield 21, 3) := by decide +kernel
theorem dX0_add_19 : decode cX0_add 19 = .ok (.iload_n 1, 1) := by decide +kernel
theorem dX0_add_20 : decode cX0_add 20 = .ok (.iastore, 1) := by decide +kernel
theorem dX0_add_21 : decode cX0_add 21 = .ok (.aload_n 0, 1) := by decide +kernel
theorem dX0_add_22 : decode cX0_add 22 = .ok (.getfield 15, 3) := by decide +kernel
theorem dX0_add_25 : decode cX0_add 25 = .ok (.aload_n 0, 1) := by decide +kernel
theorem dX0_add_26 : decode cX0_add 26 = .ok (.getfield 21, 3) := by decide +kernel
theorem dX0_add_29 : decode cX0_add 29 = .ok (.iload_n 2, 1) := by decide +kernel
theorem dX0_add_30 : decode cX0_add 30 = .ok (.iastore, 1) := by decide +kernel
theorem dX0_add_31 : decode cX0_add 31 = .ok (.aload_n 0, 1) := by decide +kernel
theorem dX0_add_32 : decode cX0_add 32 = .ok (.getfield 18, 3) := by decide +kernel
theorem dX0_add_35 : decode cX0_add 35 = .ok (.aload_n 0, 1) := by decide +kernel
theorem dX0_add_36 : decode cX0_add 36 = .ok (.getfield 21, 3) := by decide +kernel
theorem dX0_add_39 : decode cX0_add 39 = .ok (.iload_n 3, 1) := by decide +kernel
theorem dX0_add_40 : decode cX0_add 40 = .ok (.iastore, 1) := by decide +kernel
theorem dX0_add_41 : decode cX0_add 41 = .ok (.aload_n 0, 1) := by decide +kernel
theorem dX0_add_42 : decode cX0_add 42 = .ok (.dup, 1) := by decide +kernel
theorem dX0_add_43 : decode cX0_add 43 = .ok (.getfield 21, 3) := by decide +kernel
theorem dX0_add_46 : decode cX0_add 46 = .ok (.iconst 1, 1) := by decide +kernel
theorem dX0_add_47 : decode cX0_add 47 = .ok (.iadd, 1) := by decide +kernel
theorem dX0_add_48 : decode cX0_add 48 = .ok (.putfield 21, 3) := by decide +kernel
theorem dX0_add_51 : decode cX0_add 51 = .ok (.aload_n 0, 1) := by decide +kernel
theorem dX0_add_52 : decode cX0_add 52 = .ok (.getfield 21, 3) := by decide +kernel
theorem dX0_add_55 : decode cX0_add 55 = .ok (.ireturn, 1) := by decide +kernel
def f_X0_add (a0 : Nat) (x1 : Int32) (x2 : Int32) (x3 : Int32) (μ : jM) : Option (Int32 × jM) :=
  (if (μ.1 a0 3) < (10 : Int32) then jin (μ.1 a0 3) 10 (jbd (jsi μ (a0 + 1) (μ.1 a0 3).toNatClampNeg x1) (fun m3 => jin (m3.1 a0 3) 10 (jbd (jsi m3 (a0 + 2) (m3.1 a0 3).toNatClampNeg x2) (fun m6 => jin (m6.1 a0 3) 10 (jbd (jsi m6 (a0 + 3) (m6.1 a0 3).toNatClampNeg x3) (fun m9 => jbd (jsi m9 a0 3 ((m9.1 a0 3) + (1 : Int32))) (fun m11 => some ((m11.1 a0 3, m11))))))))) else some (((-1 : Int32), μ)))
set_option maxHeartbeats 4000000 in
set_option maxRecDepth 100000 in
theorem c_X0_add {l : Launch} {G : jG} {L : jL} (hL : jOKL L) {a0 : Nat} {x1 : Int32} {x2 : Int32} {x3 : Int32} (ka0 : jK L a0 0) {μ μ' : jM} {r : Int32} (h : f_X0_add a0 x1 x2 x3 μ = some ((r, μ'))) : jCt l G L 3 yX0_add cX0_add 4 (some .int) [.ref (L.2.2 a0), .int x1, .int x2, .int x3] μ (some (.int r)) μ' := by
  refine jCt_of (by decide) (Nat.le_of_ble_eq_true rfl) (fun X hC hX hR => ?_)
  subst hX
  have hC : jC X G cX0_add 4 RX0 (some .int) := hC
  unfold f_X0_add at h
  show jJ X G 4 L 0 0 (jQM X G L (some (.int r)) μ' 0 0) 0 [(0, .ref (L.2.2 a0)), (1, .int x1), (2, .int x2), (3, .int x3)] [] μ
  refine j_aload_n (pc := 0) hC 0 0 dX0_add_0 rfl rfl ?_
  refine jgi_0 (pc := 1) hC 3 (by decide) rfl kf_X0_21 dX0_add_1 ka0 ?_
  refine j_bipush (pc := 4) hC (10 : Int32) dX0_add_4 (by decide) ?_
  refine j_icmp_lt (pc := 6) hC 11 dX0_add_6 (by decide) (fun c1 => ?_) (fun c1 => ?_)
  · rw [if_pos c1] at h
    refine j_aload_n (pc := 11) hC 0 0 dX0_add_11 rfl rfl ?_
    refine jgr_0 (pc := 12) hC 0 (by decide) rfl kf_X0_9 dX0_add_12 ka0 (ly_0_0 hL ka0).1 ?_
    refine j_aload_n (pc := 15) hC 0 0 dX0_add_15 rfl rfl ?_
    refine jgi_0 (pc := 16) hC 3 (by decide) rfl kf_X0_21 dX0_add_16 ka0 ?_
    refine j_iload_n (pc := 19) hC 1 1 dX0_add_19 rfl rfl ?_
    obtain ⟨i2, h⟩ := jin_some h
    obtain ⟨m3, e4, h⟩ := jbd_ex h
    refine j_iast (pc := 20) hC dX0_add_20 (ly_0_0 hL ka0).2.1 (ly_0_0 hL ka0).2.2 i2 e4 ?_
    refine j_aload_n (pc := 21) hC 0 0 dX0_add_21 rfl rfl ?_
    refine jgr_0 (pc := 22) hC 1 (by decide) rfl kf_X0_15 dX0_add_22 ka0 (ly_0_1 hL ka0).1 ?_
    refine j_aload_n (pc := 25) hC 0 0 dX0_add_25 rfl rfl ?_
    refine jgi_0 (pc := 26) hC 3 (by decide) rfl kf_X0_21 dX0_add_26 ka0 ?_
    refine j_iload_n (pc := 29) hC 2 2 dX0_add_29 rfl rfl ?_
    obtain ⟨i5, h⟩ := jin_some h
    obtain ⟨m6, e7, h⟩ := jbd_ex h
    refine j_iast (pc := 30) hC dX0_add_30 (ly_0_1 hL ka0).2.1 (ly_0_1 hL ka0).2.2 i5 e7 ?_
    refine j_aload_n (pc := 31) hC 0 0 dX0_add_31 rfl rfl ?_
    refine jgr_0 (pc := 32) hC 2 (by decide) rfl kf_X0_18 dX0_add_32 ka0 (ly_0_2 hL ka0).1 ?_
    refine j_aload_n (pc := 35) hC 0 0 dX0_add_35 rfl rfl ?_
    refine jgi_0 (pc := 36) hC 3 (by decide) rfl kf_X0_21 dX0_add_36 ka0 ?_
    refine j_iload_n (pc := 39) hC 3 3 dX0_add_39 rfl rfl ?_
    obtain ⟨i8, h⟩ := jin_some h
    obtain ⟨m9, e10, h⟩ := jbd_ex h
    refine j_iast (pc := 40) hC dX0_add_40 (ly_0_2 hL ka0).2.1 (ly_0_2 hL ka0).2.2 i8 e10 ?_
    refine j_aload_n (pc := 41) hC 0 0 dX0_add_41 rfl rfl ?_
    refine j_dup (pc := 42) hC dX0_add_42 rfl ?_
    refine jgi_0 (pc := 43) hC 3 (by decide) rfl kf_X0_21 dX0_add_43 ka0 ?_
    refine j_iconst (pc := 46) hC (1 : Int32) dX0_add_46 (by decide) ?_
    refine j_iadd (pc := 47) hC dX0_add_47 ?_
    obtain ⟨m11, e12, h⟩ := jbd_ex h
    refine jpi_0 (pc := 48) hC 3 (by decide) rfl kf_X0_21 dX0_add_48 rfl (by decide) ka0 e12 ?_
    refine j_aload_n (pc := 51) hC 0 0 dX0_add_51 rfl rfl ?_
    refine jgi_0 (pc := 52) hC 3 (by decide) rfl kf_X0_21 dX0_add_52 ka0 ?_
    obtain ⟨rfl, rfl⟩ := Prod.mk.inj (Option.some.inj h)
    exact j_iret (pc := 55) hC dX0_add_55 rfl
  · rw [if_neg c1] at h
    refine j_iconst (pc := 9) hC (-1 : Int32) dX0_add_9 (by decide) ?_
    obtain ⟨rfl, rfl⟩ := Prod.mk.inj (Option.some.inj h)
    exact j_iret (pc := 10) hC dX0_add_10 rfl
theorem dX0_agrees_0 : decode cX0_agrees 0 = .ok (.iconst 0, 1) := by decide +kernel
theorem dX0_agrees_1 : decode cX0_agrees 1 = .ok (.istore_n 2, 1) := by decide +kernel
theorem dX0_agrees_2 : decode cX0_agrees 2 = .ok (.iload_n 2, 1) := by decide +kernel
theorem dX0_agrees_3 : decode cX0_agrees 3 = .ok (.aload_n 0, 1) := by decide +kernel
theorem dX0_agrees_4 : decode cX0_agrees 4 = .ok (.getfield 21, 3) := by decide +kernel
theorem dX0_agrees_7 : decode cX0_agrees 7 = .ok (.if_icmp .ge 53, 3) := by decide +kernel
theorem dX0_agrees_10 : decode cX0_agrees 10 = .ok (.aload_n 1, 1) := by decide +kernel
theorem dX0_agrees_11 : decode cX0_agrees 11 = .ok (.aload_n 0, 1) := by decide +kernel
theorem dX0_agrees_12 : decode cX0_agrees 12 = .ok (.getfield 9, 3) := by decide +kernel
theorem dX0_agrees_15 : decode cX0_agrees 15 = .ok (.iload_n 2, 1) := by decide +kernel
theorem dX0_agrees_16 : decode cX0_agrees 16 = .ok (.iaload, 1) := by decide +kernel
theorem dX0_agrees_17 : decode cX0_agrees 17 = .ok (.iaload, 1) := by decide +kernel
theorem dX0_agrees_18 : decode cX0_agrees 18 = .ok (.aload_n 0, 1) := by decide +kernel
theorem dX0_agrees_19 : decode cX0_agrees 19 = .ok (.getfield 15, 3) := by decide +kernel
theorem dX0_agrees_22 : decode cX0_agrees 22 = .ok (.iload_n 2, 1) := by decide +kernel
theorem dX0_agrees_23 : decode cX0_agrees 23 = .ok (.iaload, 1) := by decide +kernel
theorem dX0_agrees_24 : decode cX0_agrees 24 = .ok (.if_icmp .ne 7, 3) := by decide +kernel
theorem dX0_agrees_27 : decode cX0_agrees 27 = .ok (.iconst 1, 1) := by decide +kernel
theorem dX0_agrees_28 : decode cX0_agrees 28 = .ok (.goto 4, 3) := by decide +kernel
theorem dX0_agrees_31 : decode cX0_agrees 31 = .ok (.iconst 0, 1) := by decide +kernel
theorem dX0_agrees_32 : decode cX0_agrees 32 = .ok (.istore_n 3, 1) := by decide +kernel
theorem dX0_agrees_33 : decode cX0_agrees 33 = .ok (.iload_n 3, 1) := by decide +kernel
theorem dX0_agrees_34 : decode cX0_agrees 34 = .ok (.aload_n 0, 1) := by decide +kernel
theorem dX0_agrees_35 : decode cX0_agrees 35 = .ok (.getfield 18, 3) := by decide +kernel
theorem dX0_agrees_38 : decode cX0_agrees 38 = .ok (.iload_n 2, 1) := by decide +kernel
theorem dX0_agrees_39 : decode cX0_agrees 39 = .ok (.iaload, 1) := by decide +kernel
theorem dX0_agrees_40 : decode cX0_agrees 40 = .ok (.iconst 1, 1) := by decide +kernel
theorem dX0_agrees_41 : decode cX0_agrees 41 = .ok (.if_icmp .ne 7, 3) := by decide +kernel
theorem dX0_agrees_44 : decode cX0_agrees 44 = .ok (.iconst 1, 1) := by decide +kernel
theorem dX0_agrees_45 : decode cX0_agrees 45 = .ok (.goto 4, 3) := by decide +kernel
theorem dX0_agrees_48 : decode cX0_agrees 48 = .ok (.iconst 0, 1) := by decide +kernel
theorem dX0_agrees_49 : decode cX0_agrees 49 = .ok (.if_icmp .eq 5, 3) := by decide +kernel
theorem dX0_agrees_52 : decode cX0_agrees 52 = .ok (.iconst 0, 1) := by decide +kernel
theorem dX0_agrees_53 : decode cX0_agrees 53 = .ok (.ireturn, 1) := by decide +kernel
theorem dX0_agrees_54 : decode cX0_agrees 54 = .ok (.iinc 2 1, 3) := by decide +kernel
theorem dX0_agrees_57 : decode cX0_agrees 57 = .ok (.goto (-55), 3) := by decide +kernel
theorem dX0_agrees_60 : decode cX0_agrees 60 = .ok (.iconst 1, 1) := by decide +kernel
theorem dX0_agrees_61 : decode cX0_agrees 61 = .ok (.ireturn, 1) := by decide +kernel
def f_X0_agrees_L2 (a0 : Nat) (a1 : Nat) (μ : jM) (u1 : Int32) : Option ((Int32) ⊕ ((Unit) ⊕ (Unit))) :=
  (if (μ.1 a0 3) ≤ u1 then some (.inr (.inr (()))) else jrd (μ.1 (a0 + 1)) u1 10 (fun v4 => jrd (μ.1 a1) v4 (jlen a1) (fun v7 => jrd (μ.1 (a0 + 2)) u1 10 (fun v10 => jbd ((if v7 = v10 then (1 : Int32) else (0 : Int32)) : Int32) (fun v13 => jrd (μ.1 (a0 + 3)) u1 10 (fun v16 => (if v13 = ((if v16 = (1 : Int32) then (1 : Int32) else (0 : Int32))) then some (.inl (u1 + (1 : Int32))) else some (.inr (.inl (()))))))))))
def f_X0_agrees (a0 : Nat) (a1 : Nat) (μ : jM) : Option (Int32) :=
  jcl (jloop (fun (s : Int32) => f_X0_agrees_L2 a0 a1 μ s) jfu (0 : Int32)) (fun w20 => match w20 with | .inl w20 => some (0 : Int32) | .inr w20 => some (1 : Int32))
set_option maxHeartbeats 4000000 in
set_option maxRecDepth 100000 in
theorem c_X0_agrees {l : Launch} {G : jG} {L : jL} (hL : jOKL L) {a0 : Nat} {a1 : Nat} (ka0 : jK L a0 0) (ka1 : jK L a1 13) {μ : jM} {r : Int32} (h : f_X0_agrees a0 a1 μ = some r) : jCt l G L 3 yX0_agrees cX0_agrees 4 (some .boolean) [.ref (L.2.2 a0), .ref (L.2.2 a1)] μ (some (.int r)) μ := by
  refine jCt_of (by decide) (Nat.le_of_ble_eq_true rfl) (fun X hC hX hR => ?_)
  subst hX
  have hC : jC X G cX0_agrees 4 RX0 (some .boolean) := hC
  unfold f_X0_agrees at h
  show jJ X G 4 L 0 0 (jQM X G L (some (.int r)) μ 0 0) 0 [(0, .ref (L.2.2 a0)), (1, .ref (L.2.2 a1))] [] μ
  refine j_iconst (pc := 0) hC (0 : Int32) dX0_agrees_0 (by decide) ?_
  refine j_istore_n (pc := 1) hC 2 [(2, .int (0 : Int32)), (0, .ref (L.2.2 a0)), (1, .ref (L.2.2 a1))] dX0_agrees_1 rfl (by decide) rfl rfl ?_
  obtain ⟨w20, hw21, h⟩ := jcl_some h
  refine j_lv [1, 2, 0] rfl ?_
  refine j_loop (step := (fun (s : Int32) => f_X0_agrees_L2 a0 a1 μ s)) (P := (fun (s : Int32) => jJ X G 4 L 0 0 (jQM X G L (some (.int r)) μ 0 0) 2 [(0, .ref (L.2.2 a0)), (1, .ref (L.2.2 a1)), (2, .int s)] [] μ)) (R := (fun (e : (Unit) ⊕ (Unit)) => match e with | .inl e => jJ X G 4 L 0 0 (jQM X G L (some (.int r)) μ 0 0) 52 [] [] μ | .inr e => jJ X G 4 L 0 0 (jQM X G L (some (.int r)) μ 0 0) 60 [] [] μ)) ?_ jfu (0 : Int32) w20 hw21 ?_
  · intro u1 o h hk
    change f_X0_agrees_L2 a0 a1 μ u1 = some o at h
    unfold f_X0_agrees_L2 at h
    show jJ X G 4 L 0 0 (jQM X G L (some (.int r)) μ 0 0) 2 [(0, .ref (L.2.2 a0)), (1, .ref (L.2.2 a1)), (2, .int u1)] [] μ
    refine j_iload_n (pc := 2) hC 2 2 dX0_agrees_2 rfl rfl ?_
    refine j_aload_n (pc := 3) hC 0 0 dX0_agrees_3 rfl rfl ?_
    refine jgi_0 (pc := 4) hC 3 (by decide) rfl kf_X0_21 dX0_agrees_4 ka0 ?_
    refine j_icmp_ge (pc := 7) hC 60 dX0_agrees_7 (by decide) (fun c2 => ?_) (fun c2 => ?_)
    · rw [if_pos c2] at h
      obtain rfl := Option.some.inj h
      have hk : jJ X G 4 L 0 0 (jQM X G L (some (.int r)) μ 0 0) 60 [] [] μ := hk
      exact j_lv [] rfl hk
    · rw [if_neg c2] at h
      refine j_aload_n (pc := 10) hC 1 1 dX0_agrees_10 rfl rfl ?_
      refine j_aload_n (pc := 11) hC 0 0 dX0_agrees_11 rfl rfl ?_
      refine jgr_0 (pc := 12) hC 0 (by decide) rfl kf_X0_9 dX0_agrees_12 ka0 (ly_0_0 hL ka0).1 ?_
      refine j_iload_n (pc := 15) hC 2 2 dX0_agrees_15 rfl rfl ?_
      obtain ⟨i3, v4, e5, h⟩ := jrd_some h
      refine j_iald (pc := 16) hC dX0_agrees_16 (ly_0_0 hL ka0).2.1 (ly_0_0 hL ka0).2.2 i3 e5 ?_
      obtain ⟨i6, v7, e8, h⟩ := jrd_some h
      refine j_iald (pc := 17) hC dX0_agrees_17 ka1 (jlen_ok hL _) i6 e8 ?_
      refine j_aload_n (pc := 18) hC 0 0 dX0_agrees_18 rfl rfl ?_
      refine jgr_0 (pc := 19) hC 1 (by decide) rfl kf_X0_15 dX0_agrees_19 ka0 (ly_0_1 hL ka0).1 ?_
      refine j_iload_n (pc := 22) hC 2 2 dX0_agrees_22 rfl rfl ?_
      obtain ⟨i9, v10, e11, h⟩ := jrd_some h
      refine j_iald (pc := 23) hC dX0_agrees_23 (ly_0_1 hL ka0).2.1 (ly_0_1 hL ka0).2.2 i9 e11 ?_
      refine jmg (B := jJ X G 4 L 0 0 (jQM X G L (some (.int r)) μ 0 0) 32 [(0, .ref (L.2.2 a0)), (1, .ref (L.2.2 a1)), (2, .int u1)] [.int ((if v7 = v10 then (1 : Int32) else (0 : Int32)))] μ) (fun hj => ?_) ?_
      · refine j_icmp_ne (pc := 24) hC 31 dX0_agrees_24 (by decide) (fun c12 => ?_) (fun c12 => ?_)
        · rw [if_neg c12] at hj
          refine j_iconst (pc := 31) hC (0 : Int32) dX0_agrees_31 (by decide) ?_
          exact hj
        · rw [if_pos c12] at hj
          refine j_iconst (pc := 27) hC (1 : Int32) dX0_agrees_27 (by decide) ?_
          refine j_goto (pc := 28) hC 32 dX0_agrees_28 (by decide) ?_
          exact hj
      obtain ⟨v13, e14, h⟩ := jbd_ex h
      refine j_istore_n (pc := 32) hC 3 [(3, .int v13), (0, .ref (L.2.2 a0)), (1, .ref (L.2.2 a1)), (2, .int u1)] dX0_agrees_32 rfl (by decide) e14 rfl ?_
      refine j_iload_n (pc := 33) hC 3 0 dX0_agrees_33 rfl rfl ?_
      refine j_aload_n (pc := 34) hC 0 1 dX0_agrees_34 rfl rfl ?_
      refine jgr_0 (pc := 35) hC 2 (by decide) rfl kf_X0_18 dX0_agrees_35 ka0 (ly_0_2 hL ka0).1 ?_
      refine j_iload_n (pc := 38) hC 2 3 dX0_agrees_38 rfl rfl ?_
      obtain ⟨i15, v16, e17, h⟩ := jrd_some h
      refine j_iald (pc := 39) hC dX0_agrees_39 (ly_0_2 hL ka0).2.1 (ly_0_2 hL ka0).2.2 i15 e17 ?_
      refine j_iconst (pc := 40) hC (1 : Int32) dX0_agrees_40 (by decide) ?_
      refine jmg (B := jJ X G 4 L 0 0 (jQM X G L (some (.int r)) μ 0 0) 49 [(3, .int v13), (0, .ref (L.2.2 a0)), (1, .ref (L.2.2 a1)), (2, .int u1)] [.int ((if v16 = (1 : Int32) then (1 : Int32) else (0 : Int32))), .int v13] μ) (fun hj => ?_) ?_
      · refine j_icmp_ne (pc := 41) hC 48 dX0_agrees_41 (by decide) (fun c18 => ?_) (fun c18 => ?_)
        · rw [if_neg c18] at hj
          refine j_iconst (pc := 48) hC (0 : Int32) dX0_agrees_48 (by decide) ?_
          exact hj
        · rw [if_pos c18] at hj
          refine j_iconst (pc := 44) hC (1 : Int32) dX0_agrees_44 (by decide) ?_
          refine j_goto (pc := 45) hC 49 dX0_agrees_45 (by decide) ?_
          exact hj
      refine j_icmp_eq (pc := 49) hC 54 dX0_agrees_49 (by decide) (fun c19 => ?_) (fun c19 => ?_)
      · rw [if_pos c19] at h
        refine j_iinc (pc := 54) hC 3 (u1 + (1 : Int32)) [(2, .int (u1 + (1 : Int32))), (3, .int v13), (0, .ref (L.2.2 a0)), (1, .ref (L.2.2 a1))] dX0_agrees_54 rfl rfl (by decide) rfl ?_
        refine j_goto (pc := 57) hC 2 dX0_agrees_57 (by decide) ?_
        obtain rfl := Option.some.inj h
        have hk : jJ X G 4 L 0 0 (jQM X G L (some (.int r)) μ 0 0) 2 [(0, .ref (L.2.2 a0)), (1, .ref (L.2.2 a1)), (2, .int (u1 + (1 : Int32)))] [] μ := hk
        exact j_lv [2, 3, 0] rfl hk
      · rw [if_neg c19] at h
        obtain rfl := Option.some.inj h
        have hk : jJ X G 4 L 0 0 (jQM X G L (some (.int r)) μ 0 0) 52 [] [] μ := hk
        exact j_lv [] rfl hk
  · cases w20 with
    | inl w20 =>
      try dsimp only at h
      try dsimp only at h
      show jJ X G 4 L 0 0 (jQM X G L (some (.int r)) μ 0 0) 52 [] [] μ
      refine j_iconst (pc := 52) hC (0 : Int32) dX0_agrees_52 (by decide) ?_
      obtain rfl := Option.some.inj h
      exact j_bret (pc := 53) hC dX0_agrees_53 rfl rfl
    | inr w20 =>
      try dsimp only at h
      try dsimp only at h
      show jJ X G 4 L 0 0 (jQM X G L (some (.int r)) μ 0 0) 60 [] [] μ
      refine j_iconst (pc := 60) hC (1 : Int32) dX0_agrees_60 (by decide) ?_
      obtain rfl := Option.some.inj h
      exact j_bret (pc := 61) hC dX0_agrees_61 rfl rfl
theorem dJ7_fill_53178_0 : decode cJ7_fill_53178 0 = .ok (.iconst 0, 1) := by decide +kernel
theorem dJ7_fill_53178_1 : decode cJ7_fill_53178 1 = .ok (.istore_n 2, 1) := by decide +kernel
theorem dJ7_fill_53178_2 : decode cJ7_fill_53178 2 = .ok (.aload_n 0, 1) := by decide +kernel
theorem dJ7_fill_53178_3 : decode cJ7_fill_53178 3 = .ok (.arraylength, 1) := by decide +kernel
theorem dJ7_fill_53178_4 : decode cJ7_fill_53178 4 = .ok (.istore_n 3, 1) := by decide +kernel
theorem dJ7_fill_53178_5 : decode cJ7_fill_53178 5 = .ok (.iload_n 2, 1) := by decide +kernel
theorem dJ7_fill_53178_6 : decode cJ7_fill_53178 6 = .ok (.iload_n 3, 1) := by decide +kernel
theorem dJ7_fill_53178_7 : decode cJ7_fill_53178 7 = .ok (.if_icmp .ge 13, 3) := by decide +kernel
theorem dJ7_fill_53178_10 : decode cJ7_fill_53178 10 = .ok (.aload_n 0, 1) := by decide +kernel
theorem dJ7_fill_53178_11 : decode cJ7_fill_53178 11 = .ok (.iload_n 2, 1) := by decide +kernel
theorem dJ7_fill_53178_12 : decode cJ7_fill_53178 12 = .ok (.iload_n 1, 1) := by decide +kernel
theorem dJ7_fill_53178_13 : decode cJ7_fill_53178 13 = .ok (.iastore, 1) := by decide +kernel
theorem dJ7_fill_53178_14 : decode cJ7_fill_53178 14 = .ok (.iinc 2 1, 3) := by decide +kernel
theorem dJ7_fill_53178_17 : decode cJ7_fill_53178 17 = .ok (.goto (-12), 3) := by decide +kernel
theorem dJ7_fill_53178_20 : decode cJ7_fill_53178 20 = .ok (.return_, 1) := by decide +kernel
def f_J7_fill_53178_L5 (a0 : Nat) (x1 : Int32) (u1 : Int32) (m2 : jM) : Option ((Int32 × jM) ⊕ (jM)) :=
  (if (nI (jlen a0)) ≤ u1 then some (.inr m2) else jin u1 (jlen a0) (jbd (jsi m2 a0 u1.toNatClampNeg x1) (fun m5 => some (.inl ((u1 + (1 : Int32), m5))))))
def f_J7_fill_53178 (a0 : Nat) (x1 : Int32) (μ : jM) : Option (jM) :=
  jcl (jloop (fun (s : Int32 × jM) => f_J7_fill_53178_L5 a0 x1 s.1 s.2) jfu (((0 : Int32), μ))) (fun w7 => some w7)
set_option maxHeartbeats 4000000 in
set_option maxRecDepth 100000 in
theorem c_J7_fill_53178 {l : Launch} {G : jG} {L : jL} (hL : jOKL L) {a0 : Nat} {x1 : Int32} (ka0 : jK L a0 13) {μ μ' : jM} (h : f_J7_fill_53178 a0 x1 μ = some μ') : jCt l G L 3 yJ7_fill_53178 cJ7_fill_53178 4 none [.ref (L.2.2 a0), .int x1] μ none μ' := by
  refine jCt_of (by decide) (Nat.le_of_ble_eq_true rfl) (fun X hC hX hR => ?_)
  subst hX
  have hC : jC X G cJ7_fill_53178 4 RJ7 none := hC
  unfold f_J7_fill_53178 at h
  show jJ X G 4 L 0 0 (jQM X G L none μ' 0 0) 0 [(0, .ref (L.2.2 a0)), (1, .int x1)] [] μ
  refine j_iconst (pc := 0) hC (0 : Int32) dJ7_fill_53178_0 (by decide) ?_
  refine j_istore_n (pc := 1) hC 2 [(2, .int (0 : Int32)), (0, .ref (L.2.2 a0)), (1, .int x1)] dJ7_fill_53178_1 rfl (by decide) rfl rfl ?_
  refine j_aload_n (pc := 2) hC 0 1 dJ7_fill_53178_2 rfl rfl ?_
  refine j_alen (pc := 3) hC 0 dJ7_fill_53178_3 ka0 rfl (by decide) (jlen_ok hL _) ?_
  refine j_istore_n (pc := 4) hC 3 [(3, .int (nI (jlen a0))), (2, .int (0 : Int32)), (0, .ref (L.2.2 a0)), (1, .int x1)] dJ7_fill_53178_4 rfl (by decide) rfl rfl ?_
  obtain ⟨w7, hw8, h⟩ := jcl_some h
  refine j_lv [2, 3, 1, 0] rfl ?_
  refine j_loop (step := (fun (s : Int32 × jM) => f_J7_fill_53178_L5 a0 x1 s.1 s.2)) (P := (fun (s : Int32 × jM) => jJ X G 4 L 0 0 (jQM X G L none μ' 0 0) 5 [(0, .ref (L.2.2 a0)), (1, .int x1), (2, .int s.1), (3, .int (nI (jlen a0)))] [] s.2)) (R := (fun (e : jM) => jJ X G 4 L 0 0 (jQM X G L none μ' 0 0) 20 [] [] e)) ?_ jfu (((0 : Int32), μ)) w7 hw8 ?_
  · intro s9 o h hk
    obtain ⟨u1, m2⟩ := s9
    change f_J7_fill_53178_L5 a0 x1 u1 m2 = some o at h
    unfold f_J7_fill_53178_L5 at h
    show jJ X G 4 L 0 0 (jQM X G L none μ' 0 0) 5 [(0, .ref (L.2.2 a0)), (1, .int x1), (2, .int u1), (3, .int (nI (jlen a0)))] [] m2
    refine j_iload_n (pc := 5) hC 2 2 dJ7_fill_53178_5 rfl rfl ?_
    refine j_iload_n (pc := 6) hC 3 3 dJ7_fill_53178_6 rfl rfl ?_
    refine j_icmp_ge (pc := 7) hC 20 dJ7_fill_53178_7 (by decide) (fun c3 => ?_) (fun c3 => ?_)
    · rw [if_pos c3] at h
      obtain rfl := Option.some.inj h
      have hk : jJ X G 4 L 0 0 (jQM X G L none μ' 0 0) 20 [] [] m2 := hk
      exact j_lv [] rfl hk
    · rw [if_neg c3] at h
      refine j_aload_n (pc := 10) hC 0 0 dJ7_fill_53178_10 rfl rfl ?_
      refine j_iload_n (pc := 11) hC 2 2 dJ7_fill_53178_11 rfl rfl ?_
      refine j_iload_n (pc := 12) hC 1 1 dJ7_fill_53178_12 rfl rfl ?_
      obtain ⟨i4, h⟩ := jin_some h
      obtain ⟨m5, e6, h⟩ := jbd_ex h
      refine j_iast (pc := 13) hC dJ7_fill_53178_13 ka0 (jlen_ok hL _) i4 e6 ?_
      refine j_iinc (pc := 14) hC 2 (u1 + (1 : Int32)) [(2, .int (u1 + (1 : Int32))), (0, .ref (L.2.2 a0)), (1, .int x1), (3, .int (nI (jlen a0)))] dJ7_fill_53178_14 rfl rfl (by decide) rfl ?_
      refine j_goto (pc := 17) hC 5 dJ7_fill_53178_17 (by decide) ?_
      obtain rfl := Option.some.inj h
      have hk : jJ X G 4 L 0 0 (jQM X G L none μ' 0 0) 5 [(0, .ref (L.2.2 a0)), (1, .int x1), (2, .int (u1 + (1 : Int32))), (3, .int (nI (jlen a0)))] [] m5 := hk
      exact j_lv [1, 2, 0, 3] rfl hk
  · obtain ⟨m10, rfl⟩ : ∃ y, y = w7 := ⟨_, rfl⟩
    try dsimp only at h
    show jJ X G 4 L 0 0 (jQM X G L none μ' 0 0) 20 [] [] m10
    obtain rfl := Option.some.inj h
    exact j_vret (pc := 20) hC dJ7_fill_53178_20 rfl
theorem dX9_become_0 : decode cX9_become 0 = .ok (.aload_n 1, 1) := by decide +kernel
theorem dX9_become_1 : decode cX9_become 1 = .ok (.getfield 9, 3) := by decide +kernel
theorem dX9_become_4 : decode cX9_become 4 = .ok (.iconst 0, 1) := by decide +kernel
theorem dX9_become_5 : decode cX9_become 5 = .ok (.aload_n 0, 1) := by decide +kernel
theorem dX9_become_6 : decode cX9_become 6 = .ok (.getfield 9, 3) := by decide +kernel
theorem dX9_become_9 : decode cX9_become 9 = .ok (.iconst 0, 1) := by decide +kernel
theorem dX9_become_10 : decode cX9_become 10 = .ok (.bipush 6, 2) := by decide +kernel
theorem dX9_become_12 : decode cX9_become 12 = .ok (.invokestatic 33, 3) := by decide +kernel
theorem dX9_become_15 : decode cX9_become 15 = .ok (.aload_n 1, 1) := by decide +kernel
theorem dX9_become_16 : decode cX9_become 16 = .ok (.getfield 15, 3) := by decide +kernel
theorem dX9_become_19 : decode cX9_become 19 = .ok (.iconst 0, 1) := by decide +kernel
theorem dX9_become_20 : decode cX9_become 20 = .ok (.aload_n 0, 1) := by decide +kernel
theorem dX9_become_21 : decode cX9_become 21 = .ok (.getfield 15, 3) := by decide +kernel
theorem dX9_become_24 : decode cX9_become 24 = .ok (.iconst 0, 1) := by decide +kernel
theorem dX9_become_25 : decode cX9_become 25 = .ok (.iconst 5, 1) := by decide +kernel
theorem dX9_become_26 : decode cX9_become 26 = .ok (.invokestatic 33, 3) := by decide +kernel
theorem dX9_become_29 : decode cX9_become 29 = .ok (.aload_n 1, 1) := by decide +kernel
theorem dX9_become_30 : decode cX9_become 30 = .ok (.getfield 18, 3) := by decide +kernel
theorem dX9_become_33 : decode cX9_become 33 = .ok (.iconst 0, 1) := by decide +kernel
theorem dX9_become_34 : decode cX9_become 34 = .ok (.aload_n 0, 1) := by decide +kernel
theorem dX9_become_35 : decode cX9_become 35 = .ok (.getfield 18, 3) := by decide +kernel
theorem dX9_become_38 : decode cX9_become 38 = .ok (.iconst 0, 1) := by decide +kernel
theorem dX9_become_39 : decode cX9_become 39 = .ok (.bipush 8, 2) := by decide +kernel
theorem dX9_become_41 : decode cX9_become 41 = .ok (.invokestatic 33, 3) := by decide +kernel
theorem dX9_become_44 : decode cX9_become 44 = .ok (.aload_n 1, 1) := by decide +kernel
theorem dX9_become_45 : decode cX9_become 45 = .ok (.getfield 21, 3) := by decide +kernel
theorem dX9_become_48 : decode cX9_become 48 = .ok (.iconst 0, 1) := by decide +kernel
theorem dX9_become_49 : decode cX9_become 49 = .ok (.aload_n 0, 1) := by decide +kernel
theorem dX9_become_50 : decode cX9_become 50 = .ok (.getfield 21, 3) := by decide +kernel
theorem dX9_become_53 : decode cX9_become 53 = .ok (.iconst 0, 1) := by decide +kernel
theorem dX9_become_54 : decode cX9_become 54 = .ok (.bipush 8, 2) := by decide +kernel
theorem dX9_become_56 : decode cX9_become 56 = .ok (.invokestatic 33, 3) := by decide +kernel
theorem dX9_become_59 : decode cX9_become 59 = .ok (.aload_n 1, 1) := by decide +kernel
theorem dX9_become_60 : decode cX9_become 60 = .ok (.getfield 24, 3) := by decide +kernel
theorem dX9_become_63 : decode cX9_become 63 = .ok (.iconst 0, 1) := by decide +kernel
theorem dX9_become_64 : decode cX9_become 64 = .ok (.aload_n 0, 1) := by decide +kernel
theorem dX9_become_65 : decode cX9_become 65 = .ok (.getfield 24, 3) := by decide +kernel
theorem dX9_become_68 : decode cX9_become 68 = .ok (.iconst 0, 1) := by decide +kernel
theorem dX9_become_69 : decode cX9_become 69 = .ok (.bipush 32, 2) := by decide +kernel
theorem dX9_become_71 : decode cX9_become 71 = .ok (.invokestatic 33, 3) := by decide +kernel
theorem dX9_become_74 : decode cX9_become 74 = .ok (.aload_n 0, 1) := by decide +kernel
theorem dX9_become_75 : decode cX9_become 75 = .ok (.aload_n 1, 1) := by decide +kernel
theorem dX9_become_76 : decode cX9_become 76 = .ok (.getfield 39, 3) := by decide +kernel
theorem dX9_become_79 : decode cX9_become 79 = .ok (.putfield 39, 3) := by decide +kernel
theorem dX9_become_82 : decode cX9_become 82 = .ok (.aload_n 0, 1) := by decide +kernel
theorem dX9_become_83 : decode cX9_become 83 = .ok (.aload_n 1, 1) := by decide +kernel
theorem dX9_become_84 : decode cX9_become 84 = .ok (.getfield 43, 3) := by decide +kernel
theorem dX9_become_87 : decode cX9_become 87 = .ok (.putfield 43, 3) := by decide +kernel
theorem dX9_become_90 : decode cX9_become 90 = .ok (.return_, 1) := by decide +kernel
def f_X9_become (a0 : Nat) (a1 : Nat) (μ : jM) : Option (jM) :=
  jcpq (0 : Int32) (0 : Int32) (6 : Int32) 6 6 (jbd (jcp μ (a1 + 1) (0 : Int32).toNatClampNeg (a0 + 1) (0 : Int32).toNatClampNeg (6 : Int32).toNatClampNeg) (fun m2 => jcpq (0 : Int32) (0 : Int32) (5 : Int32) 5 5 (jbd (jcp m2 (a1 + 2) (0 : Int32).toNatClampNeg (a0 + 2) (0 : Int32).toNatClampNeg (5 : Int32).toNatClampNeg) (fun m5 => jcpq (0 : Int32) (0 : Int32) (8 : Int32) 8 8 (jbd (jcp m5 (a1 + 3) (0 : Int32).toNatClampNeg (a0 + 3) (0 : Int32).toNatClampNeg (8 : Int32).toNatClampNeg) (fun m8 => jcpq (0 : Int32) (0 : Int32) (8 : Int32) 8 8 (jbd (jcp m8 (a1 + 4) (0 : Int32).toNatClampNeg (a0 + 4) (0 : Int32).toNatClampNeg (8 : Int32).toNatClampNeg) (fun m11 => jcpq (0 : Int32) (0 : Int32) (32 : Int32) 32 32 (jbd (jcp m11 (a1 + 5) (0 : Int32).toNatClampNeg (a0 + 5) (0 : Int32).toNatClampNeg (32 : Int32).toNatClampNeg) (fun m14 => jbd (jsi m14 a0 5 (m14.1 a1 5)) (fun m16 => jbd (jsi m16 a0 6 (m16.1 a1 6)) (fun m18 => some m18))))))))))))
set_option maxHeartbeats 4000000 in
set_option maxRecDepth 100000 in
theorem c_X9_become {l : Launch} {G : jG} {L : jL} (hL : jOKL L) {a0 : Nat} {a1 : Nat} (ka0 : jK L a0 9) (ka1 : jK L a1 9) {μ μ' : jM} (h : f_X9_become a0 a1 μ = some μ') : jCt l G L 3 yX9_become cX9_become 2 none [.ref (L.2.2 a0), .ref (L.2.2 a1)] μ none μ' := by
  refine jCt_of (by decide) (Nat.le_of_ble_eq_true rfl) (fun X hC hX hR => ?_)
  subst hX
  have hC : jC X G cX9_become 2 RX9 none := hC
  unfold f_X9_become at h
  show jJ X G 2 L 0 0 (jQM X G L none μ' 0 0) 0 [(0, .ref (L.2.2 a0)), (1, .ref (L.2.2 a1))] [] μ
  refine j_aload_n (pc := 0) hC 1 1 dX9_become_0 rfl rfl ?_
  refine jgr_9 (pc := 1) hC 0 (by decide) rfl kf_X9_9 dX9_become_1 ka1 (ly_9_0 hL ka1).1 ?_
  refine j_iconst (pc := 4) hC (0 : Int32) dX9_become_4 (by decide) ?_
  refine j_aload_n (pc := 5) hC 0 0 dX9_become_5 rfl rfl ?_
  refine jgr_9 (pc := 6) hC 0 (by decide) rfl kf_X9_9 dX9_become_6 ka0 (ly_9_0 hL ka0).1 ?_
  refine j_iconst (pc := 9) hC (0 : Int32) dX9_become_9 (by decide) ?_
  refine j_bipush (pc := 10) hC (6 : Int32) dX9_become_10 (by decide) ?_
  obtain ⟨h1, h⟩ := jcpq_some h
  obtain ⟨m2, e3, h⟩ := jbd_ex h
  refine j_copyi (pc := 12) hC ka_X9_33 kac1 kac2 kac3 dX9_become_12 (ly_9_0 hL ka1).2.1 (ly_9_0 hL ka1).2.2 (ly_9_0 hL ka0).2.1 (ly_9_0 hL ka0).2.2 h1.1 h1.2.1 h1.2.2.1 h1.2.2.2.1 h1.2.2.2.2 (j_nat1 hR (by decide)) (j_nat2 hR (by decide) (Nat.le_of_ble_eq_true rfl)) e3 ?_
  refine j_aload_n (pc := 15) hC 1 1 dX9_become_15 rfl rfl ?_
  refine jgr_9 (pc := 16) hC 1 (by decide) rfl kf_X9_15 dX9_become_16 ka1 (ly_9_1 hL ka1).1 ?_
  refine j_iconst (pc := 19) hC (0 : Int32) dX9_become_19 (by decide) ?_
  refine j_aload_n (pc := 20) hC 0 0 dX9_become_20 rfl rfl ?_
  refine jgr_9 (pc := 21) hC 1 (by decide) rfl kf_X9_15 dX9_become_21 ka0 (ly_9_1 hL ka0).1 ?_
  refine j_iconst (pc := 24) hC (0 : Int32) dX9_become_24 (by decide) ?_
  refine j_iconst (pc := 25) hC (5 : Int32) dX9_become_25 (by decide) ?_
  obtain ⟨h4, h⟩ := jcpq_some h
  obtain ⟨m5, e6, h⟩ := jbd_ex h
  refine j_copyi (pc := 26) hC ka_X9_33 kac1 kac2 kac3 dX9_become_26 (ly_9_1 hL ka1).2.1 (ly_9_1 hL ka1).2.2 (ly_9_1 hL ka0).2.1 (ly_9_1 hL ka0).2.2 h4.1 h4.2.1 h4.2.2.1 h4.2.2.2.1 h4.2.2.2.2 (j_nat1 hR (by decide)) (j_nat2 hR (by decide) (Nat.le_of_ble_eq_true rfl)) e6 ?_
  refine j_aload_n (pc := 29) hC 1 1 dX9_become_29 rfl rfl ?_
  refine jgr_9 (pc := 30) hC 2 (by decide) rfl kf_X9_18 dX9_become_30 ka1 (ly_9_2 hL ka1).1 ?_
  refine j_iconst (pc := 33) hC (0 : Int32) dX9_become_33 (by decide) ?_
  refine j_aload_n (pc := 34) hC 0 0 dX9_become_34 rfl rfl ?_
  refine jgr_9 (pc := 35) hC 2 (by decide) rfl kf_X9_18 dX9_become_35 ka0 (ly_9_2 hL ka0).1 ?_
  refine j_iconst (pc := 38) hC (0 : Int32) dX9_become_38 (by decide) ?_
  refine j_bipush (pc := 39) hC (8 : Int32) dX9_become_39 (by decide) ?_
  obtain ⟨h7, h⟩ := jcpq_some h
  obtain ⟨m8, e9, h⟩ := jbd_ex h
  refine j_copyi (pc := 41) hC ka_X9_33 kac1 kac2 kac3 dX9_become_41 (ly_9_2 hL ka1).2.1 (ly_9_2 hL ka1).2.2 (ly_9_2 hL ka0).2.1 (ly_9_2 hL ka0).2.2 h7.1 h7.2.1 h7.2.2.1 h7.2.2.2.1 h7.2.2.2.2 (j_nat1 hR (by decide)) (j_nat2 hR (by decide) (Nat.le_of_ble_eq_true rfl)) e9 ?_
  refine j_aload_n (pc := 44) hC 1 1 dX9_become_44 rfl rfl ?_
  refine jgr_9 (pc := 45) hC 3 (by decide) rfl kf_X9_21 dX9_become_45 ka1 (ly_9_3 hL ka1).1 ?_
  refine j_iconst (pc := 48) hC (0 : Int32) dX9_become_48 (by decide) ?_
  refine j_aload_n (pc := 49) hC 0 0 dX9_become_49 rfl rfl ?_
  refine jgr_9 (pc := 50) hC 3 (by decide) rfl kf_X9_21 dX9_become_50 ka0 (ly_9_3 hL ka0).1 ?_
  refine j_iconst (pc := 53) hC (0 : Int32) dX9_become_53 (by decide) ?_
  refine j_bipush (pc := 54) hC (8 : Int32) dX9_become_54 (by decide) ?_
  obtain ⟨h10, h⟩ := jcpq_some h
  obtain ⟨m11, e12, h⟩ := jbd_ex h
  refine j_copyi (pc := 56) hC ka_X9_33 kac1 kac2 kac3 dX9_become_56 (ly_9_3 hL ka1).2.1 (ly_9_3 hL ka1).2.2 (ly_9_3 hL ka0).2.1 (ly_9_3 hL ka0).2.2 h10.1 h10.2.1 h10.2.2.1 h10.2.2.2.1 h10.2.2.2.2 (j_nat1 hR (by decide)) (j_nat2 hR (by decide) (Nat.le_of_ble_eq_true rfl)) e12 ?_
  refine j_aload_n (pc := 59) hC 1 1 dX9_become_59 rfl rfl ?_
  refine jgr_9 (pc := 60) hC 4 (by decide) rfl kf_X9_24 dX9_become_60 ka1 (ly_9_4 hL ka1).1 ?_
  refine j_iconst (pc := 63) hC (0 : Int32) dX9_become_63 (by decide) ?_
  refine j_aload_n (pc := 64) hC 0 0 dX9_become_64 rfl rfl ?_
  refine jgr_9 (pc := 65) hC 4 (by decide) rfl kf_X9_24 dX9_become_65 ka0 (ly_9_4 hL ka0).1 ?_
  refine j_iconst (pc := 68) hC (0 : Int32) dX9_become_68 (by decide) ?_
  refine j_bipush (pc := 69) hC (32 : Int32) dX9_become_69 (by decide) ?_
  obtain ⟨h13, h⟩ := jcpq_some h
  obtain ⟨m14, e15, h⟩ := jbd_ex h
  refine j_copyi (pc := 71) hC ka_X9_33 kac1 kac2 kac3 dX9_become_71 (ly_9_4 hL ka1).2.1 (ly_9_4 hL ka1).2.2 (ly_9_4 hL ka0).2.1 (ly_9_4 hL ka0).2.2 h13.1 h13.2.1 h13.2.2.1 h13.2.2.2.1 h13.2.2.2.2 (j_nat1 hR (by decide)) (j_nat2 hR (by decide) (Nat.le_of_ble_eq_true rfl)) e15 ?_
  refine j_aload_n (pc := 74) hC 0 0 dX9_become_74 rfl rfl ?_
  refine j_aload_n (pc := 75) hC 1 1 dX9_become_75 rfl rfl ?_
  refine jgi_9 (pc := 76) hC 5 (by decide) rfl kf_X9_39 dX9_become_76 ka1 ?_
  obtain ⟨m16, e17, h⟩ := jbd_ex h
  refine jpi_9 (pc := 79) hC 5 (by decide) rfl kf_X9_39 dX9_become_79 rfl (by decide) ka0 e17 ?_
  refine j_aload_n (pc := 82) hC 0 0 dX9_become_82 rfl rfl ?_
  refine j_aload_n (pc := 83) hC 1 1 dX9_become_83 rfl rfl ?_
  refine jgi_9 (pc := 84) hC 6 (by decide) rfl kf_X9_43 dX9_become_84 ka1 ?_
  obtain ⟨m18, e19, h⟩ := jbd_ex h
  refine jpi_9 (pc := 87) hC 6 (by decide) rfl kf_X9_43 dX9_become_87 rfl (by decide) ka0 e19 ?_
  obtain rfl := Option.some.inj h
  exact j_vret (pc := 90) hC dX9_become_90 rfl
theorem dX1_begin_0 : decode cX1_begin 0 = .ok (.aload_n 0, 1) := by decide +kernel
theorem dX1_begin_1 : decode cX1_begin 1 = .ok (.getfield 12, 3) := by decide +kernel
theorem dX1_begin_4 : decode cX1_begin 4 = .ok (.aload_n 1, 1) := by decide +kernel
theorem dX1_begin_5 : decode cX1_begin 5 = .ok (.invokevirtual 22, 3) := by decide +kernel
theorem dX1_begin_8 : decode cX1_begin 8 = .ok (.aload_n 0, 1) := by decide +kernel
theorem dX1_begin_9 : decode cX1_begin 9 = .ok (.iconst 0, 1) := by decide +kernel
theorem dX1_begin_10 : decode cX1_begin 10 = .ok (.putfield 26, 3) := by decide +kernel
theorem dX1_begin_13 : decode cX1_begin 13 = .ok (.aload_n 0, 1) := by decide +kernel
theorem dX1_begin_14 : decode cX1_begin 14 = .ok (.iconst 0, 1) := by decide +kernel
theorem dX1_begin_15 : decode cX1_begin 15 = .ok (.putfield 30, 3) := by decide +kernel
theorem dX1_begin_18 : decode cX1_begin 18 = .ok (.return_, 1) := by decide +kernel
def f_X1_begin (a0 : Nat) (a1 : Nat) (μ : jM) : Option (jM) :=
  jcl (f_X9_become (a0 + 1) a1 μ) (fun m1 => jbd (jsi m1 a0 2 (0 : Int32)) (fun m3 => jbd (jsi m3 a0 3 (0 : Int32)) (fun m5 => some m5)))
set_option maxHeartbeats 4000000 in
set_option maxRecDepth 100000 in
theorem c_X1_begin {l : Launch} {G : jG} {L : jL} (hL : jOKL L) {a0 : Nat} {a1 : Nat} (ka0 : jK L a0 1) (ka1 : jK L a1 9) {μ μ' : jM} (h : f_X1_begin a0 a1 μ = some μ') : jCt l G L 4 yX1_begin cX1_begin 2 none [.ref (L.2.2 a0), .ref (L.2.2 a1)] μ none μ' := by
  refine jCt_of (by decide) (Nat.le_of_ble_eq_true rfl) (fun X hC hX hR => ?_)
  subst hX
  have hC : jC X G cX1_begin 2 RX1 none := hC
  unfold f_X1_begin at h
  show jJ X G 2 L 0 0 (jQM X G L none μ' 0 0) 0 [(0, .ref (L.2.2 a0)), (1, .ref (L.2.2 a1))] [] μ
  refine j_aload_n (pc := 0) hC 0 0 dX1_begin_0 rfl rfl ?_
  refine jgr_1 (pc := 1) hC 0 (by decide) rfl kf_X1_12 dX1_begin_1 ka0 (ly_1_0 hL ka0).1 ?_
  refine j_aload_n (pc := 4) hC 1 1 dX1_begin_4 rfl rfl ?_
  obtain ⟨m1, e2, h⟩ := jcl_some h
  refine j_vv (pc := 5) hC hR [.ref (L.2.2 a1)] iy_X9_become (q := (RX9, TX9, 7)) (ci := 9) rfl rfl (by decide) km_X1_22 dX1_begin_5 rfl (by decide) (ly_1_0 hL ka0).2.1 (c_X9_become hL (ly_1_0 hL ka0).2.1 ka1 e2) (by decide) (Nat.le_of_ble_eq_true rfl) rfl ?_
  refine j_aload_n (pc := 8) hC 0 0 dX1_begin_8 rfl rfl ?_
  refine j_iconst (pc := 9) hC (0 : Int32) dX1_begin_9 (by decide) ?_
  obtain ⟨m3, e4, h⟩ := jbd_ex h
  refine jpi_1 (pc := 10) hC 2 (by decide) rfl kf_X1_26 dX1_begin_10 rfl (by decide) ka0 e4 ?_
  refine j_aload_n (pc := 13) hC 0 0 dX1_begin_13 rfl rfl ?_
  refine j_iconst (pc := 14) hC (0 : Int32) dX1_begin_14 (by decide) ?_
  obtain ⟨m5, e6, h⟩ := jbd_ex h
  refine jpi_1 (pc := 15) hC 3 (by decide) rfl kf_X1_30 dX1_begin_15 rfl (by decide) ka0 e6 ?_
  obtain rfl := Option.some.inj h
  exact j_vret (pc := 18) hC dX1_begin_18 rfl
theorem dX1_become_0 : decode cX1_become 0 = .ok (.aload_n 0, 1) := by decide +kernel
theorem dX1_become_1 : decode cX1_become 1 = .ok (.getfield 12, 3) := by decide +kernel
theorem dX1_become_4 : decode cX1_become 4 = .ok (.aload_n 1, 1) := by decide +kernel
theorem dX1_become_5 : decode cX1_become 5 = .ok (.getfield 12, 3) := by decide +kernel
theorem dX1_become_8 : decode cX1_become 8 = .ok (.invokevirtual 22, 3) := by decide +kernel
theorem dX1_become_11 : decode cX1_become 11 = .ok (.aload_n 1, 1) := by decide +kernel
theorem dX1_become_12 : decode cX1_become 12 = .ok (.getfield 18, 3) := by decide +kernel
theorem dX1_become_15 : decode cX1_become 15 = .ok (.iconst 0, 1) := by decide +kernel
theorem dX1_become_16 : decode cX1_become 16 = .ok (.aload_n 0, 1) := by decide +kernel
theorem dX1_become_17 : decode cX1_become 17 = .ok (.getfield 18, 3) := by decide +kernel
theorem dX1_become_20 : decode cX1_become 20 = .ok (.iconst 0, 1) := by decide +kernel
theorem dX1_become_21 : decode cX1_become 21 = .ok (.bipush 22, 2) := by decide +kernel
theorem dX1_become_23 : decode cX1_become 23 = .ok (.invokestatic 33, 3) := by decide +kernel
theorem dX1_become_26 : decode cX1_become 26 = .ok (.aload_n 0, 1) := by decide +kernel
theorem dX1_become_27 : decode cX1_become 27 = .ok (.aload_n 1, 1) := by decide +kernel
theorem dX1_become_28 : decode cX1_become 28 = .ok (.getfield 26, 3) := by decide +kernel
theorem dX1_become_31 : decode cX1_become 31 = .ok (.putfield 26, 3) := by decide +kernel
theorem dX1_become_34 : decode cX1_become 34 = .ok (.aload_n 0, 1) := by decide +kernel
theorem dX1_become_35 : decode cX1_become 35 = .ok (.aload_n 1, 1) := by decide +kernel
theorem dX1_become_36 : decode cX1_become 36 = .ok (.getfield 30, 3) := by decide +kernel
theorem dX1_become_39 : decode cX1_become 39 = .ok (.putfield 30, 3) := by decide +kernel
theorem dX1_become_42 : decode cX1_become 42 = .ok (.return_, 1) := by decide +kernel
def f_X1_become (a0 : Nat) (a1 : Nat) (μ : jM) : Option (jM) :=
  jcl (f_X9_become (a0 + 1) (a1 + 1) μ) (fun m1 => jcpq (0 : Int32) (0 : Int32) (22 : Int32) 22 22 (jbd (jcp m1 (a1 + 7) (0 : Int32).toNatClampNeg (a0 + 7) (0 : Int32).toNatClampNeg (22 : Int32).toNatClampNeg) (fun m4 => jbd (jsi m4 a0 2 (m4.1 a1 2)) (fun m6 => jbd (jsi m6 a0 3 (m6.1 a1 3)) (fun m8 => some m8)))))
set_option maxHeartbeats 4000000 in
set_option maxRecDepth 100000 in
theorem c_X1_become {l : Launch} {G : jG} {L : jL} (hL : jOKL L) {a0 : Nat} {a1 : Nat} (ka0 : jK L a0 1) (ka1 : jK L a1 1) {μ μ' : jM} (h : f_X1_become a0 a1 μ = some μ') : jCt l G L 4 yX1_become cX1_become 2 none [.ref (L.2.2 a0), .ref (L.2.2 a1)] μ none μ' := by
  refine jCt_of (by decide) (Nat.le_of_ble_eq_true rfl) (fun X hC hX hR => ?_)
  subst hX
  have hC : jC X G cX1_become 2 RX1 none := hC
  unfold f_X1_become at h
  show jJ X G 2 L 0 0 (jQM X G L none μ' 0 0) 0 [(0, .ref (L.2.2 a0)), (1, .ref (L.2.2 a1))] [] μ
  refine j_aload_n (pc := 0) hC 0 0 dX1_become_0 rfl rfl ?_
  refine jgr_1 (pc := 1) hC 0 (by decide) rfl kf_X1_12 dX1_become_1 ka0 (ly_1_0 hL ka0).1 ?_
  refine j_aload_n (pc := 4) hC 1 1 dX1_become_4 rfl rfl ?_
  refine jgr_1 (pc := 5) hC 0 (by decide) rfl kf_X1_12 dX1_become_5 ka1 (ly_1_0 hL ka1).1 ?_
  obtain ⟨m1, e2, h⟩ := jcl_some h
  refine j_vv (pc := 8) hC hR [.ref (L.2.2 (a1 + 1))] iy_X9_become (q := (RX9, TX9, 7)) (ci := 9) rfl rfl (by decide) km_X1_22 dX1_become_8 rfl (by decide) (ly_1_0 hL ka0).2.1 (c_X9_become hL (ly_1_0 hL ka0).2.1 (ly_1_0 hL ka1).2.1 e2) (by decide) (Nat.le_of_ble_eq_true rfl) rfl ?_
  refine j_aload_n (pc := 11) hC 1 1 dX1_become_11 rfl rfl ?_
  refine jgr_1 (pc := 12) hC 1 (by decide) rfl kf_X1_18 dX1_become_12 ka1 (ly_1_1 hL ka1).1 ?_
  refine j_iconst (pc := 15) hC (0 : Int32) dX1_become_15 (by decide) ?_
  refine j_aload_n (pc := 16) hC 0 0 dX1_become_16 rfl rfl ?_
  refine jgr_1 (pc := 17) hC 1 (by decide) rfl kf_X1_18 dX1_become_17 ka0 (ly_1_1 hL ka0).1 ?_
  refine j_iconst (pc := 20) hC (0 : Int32) dX1_become_20 (by decide) ?_
  refine j_bipush (pc := 21) hC (22 : Int32) dX1_become_21 (by decide) ?_
  obtain ⟨h3, h⟩ := jcpq_some h
  obtain ⟨m4, e5, h⟩ := jbd_ex h
  refine j_copyi (pc := 23) hC ka_X1_33 kac1 kac2 kac3 dX1_become_23 (ly_1_1 hL ka1).2.1 (ly_1_1 hL ka1).2.2 (ly_1_1 hL ka0).2.1 (ly_1_1 hL ka0).2.2 h3.1 h3.2.1 h3.2.2.1 h3.2.2.2.1 h3.2.2.2.2 (j_nat1 hR (by decide)) (j_nat2 hR (by decide) (Nat.le_of_ble_eq_true rfl)) e5 ?_
  refine j_aload_n (pc := 26) hC 0 0 dX1_become_26 rfl rfl ?_
  refine j_aload_n (pc := 27) hC 1 1 dX1_become_27 rfl rfl ?_
  refine jgi_1 (pc := 28) hC 2 (by decide) rfl kf_X1_26 dX1_become_28 ka1 ?_
  obtain ⟨m6, e7, h⟩ := jbd_ex h
  refine jpi_1 (pc := 31) hC 2 (by decide) rfl kf_X1_26 dX1_become_31 rfl (by decide) ka0 e7 ?_
  refine j_aload_n (pc := 34) hC 0 0 dX1_become_34 rfl rfl ?_
  refine j_aload_n (pc := 35) hC 1 1 dX1_become_35 rfl rfl ?_
  refine jgi_1 (pc := 36) hC 3 (by decide) rfl kf_X1_30 dX1_become_36 ka1 ?_
  obtain ⟨m8, e9, h⟩ := jbd_ex h
  refine jpi_1 (pc := 39) hC 3 (by decide) rfl kf_X1_30 dX1_become_39 rfl (by decide) ka0 e9 ?_
  obtain rfl := Option.some.inj h
  exact j_vret (pc := 42) hC dX1_become_42 rfl
theorem dX1_has_0 : decode cX1_has 0 = .ok (.aload_n 0, 1) := by decide +kernel
theorem dX1_has_1 : decode cX1_has 1 = .ok (.getfield 30, 3) := by decide +kernel
theorem dX1_has_4 : decode cX1_has 4 = .ok (.iload_n 1, 1) := by decide +kernel
theorem dX1_has_5 : decode cX1_has 5 = .ok (.iushr, 1) := by decide +kernel
theorem dX1_has_6 : decode cX1_has 6 = .ok (.iconst 1, 1) := by decide +kernel
theorem dX1_has_7 : decode cX1_has 7 = .ok (.iand, 1) := by decide +kernel
theorem dX1_has_8 : decode cX1_has 8 = .ok (.iconst 1, 1) := by decide +kernel
theorem dX1_has_9 : decode cX1_has 9 = .ok (.if_icmp .ne 7, 3) := by decide +kernel
theorem dX1_has_12 : decode cX1_has 12 = .ok (.iconst 1, 1) := by decide +kernel
theorem dX1_has_13 : decode cX1_has 13 = .ok (.goto 4, 3) := by decide +kernel
theorem dX1_has_16 : decode cX1_has 16 = .ok (.iconst 0, 1) := by decide +kernel
theorem dX1_has_17 : decode cX1_has 17 = .ok (.ireturn, 1) := by decide +kernel
def f_X1_has (a0 : Nat) (x1 : Int32) (μ : jM) : Int32 :=
  ((if ((jushr (μ.1 a0 3) x1) &&& (1 : Int32)) = (1 : Int32) then (1 : Int32) else (0 : Int32))) &&& 1
set_option maxHeartbeats 4000000 in
set_option maxRecDepth 100000 in
theorem c_X1_has {l : Launch} {G : jG} {L : jL} (hL : jOKL L) {a0 : Nat} {x1 : Int32} (ka0 : jK L a0 1) {μ : jM} {r : Int32} (h : f_X1_has a0 x1 μ = r) : jCt l G L 3 yX1_has cX1_has 2 (some .boolean) [.ref (L.2.2 a0), .int x1] μ (some (.int r)) μ := by
  refine jCt_of (by decide) (Nat.le_of_ble_eq_true rfl) (fun X hC hX hR => ?_)
  subst hX
  have hC : jC X G cX1_has 2 RX1 (some .boolean) := hC
  unfold f_X1_has at h
  show jJ X G 2 L 0 0 (jQM X G L (some (.int r)) μ 0 0) 0 [(0, .ref (L.2.2 a0)), (1, .int x1)] [] μ
  refine j_aload_n (pc := 0) hC 0 0 dX1_has_0 rfl rfl ?_
  refine jgi_1 (pc := 1) hC 3 (by decide) rfl kf_X1_30 dX1_has_1 ka0 ?_
  refine j_iload_n (pc := 4) hC 1 1 dX1_has_4 rfl rfl ?_
  refine j_iushr (pc := 5) hC dX1_has_5 ?_
  refine j_iconst (pc := 6) hC (1 : Int32) dX1_has_6 (by decide) ?_
  refine j_iand (pc := 7) hC dX1_has_7 ?_
  refine j_iconst (pc := 8) hC (1 : Int32) dX1_has_8 (by decide) ?_
  refine jmg (B := jJ X G 2 L 0 0 (jQM X G L (some (.int r)) μ 0 0) 17 [(0, .ref (L.2.2 a0)), (1, .int x1)] [.int ((if ((jushr (μ.1 a0 3) x1) &&& (1 : Int32)) = (1 : Int32) then (1 : Int32) else (0 : Int32)))] μ) (fun hj => ?_) ?_
  · refine j_icmp_ne (pc := 9) hC 16 dX1_has_9 (by decide) (fun c1 => ?_) (fun c1 => ?_)
    · rw [if_neg c1] at hj
      refine j_iconst (pc := 16) hC (0 : Int32) dX1_has_16 (by decide) ?_
      exact hj
    · rw [if_pos c1] at hj
      refine j_iconst (pc := 12) hC (1 : Int32) dX1_has_12 (by decide) ?_
      refine j_goto (pc := 13) hC 17 dX1_has_13 (by decide) ?_
      exact hj
  subst h
  exact j_bret (pc := 17) hC dX1_has_17 rfl (j_nz _)
theorem dX1_put_0 : decode cX1_put 0 = .ok (.aload_n 0, 1) := by decide +kernel
theorem dX1_put_1 : decode cX1_put 1 = .ok (.getfield 30, 3) := by decide +kernel
theorem dX1_put_4 : decode cX1_put 4 = .ok (.iload_n 1, 1) := by decide +kernel
theorem dX1_put_5 : decode cX1_put 5 = .ok (.iushr, 1) := by decide +kernel
theorem dX1_put_6 : decode cX1_put 6 = .ok (.iconst 1, 1) := by decide +kernel
theorem dX1_put_7 : decode cX1_put 7 = .ok (.iand, 1) := by decide +kernel
theorem dX1_put_8 : decode cX1_put 8 = .ok (.ifCond .ne 44, 3) := by decide +kernel
theorem dX1_put_11 : decode cX1_put 11 = .ok (.aload_n 0, 1) := by decide +kernel
theorem dX1_put_12 : decode cX1_put 12 = .ok (.getfield 26, 3) := by decide +kernel
theorem dX1_put_15 : decode cX1_put 15 = .ok (.bipush 22, 2) := by decide +kernel
theorem dX1_put_17 : decode cX1_put 17 = .ok (.if_icmp .ge 35, 3) := by decide +kernel
theorem dX1_put_20 : decode cX1_put 20 = .ok (.aload_n 0, 1) := by decide +kernel
theorem dX1_put_21 : decode cX1_put 21 = .ok (.getfield 18, 3) := by decide +kernel
theorem dX1_put_24 : decode cX1_put 24 = .ok (.aload_n 0, 1) := by decide +kernel
theorem dX1_put_25 : decode cX1_put 25 = .ok (.getfield 26, 3) := by decide +kernel
theorem dX1_put_28 : decode cX1_put 28 = .ok (.iload_n 1, 1) := by decide +kernel
theorem dX1_put_29 : decode cX1_put 29 = .ok (.iastore, 1) := by decide +kernel
theorem dX1_put_30 : decode cX1_put 30 = .ok (.aload_n 0, 1) := by decide +kernel
theorem dX1_put_31 : decode cX1_put 31 = .ok (.dup, 1) := by decide +kernel
theorem dX1_put_32 : decode cX1_put 32 = .ok (.getfield 26, 3) := by decide +kernel
theorem dX1_put_35 : decode cX1_put 35 = .ok (.iconst 1, 1) := by decide +kernel
theorem dX1_put_36 : decode cX1_put 36 = .ok (.iadd, 1) := by decide +kernel
theorem dX1_put_37 : decode cX1_put 37 = .ok (.putfield 26, 3) := by decide +kernel
theorem dX1_put_40 : decode cX1_put 40 = .ok (.aload_n 0, 1) := by decide +kernel
theorem dX1_put_41 : decode cX1_put 41 = .ok (.dup, 1) := by decide +kernel
theorem dX1_put_42 : decode cX1_put 42 = .ok (.getfield 30, 3) := by decide +kernel
theorem dX1_put_45 : decode cX1_put 45 = .ok (.iconst 1, 1) := by decide +kernel
theorem dX1_put_46 : decode cX1_put 46 = .ok (.iload_n 1, 1) := by decide +kernel
theorem dX1_put_47 : decode cX1_put 47 = .ok (.ishl, 1) := by decide +kernel
theorem dX1_put_48 : decode cX1_put 48 = .ok (.ior, 1) := by decide +kernel
theorem dX1_put_49 : decode cX1_put 49 = .ok (.putfield 30, 3) := by decide +kernel
theorem dX1_put_52 : decode cX1_put 52 = .ok (.return_, 1) := by decide +kernel
def f_X1_put (a0 : Nat) (x1 : Int32) (μ : jM) : Option (jM) :=
  (if ((jushr (μ.1 a0 3) x1) &&& (1 : Int32)) = (0 : Int32) then (if (22 : Int32) ≤ (μ.1 a0 2) then some μ else jin (μ.1 a0 2) 22 (jbd (jsi μ (a0 + 7) (μ.1 a0 2).toNatClampNeg x1) (fun m4 => jbd (jsi m4 a0 2 ((m4.1 a0 2) + (1 : Int32))) (fun m6 => jbd (jsi m6 a0 3 ((m6.1 a0 3) ||| ((1 : Int32) <<< (x1 &&& 31)))) (fun m8 => some m8))))) else some μ)
set_option maxHeartbeats 4000000 in
set_option maxRecDepth 100000 in
theorem c_X1_put {l : Launch} {G : jG} {L : jL} (hL : jOKL L) {a0 : Nat} {x1 : Int32} (ka0 : jK L a0 1) {μ μ' : jM} (h : f_X1_put a0 x1 μ = some μ') : jCt l G L 3 yX1_put cX1_put 2 none [.ref (L.2.2 a0), .int x1] μ none μ' := by
  refine jCt_of (by decide) (Nat.le_of_ble_eq_true rfl) (fun X hC hX hR => ?_)
  subst hX
  have hC : jC X G cX1_put 2 RX1 none := hC
  unfold f_X1_put at h
  show jJ X G 2 L 0 0 (jQM X G L none μ' 0 0) 0 [(0, .ref (L.2.2 a0)), (1, .int x1)] [] μ
  refine j_aload_n (pc := 0) hC 0 0 dX1_put_0 rfl rfl ?_
  refine jgi_1 (pc := 1) hC 3 (by decide) rfl kf_X1_30 dX1_put_1 ka0 ?_
  refine j_iload_n (pc := 4) hC 1 1 dX1_put_4 rfl rfl ?_
  refine j_iushr (pc := 5) hC dX1_put_5 ?_
  refine j_iconst (pc := 6) hC (1 : Int32) dX1_put_6 (by decide) ?_
  refine j_iand (pc := 7) hC dX1_put_7 ?_
  refine j_if_ne (pc := 8) hC 52 dX1_put_8 (by decide) (fun c1 => ?_) (fun c1 => ?_)
  · rw [if_neg c1] at h
    obtain rfl := Option.some.inj h
    exact j_vret (pc := 52) hC dX1_put_52 rfl
  · rw [if_pos c1] at h
    refine j_aload_n (pc := 11) hC 0 0 dX1_put_11 rfl rfl ?_
    refine jgi_1 (pc := 12) hC 2 (by decide) rfl kf_X1_26 dX1_put_12 ka0 ?_
    refine j_bipush (pc := 15) hC (22 : Int32) dX1_put_15 (by decide) ?_
    refine j_icmp_ge (pc := 17) hC 52 dX1_put_17 (by decide) (fun c2 => ?_) (fun c2 => ?_)
    · rw [if_pos c2] at h
      obtain rfl := Option.some.inj h
      exact j_vret (pc := 52) hC dX1_put_52 rfl
    · rw [if_neg c2] at h
      refine j_aload_n (pc := 20) hC 0 0 dX1_put_20 rfl rfl ?_
      refine jgr_1 (pc := 21) hC 1 (by decide) rfl kf_X1_18 dX1_put_21 ka0 (ly_1_1 hL ka0).1 ?_
      refine j_aload_n (pc := 24) hC 0 0 dX1_put_24 rfl rfl ?_
      refine jgi_1 (pc := 25) hC 2 (by decide) rfl kf_X1_26 dX1_put_25 ka0 ?_
      refine j_iload_n (pc := 28) hC 1 1 dX1_put_28 rfl rfl ?_
      obtain ⟨i3, h⟩ := jin_some h
      obtain ⟨m4, e5, h⟩ := jbd_ex h
      refine j_iast (pc := 29) hC dX1_put_29 (ly_1_1 hL ka0).2.1 (ly_1_1 hL ka0).2.2 i3 e5 ?_
      refine j_aload_n (pc := 30) hC 0 0 dX1_put_30 rfl rfl ?_
      refine j_dup (pc := 31) hC dX1_put_31 rfl ?_
      refine jgi_1 (pc := 32) hC 2 (by decide) rfl kf_X1_26 dX1_put_32 ka0 ?_
      refine j_iconst (pc := 35) hC (1 : Int32) dX1_put_35 (by decide) ?_
      refine j_iadd (pc := 36) hC dX1_put_36 ?_
      obtain ⟨m6, e7, h⟩ := jbd_ex h
      refine jpi_1 (pc := 37) hC 2 (by decide) rfl kf_X1_26 dX1_put_37 rfl (by decide) ka0 e7 ?_
      refine j_aload_n (pc := 40) hC 0 0 dX1_put_40 rfl rfl ?_
      refine j_dup (pc := 41) hC dX1_put_41 rfl ?_
      refine jgi_1 (pc := 42) hC 3 (by decide) rfl kf_X1_30 dX1_put_42 ka0 ?_
      refine j_iconst (pc := 45) hC (1 : Int32) dX1_put_45 (by decide) ?_
      refine j_iload_n (pc := 46) hC 1 1 dX1_put_46 rfl rfl ?_
      refine j_ishl (pc := 47) hC dX1_put_47 ?_
      refine j_ior (pc := 48) hC dX1_put_48 ?_
      obtain ⟨m8, e9, h⟩ := jbd_ex h
      refine jpi_1 (pc := 49) hC 3 (by decide) rfl kf_X1_30 dX1_put_49 rfl (by decide) ka0 e9 ?_
      obtain rfl := Option.some.inj h
      exact j_vret (pc := 52) hC dX1_put_52 rfl
theorem dJ6_bitCount_0f7a4_0 : decode cJ6_bitCount_0f7a4 0 = .ok (.iload_n 0, 1) := by decide +kernel
theorem dJ6_bitCount_0f7a4_1 : decode cJ6_bitCount_0f7a4 1 = .ok (.iload_n 0, 1) := by decide +kernel
theorem dJ6_bitCount_0f7a4_2 : decode cJ6_bitCount_0f7a4 2 = .ok (.iconst 1, 1) := by decide +kernel
theorem dJ6_bitCount_0f7a4_3 : decode cJ6_bitCount_0f7a4 3 = .ok (.iushr, 1) := by decide +kernel
theorem dJ6_bitCount_0f7a4_4 : decode cJ6_bitCount_0f7a4 4 = .ok (.ldc_w 265, 3) := by decide +kernel
theorem dJ6_bitCount_0f7a4_7 : decode cJ6_bitCount_0f7a4 7 = .ok (.iand, 1) := by decide +kernel
theorem dJ6_bitCount_0f7a4_8 : decode cJ6_bitCount_0f7a4 8 = .ok (.isub, 1) := by decide +kernel
theorem dJ6_bitCount_0f7a4_9 : decode cJ6_bitCount_0f7a4 9 = .ok (.istore_n 0, 1) := by decide +kernel
theorem dJ6_bitCount_0f7a4_10 : decode cJ6_bitCount_0f7a4 10 = .ok (.iload_n 0, 1) := by decide +kernel
theorem dJ6_bitCount_0f7a4_11 : decode cJ6_bitCount_0f7a4 11 = .ok (.ldc_w 266, 3) := by decide +kernel
theorem dJ6_bitCount_0f7a4_14 : decode cJ6_bitCount_0f7a4 14 = .ok (.iand, 1) := by decide +kernel
theorem dJ6_bitCount_0f7a4_15 : decode cJ6_bitCount_0f7a4 15 = .ok (.iload_n 0, 1) := by decide +kernel
theorem dJ6_bitCount_0f7a4_16 : decode cJ6_bitCount_0f7a4 16 = .ok (.iconst 2, 1) := by decide +kernel
theorem dJ6_bitCount_0f7a4_17 : decode cJ6_bitCount_0f7a4 17 = .ok (.iushr, 1) := by decide +kernel
theorem dJ6_bitCount_0f7a4_18 : decode cJ6_bitCount_0f7a4 18 = .ok (.ldc_w 266, 3) := by decide +kernel
theorem dJ6_bitCount_0f7a4_21 : decode cJ6_bitCount_0f7a4 21 = .ok (.iand, 1) := by decide +kernel
theorem dJ6_bitCount_0f7a4_22 : decode cJ6_bitCount_0f7a4 22 = .ok (.iadd, 1) := by decide +kernel
theorem dJ6_bitCount_0f7a4_23 : decode cJ6_bitCount_0f7a4 23 = .ok (.istore_n 0, 1) := by decide +kernel
theorem dJ6_bitCount_0f7a4_24 : decode cJ6_bitCount_0f7a4 24 = .ok (.iload_n 0, 1) := by decide +kernel
theorem dJ6_bitCount_0f7a4_25 : decode cJ6_bitCount_0f7a4 25 = .ok (.iload_n 0, 1) := by decide +kernel
theorem dJ6_bitCount_0f7a4_26 : decode cJ6_bitCount_0f7a4 26 = .ok (.iconst 4, 1) := by decide +kernel
theorem dJ6_bitCount_0f7a4_27 : decode cJ6_bitCount_0f7a4 27 = .ok (.iushr, 1) := by decide +kernel
theorem dJ6_bitCount_0f7a4_28 : decode cJ6_bitCount_0f7a4 28 = .ok (.iadd, 1) := by decide +kernel
theorem dJ6_bitCount_0f7a4_29 : decode cJ6_bitCount_0f7a4 29 = .ok (.ldc_w 267, 3) := by decide +kernel
theorem dJ6_bitCount_0f7a4_32 : decode cJ6_bitCount_0f7a4 32 = .ok (.iand, 1) := by decide +kernel
theorem dJ6_bitCount_0f7a4_33 : decode cJ6_bitCount_0f7a4 33 = .ok (.istore_n 0, 1) := by decide +kernel
theorem dJ6_bitCount_0f7a4_34 : decode cJ6_bitCount_0f7a4 34 = .ok (.iload_n 0, 1) := by decide +kernel
theorem dJ6_bitCount_0f7a4_35 : decode cJ6_bitCount_0f7a4 35 = .ok (.iload_n 0, 1) := by decide +kernel
theorem dJ6_bitCount_0f7a4_36 : decode cJ6_bitCount_0f7a4 36 = .ok (.bipush 8, 2) := by decide +kernel
theorem dJ6_bitCount_0f7a4_38 : decode cJ6_bitCount_0f7a4 38 = .ok (.iushr, 1) := by decide +kernel
theorem dJ6_bitCount_0f7a4_39 : decode cJ6_bitCount_0f7a4 39 = .ok (.iadd, 1) := by decide +kernel
theorem dJ6_bitCount_0f7a4_40 : decode cJ6_bitCount_0f7a4 40 = .ok (.istore_n 0, 1) := by decide +kernel
theorem dJ6_bitCount_0f7a4_41 : decode cJ6_bitCount_0f7a4 41 = .ok (.iload_n 0, 1) := by decide +kernel
theorem dJ6_bitCount_0f7a4_42 : decode cJ6_bitCount_0f7a4 42 = .ok (.iload_n 0, 1) := by decide +kernel
theorem dJ6_bitCount_0f7a4_43 : decode cJ6_bitCount_0f7a4 43 = .ok (.bipush 16, 2) := by decide +kernel
theorem dJ6_bitCount_0f7a4_45 : decode cJ6_bitCount_0f7a4 45 = .ok (.iushr, 1) := by decide +kernel
theorem dJ6_bitCount_0f7a4_46 : decode cJ6_bitCount_0f7a4 46 = .ok (.iadd, 1) := by decide +kernel
theorem dJ6_bitCount_0f7a4_47 : decode cJ6_bitCount_0f7a4 47 = .ok (.istore_n 0, 1) := by decide +kernel
theorem dJ6_bitCount_0f7a4_48 : decode cJ6_bitCount_0f7a4 48 = .ok (.iload_n 0, 1) := by decide +kernel
theorem dJ6_bitCount_0f7a4_49 : decode cJ6_bitCount_0f7a4 49 = .ok (.bipush 63, 2) := by decide +kernel
theorem dJ6_bitCount_0f7a4_51 : decode cJ6_bitCount_0f7a4 51 = .ok (.iand, 1) := by decide +kernel
theorem dJ6_bitCount_0f7a4_52 : decode cJ6_bitCount_0f7a4 52 = .ok (.ireturn, 1) := by decide +kernel
def f_J6_bitCount_0f7a4 (x0 : Int32) : Int32 :=
  jbd (x0 - ((jushr x0 (1 : Int32)) &&& (1431655765 : Int32)) : Int32) (fun v1 => jbd ((v1 &&& (858993459 : Int32)) + ((jushr v1 (2 : Int32)) &&& (858993459 : Int32)) : Int32) (fun v3 => jbd ((v3 + (jushr v3 (4 : Int32))) &&& (252645135 : Int32) : Int32) (fun v5 => jbd (v5 + (jushr v5 (8 : Int32)) : Int32) (fun v7 => jbd (v7 + (jushr v7 (16 : Int32)) : Int32) (fun v9 => v9 &&& (63 : Int32))))))
set_option maxHeartbeats 4000000 in
set_option maxRecDepth 100000 in
theorem c_J6_bitCount_0f7a4 {l : Launch} {G : jG} {L : jL} (hL : jOKL L) {x0 : Int32}  {μ : jM} {r : Int32} (h : f_J6_bitCount_0f7a4 x0 = r) : jCt l G L 3 yJ6_bitCount_0f7a4 cJ6_bitCount_0f7a4 1 (some .int) [.int x0] μ (some (.int r)) μ := by
  refine jCt_of (by decide) (Nat.le_of_ble_eq_true rfl) (fun X hC hX hR => ?_)
  subst hX
  have hC : jC X G cJ6_bitCount_0f7a4 1 RJ6 (some .int) := hC
  unfold f_J6_bitCount_0f7a4 at h
  show jJ X G 1 L 0 0 (jQM X G L (some (.int r)) μ 0 0) 0 [(0, .int x0)] [] μ
  refine j_iload_n (pc := 0) hC 0 0 dJ6_bitCount_0f7a4_0 rfl rfl ?_
  refine j_iload_n (pc := 1) hC 0 0 dJ6_bitCount_0f7a4_1 rfl rfl ?_
  refine j_iconst (pc := 2) hC (1 : Int32) dJ6_bitCount_0f7a4_2 (by decide) ?_
  refine j_iushr (pc := 3) hC dJ6_bitCount_0f7a4_3 ?_
  refine j_ldcw (pc := 4) hC dJ6_bitCount_0f7a4_4 kc_J6_265 ?_
  refine j_iand (pc := 7) hC dJ6_bitCount_0f7a4_7 ?_
  refine j_isub (pc := 8) hC dJ6_bitCount_0f7a4_8 ?_
  obtain ⟨v1, e2, h⟩ := jbd_ex h
  refine j_istore_n (pc := 9) hC 0 [(0, .int v1)] dJ6_bitCount_0f7a4_9 rfl (by decide) e2 rfl ?_
  refine j_iload_n (pc := 10) hC 0 0 dJ6_bitCount_0f7a4_10 rfl rfl ?_
  refine j_ldcw (pc := 11) hC dJ6_bitCount_0f7a4_11 kc_J6_266 ?_
  refine j_iand (pc := 14) hC dJ6_bitCount_0f7a4_14 ?_
  refine j_iload_n (pc := 15) hC 0 0 dJ6_bitCount_0f7a4_15 rfl rfl ?_
  refine j_iconst (pc := 16) hC (2 : Int32) dJ6_bitCount_0f7a4_16 (by decide) ?_
  refine j_iushr (pc := 17) hC dJ6_bitCount_0f7a4_17 ?_
  refine j_ldcw (pc := 18) hC dJ6_bitCount_0f7a4_18 kc_J6_266 ?_
  refine j_iand (pc := 21) hC dJ6_bitCount_0f7a4_21 ?_
  refine j_iadd (pc := 22) hC dJ6_bitCount_0f7a4_22 ?_
  obtain ⟨v3, e4, h⟩ := jbd_ex h
  refine j_istore_n (pc := 23) hC 0 [(0, .int v3)] dJ6_bitCount_0f7a4_23 rfl (by decide) e4 rfl ?_
  refine j_iload_n (pc := 24) hC 0 0 dJ6_bitCount_0f7a4_24 rfl rfl ?_
  refine j_iload_n (pc := 25) hC 0 0 dJ6_bitCount_0f7a4_25 rfl rfl ?_
  refine j_iconst (pc := 26) hC (4 : Int32) dJ6_bitCount_0f7a4_26 (by decide) ?_
  refine j_iushr (pc := 27) hC dJ6_bitCount_0f7a4_27 ?_
  refine j_iadd (pc := 28) hC dJ6_bitCount_0f7a4_28 ?_
  refine j_ldcw (pc := 29) hC dJ6_bitCount_0f7a4_29 kc_J6_267 ?_
  refine j_iand (pc := 32) hC dJ6_bitCount_0f7a4_32 ?_
  obtain ⟨v5, e6, h⟩ := jbd_ex h
  refine j_istore_n (pc := 33) hC 0 [(0, .int v5)] dJ6_bitCount_0f7a4_33 rfl (by decide) e6 rfl ?_
  refine j_iload_n (pc := 34) hC 0 0 dJ6_bitCount_0f7a4_34 rfl rfl ?_
  refine j_iload_n (pc := 35) hC 0 0 dJ6_bitCount_0f7a4_35 rfl rfl ?_
  refine j_bipush (pc := 36) hC (8 : Int32) dJ6_bitCount_0f7a4_36 (by decide) ?_
  refine j_iushr (pc := 38) hC dJ6_bitCount_0f7a4_38 ?_
  refine j_iadd (pc := 39) hC dJ6_bitCount_0f7a4_39 ?_
  obtain ⟨v7, e8, h⟩ := jbd_ex h
  refine j_istore_n (pc := 40) hC 0 [(0, .int v7)] dJ6_bitCount_0f7a4_40 rfl (by decide) e8 rfl ?_
  refine j_iload_n (pc := 41) hC 0 0 dJ6_bitCount_0f7a4_41 rfl rfl ?_
  refine j_iload_n (pc := 42) hC 0 0 dJ6_bitCount_0f7a4_42 rfl rfl ?_
  refine j_bipush (pc := 43) hC (16 : Int32) dJ6_bitCount_0f7a4_43 (by decide) ?_
  refine j_iushr (pc := 45) hC dJ6_bitCount_0f7a4_45 ?_
  refine j_iadd (pc := 46) hC dJ6_bitCount_0f7a4_46 ?_
  obtain ⟨v9, e10, h⟩ := jbd_ex h
  refine j_istore_n (pc := 47) hC 0 [(0, .int v9)] dJ6_bitCount_0f7a4_47 rfl (by decide) e10 rfl ?_
  refine j_iload_n (pc := 48) hC 0 0 dJ6_bitCount_0f7a4_48 rfl rfl ?_
  refine j_bipush (pc := 49) hC (63 : Int32) dJ6_bitCount_0f7a4_49 (by decide) ?_
  refine j_iand (pc := 51) hC dJ6_bitCount_0f7a4_51 ?_
  subst h
  exact j_iret (pc := 52) hC dJ6_bitCount_0f7a4_52 rfl
theorem dX2_hold_0 : decode cX2_hold 0 = .ok (.aload_n 0, 1) := by decide +kernel
theorem dX2_hold_1 : decode cX2_hold 1 = .ok (.getfield 19, 3) := by decide +kernel
theorem dX2_hold_4 : decode cX2_hold 4 = .ok (.bipush 8, 2) := by decide +kernel
theorem dX2_hold_6 : decode cX2_hold 6 = .ok (.if_icmp .ge 50, 3) := by decide +kernel
theorem dX2_hold_9 : decode cX2_hold 9 = .ok (.iconst 4, 1) := by decide +kernel
theorem dX2_hold_10 : decode cX2_hold 10 = .ok (.aload_n 0, 1) := by decide +kernel
theorem dX2_hold_11 : decode cX2_hold 11 = .ok (.getfield 19, 3) := by decide +kernel
theorem dX2_hold_14 : decode cX2_hold 14 = .ok (.imul, 1) := by decide +kernel
theorem dX2_hold_15 : decode cX2_hold 15 = .ok (.istore 5, 2) := by decide +kernel
theorem dX2_hold_17 : decode cX2_hold 17 = .ok (.aload_n 0, 1) := by decide +kernel
theorem dX2_hold_18 : decode cX2_hold 18 = .ok (.getfield 9, 3) := by decide +kernel
theorem dX2_hold_21 : decode cX2_hold 21 = .ok (.iload 5, 2) := by decide +kernel
theorem dX2_hold_23 : decode cX2_hold 23 = .ok (.iload_n 1, 1) := by decide +kernel
theorem dX2_hold_24 : decode cX2_hold 24 = .ok (.iastore, 1) := by decide +kernel
theorem dX2_hold_25 : decode cX2_hold 25 = .ok (.aload_n 0, 1) := by decide +kernel
theorem dX2_hold_26 : decode cX2_hold 26 = .ok (.getfield 9, 3) := by decide +kernel
theorem dX2_hold_29 : decode cX2_hold 29 = .ok (.iload 5, 2) := by decide +kernel
theorem dX2_hold_31 : decode cX2_hold 31 = .ok (.iconst 1, 1) := by decide +kernel
theorem dX2_hold_32 : decode cX2_hold 32 = .ok (.iadd, 1) := by decide +kernel
theorem dX2_hold_33 : decode cX2_hold 33 = .ok (.iload_n 2, 1) := by decide +kernel
theorem dX2_hold_34 : decode cX2_hold 34 = .ok (.iastore, 1) := by decide +kernel
theorem dX2_hold_35 : decode cX2_hold 35 = .ok (.aload_n 0, 1) := by decide +kernel
theorem dX2_hold_36 : decode cX2_hold 36 = .ok (.getfield 9, 3) := by decide +kernel
theorem dX2_hold_39 : decode cX2_hold 39 = .ok (.iload 5, 2) := by decide +kernel
theorem dX2_hold_41 : decode cX2_hold 41 = .ok (.iconst 2, 1) := by decide +kernel
theorem dX2_hold_42 : decode cX2_hold 42 = .ok (.iadd, 1) := by decide +kernel
theorem dX2_hold_43 : decode cX2_hold 43 = .ok (.iload_n 3, 1) := by decide +kernel
theorem dX2_hold_44 : decode cX2_hold 44 = .ok (.iastore, 1) := by decide +kernel
theorem dX2_hold_45 : decode cX2_hold 45 = .ok (.aload_n 0, 1) := by decide +kernel
theorem dX2_hold_46 : decode cX2_hold 46 = .ok (.getfield 9, 3) := by decide +kernel
theorem dX2_hold_49 : decode cX2_hold 49 = .ok (.iload 5, 2) := by decide +kernel
theorem dX2_hold_51 : decode cX2_hold 51 = .ok (.iconst 3, 1) := by decide +kernel
theorem dX2_hold_52 : decode cX2_hold 52 = .ok (.iadd, 1) := by decide +kernel
theorem dX2_hold_53 : decode cX2_hold 53 = .ok (.iload 4, 2) := by decide +kernel
theorem dX2_hold_55 : decode cX2_hold 55 = .ok (.iastore, 1) := by decide +kernel
theorem dX2_hold_56 : decode cX2_hold 56 = .ok (.aload_n 0, 1) := by decide +kernel
theorem dX2_hold_57 : decode cX2_hold 57 = .ok (.dup, 1) := by decide +kernel
theorem dX2_hold_58 : decode cX2_hold 58 = .ok (.getfield 19, 3) := by decide +kernel
theorem dX2_hold_61 : decode cX2_hold 61 = .ok (.iconst 1, 1) := by decide +kernel
theorem dX2_hold_62 : decode cX2_hold 62 = .ok (.iadd, 1) := by decide +kernel
theorem dX2_hold_63 : decode cX2_hold 63 = .ok (.putfield 19, 3) := by decide +kernel
theorem dX2_hold_66 : decode cX2_hold 66 = .ok (.return_, 1) := by decide +kernel
def f_X2_hold (a0 : Nat) (x1 : Int32) (x2 : Int32) (x3 : Int32) (x4 : Int32) (μ : jM) : Option (jM) :=
  (if (8 : Int32) ≤ (μ.1 a0 1) then jbd (jsi μ a0 1 ((μ.1 a0 1) + (1 : Int32))) (fun m2 => some m2) else jbd ((4 : Int32) * (μ.1 a0 1) : Int32) (fun v4 => jin v4 32 (jbd (jsi μ (a0 + 1) v4.toNatClampNeg x1) (fun m7 => jin (v4 + (1 : Int32)) 32 (jbd (jsi m7 (a0 + 1) (v4 + (1 : Int32)).toNatClampNeg x2) (fun m10 => jin (v4 + (2 : Int32)) 32 (jbd (jsi m10 (a0 + 1) (v4 + (2 : Int32)).toNatClampNeg x3) (fun m13 => jin (v4 + (3 : Int32)) 32 (jbd (jsi m13 (a0 + 1) (v4 + (3 : Int32)).toNatClampNeg x4) (fun m16 => jbd (jsi m16 a0 1 ((m16.1 a0 1) + (1 : Int32))) (fun m18 => some m18)))))))))))
set_option maxHeartbeats 4000000 in
set_option maxRecDepth 100000 in
theorem c_X2_hold {l : Launch} {G : jG} {L : jL} (hL : jOKL L) {a0 : Nat} {x1 : Int32} {x2 : Int32} {x3 : Int32} {x4 : Int32} (ka0 : jK L a0 2) {μ μ' : jM} (h : f_X2_hold a0 x1 x2 x3 x4 μ = some μ') : jCt l G L 3 yX2_hold cX2_hold 6 none [.ref (L.2.2 a0), .int x1, .int x2, .int x3, .int x4] μ none μ' := by
  refine jCt_of (by decide) (Nat.le_of_ble_eq_true rfl) (fun X hC hX hR => ?_)
  subst hX
  have hC : jC X G cX2_hold 6 RX2 none := hC
  unfold f_X2_hold at h
  show jJ X G 6 L 0 0 (jQM X G L none μ' 0 0) 0 [(0, .ref (L.2.2 a0)), (1, .int x1), (2, .int x2), (3, .int x3), (4, .int x4)] [] μ
  refine j_aload_n (pc := 0) hC 0 0 dX2_hold_0 rfl rfl ?_
  refine jgi_2 (pc := 1) hC 1 (by decide) rfl kf_X2_19 dX2_hold_1 ka0 ?_
  refine j_bipush (pc := 4) hC (8 : Int32) dX2_hold_4 (by decide) ?_
  refine j_icmp_ge (pc := 6) hC 56 dX2_hold_6 (by decide) (fun c1 => ?_) (fun c1 => ?_)
  · rw [if_pos c1] at h
    refine j_aload_n (pc := 56) hC 0 0 dX2_hold_56 rfl rfl ?_
    refine j_dup (pc := 57) hC dX2_hold_57 rfl ?_
    refine jgi_2 (pc := 58) hC 1 (by decide) rfl kf_X2_19 dX2_hold_58 ka0 ?_
    refine j_iconst (pc := 61) hC (1 : Int32) dX2_hold_61 (by decide) ?_
    refine j_iadd (pc := 62) hC dX2_hold_62 ?_
    obtain ⟨m2, e3, h⟩ := jbd_ex h
    refine jpi_2 (pc := 63) hC 1 (by decide) rfl kf_X2_19 dX2_hold_63 rfl (by decide) ka0 e3 ?_
    obtain rfl := Option.some.inj h
    exact j_vret (pc := 66) hC dX2_hold_66 rfl
  · rw [if_neg c1] at h
    refine j_iconst (pc := 9) hC (4 : Int32) dX2_hold_9 (by decide) ?_
    refine j_aload_n (pc := 10) hC 0 0 dX2_hold_10 rfl rfl ?_
    refine jgi_2 (pc := 11) hC 1 (by decide) rfl kf_X2_19 dX2_hold_11 ka0 ?_
    refine j_imul (pc := 14) hC dX2_hold_14 ?_
    obtain ⟨v4, e5, h⟩ := jbd_ex h
    refine j_istore (pc := 15) hC [(5, .int v4), (0, .ref (L.2.2 a0)), (1, .int x1), (2, .int x2), (3, .int x3), (4, .int x4)] dX2_hold_15 (by decide) e5 rfl ?_
    refine j_aload_n (pc := 17) hC 0 1 dX2_hold_17 rfl rfl ?_
    refine jgr_2 (pc := 18) hC 0 (by decide) rfl kf_X2_9 dX2_hold_18 ka0 (ly_2_0 hL ka0).1 ?_
    refine j_iload (pc := 21) hC 0 dX2_hold_21 rfl ?_
    refine j_iload_n (pc := 23) hC 1 2 dX2_hold_23 rfl rfl ?_
    obtain ⟨i6, h⟩ := jin_some h
    obtain ⟨m7, e8, h⟩ := jbd_ex h
    refine j_iast (pc := 24) hC dX2_hold_24 (ly_2_0 hL ka0).2.1 (ly_2_0 hL ka0).2.2 i6 e8 ?_
    refine j_aload_n (pc := 25) hC 0 1 dX2_hold_25 rfl rfl ?_
    refine jgr_2 (pc := 26) hC 0 (by decide) rfl kf_X2_9 dX2_hold_26 ka0 (ly_2_0 hL ka0).1 ?_
    refine j_iload (pc := 29) hC 0 dX2_hold_29 rfl ?_
    refine j_iconst (pc := 31) hC (1 : Int32) dX2_hold_31 (by decide) ?_
    refine j_iadd (pc := 32) hC dX2_hold_32 ?_
    refine j_iload_n (pc := 33) hC 2 3 dX2_hold_33 rfl rfl ?_
    obtain ⟨i9, h⟩ := jin_some h
    obtain ⟨m10, e11, h⟩ := jbd_ex h
    refine j_iast (pc := 34) hC dX2_hold_34 (ly_2_0 hL ka0).2.1 (ly_2_0 hL ka0).2.2 i9 e11 ?_
    refine j_aload_n (pc := 35) hC 0 1 dX2_hold_35 rfl rfl ?_
    refine jgr_2 (pc := 36) hC 0 (by decide) rfl kf_X2_9 dX2_hold_36 ka0 (ly_2_0 hL ka0).1 ?_
    refine j_iload (pc := 39) hC 0 dX2_hold_39 rfl ?_
    refine j_iconst (pc := 41) hC (2 : Int32) dX2_hold_41 (by decide) ?_
    refine j_iadd (pc := 42) hC dX2_hold_42 ?_
    refine j_iload_n (pc := 43) hC 3 4 dX2_hold_43 rfl rfl ?_
    obtain ⟨i12, h⟩ := jin_some h
    obtain ⟨m13, e14, h⟩ := jbd_ex h
    refine j_iast (pc := 44) hC dX2_hold_44 (ly_2_0 hL ka0).2.1 (ly_2_0 hL ka0).2.2 i12 e14 ?_
    refine j_aload_n (pc := 45) hC 0 1 dX2_hold_45 rfl rfl ?_
    refine jgr_2 (pc := 46) hC 0 (by decide) rfl kf_X2_9 dX2_hold_46 ka0 (ly_2_0 hL ka0).1 ?_
    refine j_iload (pc := 49) hC 0 dX2_hold_49 rfl ?_
    refine j_iconst (pc := 51) hC (3 : Int32) dX2_hold_51 (by decide) ?_
    refine j_iadd (pc := 52) hC dX2_hold_52 ?_
    refine j_iload (pc := 53) hC 5 dX2_hold_53 rfl ?_
    obtain ⟨i15, h⟩ := jin_some h
    obtain ⟨m16, e17, h⟩ := jbd_ex h
    refine j_iast (pc := 55) hC dX2_hold_55 (ly_2_0 hL ka0).2.1 (ly_2_0 hL ka0).2.2 i15 e17 ?_
    refine j_aload_n (pc := 56) hC 0 1 dX2_hold_56 rfl rfl ?_
    refine j_dup (pc := 57) hC dX2_hold_57 rfl ?_
    refine jgi_2 (pc := 58) hC 1 (by decide) rfl kf_X2_19 dX2_hold_58 ka0 ?_
    refine j_iconst (pc := 61) hC (1 : Int32) dX2_hold_61 (by decide) ?_
    refine j_iadd (pc := 62) hC dX2_hold_62 ?_
    obtain ⟨m18, e19, h⟩ := jbd_ex h
    refine jpi_2 (pc := 63) hC 1 (by decide) rfl kf_X2_19 dX2_hold_63 rfl (by decide) ka0 e19 ?_
    obtain rfl := Option.some.inj h
    exact j_vret (pc := 66) hC dX2_hold_66 rfl
theorem dX11_isVariable_0 : decode cX11_isVariable 0 = .ok (.iload_n 0, 1) := by decide +kernel
theorem dX11_isVariable_1 : decode cX11_isVariable 1 = .ok (.ifCond .lt 12, 3) := by decide +kernel
theorem dX11_isVariable_4 : decode cX11_isVariable 4 = .ok (.iload_n 0, 1) := by decide +kernel
theorem dX11_isVariable_5 : decode cX11_isVariable 5 = .ok (.iconst 5, 1) := by decide +kernel
theorem dX11_isVariable_6 : decode cX11_isVariable 6 = .ok (.if_icmp .ge 7, 3) := by decide +kernel
theorem dX11_isVariable_9 : decode cX11_isVariable 9 = .ok (.iconst 1, 1) := by decide +kernel
theorem dX11_isVariable_10 : decode cX11_isVariable 10 = .ok (.goto 4, 3) := by decide +kernel
theorem dX11_isVariable_13 : decode cX11_isVariable 13 = .ok (.iconst 0, 1) := by decide +kernel
theorem dX11_isVariable_14 : decode cX11_isVariable 14 = .ok (.ireturn, 1) := by decide +kernel
def f_X11_isVariable (x0 : Int32) : Int32 :=
  (if x0 < (0 : Int32) then (0 : Int32) else (if (5 : Int32) ≤ x0 then (0 : Int32) else (1 : Int32)))
set_option maxHeartbeats 4000000 in
set_option maxRecDepth 100000 in
theorem c_X11_isVariable {l : Launch} {G : jG} {L : jL} (hL : jOKL L) {x0 : Int32}  {μ : jM} {r : Int32} (h : f_X11_isVariable x0 = r) : jCt l G L 3 yX11_isVariable cX11_isVariable 1 (some .boolean) [.int x0] μ (some (.int r)) μ := by
  refine jCt_of (by decide) (Nat.le_of_ble_eq_true rfl) (fun X hC hX hR => ?_)
  subst hX
  have hC : jC X G cX11_isVariable 1 RX11 (some .boolean) := hC
  unfold f_X11_isVariable at h
  show jJ X G 1 L 0 0 (jQM X G L (some (.int r)) μ 0 0) 0 [(0, .int x0)] [] μ
  refine j_iload_n (pc := 0) hC 0 0 dX11_isVariable_0 rfl rfl ?_
  refine j_if_lt (pc := 1) hC 13 dX11_isVariable_1 (by decide) (fun c1 => ?_) (fun c1 => ?_)
  · rw [if_pos c1] at h
    refine j_iconst (pc := 13) hC (0 : Int32) dX11_isVariable_13 (by decide) ?_
    subst h
    exact j_bret (pc := 14) hC dX11_isVariable_14 rfl rfl
  · rw [if_neg c1] at h
    refine j_iload_n (pc := 4) hC 0 0 dX11_isVariable_4 rfl rfl ?_
    refine j_iconst (pc := 5) hC (5 : Int32) dX11_isVariable_5 (by decide) ?_
    refine j_icmp_ge (pc := 6) hC 13 dX11_isVariable_6 (by decide) (fun c2 => ?_) (fun c2 => ?_)
    · rw [if_pos c2] at h
      refine j_iconst (pc := 13) hC (0 : Int32) dX11_isVariable_13 (by decide) ?_
      subst h
      exact j_bret (pc := 14) hC dX11_isVariable_14 rfl rfl
    · rw [if_neg c2] at h
      refine j_iconst (pc := 9) hC (1 : Int32) dX11_isVariable_9 (by decide) ?_
      refine j_goto (pc := 10) hC 14 dX11_isVariable_10 (by decide) ?_
      subst h
      exact j_bret (pc := 14) hC dX11_isVariable_14 rfl rfl
theorem dX8_signAt_0 : decode cX8_signAt 0 = .ok (.iload_n 1, 1) := by decide +kernel
theorem dX8_signAt_1 : decode cX8_signAt 1 = .ok (.ifCond .lt 20, 3) := by decide +kernel
theorem dX8_signAt_4 : decode cX8_signAt 4 = .ok (.iload_n 1, 1) := by decide +kernel
theorem dX8_signAt_5 : decode cX8_signAt 5 = .ok (.aload_n 0, 1) := by decide +kernel
theorem dX8_signAt_6 : decode cX8_signAt 6 = .ok (.getfield 15, 3) := by decide +kernel
theorem dX8_signAt_9 : decode cX8_signAt 9 = .ok (.if_icmp .ge 12, 3) := by decide +kernel
theorem dX8_signAt_12 : decode cX8_signAt 12 = .ok (.aload_n 0, 1) := by decide +kernel
theorem dX8_signAt_13 : decode cX8_signAt 13 = .ok (.getfield 9, 3) := by decide +kernel
theorem dX8_signAt_16 : decode cX8_signAt 16 = .ok (.iload_n 1, 1) := by decide +kernel
theorem dX8_signAt_17 : decode cX8_signAt 17 = .ok (.iaload, 1) := by decide +kernel
theorem dX8_signAt_18 : decode cX8_signAt 18 = .ok (.goto 4, 3) := by decide +kernel
theorem dX8_signAt_21 : decode cX8_signAt 21 = .ok (.iconst (-1), 1) := by decide +kernel
theorem dX8_signAt_22 : decode cX8_signAt 22 = .ok (.ireturn, 1) := by decide +kernel
def f_X8_signAt (a0 : Nat) (x1 : Int32) (μ : jM) : Option (Int32) :=
  (if x1 < (0 : Int32) then some (-1 : Int32) else (if (μ.1 a0 1) ≤ x1 then some (-1 : Int32) else jrd (μ.1 (a0 + 1)) x1 80 (fun v4 => some v4)))
set_option maxHeartbeats 4000000 in
set_option maxRecDepth 100000 in
theorem c_X8_signAt {l : Launch} {G : jG} {L : jL} (hL : jOKL L) {a0 : Nat} {x1 : Int32} (ka0 : jK L a0 8) {μ : jM} {r : Int32} (h : f_X8_signAt a0 x1 μ = some r) : jCt l G L 3 yX8_signAt cX8_signAt 2 (some .int) [.ref (L.2.2 a0), .int x1] μ (some (.int r)) μ := by
  refine jCt_of (by decide) (Nat.le_of_ble_eq_true rfl) (fun X hC hX hR => ?_)
  subst hX
  have hC : jC X G cX8_signAt 2 RX8 (some .int) := hC
  unfold f_X8_signAt at h
  show jJ X G 2 L 0 0 (jQM X G L (some (.int r)) μ 0 0) 0 [(0, .ref (L.2.2 a0)), (1, .int x1)] [] μ
  refine j_iload_n (pc := 0) hC 1 1 dX8_signAt_0 rfl rfl ?_
  refine j_if_lt (pc := 1) hC 21 dX8_signAt_1 (by decide) (fun c1 => ?_) (fun c1 => ?_)
  · rw [if_pos c1] at h
    refine j_iconst (pc := 21) hC (-1 : Int32) dX8_signAt_21 (by decide) ?_
    obtain rfl := Option.some.inj h
    exact j_iret (pc := 22) hC dX8_signAt_22 rfl
  · rw [if_neg c1] at h
    refine j_iload_n (pc := 4) hC 1 1 dX8_signAt_4 rfl rfl ?_
    refine j_aload_n (pc := 5) hC 0 0 dX8_signAt_5 rfl rfl ?_
    refine jgi_8 (pc := 6) hC 1 (by decide) rfl kf_X8_15 dX8_signAt_6 ka0 ?_
    refine j_icmp_ge (pc := 9) hC 21 dX8_signAt_9 (by decide) (fun c2 => ?_) (fun c2 => ?_)
    · rw [if_pos c2] at h
      refine j_iconst (pc := 21) hC (-1 : Int32) dX8_signAt_21 (by decide) ?_
      obtain rfl := Option.some.inj h
      exact j_iret (pc := 22) hC dX8_signAt_22 rfl
    · rw [if_neg c2] at h
      refine j_aload_n (pc := 12) hC 0 0 dX8_signAt_12 rfl rfl ?_
      refine jgr_8 (pc := 13) hC 0 (by decide) rfl kf_X8_9 dX8_signAt_13 ka0 (ly_8_0 hL ka0).1 ?_
      refine j_iload_n (pc := 16) hC 1 1 dX8_signAt_16 rfl rfl ?_
      obtain ⟨i3, v4, e5, h⟩ := jrd_some h
      refine j_iald (pc := 17) hC dX8_signAt_17 (ly_8_0 hL ka0).2.1 (ly_8_0 hL ka0).2.2 i3 e5 ?_
      refine j_goto (pc := 18) hC 22 dX8_signAt_18 (by decide) ?_
      obtain rfl := Option.some.inj h
      exact j_iret (pc := 22) hC dX8_signAt_22 rfl
theorem dX8_variableAt_0 : decode cX8_variableAt 0 = .ok (.aload_n 0, 1) := by decide +kernel
theorem dX8_variableAt_1 : decode cX8_variableAt 1 = .ok (.iload_n 1, 1) := by decide +kernel
theorem dX8_variableAt_2 : decode cX8_variableAt 2 = .ok (.invokevirtual 19, 3) := by decide +kernel
theorem dX8_variableAt_5 : decode cX8_variableAt 5 = .ok (.bipush 118, 2) := by decide +kernel
theorem dX8_variableAt_7 : decode cX8_variableAt 7 = .ok (.isub, 1) := by decide +kernel
theorem dX8_variableAt_8 : decode cX8_variableAt 8 = .ok (.istore_n 2, 1) := by decide +kernel
theorem dX8_variableAt_9 : decode cX8_variableAt 9 = .ok (.iload_n 2, 1) := by decide +kernel
theorem dX8_variableAt_10 : decode cX8_variableAt 10 = .ok (.invokestatic 27, 3) := by decide +kernel
theorem dX8_variableAt_13 : decode cX8_variableAt 13 = .ok (.ifCond .eq 7, 3) := by decide +kernel
theorem dX8_variableAt_16 : decode cX8_variableAt 16 = .ok (.iload_n 2, 1) := by decide +kernel
theorem dX8_variableAt_17 : decode cX8_variableAt 17 = .ok (.goto 4, 3) := by decide +kernel
theorem dX8_variableAt_20 : decode cX8_variableAt 20 = .ok (.iconst (-1), 1) := by decide +kernel
theorem dX8_variableAt_21 : decode cX8_variableAt 21 = .ok (.ireturn, 1) := by decide +kernel
def f_X8_variableAt (a0 : Nat) (x1 : Int32) (μ : jM) : Option (Int32) :=
  jcl (f_X8_signAt a0 x1 μ) (fun v1 => some ((if (f_X11_isVariable (v1 - (118 : Int32))) = (0 : Int32) then (-1 : Int32) else v1 - (118 : Int32))))
set_option maxHeartbeats 4000000 in
set_option maxRecDepth 100000 in
theorem c_X8_variableAt {l : Launch} {G : jG} {L : jL} (hL : jOKL L) {a0 : Nat} {x1 : Int32} (ka0 : jK L a0 8) {μ : jM} {r : Int32} (h : f_X8_variableAt a0 x1 μ = some r) : jCt l G L 4 yX8_variableAt cX8_variableAt 3 (some .int) [.ref (L.2.2 a0), .int x1] μ (some (.int r)) μ := by
  refine jCt_of (by decide) (Nat.le_of_ble_eq_true rfl) (fun X hC hX hR => ?_)
  subst hX
  have hC : jC X G cX8_variableAt 3 RX8 (some .int) := hC
  unfold f_X8_variableAt at h
  show jJ X G 3 L 0 0 (jQM X G L (some (.int r)) μ 0 0) 0 [(0, .ref (L.2.2 a0)), (1, .int x1)] [] μ
  refine j_aload_n (pc := 0) hC 0 0 dX8_variableAt_0 rfl rfl ?_
  refine j_iload_n (pc := 1) hC 1 1 dX8_variableAt_1 rfl rfl ?_
  obtain ⟨v1, e2, h⟩ := jcl_some h
  refine j_vi (pc := 2) hC hR [.int x1] iy_X8_signAt (q := (RX8, TX8, 2)) (ci := 8) rfl rfl (by decide) km_X8_19 dX8_variableAt_2 rfl (by decide) ka0 (c_X8_signAt hL ka0 e2) (by decide) (Nat.le_of_ble_eq_true rfl) rfl ?_
  refine j_bipush (pc := 5) hC (118 : Int32) dX8_variableAt_5 (by decide) ?_
  refine j_isub (pc := 7) hC dX8_variableAt_7 ?_
  refine j_istore_n (pc := 8) hC 2 [(2, .int (v1 - (118 : Int32))), (0, .ref (L.2.2 a0)), (1, .int x1)] dX8_variableAt_8 rfl (by decide) rfl rfl ?_
  refine j_iload_n (pc := 9) hC 2 0 dX8_variableAt_9 rfl rfl ?_
  refine j_ni (pc := 10) hC hR [.int (v1 - (118 : Int32))] iy_X11_isVariable kn_X8_27 dX8_variableAt_10 rfl (by decide) (c_X11_isVariable hL  rfl) (by decide) (Nat.le_of_ble_eq_true rfl) rfl ?_
  refine jmg (B := jJ X G 3 L 0 0 (jQM X G L (some (.int r)) μ 0 0) 21 [(2, .int (v1 - (118 : Int32))), (0, .ref (L.2.2 a0)), (1, .int x1)] [.int ((if (f_X11_isVariable (v1 - (118 : Int32))) = (0 : Int32) then (-1 : Int32) else v1 - (118 : Int32)))] μ) (fun hj => ?_) ?_
  · refine j_if_eq (pc := 13) hC 20 dX8_variableAt_13 (by decide) (fun c3 => ?_) (fun c3 => ?_)
    · rw [if_pos c3] at hj
      refine j_iconst (pc := 20) hC (-1 : Int32) dX8_variableAt_20 (by decide) ?_
      exact hj
    · rw [if_neg c3] at hj
      refine j_iload_n (pc := 16) hC 2 0 dX8_variableAt_16 rfl rfl ?_
      refine j_goto (pc := 17) hC 21 dX8_variableAt_17 (by decide) ?_
      exact hj
  obtain rfl := Option.some.inj h
  exact j_iret (pc := 21) hC dX8_variableAt_21 rfl
theorem dX2_readSet_0 : decode cX2_readSet 0 = .ok (.iconst 0, 1) := by decide +kernel
theorem dX2_readSet_1 : decode cX2_readSet 1 = .ok (.istore_n 2, 1) := by decide +kernel
theorem dX2_readSet_2 : decode cX2_readSet 2 = .ok (.iload_n 1, 1) := by decide +kernel
theorem dX2_readSet_3 : decode cX2_readSet 3 = .ok (.iconst 1, 1) := by decide +kernel
theorem dX2_readSet_4 : decode cX2_readSet 4 = .ok (.iadd, 1) := by decide +kernel
theorem dX2_readSet_5 : decode cX2_readSet 5 = .ok (.istore_n 3, 1) := by decide +kernel
theorem dX2_readSet_6 : decode cX2_readSet 6 = .ok (.iconst 0, 1) := by decide +kernel
theorem dX2_readSet_7 : decode cX2_readSet 7 = .ok (.istore 4, 2) := by decide +kernel
theorem dX2_readSet_9 : decode cX2_readSet 9 = .ok (.iload 4, 2) := by decide +kernel
theorem dX2_readSet_11 : decode cX2_readSet 11 = .ok (.iconst 5, 1) := by decide +kernel
theorem dX2_readSet_12 : decode cX2_readSet 12 = .ok (.if_icmp .ge 48, 3) := by decide +kernel
theorem dX2_readSet_15 : decode cX2_readSet 15 = .ok (.aload_n 0, 1) := by decide +kernel
theorem dX2_readSet_16 : decode cX2_readSet 16 = .ok (.getfield 15, 3) := by decide +kernel
theorem dX2_readSet_19 : decode cX2_readSet 19 = .ok (.iload_n 3, 1) := by decide +kernel
theorem dX2_readSet_20 : decode cX2_readSet 20 = .ok (.invokevirtual 38, 3) := by decide +kernel
theorem dX2_readSet_23 : decode cX2_readSet 23 = .ok (.istore 5, 2) := by decide +kernel
theorem dX2_readSet_25 : decode cX2_readSet 25 = .ok (.iload 5, 2) := by decide +kernel
theorem dX2_readSet_27 : decode cX2_readSet 27 = .ok (.iconst (-1), 1) := by decide +kernel
theorem dX2_readSet_28 : decode cX2_readSet 28 = .ok (.if_icmp .eq 32, 3) := by decide +kernel
theorem dX2_readSet_31 : decode cX2_readSet 31 = .ok (.iload_n 2, 1) := by decide +kernel
theorem dX2_readSet_32 : decode cX2_readSet 32 = .ok (.iload 5, 2) := by decide +kernel
theorem dX2_readSet_34 : decode cX2_readSet 34 = .ok (.iushr, 1) := by decide +kernel
theorem dX2_readSet_35 : decode cX2_readSet 35 = .ok (.iconst 1, 1) := by decide +kernel
theorem dX2_readSet_36 : decode cX2_readSet 36 = .ok (.iand, 1) := by decide +kernel
theorem dX2_readSet_37 : decode cX2_readSet 37 = .ok (.iconst 1, 1) := by decide +kernel
theorem dX2_readSet_38 : decode cX2_readSet 38 = .ok (.if_icmp .ne 6, 3) := by decide +kernel
theorem dX2_readSet_41 : decode cX2_readSet 41 = .ok (.goto 19, 3) := by decide +kernel
theorem dX2_readSet_44 : decode cX2_readSet 44 = .ok (.iload_n 2, 1) := by decide +kernel
theorem dX2_readSet_45 : decode cX2_readSet 45 = .ok (.iconst 1, 1) := by decide +kernel
theorem dX2_readSet_46 : decode cX2_readSet 46 = .ok (.iload 5, 2) := by decide +kernel
theorem dX2_readSet_48 : decode cX2_readSet 48 = .ok (.ishl, 1) := by decide +kernel
theorem dX2_readSet_49 : decode cX2_readSet 49 = .ok (.ior, 1) := by decide +kernel
theorem dX2_readSet_50 : decode cX2_readSet 50 = .ok (.istore_n 2, 1) := by decide +kernel
theorem dX2_readSet_51 : decode cX2_readSet 51 = .ok (.iinc 3 1, 3) := by decide +kernel
theorem dX2_readSet_54 : decode cX2_readSet 54 = .ok (.iinc 4 1, 3) := by decide +kernel
theorem dX2_readSet_57 : decode cX2_readSet 57 = .ok (.goto (-48), 3) := by decide +kernel
theorem dX2_readSet_60 : decode cX2_readSet 60 = .ok (.iload_n 2, 1) := by decide +kernel
theorem dX2_readSet_61 : decode cX2_readSet 61 = .ok (.invokestatic 51, 3) := by decide +kernel
theorem dX2_readSet_64 : decode cX2_readSet 64 = .ok (.iconst 2, 1) := by decide +kernel
theorem dX2_readSet_65 : decode cX2_readSet 65 = .ok (.if_icmp .ge 7, 3) := by decide +kernel
theorem dX2_readSet_68 : decode cX2_readSet 68 = .ok (.iconst (-1), 1) := by decide +kernel
theorem dX2_readSet_69 : decode cX2_readSet 69 = .ok (.iload_n 3, 1) := by decide +kernel
theorem dX2_readSet_70 : decode cX2_readSet 70 = .ok (.isub, 1) := by decide +kernel
theorem dX2_readSet_71 : decode cX2_readSet 71 = .ok (.ireturn, 1) := by decide +kernel
theorem dX2_readSet_72 : decode cX2_readSet 72 = .ok (.aload_n 0, 1) := by decide +kernel
theorem dX2_readSet_73 : decode cX2_readSet 73 = .ok (.iconst 3, 1) := by decide +kernel
theorem dX2_readSet_74 : decode cX2_readSet 74 = .ok (.iload_n 2, 1) := by decide +kernel
theorem dX2_readSet_75 : decode cX2_readSet 75 = .ok (.iconst 0, 1) := by decide +kernel
theorem dX2_readSet_76 : decode cX2_readSet 76 = .ok (.iconst 0, 1) := by decide +kernel
theorem dX2_readSet_77 : decode cX2_readSet 77 = .ok (.invokevirtual 44, 3) := by decide +kernel
theorem dX2_readSet_80 : decode cX2_readSet 80 = .ok (.iload_n 3, 1) := by decide +kernel
theorem dX2_readSet_81 : decode cX2_readSet 81 = .ok (.ireturn, 1) := by decide +kernel
def f_X2_readSet_L9 (μ : jM) (u1 : Int32) (u2 : Int32) (u3 : Int32) : Option ((Int32 × Int32 × Int32) ⊕ ((Int32 × Int32) ⊕ (Int32 × Int32))) :=
  (if (5 : Int32) ≤ u3 then some (.inr (.inr ((u1, u2)))) else jcl (f_X8_variableAt 1 u2 μ) (fun v5 => (if v5 = (-1 : Int32) then some (.inr (.inr ((u1, u2)))) else (if ((jushr u1 v5) &&& (1 : Int32)) = (1 : Int32) then some (.inr (.inl ((u1, u2)))) else jbd (u1 ||| ((1 : Int32) <<< (v5 &&& 31)) : Int32) (fun v9 => some (.inl ((v9, u2 + (1 : Int32), u3 + (1 : Int32)))))))))
def f_X2_readSet (a0 : Nat) (x1 : Int32) (μ : jM) : Option (Int32 × jM) :=
  jcl (jloop (fun (s : Int32 × Int32 × Int32) => f_X2_readSet_L9 μ s.1 s.2.1 s.2.2) jfu (((0 : Int32), x1 + (1 : Int32), (0 : Int32)))) (fun w11 => match w11 with | .inl w11 => (if (2 : Int32) ≤ (f_J6_bitCount_0f7a4 w11.1) then jcl (f_X2_hold a0 (3 : Int32) w11.1 (0 : Int32) (0 : Int32) μ) (fun m17 => some ((w11.2, m17))) else some (((-1 : Int32) - w11.2, μ))) | .inr w11 => (if (2 : Int32) ≤ (f_J6_bitCount_0f7a4 w11.1) then jcl (f_X2_hold a0 (3 : Int32) w11.1 (0 : Int32) (0 : Int32) μ) (fun m22 => some ((w11.2, m22))) else some (((-1 : Int32) - w11.2, μ))))
set_option maxHeartbeats 4000000 in
set_option maxRecDepth 100000 in
theorem c_X2_readSet {l : Launch} {G : jG} {L : jL} (hL : jOKL L) {a0 : Nat} {x1 : Int32} (ka0 : jK L a0 2) {μ μ' : jM} {r : Int32} (h : f_X2_readSet a0 x1 μ = some ((r, μ'))) : jCt l G L 5 yX2_readSet cX2_readSet 6 (some .int) [.ref (L.2.2 a0), .int x1] μ (some (.int r)) μ' := by
  refine jCt_of (by decide) (Nat.le_of_ble_eq_true rfl) (fun X hC hX hR => ?_)
  subst hX
  have hC : jC X G cX2_readSet 6 RX2 (some .int) := hC
  unfold f_X2_readSet at h
  show jJ X G 6 L 0 0 (jQM X G L (some (.int r)) μ' 0 0) 0 [(0, .ref (L.2.2 a0)), (1, .int x1)] [] μ
  refine j_iconst (pc := 0) hC (0 : Int32) dX2_readSet_0 (by decide) ?_
  refine j_istore_n (pc := 1) hC 2 [(2, .int (0 : Int32)), (0, .ref (L.2.2 a0)), (1, .int x1)] dX2_readSet_1 rfl (by decide) rfl rfl ?_
  refine j_iload_n (pc := 2) hC 1 2 dX2_readSet_2 rfl rfl ?_
  refine j_iconst (pc := 3) hC (1 : Int32) dX2_readSet_3 (by decide) ?_
  refine j_iadd (pc := 4) hC dX2_readSet_4 ?_
  refine j_istore_n (pc := 5) hC 3 [(3, .int (x1 + (1 : Int32))), (2, .int (0 : Int32)), (0, .ref (L.2.2 a0)), (1, .int x1)] dX2_readSet_5 rfl (by decide) rfl rfl ?_
  refine j_iconst (pc := 6) hC (0 : Int32) dX2_readSet_6 (by decide) ?_
  refine j_istore (pc := 7) hC [(4, .int (0 : Int32)), (3, .int (x1 + (1 : Int32))), (2, .int (0 : Int32)), (0, .ref (L.2.2 a0)), (1, .int x1)] dX2_readSet_7 (by decide) rfl rfl ?_
  obtain ⟨w11, hw12, h⟩ := jcl_some h
  refine j_lv [3, 2, 1, 0] rfl ?_
  refine j_loop (step := (fun (s : Int32 × Int32 × Int32) => f_X2_readSet_L9 μ s.1 s.2.1 s.2.2)) (P := (fun (s : Int32 × Int32 × Int32) => jJ X G 6 L 0 0 (jQM X G L (some (.int r)) μ' 0 0) 9 [(0, .ref (L.2.2 a0)), (2, .int s.1), (3, .int s.2.1), (4, .int s.2.2)] [] μ)) (R := (fun (e : (Int32 × Int32) ⊕ (Int32 × Int32)) => match e with | .inl e => jJ X G 6 L 0 0 (jQM X G L (some (.int r)) μ' 0 0) 41 [(0, .ref (L.2.2 a0)), (2, .int e.1), (3, .int e.2)] [] μ | .inr e => jJ X G 6 L 0 0 (jQM X G L (some (.int r)) μ' 0 0) 60 [(0, .ref (L.2.2 a0)), (2, .int e.1), (3, .int e.2)] [] μ)) ?_ jfu (((0 : Int32), x1 + (1 : Int32), (0 : Int32))) w11 hw12 ?_
  · intro s13 o h hk
    obtain ⟨u1, u2, u3⟩ := s13
    change f_X2_readSet_L9 μ u1 u2 u3 = some o at h
    unfold f_X2_readSet_L9 at h
    show jJ X G 6 L 0 0 (jQM X G L (some (.int r)) μ' 0 0) 9 [(0, .ref (L.2.2 a0)), (2, .int u1), (3, .int u2), (4, .int u3)] [] μ
    refine j_iload (pc := 9) hC 3 dX2_readSet_9 rfl ?_
    refine j_iconst (pc := 11) hC (5 : Int32) dX2_readSet_11 (by decide) ?_
    refine j_icmp_ge (pc := 12) hC 60 dX2_readSet_12 (by decide) (fun c4 => ?_) (fun c4 => ?_)
    · rw [if_pos c4] at h
      obtain rfl := Option.some.inj h
      have hk : jJ X G 6 L 0 0 (jQM X G L (some (.int r)) μ' 0 0) 60 [(0, .ref (L.2.2 a0)), (2, .int u1), (3, .int u2)] [] μ := hk
      exact j_lv [0, 1, 2] rfl hk
    · rw [if_neg c4] at h
      refine j_aload_n (pc := 15) hC 0 0 dX2_readSet_15 rfl rfl ?_
      refine jgr_2 (pc := 16) hC 2 (by decide) rfl kf_X2_15 dX2_readSet_16 ka0 (ly_2_2 hL ka0).1 ?_
      refine j_iload_n (pc := 19) hC 3 2 dX2_readSet_19 rfl rfl ?_
      obtain ⟨v5, e6, h⟩ := jcl_some h
      refine j_vi (pc := 20) hC hR [.int u2] iy_X8_variableAt (q := (RX8, TX8, 2)) (ci := 8) rfl rfl (by decide) km_X2_38 dX2_readSet_20 rfl (by decide) (ly_2_2 hL ka0).2.1 (c_X8_variableAt hL (ly_2_2 hL ka0).2.1 e6) (by decide) (Nat.le_of_ble_eq_true rfl) rfl ?_
      refine j_istore (pc := 23) hC [(5, .int v5), (0, .ref (L.2.2 a0)), (2, .int u1), (3, .int u2), (4, .int u3)] dX2_readSet_23 (by decide) rfl rfl ?_
      refine j_iload (pc := 25) hC 0 dX2_readSet_25 rfl ?_
      refine j_iconst (pc := 27) hC (-1 : Int32) dX2_readSet_27 (by decide) ?_
      refine j_icmp_eq (pc := 28) hC 60 dX2_readSet_28 (by decide) (fun c7 => ?_) (fun c7 => ?_)
      · rw [if_pos c7] at h
        obtain rfl := Option.some.inj h
        have hk : jJ X G 6 L 0 0 (jQM X G L (some (.int r)) μ' 0 0) 60 [(0, .ref (L.2.2 a0)), (2, .int u1), (3, .int u2)] [] μ := hk
        exact j_lv [1, 2, 3] rfl hk
      · rw [if_neg c7] at h
        refine j_iload_n (pc := 31) hC 2 2 dX2_readSet_31 rfl rfl ?_
        refine j_iload (pc := 32) hC 0 dX2_readSet_32 rfl ?_
        refine j_iushr (pc := 34) hC dX2_readSet_34 ?_
        refine j_iconst (pc := 35) hC (1 : Int32) dX2_readSet_35 (by decide) ?_
        refine j_iand (pc := 36) hC dX2_readSet_36 ?_
        refine j_iconst (pc := 37) hC (1 : Int32) dX2_readSet_37 (by decide) ?_
        refine j_icmp_ne (pc := 38) hC 44 dX2_readSet_38 (by decide) (fun c8 => ?_) (fun c8 => ?_)
        · rw [if_neg c8] at h
          refine j_iload_n (pc := 44) hC 2 2 dX2_readSet_44 rfl rfl ?_
          refine j_iconst (pc := 45) hC (1 : Int32) dX2_readSet_45 (by decide) ?_
          refine j_iload (pc := 46) hC 0 dX2_readSet_46 rfl ?_
          refine j_ishl (pc := 48) hC dX2_readSet_48 ?_
          refine j_ior (pc := 49) hC dX2_readSet_49 ?_
          obtain ⟨v9, e10, h⟩ := jbd_ex h
          refine j_istore_n (pc := 50) hC 2 [(2, .int v9), (5, .int v5), (0, .ref (L.2.2 a0)), (3, .int u2), (4, .int u3)] dX2_readSet_50 rfl (by decide) e10 rfl ?_
          refine j_iinc (pc := 51) hC 3 (u2 + (1 : Int32)) [(3, .int (u2 + (1 : Int32))), (2, .int v9), (5, .int v5), (0, .ref (L.2.2 a0)), (4, .int u3)] dX2_readSet_51 rfl rfl (by decide) rfl ?_
          refine j_iinc (pc := 54) hC 4 (u3 + (1 : Int32)) [(4, .int (u3 + (1 : Int32))), (3, .int (u2 + (1 : Int32))), (2, .int v9), (5, .int v5), (0, .ref (L.2.2 a0))] dX2_readSet_54 rfl rfl (by decide) rfl ?_
          refine j_goto (pc := 57) hC 9 dX2_readSet_57 (by decide) ?_
          obtain rfl := Option.some.inj h
          have hk : jJ X G 6 L 0 0 (jQM X G L (some (.int r)) μ' 0 0) 9 [(0, .ref (L.2.2 a0)), (2, .int v9), (3, .int (u2 + (1 : Int32))), (4, .int (u3 + (1 : Int32)))] [] μ := hk
          exact j_lv [4, 2, 1, 0] rfl hk
        · rw [if_pos c8] at h
          obtain rfl := Option.some.inj h
          have hk : jJ X G 6 L 0 0 (jQM X G L (some (.int r)) μ' 0 0) 41 [(0, .ref (L.2.2 a0)), (2, .int u1), (3, .int u2)] [] μ := hk
          exact j_lv [1, 2, 3] rfl hk
  · cases w11 with
    | inl w11 =>
      try dsimp only at h
      obtain ⟨z14, z15⟩ := w11
      try dsimp only at h
      show jJ X G 6 L 0 0 (jQM X G L (some (.int r)) μ' 0 0) 41 [(0, .ref (L.2.2 a0)), (2, .int z14), (3, .int z15)] [] μ
      refine j_goto (pc := 41) hC 60 dX2_readSet_41 (by decide) ?_
      refine j_iload_n (pc := 60) hC 2 1 dX2_readSet_60 rfl rfl ?_
      refine j_si (pc := 61) hC hR [.int z14] iy_J6_bitCount_0f7a4 km_X2_51 dX2_readSet_61 rfl (by decide) (c_J6_bitCount_0f7a4 hL  rfl) (by decide) (Nat.le_of_ble_eq_true rfl) rfl ?_
      refine j_iconst (pc := 64) hC (2 : Int32) dX2_readSet_64 (by decide) ?_
      refine j_icmp_ge (pc := 65) hC 72 dX2_readSet_65 (by decide) (fun c16 => ?_) (fun c16 => ?_)
      · rw [if_pos c16] at h
        refine j_aload_n (pc := 72) hC 0 0 dX2_readSet_72 rfl rfl ?_
        refine j_iconst (pc := 73) hC (3 : Int32) dX2_readSet_73 (by decide) ?_
        refine j_iload_n (pc := 74) hC 2 1 dX2_readSet_74 rfl rfl ?_
        refine j_iconst (pc := 75) hC (0 : Int32) dX2_readSet_75 (by decide) ?_
        refine j_iconst (pc := 76) hC (0 : Int32) dX2_readSet_76 (by decide) ?_
        obtain ⟨m17, e18, h⟩ := jcl_some h
        refine j_vv (pc := 77) hC hR [.int (3 : Int32), .int z14, .int (0 : Int32), .int (0 : Int32)] iy_X2_hold (q := (RX2, TX2, 3)) (ci := 2) rfl rfl (by decide) km_X2_44 dX2_readSet_77 rfl (by decide) ka0 (c_X2_hold hL ka0 e18) (by decide) (Nat.le_of_ble_eq_true rfl) rfl ?_
        refine j_iload_n (pc := 80) hC 3 2 dX2_readSet_80 rfl rfl ?_
        obtain ⟨rfl, rfl⟩ := Prod.mk.inj (Option.some.inj h)
        exact j_iret (pc := 81) hC dX2_readSet_81 rfl
      · rw [if_neg c16] at h
        refine j_iconst (pc := 68) hC (-1 : Int32) dX2_readSet_68 (by decide) ?_
        refine j_iload_n (pc := 69) hC 3 2 dX2_readSet_69 rfl rfl ?_
        refine j_isub (pc := 70) hC dX2_readSet_70 ?_
        obtain ⟨rfl, rfl⟩ := Prod.mk.inj (Option.some.inj h)
        exact j_iret (pc := 71) hC dX2_readSet_71 rfl
    | inr w11 =>
      try dsimp only at h
      obtain ⟨z19, z20⟩ := w11
      try dsimp only at h
      show jJ X G 6 L 0 0 (jQM X G L (some (.int r)) μ' 0 0) 60 [(0, .ref (L.2.2 a0)), (2, .int z19), (3, .int z20)] [] μ
      refine j_iload_n (pc := 60) hC 2 1 dX2_readSet_60 rfl rfl ?_
      refine j_si (pc := 61) hC hR [.int z19] iy_J6_bitCount_0f7a4 km_X2_51 dX2_readSet_61 rfl (by decide) (c_J6_bitCount_0f7a4 hL  rfl) (by decide) (Nat.le_of_ble_eq_true rfl) rfl ?_
      refine j_iconst (pc := 64) hC (2 : Int32) dX2_readSet_64 (by decide) ?_
      refine j_icmp_ge (pc := 65) hC 72 dX2_readSet_65 (by decide) (fun c21 => ?_) (fun c21 => ?_)
      · rw [if_pos c21] at h
        refine j_aload_n (pc := 72) hC 0 0 dX2_readSet_72 rfl rfl ?_
        refine j_iconst (pc := 73) hC (3 : Int32) dX2_readSet_73 (by decide) ?_
        refine j_iload_n (pc := 74) hC 2 1 dX2_readSet_74 rfl rfl ?_
        refine j_iconst (pc := 75) hC (0 : Int32) dX2_readSet_75 (by decide) ?_
        refine j_iconst (pc := 76) hC (0 : Int32) dX2_readSet_76 (by decide) ?_
        obtain ⟨m22, e23, h⟩ := jcl_some h
        refine j_vv (pc := 77) hC hR [.int (3 : Int32), .int z19, .int (0 : Int32), .int (0 : Int32)] iy_X2_hold (q := (RX2, TX2, 3)) (ci := 2) rfl rfl (by decide) km_X2_44 dX2_readSet_77 rfl (by decide) ka0 (c_X2_hold hL ka0 e23) (by decide) (Nat.le_of_ble_eq_true rfl) rfl ?_
        refine j_iload_n (pc := 80) hC 3 2 dX2_readSet_80 rfl rfl ?_
        obtain ⟨rfl, rfl⟩ := Prod.mk.inj (Option.some.inj h)
        exact j_iret (pc := 81) hC dX2_readSet_81 rfl
      · rw [if_neg c21] at h
        refine j_iconst (pc := 68) hC (-1 : Int32) dX2_readSet_68 (by decide) ?_
        refine j_iload_n (pc := 69) hC 3 2 dX2_readSet_69 rfl rfl ?_
        refine j_isub (pc := 70) hC dX2_readSet_70 ?_
        obtain ⟨rfl, rfl⟩ := Prod.mk.inj (Option.some.inj h)
        exact j_iret (pc := 71) hC dX2_readSet_71 rfl
theorem dX2_sortAt_0 : decode cX2_sortAt 0 = .ok (.aload_n 0, 1) := by decide +kernel
theorem dX2_sortAt_1 : decode cX2_sortAt 1 = .ok (.getfield 15, 3) := by decide +kernel
theorem dX2_sortAt_4 : decode cX2_sortAt 4 = .ok (.iload_n 1, 1) := by decide +kernel
theorem dX2_sortAt_5 : decode cX2_sortAt 5 = .ok (.invokevirtual 28, 3) := by decide +kernel
theorem dX2_sortAt_8 : decode cX2_sortAt 8 = .ok (.lookupswitch 42 #[(35, 40), (60, 36), (61, 38)], 36) := by decide +kernel
theorem dX2_sortAt_44 : decode cX2_sortAt 44 = .ok (.iconst 0, 1) := by decide +kernel
theorem dX2_sortAt_45 : decode cX2_sortAt 45 = .ok (.ireturn, 1) := by decide +kernel
theorem dX2_sortAt_46 : decode cX2_sortAt 46 = .ok (.iconst 1, 1) := by decide +kernel
theorem dX2_sortAt_47 : decode cX2_sortAt 47 = .ok (.ireturn, 1) := by decide +kernel
theorem dX2_sortAt_48 : decode cX2_sortAt 48 = .ok (.iconst 2, 1) := by decide +kernel
theorem dX2_sortAt_49 : decode cX2_sortAt 49 = .ok (.ireturn, 1) := by decide +kernel
theorem dX2_sortAt_50 : decode cX2_sortAt 50 = .ok (.iconst (-1), 1) := by decide +kernel
theorem dX2_sortAt_51 : decode cX2_sortAt 51 = .ok (.ireturn, 1) := by decide +kernel
def f_X2_sortAt (a0 : Nat) (x1 : Int32) (μ : jM) : Option (Int32) :=
  jcl (f_X8_signAt 1 x1 μ) (fun v1 => (if v1 = (35 : Int32) then some (2 : Int32) else (if v1 = (60 : Int32) then some (0 : Int32) else (if v1 = (61 : Int32) then some (1 : Int32) else some (-1 : Int32)))))
set_option maxHeartbeats 4000000 in
set_option maxRecDepth 100000 in
theorem c_X2_sortAt {l : Launch} {G : jG} {L : jL} (hL : jOKL L) {a0 : Nat} {x1 : Int32} (ka0 : jK L a0 2) {μ : jM} {r : Int32} (h : f_X2_sortAt a0 x1 μ = some r) : jCt l G L 4 yX2_sortAt cX2_sortAt 2 (some .int) [.ref (L.2.2 a0), .int x1] μ (some (.int r)) μ := by
  refine jCt_of (by decide) (Nat.le_of_ble_eq_true rfl) (fun X hC hX hR => ?_)
  subst hX
  have hC : jC X G cX2_sortAt 2 RX2 (some .int) := hC
  unfold f_X2_sortAt at h
  show jJ X G 2 L 0 0 (jQM X G L (some (.int r)) μ 0 0) 0 [(0, .ref (L.2.2 a0)), (1, .int x1)] [] μ
  refine j_aload_n (pc := 0) hC 0 0 dX2_sortAt_0 rfl rfl ?_
  refine jgr_2 (pc := 1) hC 2 (by decide) rfl kf_X2_15 dX2_sortAt_1 ka0 (ly_2_2 hL ka0).1 ?_
  refine j_iload_n (pc := 4) hC 1 1 dX2_sortAt_4 rfl rfl ?_
  obtain ⟨v1, e2, h⟩ := jcl_some h
  refine j_vi (pc := 5) hC hR [.int x1] iy_X8_signAt (q := (RX8, TX8, 2)) (ci := 8) rfl rfl (by decide) km_X2_28 dX2_sortAt_5 rfl (by decide) (ly_2_2 hL ka0).2.1 (c_X8_signAt hL (ly_2_2 hL ka0).2.1 e2) (by decide) (Nat.le_of_ble_eq_true rfl) rfl ?_
  by_cases c3 : v1 = (35 : Int32)
  · rw [if_pos c3] at h
    refine j_lookup (pc := 8) (off := 40) hC 48 dX2_sortAt_8 (by decide) (by rw [c3]; rfl) (by decide) ?_
    refine j_iconst (pc := 48) hC (2 : Int32) dX2_sortAt_48 (by decide) ?_
    obtain rfl := Option.some.inj h
    exact j_iret (pc := 49) hC dX2_sortAt_49 rfl
  · rw [if_neg c3] at h
    by_cases c4 : v1 = (60 : Int32)
    · rw [if_pos c4] at h
      refine j_lookup (pc := 8) (off := 36) hC 44 dX2_sortAt_8 (by decide) (by rw [c4]; rfl) (by decide) ?_
      refine j_iconst (pc := 44) hC (0 : Int32) dX2_sortAt_44 (by decide) ?_
      obtain rfl := Option.some.inj h
      exact j_iret (pc := 45) hC dX2_sortAt_45 rfl
    · rw [if_neg c4] at h
      by_cases c5 : v1 = (61 : Int32)
      · rw [if_pos c5] at h
        refine j_lookup (pc := 8) (off := 38) hC 46 dX2_sortAt_8 (by decide) (by rw [c5]; rfl) (by decide) ?_
        refine j_iconst (pc := 46) hC (1 : Int32) dX2_sortAt_46 (by decide) ?_
        obtain rfl := Option.some.inj h
        exact j_iret (pc := 47) hC dX2_sortAt_47 rfl
      · rw [if_neg c5] at h
        refine j_lookup (pc := 8) (off := 42) hC 50 dX2_sortAt_8 (by decide) (by show Op.lookupswitch.offset [(35, 40), (60, 36), (61, 38)] 42 _ = _; rw [lv_osw (a := 35) (o := 40) c3 (by decide), lv_osw (a := 60) (o := 36) c4 (by decide), lv_osw (a := 61) (o := 38) c5 (by decide)]; rfl) (by decide) ?_
        refine j_iconst (pc := 50) hC (-1 : Int32) dX2_sortAt_50 (by decide) ?_
        obtain rfl := Option.some.inj h
        exact j_iret (pc := 51) hC dX2_sortAt_51 rfl
theorem dX8_digitAt_0 : decode cX8_digitAt 0 = .ok (.aload_n 0, 1) := by decide +kernel
theorem dX8_digitAt_1 : decode cX8_digitAt 1 = .ok (.iload_n 1, 1) := by decide +kernel
theorem dX8_digitAt_2 : decode cX8_digitAt 2 = .ok (.invokevirtual 19, 3) := by decide +kernel
theorem dX8_digitAt_5 : decode cX8_digitAt 5 = .ok (.bipush 48, 2) := by decide +kernel
theorem dX8_digitAt_7 : decode cX8_digitAt 7 = .ok (.isub, 1) := by decide +kernel
theorem dX8_digitAt_8 : decode cX8_digitAt 8 = .ok (.istore_n 2, 1) := by decide +kernel
theorem dX8_digitAt_9 : decode cX8_digitAt 9 = .ok (.iload_n 2, 1) := by decide +kernel
theorem dX8_digitAt_10 : decode cX8_digitAt 10 = .ok (.ifCond .lt 13, 3) := by decide +kernel
theorem dX8_digitAt_13 : decode cX8_digitAt 13 = .ok (.iload_n 2, 1) := by decide +kernel
theorem dX8_digitAt_14 : decode cX8_digitAt 14 = .ok (.bipush 9, 2) := by decide +kernel
theorem dX8_digitAt_16 : decode cX8_digitAt 16 = .ok (.if_icmp .gt 7, 3) := by decide +kernel
theorem dX8_digitAt_19 : decode cX8_digitAt 19 = .ok (.iload_n 2, 1) := by decide +kernel
theorem dX8_digitAt_20 : decode cX8_digitAt 20 = .ok (.goto 4, 3) := by decide +kernel
theorem dX8_digitAt_23 : decode cX8_digitAt 23 = .ok (.iconst (-1), 1) := by decide +kernel
theorem dX8_digitAt_24 : decode cX8_digitAt 24 = .ok (.ireturn, 1) := by decide +kernel
def f_X8_digitAt (a0 : Nat) (x1 : Int32) (μ : jM) : Option (Int32) :=
  jcl (f_X8_signAt a0 x1 μ) (fun v1 => (if (v1 - (48 : Int32)) < (0 : Int32) then some (-1 : Int32) else (if (9 : Int32) < (v1 - (48 : Int32)) then some (-1 : Int32) else some (v1 - (48 : Int32)))))
set_option maxHeartbeats 4000000 in
set_option maxRecDepth 100000 in
theorem c_X8_digitAt {l : Launch} {G : jG} {L : jL} (hL : jOKL L) {a0 : Nat} {x1 : Int32} (ka0 : jK L a0 8) {μ : jM} {r : Int32} (h : f_X8_digitAt a0 x1 μ = some r) : jCt l G L 4 yX8_digitAt cX8_digitAt 3 (some .int) [.ref (L.2.2 a0), .int x1] μ (some (.int r)) μ := by
  refine jCt_of (by decide) (Nat.le_of_ble_eq_true rfl) (fun X hC hX hR => ?_)
  subst hX
  have hC : jC X G cX8_digitAt 3 RX8 (some .int) := hC
  unfold f_X8_digitAt at h
  show jJ X G 3 L 0 0 (jQM X G L (some (.int r)) μ 0 0) 0 [(0, .ref (L.2.2 a0)), (1, .int x1)] [] μ
  refine j_aload_n (pc := 0) hC 0 0 dX8_digitAt_0 rfl rfl ?_
  refine j_iload_n (pc := 1) hC 1 1 dX8_digitAt_1 rfl rfl ?_
  obtain ⟨v1, e2, h⟩ := jcl_some h
  refine j_vi (pc := 2) hC hR [.int x1] iy_X8_signAt (q := (RX8, TX8, 2)) (ci := 8) rfl rfl (by decide) km_X8_19 dX8_digitAt_2 rfl (by decide) ka0 (c_X8_signAt hL ka0 e2) (by decide) (Nat.le_of_ble_eq_true rfl) rfl ?_
  refine j_bipush (pc := 5) hC (48 : Int32) dX8_digitAt_5 (by decide) ?_
  refine j_isub (pc := 7) hC dX8_digitAt_7 ?_
  refine j_istore_n (pc := 8) hC 2 [(2, .int (v1 - (48 : Int32))), (0, .ref (L.2.2 a0)), (1, .int x1)] dX8_digitAt_8 rfl (by decide) rfl rfl ?_
  refine j_iload_n (pc := 9) hC 2 0 dX8_digitAt_9 rfl rfl ?_
  refine j_if_lt (pc := 10) hC 23 dX8_digitAt_10 (by decide) (fun c3 => ?_) (fun c3 => ?_)
  · rw [if_pos c3] at h
    refine j_iconst (pc := 23) hC (-1 : Int32) dX8_digitAt_23 (by decide) ?_
    obtain rfl := Option.some.inj h
    exact j_iret (pc := 24) hC dX8_digitAt_24 rfl
  · rw [if_neg c3] at h
    refine j_iload_n (pc := 13) hC 2 0 dX8_digitAt_13 rfl rfl ?_
    refine j_bipush (pc := 14) hC (9 : Int32) dX8_digitAt_14 (by decide) ?_
    refine j_icmp_gt (pc := 16) hC 23 dX8_digitAt_16 (by decide) (fun c4 => ?_) (fun c4 => ?_)
    · rw [if_pos c4] at h
      refine j_iconst (pc := 23) hC (-1 : Int32) dX8_digitAt_23 (by decide) ?_
      obtain rfl := Option.some.inj h
      exact j_iret (pc := 24) hC dX8_digitAt_24 rfl
    · rw [if_neg c4] at h
      refine j_iload_n (pc := 19) hC 2 0 dX8_digitAt_19 rfl rfl ?_
      refine j_goto (pc := 20) hC 24 dX8_digitAt_20 (by decide) ?_
      obtain rfl := Option.some.inj h
      exact j_iret (pc := 24) hC dX8_digitAt_24 rfl
theorem dX2_readTwo_0 : decode cX2_readTwo 0 = .ok (.aload_n 0, 1) := by decide +kernel
theorem dX2_readTwo_1 : decode cX2_readTwo 1 = .ok (.getfield 15, 3) := by decide +kernel
theorem dX2_readTwo_4 : decode cX2_readTwo 4 = .ok (.iload_n 1, 1) := by decide +kernel
theorem dX2_readTwo_5 : decode cX2_readTwo 5 = .ok (.invokevirtual 38, 3) := by decide +kernel
theorem dX2_readTwo_8 : decode cX2_readTwo 8 = .ok (.istore_n 2, 1) := by decide +kernel
theorem dX2_readTwo_9 : decode cX2_readTwo 9 = .ok (.iload_n 2, 1) := by decide +kernel
theorem dX2_readTwo_10 : decode cX2_readTwo 10 = .ok (.iconst (-1), 1) := by decide +kernel
theorem dX2_readTwo_11 : decode cX2_readTwo 11 = .ok (.if_icmp .ne 7, 3) := by decide +kernel
theorem dX2_readTwo_14 : decode cX2_readTwo 14 = .ok (.iconst (-1), 1) := by decide +kernel
theorem dX2_readTwo_15 : decode cX2_readTwo 15 = .ok (.iload_n 1, 1) := by decide +kernel
theorem dX2_readTwo_16 : decode cX2_readTwo 16 = .ok (.isub, 1) := by decide +kernel
theorem dX2_readTwo_17 : decode cX2_readTwo 17 = .ok (.ireturn, 1) := by decide +kernel
theorem dX2_readTwo_18 : decode cX2_readTwo 18 = .ok (.aload_n 0, 1) := by decide +kernel
theorem dX2_readTwo_19 : decode cX2_readTwo 19 = .ok (.iload_n 1, 1) := by decide +kernel
theorem dX2_readTwo_20 : decode cX2_readTwo 20 = .ok (.iconst 1, 1) := by decide +kernel
theorem dX2_readTwo_21 : decode cX2_readTwo 21 = .ok (.iadd, 1) := by decide +kernel
theorem dX2_readTwo_22 : decode cX2_readTwo 22 = .ok (.invokevirtual 41, 3) := by decide +kernel
theorem dX2_readTwo_25 : decode cX2_readTwo 25 = .ok (.istore_n 3, 1) := by decide +kernel
theorem dX2_readTwo_26 : decode cX2_readTwo 26 = .ok (.iload_n 3, 1) := by decide +kernel
theorem dX2_readTwo_27 : decode cX2_readTwo 27 = .ok (.iconst (-1), 1) := by decide +kernel
theorem dX2_readTwo_28 : decode cX2_readTwo 28 = .ok (.if_icmp .ne 8, 3) := by decide +kernel
theorem dX2_readTwo_31 : decode cX2_readTwo 31 = .ok (.bipush (-2), 2) := by decide +kernel
theorem dX2_readTwo_33 : decode cX2_readTwo 33 = .ok (.iload_n 1, 1) := by decide +kernel
theorem dX2_readTwo_34 : decode cX2_readTwo 34 = .ok (.isub, 1) := by decide +kernel
theorem dX2_readTwo_35 : decode cX2_readTwo 35 = .ok (.ireturn, 1) := by decide +kernel
theorem dX2_readTwo_36 : decode cX2_readTwo 36 = .ok (.aload_n 0, 1) := by decide +kernel
theorem dX2_readTwo_37 : decode cX2_readTwo 37 = .ok (.getfield 15, 3) := by decide +kernel
theorem dX2_readTwo_40 : decode cX2_readTwo 40 = .ok (.iload_n 1, 1) := by decide +kernel
theorem dX2_readTwo_41 : decode cX2_readTwo 41 = .ok (.iconst 2, 1) := by decide +kernel
theorem dX2_readTwo_42 : decode cX2_readTwo 42 = .ok (.iadd, 1) := by decide +kernel
theorem dX2_readTwo_43 : decode cX2_readTwo 43 = .ok (.invokevirtual 38, 3) := by decide +kernel
theorem dX2_readTwo_46 : decode cX2_readTwo 46 = .ok (.istore 4, 2) := by decide +kernel
theorem dX2_readTwo_48 : decode cX2_readTwo 48 = .ok (.iload 4, 2) := by decide +kernel
theorem dX2_readTwo_50 : decode cX2_readTwo 50 = .ok (.iconst (-1), 1) := by decide +kernel
theorem dX2_readTwo_51 : decode cX2_readTwo 51 = .ok (.if_icmp .eq 9, 3) := by decide +kernel
theorem dX2_readTwo_54 : decode cX2_readTwo 54 = .ok (.iload 4, 2) := by decide +kernel
theorem dX2_readTwo_56 : decode cX2_readTwo 56 = .ok (.iload_n 2, 1) := by decide +kernel
theorem dX2_readTwo_57 : decode cX2_readTwo 57 = .ok (.if_icmp .ne 8, 3) := by decide +kernel
theorem dX2_readTwo_60 : decode cX2_readTwo 60 = .ok (.bipush (-3), 2) := by decide +kernel
theorem dX2_readTwo_62 : decode cX2_readTwo 62 = .ok (.iload_n 1, 1) := by decide +kernel
theorem dX2_readTwo_63 : decode cX2_readTwo 63 = .ok (.isub, 1) := by decide +kernel
theorem dX2_readTwo_64 : decode cX2_readTwo 64 = .ok (.ireturn, 1) := by decide +kernel
theorem dX2_readTwo_65 : decode cX2_readTwo 65 = .ok (.aload_n 0, 1) := by decide +kernel
theorem dX2_readTwo_66 : decode cX2_readTwo 66 = .ok (.getfield 15, 3) := by decide +kernel
theorem dX2_readTwo_69 : decode cX2_readTwo 69 = .ok (.iload_n 1, 1) := by decide +kernel
theorem dX2_readTwo_70 : decode cX2_readTwo 70 = .ok (.iconst 3, 1) := by decide +kernel
theorem dX2_readTwo_71 : decode cX2_readTwo 71 = .ok (.iadd, 1) := by decide +kernel
theorem dX2_readTwo_72 : decode cX2_readTwo 72 = .ok (.invokevirtual 28, 3) := by decide +kernel
theorem dX2_readTwo_75 : decode cX2_readTwo 75 = .ok (.istore 5, 2) := by decide +kernel
theorem dX2_readTwo_77 : decode cX2_readTwo 77 = .ok (.iload 5, 2) := by decide +kernel
theorem dX2_readTwo_79 : decode cX2_readTwo 79 = .ok (.bipush 43, 2) := by decide +kernel
theorem dX2_readTwo_81 : decode cX2_readTwo 81 = .ok (.if_icmp .eq 23, 3) := by decide +kernel
theorem dX2_readTwo_84 : decode cX2_readTwo 84 = .ok (.iload 5, 2) := by decide +kernel
theorem dX2_readTwo_86 : decode cX2_readTwo 86 = .ok (.bipush 45, 2) := by decide +kernel
theorem dX2_readTwo_88 : decode cX2_readTwo 88 = .ok (.if_icmp .eq 16, 3) := by decide +kernel
theorem dX2_readTwo_91 : decode cX2_readTwo 91 = .ok (.aload_n 0, 1) := by decide +kernel
theorem dX2_readTwo_92 : decode cX2_readTwo 92 = .ok (.iload_n 3, 1) := by decide +kernel
theorem dX2_readTwo_93 : decode cX2_readTwo 93 = .ok (.iload_n 2, 1) := by decide +kernel
theorem dX2_readTwo_94 : decode cX2_readTwo 94 = .ok (.iload 4, 2) := by decide +kernel
theorem dX2_readTwo_96 : decode cX2_readTwo 96 = .ok (.iconst 0, 1) := by decide +kernel
theorem dX2_readTwo_97 : decode cX2_readTwo 97 = .ok (.invokevirtual 44, 3) := by decide +kernel
theorem dX2_readTwo_100 : decode cX2_readTwo 100 = .ok (.iload_n 1, 1) := by decide +kernel
theorem dX2_readTwo_101 : decode cX2_readTwo 101 = .ok (.iconst 3, 1) := by decide +kernel
theorem dX2_readTwo_102 : decode cX2_readTwo 102 = .ok (.iadd, 1) := by decide +kernel
theorem dX2_readTwo_103 : decode cX2_readTwo 103 = .ok (.ireturn, 1) := by decide +kernel
theorem dX2_readTwo_104 : decode cX2_readTwo 104 = .ok (.aload_n 0, 1) := by decide +kernel
theorem dX2_readTwo_105 : decode cX2_readTwo 105 = .ok (.getfield 15, 3) := by decide +kernel
theorem dX2_readTwo_108 : decode cX2_readTwo 108 = .ok (.iload_n 1, 1) := by decide +kernel
theorem dX2_readTwo_109 : decode cX2_readTwo 109 = .ok (.iconst 4, 1) := by decide +kernel
theorem dX2_readTwo_110 : decode cX2_readTwo 110 = .ok (.iadd, 1) := by decide +kernel
theorem dX2_readTwo_111 : decode cX2_readTwo 111 = .ok (.invokevirtual 48, 3) := by decide +kernel
theorem dX2_readTwo_114 : decode cX2_readTwo 114 = .ok (.istore 6, 2) := by decide +kernel
theorem dX2_readTwo_116 : decode cX2_readTwo 116 = .ok (.iload 6, 2) := by decide +kernel
theorem dX2_readTwo_118 : decode cX2_readTwo 118 = .ok (.iconst (-1), 1) := by decide +kernel
theorem dX2_readTwo_119 : decode cX2_readTwo 119 = .ok (.if_icmp .ne 8, 3) := by decide +kernel
theorem dX2_readTwo_122 : decode cX2_readTwo 122 = .ok (.bipush (-5), 2) := by decide +kernel
theorem dX2_readTwo_124 : decode cX2_readTwo 124 = .ok (.iload_n 1, 1) := by decide +kernel
theorem dX2_readTwo_125 : decode cX2_readTwo 125 = .ok (.isub, 1) := by decide +kernel
theorem dX2_readTwo_126 : decode cX2_readTwo 126 = .ok (.ireturn, 1) := by decide +kernel
theorem dX2_readTwo_127 : decode cX2_readTwo 127 = .ok (.aload_n 0, 1) := by decide +kernel
theorem dX2_readTwo_128 : decode cX2_readTwo 128 = .ok (.iload_n 3, 1) := by decide +kernel
theorem dX2_readTwo_129 : decode cX2_readTwo 129 = .ok (.iload_n 2, 1) := by decide +kernel
theorem dX2_readTwo_130 : decode cX2_readTwo 130 = .ok (.iload 4, 2) := by decide +kernel
theorem dX2_readTwo_132 : decode cX2_readTwo 132 = .ok (.iload 5, 2) := by decide +kernel
theorem dX2_readTwo_134 : decode cX2_readTwo 134 = .ok (.bipush 43, 2) := by decide +kernel
theorem dX2_readTwo_136 : decode cX2_readTwo 136 = .ok (.if_icmp .ne 8, 3) := by decide +kernel
theorem dX2_readTwo_139 : decode cX2_readTwo 139 = .ok (.iload 6, 2) := by decide +kernel
theorem dX2_readTwo_141 : decode cX2_readTwo 141 = .ok (.goto 6, 3) := by decide +kernel
theorem dX2_readTwo_144 : decode cX2_readTwo 144 = .ok (.iload 6, 2) := by decide +kernel
theorem dX2_readTwo_146 : decode cX2_readTwo 146 = .ok (.ineg, 1) := by decide +kernel
theorem dX2_readTwo_147 : decode cX2_readTwo 147 = .ok (.invokevirtual 44, 3) := by decide +kernel
theorem dX2_readTwo_150 : decode cX2_readTwo 150 = .ok (.iload_n 1, 1) := by decide +kernel
theorem dX2_readTwo_151 : decode cX2_readTwo 151 = .ok (.iconst 5, 1) := by decide +kernel
theorem dX2_readTwo_152 : decode cX2_readTwo 152 = .ok (.iadd, 1) := by decide +kernel
theorem dX2_readTwo_153 : decode cX2_readTwo 153 = .ok (.ireturn, 1) := by decide +kernel
def f_X2_readTwo (a0 : Nat) (x1 : Int32) (μ : jM) : Option (Int32 × jM) :=
  jcl (f_X8_variableAt 1 x1 μ) (fun v1 => (if v1 = (-1 : Int32) then some (((-1 : Int32) - x1, μ)) else jcl (f_X2_sortAt a0 (x1 + (1 : Int32)) μ) (fun v4 => (if v4 = (-1 : Int32) then some (((-2 : Int32) - x1, μ)) else jcl (f_X8_variableAt 1 (x1 + (2 : Int32)) μ) (fun v7 => (if v7 = (-1 : Int32) then some (((-3 : Int32) - x1, μ)) else (if v7 = v1 then some (((-3 : Int32) - x1, μ)) else jcl (f_X8_signAt 1 (x1 + (3 : Int32)) μ) (fun v11 => jbd (jcl (f_X8_digitAt 1 (x1 + (4 : Int32)) μ) (fun v16 => (if v16 = (-1 : Int32) then some (((-5 : Int32) - x1, μ)) else jcl (f_X2_hold a0 v4 v1 v7 ((if v11 = (43 : Int32) then v16 else -v16)) μ) (fun m20 => some ((x1 + (5 : Int32), m20)))))) (fun k13 => (if v11 = (43 : Int32) then k13 else (if v11 = (45 : Int32) then k13 else jcl (f_X2_hold a0 v4 v1 v7 (0 : Int32) μ) (fun m24 => some ((x1 + (3 : Int32), m24))))))))))))))
set_option maxHeartbeats 4000000 in
set_option maxRecDepth 100000 in
theorem c_X2_readTwo {l : Launch} {G : jG} {L : jL} (hL : jOKL L) {a0 : Nat} {x1 : Int32} (ka0 : jK L a0 2) {μ μ' : jM} {r : Int32} (h : f_X2_readTwo a0 x1 μ = some ((r, μ'))) : jCt l G L 5 yX2_readTwo cX2_readTwo 7 (some .int) [.ref (L.2.2 a0), .int x1] μ (some (.int r)) μ' := by
  refine jCt_of (by decide) (Nat.le_of_ble_eq_true rfl) (fun X hC hX hR => ?_)
  subst hX
  have hC : jC X G cX2_readTwo 7 RX2 (some .int) := hC
  unfold f_X2_readTwo at h
  show jJ X G 7 L 0 0 (jQM X G L (some (.int r)) μ' 0 0) 0 [(0, .ref (L.2.2 a0)), (1, .int x1)] [] μ
  refine j_aload_n (pc := 0) hC 0 0 dX2_readTwo_0 rfl rfl ?_
  refine jgr_2 (pc := 1) hC 2 (by decide) rfl kf_X2_15 dX2_readTwo_1 ka0 (ly_2_2 hL ka0).1 ?_
  refine j_iload_n (pc := 4) hC 1 1 dX2_readTwo_4 rfl rfl ?_
  obtain ⟨v1, e2, h⟩ := jcl_some h
  refine j_vi (pc := 5) hC hR [.int x1] iy_X8_variableAt (q := (RX8, TX8, 2)) (ci := 8) rfl rfl (by decide) km_X2_38 dX2_readTwo_5 rfl (by decide) (ly_2_2 hL ka0).2.1 (c_X8_variableAt hL (ly_2_2 hL ka0).2.1 e2) (by decide) (Nat.le_of_ble_eq_true rfl) rfl ?_
  refine j_istore_n (pc := 8) hC 2 [(2, .int v1), (0, .ref (L.2.2 a0)), (1, .int x1)] dX2_readTwo_8 rfl (by decide) rfl rfl ?_
  refine j_iload_n (pc := 9) hC 2 0 dX2_readTwo_9 rfl rfl ?_
  refine j_iconst (pc := 10) hC (-1 : Int32) dX2_readTwo_10 (by decide) ?_
  refine j_icmp_ne (pc := 11) hC 18 dX2_readTwo_11 (by decide) (fun c3 => ?_) (fun c3 => ?_)
  · rw [if_neg c3] at h
    refine j_aload_n (pc := 18) hC 0 1 dX2_readTwo_18 rfl rfl ?_
    refine j_iload_n (pc := 19) hC 1 2 dX2_readTwo_19 rfl rfl ?_
    refine j_iconst (pc := 20) hC (1 : Int32) dX2_readTwo_20 (by decide) ?_
    refine j_iadd (pc := 21) hC dX2_readTwo_21 ?_
    obtain ⟨v4, e5, h⟩ := jcl_some h
    refine j_vi (pc := 22) hC hR [.int (x1 + (1 : Int32))] iy_X2_sortAt (q := (RX2, TX2, 3)) (ci := 2) rfl rfl (by decide) km_X2_41 dX2_readTwo_22 rfl (by decide) ka0 (c_X2_sortAt hL ka0 e5) (by decide) (Nat.le_of_ble_eq_true rfl) rfl ?_
    refine j_istore_n (pc := 25) hC 3 [(3, .int v4), (2, .int v1), (0, .ref (L.2.2 a0)), (1, .int x1)] dX2_readTwo_25 rfl (by decide) rfl rfl ?_
    refine j_iload_n (pc := 26) hC 3 0 dX2_readTwo_26 rfl rfl ?_
    refine j_iconst (pc := 27) hC (-1 : Int32) dX2_readTwo_27 (by decide) ?_
    refine j_icmp_ne (pc := 28) hC 36 dX2_readTwo_28 (by decide) (fun c6 => ?_) (fun c6 => ?_)
    · rw [if_neg c6] at h
      refine j_aload_n (pc := 36) hC 0 2 dX2_readTwo_36 rfl rfl ?_
      refine jgr_2 (pc := 37) hC 2 (by decide) rfl kf_X2_15 dX2_readTwo_37 ka0 (ly_2_2 hL ka0).1 ?_
      refine j_iload_n (pc := 40) hC 1 3 dX2_readTwo_40 rfl rfl ?_
      refine j_iconst (pc := 41) hC (2 : Int32) dX2_readTwo_41 (by decide) ?_
      refine j_iadd (pc := 42) hC dX2_readTwo_42 ?_
      obtain ⟨v7, e8, h⟩ := jcl_some h
      refine j_vi (pc := 43) hC hR [.int (x1 + (2 : Int32))] iy_X8_variableAt (q := (RX8, TX8, 2)) (ci := 8) rfl rfl (by decide) km_X2_38 dX2_readTwo_43 rfl (by decide) (ly_2_2 hL ka0).2.1 (c_X8_variableAt hL (ly_2_2 hL ka0).2.1 e8) (by decide) (Nat.le_of_ble_eq_true rfl) rfl ?_
      refine j_istore (pc := 46) hC [(4, .int v7), (3, .int v4), (2, .int v1), (0, .ref (L.2.2 a0)), (1, .int x1)] dX2_readTwo_46 (by decide) rfl rfl ?_
      refine j_iload (pc := 48) hC 0 dX2_readTwo_48 rfl ?_
      refine j_iconst (pc := 50) hC (-1 : Int32) dX2_readTwo_50 (by decide) ?_
      refine j_icmp_eq (pc := 51) hC 60 dX2_readTwo_51 (by decide) (fun c9 => ?_) (fun c9 => ?_)
      · rw [if_pos c9] at h
        refine j_bipush (pc := 60) hC (-3 : Int32) dX2_readTwo_60 (by decide) ?_
        refine j_iload_n (pc := 62) hC 1 4 dX2_readTwo_62 rfl rfl ?_
        refine j_isub (pc := 63) hC dX2_readTwo_63 ?_
        obtain ⟨rfl, rfl⟩ := Prod.mk.inj (Option.some.inj h)
        exact j_iret (pc := 64) hC dX2_readTwo_64 rfl
      · rw [if_neg c9] at h
        refine j_iload (pc := 54) hC 0 dX2_readTwo_54 rfl ?_
        refine j_iload_n (pc := 56) hC 2 2 dX2_readTwo_56 rfl rfl ?_
        refine j_icmp_ne (pc := 57) hC 65 dX2_readTwo_57 (by decide) (fun c10 => ?_) (fun c10 => ?_)
        · rw [if_neg c10] at h
          refine j_aload_n (pc := 65) hC 0 3 dX2_readTwo_65 rfl rfl ?_
          refine jgr_2 (pc := 66) hC 2 (by decide) rfl kf_X2_15 dX2_readTwo_66 ka0 (ly_2_2 hL ka0).1 ?_
          refine j_iload_n (pc := 69) hC 1 4 dX2_readTwo_69 rfl rfl ?_
          refine j_iconst (pc := 70) hC (3 : Int32) dX2_readTwo_70 (by decide) ?_
          refine j_iadd (pc := 71) hC dX2_readTwo_71 ?_
          obtain ⟨v11, e12, h⟩ := jcl_some h
          refine j_vi (pc := 72) hC hR [.int (x1 + (3 : Int32))] iy_X8_signAt (q := (RX8, TX8, 2)) (ci := 8) rfl rfl (by decide) km_X2_28 dX2_readTwo_72 rfl (by decide) (ly_2_2 hL ka0).2.1 (c_X8_signAt hL (ly_2_2 hL ka0).2.1 e12) (by decide) (Nat.le_of_ble_eq_true rfl) rfl ?_
          refine j_istore (pc := 75) hC [(5, .int v11), (4, .int v7), (3, .int v4), (2, .int v1), (0, .ref (L.2.2 a0)), (1, .int x1)] dX2_readTwo_75 (by decide) rfl rfl ?_
          refine j_iload (pc := 77) hC 0 dX2_readTwo_77 rfl ?_
          refine j_bipush (pc := 79) hC (43 : Int32) dX2_readTwo_79 (by decide) ?_
          obtain ⟨k13, e15, h⟩ := jbd_ex h
          have q14 : k13 = some ((r, μ')) → jJ X G 7 L 0 0 (jQM X G L (some (.int r)) μ' 0 0) 104 [(0, .ref (L.2.2 a0)), (1, .int x1), (2, .int v1), (3, .int v4), (4, .int v7), (5, .int v11)] [] μ := by
            intro h
            rw [e15] at h
            refine j_aload_n (pc := 104) hC 0 0 dX2_readTwo_104 rfl rfl ?_
            refine jgr_2 (pc := 105) hC 2 (by decide) rfl kf_X2_15 dX2_readTwo_105 ka0 (ly_2_2 hL ka0).1 ?_
            refine j_iload_n (pc := 108) hC 1 1 dX2_readTwo_108 rfl rfl ?_
            refine j_iconst (pc := 109) hC (4 : Int32) dX2_readTwo_109 (by decide) ?_
            refine j_iadd (pc := 110) hC dX2_readTwo_110 ?_
            obtain ⟨v16, e17, h⟩ := jcl_some h
            refine j_vi (pc := 111) hC hR [.int (x1 + (4 : Int32))] iy_X8_digitAt (q := (RX8, TX8, 2)) (ci := 8) rfl rfl (by decide) km_X2_48 dX2_readTwo_111 rfl (by decide) (ly_2_2 hL ka0).2.1 (c_X8_digitAt hL (ly_2_2 hL ka0).2.1 e17) (by decide) (Nat.le_of_ble_eq_true rfl) rfl ?_
            refine j_istore (pc := 114) hC [(6, .int v16), (0, .ref (L.2.2 a0)), (1, .int x1), (2, .int v1), (3, .int v4), (4, .int v7), (5, .int v11)] dX2_readTwo_114 (by decide) rfl rfl ?_
            refine j_iload (pc := 116) hC 0 dX2_readTwo_116 rfl ?_
            refine j_iconst (pc := 118) hC (-1 : Int32) dX2_readTwo_118 (by decide) ?_
            refine j_icmp_ne (pc := 119) hC 127 dX2_readTwo_119 (by decide) (fun c18 => ?_) (fun c18 => ?_)
            · rw [if_neg c18] at h
              refine j_aload_n (pc := 127) hC 0 1 dX2_readTwo_127 rfl rfl ?_
              refine j_iload_n (pc := 128) hC 3 4 dX2_readTwo_128 rfl rfl ?_
              refine j_iload_n (pc := 129) hC 2 3 dX2_readTwo_129 rfl rfl ?_
              refine j_iload (pc := 130) hC 5 dX2_readTwo_130 rfl ?_
              refine j_iload (pc := 132) hC 6 dX2_readTwo_132 rfl ?_
              refine j_bipush (pc := 134) hC (43 : Int32) dX2_readTwo_134 (by decide) ?_
              refine jmg (B := jJ X G 7 L 0 0 (jQM X G L (some (.int r)) μ' 0 0) 147 [(6, .int v16), (0, .ref (L.2.2 a0)), (1, .int x1), (2, .int v1), (3, .int v4), (4, .int v7), (5, .int v11)] [.int ((if v11 = (43 : Int32) then v16 else -v16)), .int v7, .int v1, .int v4, .ref (L.2.2 a0)] μ) (fun hj => ?_) ?_
              · refine j_icmp_ne (pc := 136) hC 144 dX2_readTwo_136 (by decide) (fun c19 => ?_) (fun c19 => ?_)
                · rw [if_neg c19] at hj
                  refine j_iload (pc := 144) hC 0 dX2_readTwo_144 rfl ?_
                  refine j_ineg (pc := 146) hC dX2_readTwo_146 ?_
                  exact hj
                · rw [if_pos c19] at hj
                  refine j_iload (pc := 139) hC 0 dX2_readTwo_139 rfl ?_
                  refine j_goto (pc := 141) hC 147 dX2_readTwo_141 (by decide) ?_
                  exact hj
              obtain ⟨m20, e21, h⟩ := jcl_some h
              refine j_vv (pc := 147) hC hR [.int v4, .int v1, .int v7, .int ((if v11 = (43 : Int32) then v16 else -v16))] iy_X2_hold (q := (RX2, TX2, 3)) (ci := 2) rfl rfl (by decide) km_X2_44 dX2_readTwo_147 rfl (by decide) ka0 (c_X2_hold hL ka0 e21) (by decide) (Nat.le_of_ble_eq_true rfl) rfl ?_
              refine j_iload_n (pc := 150) hC 1 2 dX2_readTwo_150 rfl rfl ?_
              refine j_iconst (pc := 151) hC (5 : Int32) dX2_readTwo_151 (by decide) ?_
              refine j_iadd (pc := 152) hC dX2_readTwo_152 ?_
              obtain ⟨rfl, rfl⟩ := Prod.mk.inj (Option.some.inj h)
              exact j_iret (pc := 153) hC dX2_readTwo_153 rfl
            · rw [if_pos c18] at h
              refine j_bipush (pc := 122) hC (-5 : Int32) dX2_readTwo_122 (by decide) ?_
              refine j_iload_n (pc := 124) hC 1 2 dX2_readTwo_124 rfl rfl ?_
              refine j_isub (pc := 125) hC dX2_readTwo_125 ?_
              obtain ⟨rfl, rfl⟩ := Prod.mk.inj (Option.some.inj h)
              exact j_iret (pc := 126) hC dX2_readTwo_126 rfl
          refine j_icmp_eq (pc := 81) hC 104 dX2_readTwo_81 (by decide) (fun c22 => ?_) (fun c22 => ?_)
          · rw [if_pos c22] at h
            exact j_lv [4, 5, 3, 2, 1, 0] rfl (q14 h)
          · rw [if_neg c22] at h
            refine j_iload (pc := 84) hC 0 dX2_readTwo_84 rfl ?_
            refine j_bipush (pc := 86) hC (45 : Int32) dX2_readTwo_86 (by decide) ?_
            refine j_icmp_eq (pc := 88) hC 104 dX2_readTwo_88 (by decide) (fun c23 => ?_) (fun c23 => ?_)
            · rw [if_pos c23] at h
              exact j_lv [4, 5, 3, 2, 1, 0] rfl (q14 h)
            · rw [if_neg c23] at h
              refine j_aload_n (pc := 91) hC 0 4 dX2_readTwo_91 rfl rfl ?_
              refine j_iload_n (pc := 92) hC 3 2 dX2_readTwo_92 rfl rfl ?_
              refine j_iload_n (pc := 93) hC 2 3 dX2_readTwo_93 rfl rfl ?_
              refine j_iload (pc := 94) hC 1 dX2_readTwo_94 rfl ?_
              refine j_iconst (pc := 96) hC (0 : Int32) dX2_readTwo_96 (by decide) ?_
              obtain ⟨m24, e25, h⟩ := jcl_some h
              refine j_vv (pc := 97) hC hR [.int v4, .int v1, .int v7, .int (0 : Int32)] iy_X2_hold (q := (RX2, TX2, 3)) (ci := 2) rfl rfl (by decide) km_X2_44 dX2_readTwo_97 rfl (by decide) ka0 (c_X2_hold hL ka0 e25) (by decide) (Nat.le_of_ble_eq_true rfl) rfl ?_
              refine j_iload_n (pc := 100) hC 1 5 dX2_readTwo_100 rfl rfl ?_
              refine j_iconst (pc := 101) hC (3 : Int32) dX2_readTwo_101 (by decide) ?_
              refine j_iadd (pc := 102) hC dX2_readTwo_102 ?_
              obtain ⟨rfl, rfl⟩ := Prod.mk.inj (Option.some.inj h)
              exact j_iret (pc := 103) hC dX2_readTwo_103 rfl
        · rw [if_pos c10] at h
          refine j_bipush (pc := 60) hC (-3 : Int32) dX2_readTwo_60 (by decide) ?_
          refine j_iload_n (pc := 62) hC 1 4 dX2_readTwo_62 rfl rfl ?_
          refine j_isub (pc := 63) hC dX2_readTwo_63 ?_
          obtain ⟨rfl, rfl⟩ := Prod.mk.inj (Option.some.inj h)
          exact j_iret (pc := 64) hC dX2_readTwo_64 rfl
    · rw [if_pos c6] at h
      refine j_bipush (pc := 31) hC (-2 : Int32) dX2_readTwo_31 (by decide) ?_
      refine j_iload_n (pc := 33) hC 1 3 dX2_readTwo_33 rfl rfl ?_
      refine j_isub (pc := 34) hC dX2_readTwo_34 ?_
      obtain ⟨rfl, rfl⟩ := Prod.mk.inj (Option.some.inj h)
      exact j_iret (pc := 35) hC dX2_readTwo_35 rfl
  · rw [if_pos c3] at h
    refine j_iconst (pc := 14) hC (-1 : Int32) dX2_readTwo_14 (by decide) ?_
    refine j_iload_n (pc := 15) hC 1 2 dX2_readTwo_15 rfl rfl ?_
    refine j_isub (pc := 16) hC dX2_readTwo_16 ?_
    obtain ⟨rfl, rfl⟩ := Prod.mk.inj (Option.some.inj h)
    exact j_iret (pc := 17) hC dX2_readTwo_17 rfl
