theorem dX5_chosen_0 : decode cX5_chosen 0 = .ok (.iconst (-1), 1) := by decide +kernel
theorem dX5_chosen_1 : decode cX5_chosen 1 = .ok (.istore_n 1, 1) := by decide +kernel
theorem dX5_chosen_2 : decode cX5_chosen 2 = .ok (.iconst 0, 1) := by decide +kernel
theorem dX5_chosen_3 : decode cX5_chosen 3 = .ok (.istore_n 2, 1) := by decide +kernel
theorem dX5_chosen_4 : decode cX5_chosen 4 = .ok (.iload_n 2, 1) := by decide +kernel
theorem dX5_chosen_5 : decode cX5_chosen 5 = .ok (.iconst 5, 1) := by decide +kernel
theorem dX5_chosen_6 : decode cX5_chosen 6 = .ok (.if_icmp .ge 41, 3) := by decide +kernel
theorem dX5_chosen_9 : decode cX5_chosen 9 = .ok (.aload_n 0, 1) := by decide +kernel
theorem dX5_chosen_10 : decode cX5_chosen 10 = .ok (.getfield 20, 3) := by decide +kernel
theorem dX5_chosen_13 : decode cX5_chosen 13 = .ok (.getfield 68, 3) := by decide +kernel
theorem dX5_chosen_16 : decode cX5_chosen 16 = .ok (.iload_n 2, 1) := by decide +kernel
theorem dX5_chosen_17 : decode cX5_chosen 17 = .ok (.iaload, 1) := by decide +kernel
theorem dX5_chosen_18 : decode cX5_chosen 18 = .ok (.invokestatic 85, 3) := by decide +kernel
theorem dX5_chosen_21 : decode cX5_chosen 21 = .ok (.iconst 1, 1) := by decide +kernel
theorem dX5_chosen_22 : decode cX5_chosen 22 = .ok (.if_icmp .le 19, 3) := by decide +kernel
theorem dX5_chosen_25 : decode cX5_chosen 25 = .ok (.iload_n 1, 1) := by decide +kernel
theorem dX5_chosen_26 : decode cX5_chosen 26 = .ok (.iconst (-1), 1) := by decide +kernel
theorem dX5_chosen_27 : decode cX5_chosen 27 = .ok (.if_icmp .eq 12, 3) := by decide +kernel
theorem dX5_chosen_30 : decode cX5_chosen 30 = .ok (.aload_n 0, 1) := by decide +kernel
theorem dX5_chosen_31 : decode cX5_chosen 31 = .ok (.iload_n 2, 1) := by decide +kernel
theorem dX5_chosen_32 : decode cX5_chosen 32 = .ok (.iload_n 1, 1) := by decide +kernel
theorem dX5_chosen_33 : decode cX5_chosen 33 = .ok (.invokevirtual 90, 3) := by decide +kernel
theorem dX5_chosen_36 : decode cX5_chosen 36 = .ok (.ifCond .eq 5, 3) := by decide +kernel
theorem dX5_chosen_39 : decode cX5_chosen 39 = .ok (.iload_n 2, 1) := by decide +kernel
theorem dX5_chosen_40 : decode cX5_chosen 40 = .ok (.istore_n 1, 1) := by decide +kernel
theorem dX5_chosen_41 : decode cX5_chosen 41 = .ok (.iinc 2 1, 3) := by decide +kernel
theorem dX5_chosen_44 : decode cX5_chosen 44 = .ok (.goto (-40), 3) := by decide +kernel
theorem dX5_chosen_47 : decode cX5_chosen 47 = .ok (.iload_n 1, 1) := by decide +kernel
theorem dX5_chosen_48 : decode cX5_chosen 48 = .ok (.ireturn, 1) := by decide +kernel
def f_X5_chosen_L4 (a0 : Nat) (μ : jM) (u1 : Int32) (u2 : Int32) : Option ((Int32 × Int32) ⊕ (Int32)) :=
  (if (5 : Int32) ≤ u2 then some (.inr u1) else jrd (μ.1 166) u2 5 (fun v5 => (if (f_J6_bitCount_0f7a4 v5) ≤ (1 : Int32) then some (.inl ((u1, u2 + (1 : Int32)))) else (if u1 = (-1 : Int32) then some (.inl ((u2, u2 + (1 : Int32)))) else jcl (f_X5_isBetter a0 u2 u1 μ) (fun v9 => (if v9 = (0 : Int32) then some (.inl ((u1, u2 + (1 : Int32)))) else some (.inl ((u2, u2 + (1 : Int32))))))))))
def f_X5_chosen (a0 : Nat) (μ : jM) : Option (Int32) :=
  jcl (jloop (fun (s : Int32 × Int32) => f_X5_chosen_L4 a0 μ s.1 s.2) jfu (((-1 : Int32), (0 : Int32)))) (fun w12 => some w12)
set_option maxHeartbeats 4000000 in
set_option maxRecDepth 100000 in
theorem c_X5_chosen {l : Launch} {G : jG} {L : jL} (hL : jOKL L) {a0 : Nat} (ka0 : jK L a0 5) {μ : jM} {r : Int32} (h : f_X5_chosen a0 μ = some r) : jCt l G L 5 yX5_chosen cX5_chosen 3 (some .int) [.ref (L.2.2 a0)] μ (some (.int r)) μ := by
  refine jCt_of (by decide) (Nat.le_of_ble_eq_true rfl) (fun X hC hX hR => ?_)
  subst hX
  have hC : jC X G cX5_chosen 3 RX5 (some .int) := hC
  unfold f_X5_chosen at h
  show jJ X G 3 L 0 0 (jQM X G L (some (.int r)) μ 0 0) 0 [(0, .ref (L.2.2 a0))] [] μ
  refine j_iconst (pc := 0) hC (-1 : Int32) dX5_chosen_0 (by decide) ?_
  refine j_istore_n (pc := 1) hC 1 [(1, .int (-1 : Int32)), (0, .ref (L.2.2 a0))] dX5_chosen_1 rfl (by decide) rfl rfl ?_
  refine j_iconst (pc := 2) hC (0 : Int32) dX5_chosen_2 (by decide) ?_
  refine j_istore_n (pc := 3) hC 2 [(2, .int (0 : Int32)), (1, .int (-1 : Int32)), (0, .ref (L.2.2 a0))] dX5_chosen_3 rfl (by decide) rfl rfl ?_
  obtain ⟨w12, hw13, h⟩ := jcl_some h
  refine j_lv [2, 1, 0] rfl ?_
  refine j_loop (step := (fun (s : Int32 × Int32) => f_X5_chosen_L4 a0 μ s.1 s.2)) (P := (fun (s : Int32 × Int32) => jJ X G 3 L 0 0 (jQM X G L (some (.int r)) μ 0 0) 4 [(0, .ref (L.2.2 a0)), (1, .int s.1), (2, .int s.2)] [] μ)) (R := (fun (e : Int32) => jJ X G 3 L 0 0 (jQM X G L (some (.int r)) μ 0 0) 47 [(1, .int e)] [] μ)) ?_ jfu (((-1 : Int32), (0 : Int32))) w12 hw13 ?_
  · intro s14 o h hk
    obtain ⟨u1, u2⟩ := s14
    change f_X5_chosen_L4 a0 μ u1 u2 = some o at h
    unfold f_X5_chosen_L4 at h
    show jJ X G 3 L 0 0 (jQM X G L (some (.int r)) μ 0 0) 4 [(0, .ref (L.2.2 a0)), (1, .int u1), (2, .int u2)] [] μ
    refine j_iload_n (pc := 4) hC 2 2 dX5_chosen_4 rfl rfl ?_
    refine j_iconst (pc := 5) hC (5 : Int32) dX5_chosen_5 (by decide) ?_
    refine j_icmp_ge (pc := 6) hC 47 dX5_chosen_6 (by decide) (fun c3 => ?_) (fun c3 => ?_)
    · rw [if_pos c3] at h
      obtain rfl := Option.some.inj h
      have hk : jJ X G 3 L 0 0 (jQM X G L (some (.int r)) μ 0 0) 47 [(1, .int u1)] [] μ := hk
      exact j_lv [1] rfl hk
    · rw [if_neg c3] at h
      refine j_aload_n (pc := 9) hC 0 0 dX5_chosen_9 rfl rfl ?_
      refine jgr_5 (pc := 10) hC 1 (by decide) rfl kf_X5_20 dX5_chosen_10 ka0 (ly_5_1 hL ka0).1 ?_
      refine jgr_6 (pc := 13) hC 0 (by decide) rfl kf_X5_68 dX5_chosen_13 (ly_5_1 hL ka0).2.1 (ly_6_0 hL (ly_5_1 hL ka0).2.1).1 ?_
      refine j_iload_n (pc := 16) hC 2 2 dX5_chosen_16 rfl rfl ?_
      obtain ⟨i4, v5, e6, h⟩ := jrd_some h
      refine j_iald (pc := 17) hC dX5_chosen_17 (ly_6_0 hL (ly_5_1 hL ka0).2.1).2.1 (ly_6_0 hL (ly_5_1 hL ka0).2.1).2.2 i4 e6 ?_
      refine j_si (pc := 18) hC hR [.int v5] iy_J6_bitCount_0f7a4 km_X5_85 dX5_chosen_18 rfl (by decide) (c_J6_bitCount_0f7a4 hL  rfl) (by decide) (Nat.le_of_ble_eq_true rfl) rfl ?_
      refine j_iconst (pc := 21) hC (1 : Int32) dX5_chosen_21 (by decide) ?_
      refine j_icmp_le (pc := 22) hC 41 dX5_chosen_22 (by decide) (fun c7 => ?_) (fun c7 => ?_)
      · rw [if_pos c7] at h
        refine j_iinc (pc := 41) hC 2 (u2 + (1 : Int32)) [(2, .int (u2 + (1 : Int32))), (0, .ref (L.2.2 a0)), (1, .int u1)] dX5_chosen_41 rfl rfl (by decide) rfl ?_
        refine j_goto (pc := 44) hC 4 dX5_chosen_44 (by decide) ?_
        obtain rfl := Option.some.inj h
        have hk : jJ X G 3 L 0 0 (jQM X G L (some (.int r)) μ 0 0) 4 [(0, .ref (L.2.2 a0)), (1, .int u1), (2, .int (u2 + (1 : Int32)))] [] μ := hk
        exact j_lv [1, 2, 0] rfl hk
      · rw [if_neg c7] at h
        refine j_iload_n (pc := 25) hC 1 1 dX5_chosen_25 rfl rfl ?_
        refine j_iconst (pc := 26) hC (-1 : Int32) dX5_chosen_26 (by decide) ?_
        refine j_icmp_eq (pc := 27) hC 39 dX5_chosen_27 (by decide) (fun c8 => ?_) (fun c8 => ?_)
        · rw [if_pos c8] at h
          refine j_iload_n (pc := 39) hC 2 2 dX5_chosen_39 rfl rfl ?_
          refine j_istore_n (pc := 40) hC 1 [(1, .int u2), (0, .ref (L.2.2 a0)), (2, .int u2)] dX5_chosen_40 rfl (by decide) rfl rfl ?_
          refine j_iinc (pc := 41) hC 2 (u2 + (1 : Int32)) [(2, .int (u2 + (1 : Int32))), (1, .int u2), (0, .ref (L.2.2 a0))] dX5_chosen_41 rfl rfl (by decide) rfl ?_
          refine j_goto (pc := 44) hC 4 dX5_chosen_44 (by decide) ?_
          obtain rfl := Option.some.inj h
          have hk : jJ X G 3 L 0 0 (jQM X G L (some (.int r)) μ 0 0) 4 [(0, .ref (L.2.2 a0)), (1, .int u2), (2, .int (u2 + (1 : Int32)))] [] μ := hk
          exact j_lv [2, 1, 0] rfl hk
        · rw [if_neg c8] at h
          refine j_aload_n (pc := 30) hC 0 0 dX5_chosen_30 rfl rfl ?_
          refine j_iload_n (pc := 31) hC 2 2 dX5_chosen_31 rfl rfl ?_
          refine j_iload_n (pc := 32) hC 1 1 dX5_chosen_32 rfl rfl ?_
          obtain ⟨v9, e10, h⟩ := jcl_some h
          refine j_vi (pc := 33) hC hR [.int u2, .int u1] iy_X5_isBetter (q := (RX5, TX5, 8)) (ci := 5) rfl rfl (by decide) km_X5_90 dX5_chosen_33 rfl (by decide) ka0 (c_X5_isBetter hL ka0 e10) (by decide) (Nat.le_of_ble_eq_true rfl) rfl ?_
          refine j_if_eq (pc := 36) hC 41 dX5_chosen_36 (by decide) (fun c11 => ?_) (fun c11 => ?_)
          · rw [if_pos c11] at h
            refine j_iinc (pc := 41) hC 2 (u2 + (1 : Int32)) [(2, .int (u2 + (1 : Int32))), (0, .ref (L.2.2 a0)), (1, .int u1)] dX5_chosen_41 rfl rfl (by decide) rfl ?_
            refine j_goto (pc := 44) hC 4 dX5_chosen_44 (by decide) ?_
            obtain rfl := Option.some.inj h
            have hk : jJ X G 3 L 0 0 (jQM X G L (some (.int r)) μ 0 0) 4 [(0, .ref (L.2.2 a0)), (1, .int u1), (2, .int (u2 + (1 : Int32)))] [] μ := hk
            exact j_lv [1, 2, 0] rfl hk
          · rw [if_neg c11] at h
            refine j_iload_n (pc := 39) hC 2 2 dX5_chosen_39 rfl rfl ?_
            refine j_istore_n (pc := 40) hC 1 [(1, .int u2), (0, .ref (L.2.2 a0)), (2, .int u2)] dX5_chosen_40 rfl (by decide) rfl rfl ?_
            refine j_iinc (pc := 41) hC 2 (u2 + (1 : Int32)) [(2, .int (u2 + (1 : Int32))), (1, .int u2), (0, .ref (L.2.2 a0))] dX5_chosen_41 rfl rfl (by decide) rfl ?_
            refine j_goto (pc := 44) hC 4 dX5_chosen_44 (by decide) ?_
            obtain rfl := Option.some.inj h
            have hk : jJ X G 3 L 0 0 (jQM X G L (some (.int r)) μ 0 0) 4 [(0, .ref (L.2.2 a0)), (1, .int u2), (2, .int (u2 + (1 : Int32)))] [] μ := hk
            exact j_lv [2, 1, 0] rfl hk
  · obtain ⟨z15, rfl⟩ : ∃ y, y = w12 := ⟨_, rfl⟩
    try dsimp only at h
    show jJ X G 3 L 0 0 (jQM X G L (some (.int r)) μ 0 0) 47 [(1, .int z15)] [] μ
    refine j_iload_n (pc := 47) hC 1 0 dX5_chosen_47 rfl rfl ?_
    obtain rfl := Option.some.inj h
    exact j_iret (pc := 48) hC dX5_chosen_48 rfl
theorem dX5_enter_0 : decode cX5_enter 0 = .ok (.aload_n 0, 1) := by decide +kernel
theorem dX5_enter_1 : decode cX5_enter 1 = .ok (.dup, 1) := by decide +kernel
theorem dX5_enter_2 : decode cX5_enter 2 = .ok (.getfield 28, 3) := by decide +kernel
theorem dX5_enter_5 : decode cX5_enter 5 = .ok (.iconst 1, 1) := by decide +kernel
theorem dX5_enter_6 : decode cX5_enter 6 = .ok (.iadd, 1) := by decide +kernel
theorem dX5_enter_7 : decode cX5_enter 7 = .ok (.putfield 28, 3) := by decide +kernel
theorem dX5_enter_10 : decode cX5_enter 10 = .ok (.aload_n 0, 1) := by decide +kernel
theorem dX5_enter_11 : decode cX5_enter 11 = .ok (.aload_n 0, 1) := by decide +kernel
theorem dX5_enter_12 : decode cX5_enter 12 = .ok (.getfield 34, 3) := by decide +kernel
theorem dX5_enter_15 : decode cX5_enter 15 = .ok (.iload_n 3, 1) := by decide +kernel
theorem dX5_enter_16 : decode cX5_enter 16 = .ok (.iconst 1, 1) := by decide +kernel
theorem dX5_enter_17 : decode cX5_enter 17 = .ok (.iadd, 1) := by decide +kernel
theorem dX5_enter_18 : decode cX5_enter 18 = .ok (.invokestatic 79, 3) := by decide +kernel
theorem dX5_enter_21 : decode cX5_enter 21 = .ok (.putfield 34, 3) := by decide +kernel
theorem dX5_enter_24 : decode cX5_enter 24 = .ok (.aload_n 0, 1) := by decide +kernel
theorem dX5_enter_25 : decode cX5_enter 25 = .ok (.getfield 20, 3) := by decide +kernel
theorem dX5_enter_28 : decode cX5_enter 28 = .ok (.getfield 68, 3) := by decide +kernel
theorem dX5_enter_31 : decode cX5_enter 31 = .ok (.iload_n 1, 1) := by decide +kernel
theorem dX5_enter_32 : decode cX5_enter 32 = .ok (.iconst 1, 1) := by decide +kernel
theorem dX5_enter_33 : decode cX5_enter 33 = .ok (.iload_n 2, 1) := by decide +kernel
theorem dX5_enter_34 : decode cX5_enter 34 = .ok (.ishl, 1) := by decide +kernel
theorem dX5_enter_35 : decode cX5_enter 35 = .ok (.iastore, 1) := by decide +kernel
theorem dX5_enter_36 : decode cX5_enter 36 = .ok (.aload_n 0, 1) := by decide +kernel
theorem dX5_enter_37 : decode cX5_enter 37 = .ok (.getfield 20, 3) := by decide +kernel
theorem dX5_enter_40 : decode cX5_enter 40 = .ok (.aload_n 0, 1) := by decide +kernel
theorem dX5_enter_41 : decode cX5_enter 41 = .ok (.getfield 16, 3) := by decide +kernel
theorem dX5_enter_44 : decode cX5_enter 44 = .ok (.sipush 255, 3) := by decide +kernel
theorem dX5_enter_47 : decode cX5_enter 47 = .ok (.invokevirtual 46, 3) := by decide +kernel
theorem dX5_enter_50 : decode cX5_enter 50 = .ok (.ifCond .ne 25, 3) := by decide +kernel
theorem dX5_enter_53 : decode cX5_enter 53 = .ok (.aload_n 0, 1) := by decide +kernel
theorem dX5_enter_54 : decode cX5_enter 54 = .ok (.dup, 1) := by decide +kernel
theorem dX5_enter_55 : decode cX5_enter 55 = .ok (.getfield 31, 3) := by decide +kernel
theorem dX5_enter_58 : decode cX5_enter 58 = .ok (.iconst 1, 1) := by decide +kernel
theorem dX5_enter_59 : decode cX5_enter 59 = .ok (.iadd, 1) := by decide +kernel
theorem dX5_enter_60 : decode cX5_enter 60 = .ok (.putfield 31, 3) := by decide +kernel
theorem dX5_enter_63 : decode cX5_enter 63 = .ok (.aload_n 0, 1) := by decide +kernel
theorem dX5_enter_64 : decode cX5_enter 64 = .ok (.dup, 1) := by decide +kernel
theorem dX5_enter_65 : decode cX5_enter 65 = .ok (.getfield 37, 3) := by decide +kernel
theorem dX5_enter_68 : decode cX5_enter 68 = .ok (.iconst 1, 1) := by decide +kernel
theorem dX5_enter_69 : decode cX5_enter 69 = .ok (.iadd, 1) := by decide +kernel
theorem dX5_enter_70 : decode cX5_enter 70 = .ok (.putfield 37, 3) := by decide +kernel
theorem dX5_enter_73 : decode cX5_enter 73 = .ok (.iconst 0, 1) := by decide +kernel
theorem dX5_enter_74 : decode cX5_enter 74 = .ok (.ireturn, 1) := by decide +kernel
theorem dX5_enter_75 : decode cX5_enter 75 = .ok (.aload_n 0, 1) := by decide +kernel
theorem dX5_enter_76 : decode cX5_enter 76 = .ok (.dup, 1) := by decide +kernel
theorem dX5_enter_77 : decode cX5_enter 77 = .ok (.getfield 37, 3) := by decide +kernel
theorem dX5_enter_80 : decode cX5_enter 80 = .ok (.aload_n 0, 1) := by decide +kernel
theorem dX5_enter_81 : decode cX5_enter 81 = .ok (.aload_n 0, 1) := by decide +kernel
theorem dX5_enter_82 : decode cX5_enter 82 = .ok (.getfield 11, 3) := by decide +kernel
theorem dX5_enter_85 : decode cX5_enter 85 = .ok (.iload_n 3, 1) := by decide +kernel
theorem dX5_enter_86 : decode cX5_enter 86 = .ok (.aaload, 1) := by decide +kernel
theorem dX5_enter_87 : decode cX5_enter 87 = .ok (.invokevirtual 56, 3) := by decide +kernel
theorem dX5_enter_90 : decode cX5_enter 90 = .ok (.iadd, 1) := by decide +kernel
theorem dX5_enter_91 : decode cX5_enter 91 = .ok (.putfield 37, 3) := by decide +kernel
theorem dX5_enter_94 : decode cX5_enter 94 = .ok (.aload_n 0, 1) := by decide +kernel
theorem dX5_enter_95 : decode cX5_enter 95 = .ok (.iload_n 3, 1) := by decide +kernel
theorem dX5_enter_96 : decode cX5_enter 96 = .ok (.iconst 1, 1) := by decide +kernel
theorem dX5_enter_97 : decode cX5_enter 97 = .ok (.iadd, 1) := by decide +kernel
theorem dX5_enter_98 : decode cX5_enter 98 = .ok (.invokevirtual 60, 3) := by decide +kernel
theorem dX5_enter_101 : decode cX5_enter 101 = .ok (.ireturn, 1) := by decide +kernel
def fb_X5_enter (rA : Nat → Int32 → jM → Option (Int32 × jM)) (a0 : Nat) (x1 : Int32) (x2 : Int32) (x3 : Int32) (μ : jM) : Option (Int32 × jM) :=
  jbd (jsi μ a0 4 ((μ.1 a0 4) + (1 : Int32))) (fun m1 => jbd (jsi m1 a0 6 (jmax (m1.1 a0 6) (x3 + (1 : Int32)))) (fun m3 => jin x1 5 (jbd (jsi m3 166 x1.toNatClampNeg ((1 : Int32) <<< (x2 &&& 31))) (fun m6 => jcl2 (f_X6_spread 165 6 (255 : Int32) m6) (fun v8 m9 => (if v8 = (0 : Int32) then jbd (jsi m9 a0 5 ((m9.1 a0 5) + (1 : Int32))) (fun m20 => jbd (jsi m20 a0 7 ((m20.1 a0 7) + (1 : Int32))) (fun m22 => some (((0 : Int32), m22)))) else jin x3 5 (jcl (f_X5_changesSince a0 ((a0 + 2) + 1 * x3.toNatClampNeg) m9) (fun v13 => jbd (jsi m9 a0 7 ((m9.1 a0 7) + v13)) (fun m15 => jcl2 (rA a0 (x3 + (1 : Int32)) m15) (fun v17 m18 => some ((v17, m18))))))))))))
set_option maxHeartbeats 4000000 in
set_option maxRecDepth 100000 in
theorem cb_X5_enter {l : Launch} {G : jG} {L : jL} (hL : jOKL L) {dA : Nat} (hD : 5 ≤ dA) {rA : Nat → Int32 → jM → Option (Int32 × jM)} (hA : ∀ {b0 : Nat} {b1 : Int32} {μ1 μ2 : jM} {r : Int32}, jK L b0 5 → rA b0 b1 μ1 = some (r, μ2) → jCt l G L dA yX5_seekIn cX5_seekIn 6 (some .int) [.ref (L.2.2 b0), .int b1] μ1 (some (.int r)) μ2) {a0 : Nat} {x1 : Int32} {x2 : Int32} {x3 : Int32} (ka0 : jK L a0 5) {μ μ' : jM} {r : Int32} (h : fb_X5_enter rA a0 x1 x2 x3 μ = some ((r, μ'))) : jCt l G L (dA + 1) yX5_enter cX5_enter 4 (some .int) [.ref (L.2.2 a0), .int x1, .int x2, .int x3] μ (some (.int r)) μ' := by
  refine jCt_of (by decide) (Nat.le_of_ble_eq_true rfl) (fun X hC hX hR => ?_)
  subst hX
  have hC : jC X G cX5_enter 4 RX5 (some .int) := hC
  unfold fb_X5_enter at h
  show jJ X G 4 L 0 0 (jQM X G L (some (.int r)) μ' 0 0) 0 [(0, .ref (L.2.2 a0)), (1, .int x1), (2, .int x2), (3, .int x3)] [] μ
  refine j_aload_n (pc := 0) hC 0 0 dX5_enter_0 rfl rfl ?_
  refine j_dup (pc := 1) hC dX5_enter_1 rfl ?_
  refine jgi_5 (pc := 2) hC 4 (by decide) rfl kf_X5_28 dX5_enter_2 ka0 ?_
  refine j_iconst (pc := 5) hC (1 : Int32) dX5_enter_5 (by decide) ?_
  refine j_iadd (pc := 6) hC dX5_enter_6 ?_
  obtain ⟨m1, e2, h⟩ := jbd_ex h
  refine jpi_5 (pc := 7) hC 4 (by decide) rfl kf_X5_28 dX5_enter_7 rfl (by decide) ka0 e2 ?_
  refine j_aload_n (pc := 10) hC 0 0 dX5_enter_10 rfl rfl ?_
  refine j_aload_n (pc := 11) hC 0 0 dX5_enter_11 rfl rfl ?_
  refine jgi_5 (pc := 12) hC 6 (by decide) rfl kf_X5_34 dX5_enter_12 ka0 ?_
  refine j_iload_n (pc := 15) hC 3 3 dX5_enter_15 rfl rfl ?_
  refine j_iconst (pc := 16) hC (1 : Int32) dX5_enter_16 (by decide) ?_
  refine j_iadd (pc := 17) hC dX5_enter_17 ?_
  refine j_mmax (pc := 18) hC hR kx_X5_79 dX5_enter_18 (by omega) (Nat.le_of_ble_eq_true rfl) ?_
  obtain ⟨m3, e4, h⟩ := jbd_ex h
  refine jpi_5 (pc := 21) hC 6 (by decide) rfl kf_X5_34 dX5_enter_21 rfl (by decide) ka0 e4 ?_
  refine j_aload_n (pc := 24) hC 0 0 dX5_enter_24 rfl rfl ?_
  refine jgr_5 (pc := 25) hC 1 (by decide) rfl kf_X5_20 dX5_enter_25 ka0 (ly_5_1 hL ka0).1 ?_
  refine jgr_6 (pc := 28) hC 0 (by decide) rfl kf_X5_68 dX5_enter_28 (ly_5_1 hL ka0).2.1 (ly_6_0 hL (ly_5_1 hL ka0).2.1).1 ?_
  refine j_iload_n (pc := 31) hC 1 1 dX5_enter_31 rfl rfl ?_
  refine j_iconst (pc := 32) hC (1 : Int32) dX5_enter_32 (by decide) ?_
  refine j_iload_n (pc := 33) hC 2 2 dX5_enter_33 rfl rfl ?_
  refine j_ishl (pc := 34) hC dX5_enter_34 ?_
  obtain ⟨i5, h⟩ := jin_some h
  obtain ⟨m6, e7, h⟩ := jbd_ex h
  refine j_iast (pc := 35) hC dX5_enter_35 (ly_6_0 hL (ly_5_1 hL ka0).2.1).2.1 (ly_6_0 hL (ly_5_1 hL ka0).2.1).2.2 i5 e7 ?_
  refine j_aload_n (pc := 36) hC 0 0 dX5_enter_36 rfl rfl ?_
  refine jgr_5 (pc := 37) hC 1 (by decide) rfl kf_X5_20 dX5_enter_37 ka0 (ly_5_1 hL ka0).1 ?_
  refine j_aload_n (pc := 40) hC 0 0 dX5_enter_40 rfl rfl ?_
  refine jgr_5 (pc := 41) hC 0 (by decide) rfl kf_X5_16 dX5_enter_41 ka0 (ly_5_0 hL ka0).1 ?_
  refine j_sipush (pc := 44) hC (255 : Int32) dX5_enter_44 (by decide) ?_
  obtain ⟨v8, m9, e10, h⟩ := jcl2_some h
  refine j_vi (pc := 47) hC hR [.ref (L.2.2 6), .int (255 : Int32)] iy_X6_spread (q := (RX6, TX6, 1)) (ci := 6) rfl rfl (by decide) km_X5_46 dX5_enter_47 rfl (by decide) (ly_5_1 hL ka0).2.1 (c_X6_spread hL (ly_5_1 hL ka0).2.1 (ly_5_0 hL ka0).2.1 e10) (by omega) (Nat.le_of_ble_eq_true rfl) rfl ?_
  refine j_if_ne (pc := 50) hC 75 dX5_enter_50 (by decide) (fun c11 => ?_) (fun c11 => ?_)
  · rw [if_neg c11] at h
    refine j_aload_n (pc := 75) hC 0 0 dX5_enter_75 rfl rfl ?_
    refine j_dup (pc := 76) hC dX5_enter_76 rfl ?_
    refine jgi_5 (pc := 77) hC 7 (by decide) rfl kf_X5_37 dX5_enter_77 ka0 ?_
    refine j_aload_n (pc := 80) hC 0 0 dX5_enter_80 rfl rfl ?_
    refine j_aload_n (pc := 81) hC 0 0 dX5_enter_81 rfl rfl ?_
    refine jgr_5 (pc := 82) hC 2 (by decide) rfl kf_X5_11 dX5_enter_82 ka0 (ly_5_2 hL ka0).1 ?_
    refine j_iload_n (pc := 85) hC 3 3 dX5_enter_85 rfl rfl ?_
    obtain ⟨i12, h⟩ := jin_some h
    refine j_aaldI (pc := 86) hC  dX5_enter_86 (ly_5_2 hL ka0).2.1 (le_18 hL (ly_5_2 hL ka0).2.1 (jlt i12)).1 i12 (le_18 hL (ly_5_2 hL ka0).2.1 (jlt i12)).2.1 ?_
    obtain ⟨v13, e14, h⟩ := jcl_some h
    refine j_vi (pc := 87) hC hR [.ref (L.2.2 ((a0 + 2) + 1 * x3.toNatClampNeg))] iy_X5_changesSince (q := (RX5, TX5, 8)) (ci := 5) rfl rfl (by decide) km_X5_56 dX5_enter_87 rfl (by decide) ka0 (c_X5_changesSince hL ka0 (le_18 hL (ly_5_2 hL ka0).2.1 (jlt i12)).2.2.1 e14) (by omega) (Nat.le_of_ble_eq_true rfl) rfl ?_
    refine j_iadd (pc := 90) hC dX5_enter_90 ?_
    obtain ⟨m15, e16, h⟩ := jbd_ex h
    refine jpi_5 (pc := 91) hC 7 (by decide) rfl kf_X5_37 dX5_enter_91 rfl (by decide) ka0 e16 ?_
    refine j_aload_n (pc := 94) hC 0 0 dX5_enter_94 rfl rfl ?_
    refine j_iload_n (pc := 95) hC 3 3 dX5_enter_95 rfl rfl ?_
    refine j_iconst (pc := 96) hC (1 : Int32) dX5_enter_96 (by decide) ?_
    refine j_iadd (pc := 97) hC dX5_enter_97 ?_
    obtain ⟨v17, m18, e19, h⟩ := jcl2_some h
    refine j_vi (pc := 98) hC hR [.int (x3 + (1 : Int32))] iy_X5_seekIn (q := (RX5, TX5, 8)) (ci := 5) rfl rfl (by decide) km_X5_60 dX5_enter_98 rfl (by decide) ka0 (hA ka0 e19) (by omega) (Nat.le_of_ble_eq_true rfl) rfl ?_
    obtain ⟨rfl, rfl⟩ := Prod.mk.inj (Option.some.inj h)
    exact j_iret (pc := 101) hC dX5_enter_101 rfl
  · rw [if_pos c11] at h
    refine j_aload_n (pc := 53) hC 0 0 dX5_enter_53 rfl rfl ?_
    refine j_dup (pc := 54) hC dX5_enter_54 rfl ?_
    refine jgi_5 (pc := 55) hC 5 (by decide) rfl kf_X5_31 dX5_enter_55 ka0 ?_
    refine j_iconst (pc := 58) hC (1 : Int32) dX5_enter_58 (by decide) ?_
    refine j_iadd (pc := 59) hC dX5_enter_59 ?_
    obtain ⟨m20, e21, h⟩ := jbd_ex h
    refine jpi_5 (pc := 60) hC 5 (by decide) rfl kf_X5_31 dX5_enter_60 rfl (by decide) ka0 e21 ?_
    refine j_aload_n (pc := 63) hC 0 0 dX5_enter_63 rfl rfl ?_
    refine j_dup (pc := 64) hC dX5_enter_64 rfl ?_
    refine jgi_5 (pc := 65) hC 7 (by decide) rfl kf_X5_37 dX5_enter_65 ka0 ?_
    refine j_iconst (pc := 68) hC (1 : Int32) dX5_enter_68 (by decide) ?_
    refine j_iadd (pc := 69) hC dX5_enter_69 ?_
    obtain ⟨m22, e23, h⟩ := jbd_ex h
    refine jpi_5 (pc := 70) hC 7 (by decide) rfl kf_X5_37 dX5_enter_70 rfl (by decide) ka0 e23 ?_
    refine j_iconst (pc := 73) hC (0 : Int32) dX5_enter_73 (by decide) ?_
    obtain ⟨rfl, rfl⟩ := Prod.mk.inj (Option.some.inj h)
    exact j_iret (pc := 74) hC dX5_enter_74 rfl
theorem dX5_seekIn_0 : decode cX5_seekIn 0 = .ok (.aload_n 0, 1) := by decide +kernel
theorem dX5_seekIn_1 : decode cX5_seekIn 1 = .ok (.invokevirtual 64, 3) := by decide +kernel
theorem dX5_seekIn_4 : decode cX5_seekIn 4 = .ok (.istore_n 2, 1) := by decide +kernel
theorem dX5_seekIn_5 : decode cX5_seekIn 5 = .ok (.iload_n 2, 1) := by decide +kernel
theorem dX5_seekIn_6 : decode cX5_seekIn 6 = .ok (.iconst (-1), 1) := by decide +kernel
theorem dX5_seekIn_7 : decode cX5_seekIn 7 = .ok (.if_icmp .ne 5, 3) := by decide +kernel
theorem dX5_seekIn_10 : decode cX5_seekIn 10 = .ok (.iconst 1, 1) := by decide +kernel
theorem dX5_seekIn_11 : decode cX5_seekIn 11 = .ok (.ireturn, 1) := by decide +kernel
theorem dX5_seekIn_12 : decode cX5_seekIn 12 = .ok (.iload_n 1, 1) := by decide +kernel
theorem dX5_seekIn_13 : decode cX5_seekIn 13 = .ok (.iconst 5, 1) := by decide +kernel
theorem dX5_seekIn_14 : decode cX5_seekIn 14 = .ok (.if_icmp .lt 5, 3) := by decide +kernel
theorem dX5_seekIn_17 : decode cX5_seekIn 17 = .ok (.iconst 0, 1) := by decide +kernel
theorem dX5_seekIn_18 : decode cX5_seekIn 18 = .ok (.ireturn, 1) := by decide +kernel
theorem dX5_seekIn_19 : decode cX5_seekIn 19 = .ok (.aload_n 0, 1) := by decide +kernel
theorem dX5_seekIn_20 : decode cX5_seekIn 20 = .ok (.getfield 11, 3) := by decide +kernel
theorem dX5_seekIn_23 : decode cX5_seekIn 23 = .ok (.iload_n 1, 1) := by decide +kernel
theorem dX5_seekIn_24 : decode cX5_seekIn 24 = .ok (.aaload, 1) := by decide +kernel
theorem dX5_seekIn_25 : decode cX5_seekIn 25 = .ok (.astore_n 3, 1) := by decide +kernel
theorem dX5_seekIn_26 : decode cX5_seekIn 26 = .ok (.aload_n 0, 1) := by decide +kernel
theorem dX5_seekIn_27 : decode cX5_seekIn 27 = .ok (.getfield 20, 3) := by decide +kernel
theorem dX5_seekIn_30 : decode cX5_seekIn 30 = .ok (.getfield 68, 3) := by decide +kernel
theorem dX5_seekIn_33 : decode cX5_seekIn 33 = .ok (.iconst 0, 1) := by decide +kernel
theorem dX5_seekIn_34 : decode cX5_seekIn 34 = .ok (.aload_n 3, 1) := by decide +kernel
theorem dX5_seekIn_35 : decode cX5_seekIn 35 = .ok (.iconst 0, 1) := by decide +kernel
theorem dX5_seekIn_36 : decode cX5_seekIn 36 = .ok (.iconst 5, 1) := by decide +kernel
theorem dX5_seekIn_37 : decode cX5_seekIn 37 = .ok (.invokestatic 69, 3) := by decide +kernel
theorem dX5_seekIn_40 : decode cX5_seekIn 40 = .ok (.iconst 0, 1) := by decide +kernel
theorem dX5_seekIn_41 : decode cX5_seekIn 41 = .ok (.istore 4, 2) := by decide +kernel
theorem dX5_seekIn_43 : decode cX5_seekIn 43 = .ok (.iload 4, 2) := by decide +kernel
theorem dX5_seekIn_45 : decode cX5_seekIn 45 = .ok (.bipush 6, 2) := by decide +kernel
theorem dX5_seekIn_47 : decode cX5_seekIn 47 = .ok (.if_icmp .ge 65, 3) := by decide +kernel
theorem dX5_seekIn_50 : decode cX5_seekIn 50 = .ok (.aload_n 3, 1) := by decide +kernel
theorem dX5_seekIn_51 : decode cX5_seekIn 51 = .ok (.iload_n 2, 1) := by decide +kernel
theorem dX5_seekIn_52 : decode cX5_seekIn 52 = .ok (.iaload, 1) := by decide +kernel
theorem dX5_seekIn_53 : decode cX5_seekIn 53 = .ok (.iload 4, 2) := by decide +kernel
theorem dX5_seekIn_55 : decode cX5_seekIn 55 = .ok (.iushr, 1) := by decide +kernel
theorem dX5_seekIn_56 : decode cX5_seekIn 56 = .ok (.iconst 1, 1) := by decide +kernel
theorem dX5_seekIn_57 : decode cX5_seekIn 57 = .ok (.iand, 1) := by decide +kernel
theorem dX5_seekIn_58 : decode cX5_seekIn 58 = .ok (.iconst 1, 1) := by decide +kernel
theorem dX5_seekIn_59 : decode cX5_seekIn 59 = .ok (.if_icmp .ne 47, 3) := by decide +kernel
theorem dX5_seekIn_62 : decode cX5_seekIn 62 = .ok (.aload_n 0, 1) := by decide +kernel
theorem dX5_seekIn_63 : decode cX5_seekIn 63 = .ok (.getfield 28, 3) := by decide +kernel
theorem dX5_seekIn_66 : decode cX5_seekIn 66 = .ok (.sipush 200, 3) := by decide +kernel
theorem dX5_seekIn_69 : decode cX5_seekIn 69 = .ok (.if_icmp .lt 5, 3) := by decide +kernel
theorem dX5_seekIn_72 : decode cX5_seekIn 72 = .ok (.iconst 2, 1) := by decide +kernel
theorem dX5_seekIn_73 : decode cX5_seekIn 73 = .ok (.ireturn, 1) := by decide +kernel
theorem dX5_seekIn_74 : decode cX5_seekIn 74 = .ok (.aload_n 0, 1) := by decide +kernel
theorem dX5_seekIn_75 : decode cX5_seekIn 75 = .ok (.iload_n 2, 1) := by decide +kernel
theorem dX5_seekIn_76 : decode cX5_seekIn 76 = .ok (.iload 4, 2) := by decide +kernel
theorem dX5_seekIn_78 : decode cX5_seekIn 78 = .ok (.iload_n 1, 1) := by decide +kernel
theorem dX5_seekIn_79 : decode cX5_seekIn 79 = .ok (.invokevirtual 75, 3) := by decide +kernel
theorem dX5_seekIn_82 : decode cX5_seekIn 82 = .ok (.istore 5, 2) := by decide +kernel
theorem dX5_seekIn_84 : decode cX5_seekIn 84 = .ok (.iload 5, 2) := by decide +kernel
theorem dX5_seekIn_86 : decode cX5_seekIn 86 = .ok (.ifCond .eq 6, 3) := by decide +kernel
theorem dX5_seekIn_89 : decode cX5_seekIn 89 = .ok (.iload 5, 2) := by decide +kernel
theorem dX5_seekIn_91 : decode cX5_seekIn 91 = .ok (.ireturn, 1) := by decide +kernel
theorem dX5_seekIn_92 : decode cX5_seekIn 92 = .ok (.aload_n 3, 1) := by decide +kernel
theorem dX5_seekIn_93 : decode cX5_seekIn 93 = .ok (.iconst 0, 1) := by decide +kernel
theorem dX5_seekIn_94 : decode cX5_seekIn 94 = .ok (.aload_n 0, 1) := by decide +kernel
theorem dX5_seekIn_95 : decode cX5_seekIn 95 = .ok (.getfield 20, 3) := by decide +kernel
theorem dX5_seekIn_98 : decode cX5_seekIn 98 = .ok (.getfield 68, 3) := by decide +kernel
theorem dX5_seekIn_101 : decode cX5_seekIn 101 = .ok (.iconst 0, 1) := by decide +kernel
theorem dX5_seekIn_102 : decode cX5_seekIn 102 = .ok (.iconst 5, 1) := by decide +kernel
theorem dX5_seekIn_103 : decode cX5_seekIn 103 = .ok (.invokestatic 69, 3) := by decide +kernel
theorem dX5_seekIn_106 : decode cX5_seekIn 106 = .ok (.iinc 4 1, 3) := by decide +kernel
theorem dX5_seekIn_109 : decode cX5_seekIn 109 = .ok (.goto (-66), 3) := by decide +kernel
theorem dX5_seekIn_112 : decode cX5_seekIn 112 = .ok (.iconst 0, 1) := by decide +kernel
theorem dX5_seekIn_113 : decode cX5_seekIn 113 = .ok (.ireturn, 1) := by decide +kernel
def f_X5_seekIn_L43 (a0 : Nat) (x1 : Int32) (rA : Nat → Int32 → jM → Option (Int32 × jM)) (v1 : Int32) (u9 : Int32) (m10 : jM) : Option ((Int32 × jM) ⊕ ((jM) ⊕ ((Int32 × jM) ⊕ (jM)))) :=
  (if (6 : Int32) ≤ u9 then some (.inr (.inr (.inr (m10)))) else jrd (m10.1 ((a0 + 2) + 1 * x1.toNatClampNeg)) v1 5 (fun v13 => (if ((jushr v13 u9) &&& (1 : Int32)) = (1 : Int32) then (if (m10.1 a0 4) < (200 : Int32) then jcl2 (fb_X5_enter rA a0 v1 u9 x1 m10) (fun v17 m18 => (if v17 = (0 : Int32) then jcpq (0 : Int32) (0 : Int32) (5 : Int32) 5 5 (jbd (jcp m18 ((a0 + 2) + 1 * x1.toNatClampNeg) (0 : Int32).toNatClampNeg 166 (0 : Int32).toNatClampNeg (5 : Int32).toNatClampNeg) (fun m22 => some (.inl ((u9 + (1 : Int32), m22))))) else some (.inr (.inr (.inl ((v17, m18))))))) else some (.inr (.inl m10))) else some (.inl ((u9 + (1 : Int32), m10))))))
def fb_X5_seekIn (rA : Nat → Int32 → jM → Option (Int32 × jM)) (a0 : Nat) (x1 : Int32) (μ : jM) : Option (Int32 × jM) :=
  jcl (f_X5_chosen a0 μ) (fun v1 => (if v1 = (-1 : Int32) then some (((1 : Int32), μ)) else (if x1 < (5 : Int32) then jin x1 5 (jcpq (0 : Int32) (0 : Int32) (5 : Int32) 5 5 (jbd (jcp μ 166 (0 : Int32).toNatClampNeg ((a0 + 2) + 1 * x1.toNatClampNeg) (0 : Int32).toNatClampNeg (5 : Int32).toNatClampNeg) (fun m7 => jcl (jloop (fun (s : Int32 × jM) => f_X5_seekIn_L43 a0 x1 rA v1 s.1 s.2) jfu (((0 : Int32), m7))) (fun w24 => match w24 with | .inl w24 => some (((2 : Int32), w24)) | .inr w24 => match w24 with | .inl w24 => some ((w24.1, w24.2)) | .inr w24 => some (((0 : Int32), w24)))))) else some (((0 : Int32), μ)))))
set_option maxHeartbeats 4000000 in
set_option maxRecDepth 100000 in
theorem cb_X5_seekIn {l : Launch} {G : jG} {L : jL} (hL : jOKL L) {dA : Nat} (hD : 5 ≤ dA) {rA : Nat → Int32 → jM → Option (Int32 × jM)} (hA : ∀ {b0 : Nat} {b1 : Int32} {μ1 μ2 : jM} {r : Int32}, jK L b0 5 → rA b0 b1 μ1 = some (r, μ2) → jCt l G L dA yX5_seekIn cX5_seekIn 6 (some .int) [.ref (L.2.2 b0), .int b1] μ1 (some (.int r)) μ2) {a0 : Nat} {x1 : Int32} (ka0 : jK L a0 5) {μ μ' : jM} {r : Int32} (h : fb_X5_seekIn rA a0 x1 μ = some ((r, μ'))) : jCt l G L (dA + 2) yX5_seekIn cX5_seekIn 6 (some .int) [.ref (L.2.2 a0), .int x1] μ (some (.int r)) μ' := by
  refine jCt_of (by decide) (Nat.le_of_ble_eq_true rfl) (fun X hC hX hR => ?_)
  subst hX
  have hC : jC X G cX5_seekIn 6 RX5 (some .int) := hC
  unfold fb_X5_seekIn at h
  show jJ X G 6 L 0 0 (jQM X G L (some (.int r)) μ' 0 0) 0 [(0, .ref (L.2.2 a0)), (1, .int x1)] [] μ
  refine j_aload_n (pc := 0) hC 0 0 dX5_seekIn_0 rfl rfl ?_
  obtain ⟨v1, e2, h⟩ := jcl_some h
  refine j_vi (pc := 1) hC hR [] iy_X5_chosen (q := (RX5, TX5, 8)) (ci := 5) rfl rfl (by decide) km_X5_64 dX5_seekIn_1 rfl (by decide) ka0 (c_X5_chosen hL ka0 e2) (by omega) (Nat.le_of_ble_eq_true rfl) rfl ?_
  refine j_istore_n (pc := 4) hC 2 [(2, .int v1), (0, .ref (L.2.2 a0)), (1, .int x1)] dX5_seekIn_4 rfl (by decide) rfl rfl ?_
  refine j_iload_n (pc := 5) hC 2 0 dX5_seekIn_5 rfl rfl ?_
  refine j_iconst (pc := 6) hC (-1 : Int32) dX5_seekIn_6 (by decide) ?_
  refine j_icmp_ne (pc := 7) hC 12 dX5_seekIn_7 (by decide) (fun c3 => ?_) (fun c3 => ?_)
  · rw [if_neg c3] at h
    refine j_iload_n (pc := 12) hC 1 2 dX5_seekIn_12 rfl rfl ?_
    refine j_iconst (pc := 13) hC (5 : Int32) dX5_seekIn_13 (by decide) ?_
    refine j_icmp_lt (pc := 14) hC 19 dX5_seekIn_14 (by decide) (fun c4 => ?_) (fun c4 => ?_)
    · rw [if_pos c4] at h
      refine j_aload_n (pc := 19) hC 0 1 dX5_seekIn_19 rfl rfl ?_
      refine jgr_5 (pc := 20) hC 2 (by decide) rfl kf_X5_11 dX5_seekIn_20 ka0 (ly_5_2 hL ka0).1 ?_
      refine j_iload_n (pc := 23) hC 1 2 dX5_seekIn_23 rfl rfl ?_
      obtain ⟨i5, h⟩ := jin_some h
      refine j_aaldI (pc := 24) hC  dX5_seekIn_24 (ly_5_2 hL ka0).2.1 (le_18 hL (ly_5_2 hL ka0).2.1 (jlt i5)).1 i5 (le_18 hL (ly_5_2 hL ka0).2.1 (jlt i5)).2.1 ?_
      refine j_astore_n (pc := 25) hC 3 [(3, .ref (L.2.2 ((a0 + 2) + 1 * x1.toNatClampNeg))), (2, .int v1), (0, .ref (L.2.2 a0)), (1, .int x1)] dX5_seekIn_25 rfl (by decide) rfl rfl ?_
      refine j_aload_n (pc := 26) hC 0 2 dX5_seekIn_26 rfl rfl ?_
      refine jgr_5 (pc := 27) hC 1 (by decide) rfl kf_X5_20 dX5_seekIn_27 ka0 (ly_5_1 hL ka0).1 ?_
      refine jgr_6 (pc := 30) hC 0 (by decide) rfl kf_X5_68 dX5_seekIn_30 (ly_5_1 hL ka0).2.1 (ly_6_0 hL (ly_5_1 hL ka0).2.1).1 ?_
      refine j_iconst (pc := 33) hC (0 : Int32) dX5_seekIn_33 (by decide) ?_
      refine j_aload_n (pc := 34) hC 3 0 dX5_seekIn_34 rfl rfl ?_
      refine j_iconst (pc := 35) hC (0 : Int32) dX5_seekIn_35 (by decide) ?_
      refine j_iconst (pc := 36) hC (5 : Int32) dX5_seekIn_36 (by decide) ?_
      obtain ⟨h6, h⟩ := jcpq_some h
      obtain ⟨m7, e8, h⟩ := jbd_ex h
      refine j_copyi (pc := 37) hC ka_X5_69 kac1 kac2 kac3 dX5_seekIn_37 (ly_6_0 hL (ly_5_1 hL ka0).2.1).2.1 (ly_6_0 hL (ly_5_1 hL ka0).2.1).2.2 (le_18 hL (ly_5_2 hL ka0).2.1 (jlt i5)).2.2.1 (le_18 hL (ly_5_2 hL ka0).2.1 (jlt i5)).2.2.2 h6.1 h6.2.1 h6.2.2.1 h6.2.2.2.1 h6.2.2.2.2 (j_nat1 hR (by omega)) (j_nat2 hR (by omega) (Nat.le_of_ble_eq_true rfl)) e8 ?_
      refine j_iconst (pc := 40) hC (0 : Int32) dX5_seekIn_40 (by decide) ?_
      refine j_istore (pc := 41) hC [(4, .int (0 : Int32)), (3, .ref (L.2.2 ((a0 + 2) + 1 * x1.toNatClampNeg))), (2, .int v1), (0, .ref (L.2.2 a0)), (1, .int x1)] dX5_seekIn_41 (by decide) rfl rfl ?_
      obtain ⟨w24, hw25, h⟩ := jcl_some h
      refine j_lv [3, 4, 2, 1, 0] rfl ?_
      refine j_loop (step := (fun (s : Int32 × jM) => f_X5_seekIn_L43 a0 x1 rA v1 s.1 s.2)) (P := (fun (s : Int32 × jM) => jJ X G 6 L 0 0 (jQM X G L (some (.int r)) μ' 0 0) 43 [(0, .ref (L.2.2 a0)), (1, .int x1), (2, .int v1), (3, .ref (L.2.2 ((a0 + 2) + 1 * x1.toNatClampNeg))), (4, .int s.1)] [] s.2)) (R := (fun (e : (jM) ⊕ ((Int32 × jM) ⊕ (jM))) => match e with | .inl e => jJ X G 6 L 0 0 (jQM X G L (some (.int r)) μ' 0 0) 72 [] [] e | .inr e => match e with | .inl e => jJ X G 6 L 0 0 (jQM X G L (some (.int r)) μ' 0 0) 89 [(5, .int e.1)] [] e.2 | .inr e => jJ X G 6 L 0 0 (jQM X G L (some (.int r)) μ' 0 0) 112 [] [] e)) ?_ jfu (((0 : Int32), m7)) w24 hw25 ?_
      · intro s26 o h hk
        obtain ⟨u9, m10⟩ := s26
        change f_X5_seekIn_L43 a0 x1 rA v1 u9 m10 = some o at h
        unfold f_X5_seekIn_L43 at h
        show jJ X G 6 L 0 0 (jQM X G L (some (.int r)) μ' 0 0) 43 [(0, .ref (L.2.2 a0)), (1, .int x1), (2, .int v1), (3, .ref (L.2.2 ((a0 + 2) + 1 * x1.toNatClampNeg))), (4, .int u9)] [] m10
        refine j_iload (pc := 43) hC 4 dX5_seekIn_43 rfl ?_
        refine j_bipush (pc := 45) hC (6 : Int32) dX5_seekIn_45 (by decide) ?_
        refine j_icmp_ge (pc := 47) hC 112 dX5_seekIn_47 (by decide) (fun c11 => ?_) (fun c11 => ?_)
        · rw [if_pos c11] at h
          obtain rfl := Option.some.inj h
          have hk : jJ X G 6 L 0 0 (jQM X G L (some (.int r)) μ' 0 0) 112 [] [] m10 := hk
          exact j_lv [] rfl hk
        · rw [if_neg c11] at h
          refine j_aload_n (pc := 50) hC 3 3 dX5_seekIn_50 rfl rfl ?_
          refine j_iload_n (pc := 51) hC 2 2 dX5_seekIn_51 rfl rfl ?_
          obtain ⟨i12, v13, e14, h⟩ := jrd_some h
          refine j_iald (pc := 52) hC dX5_seekIn_52 (le_18 hL (ly_5_2 hL ka0).2.1 (jlt i5)).2.2.1 (le_18 hL (ly_5_2 hL ka0).2.1 (jlt i5)).2.2.2 i12 e14 ?_
          refine j_iload (pc := 53) hC 4 dX5_seekIn_53 rfl ?_
          refine j_iushr (pc := 55) hC dX5_seekIn_55 ?_
          refine j_iconst (pc := 56) hC (1 : Int32) dX5_seekIn_56 (by decide) ?_
          refine j_iand (pc := 57) hC dX5_seekIn_57 ?_
          refine j_iconst (pc := 58) hC (1 : Int32) dX5_seekIn_58 (by decide) ?_
          refine j_icmp_ne (pc := 59) hC 106 dX5_seekIn_59 (by decide) (fun c15 => ?_) (fun c15 => ?_)
          · rw [if_neg c15] at h
            refine j_iinc (pc := 106) hC 4 (u9 + (1 : Int32)) [(4, .int (u9 + (1 : Int32))), (0, .ref (L.2.2 a0)), (1, .int x1), (2, .int v1), (3, .ref (L.2.2 ((a0 + 2) + 1 * x1.toNatClampNeg)))] dX5_seekIn_106 rfl rfl (by decide) rfl ?_
            refine j_goto (pc := 109) hC 43 dX5_seekIn_109 (by decide) ?_
            obtain rfl := Option.some.inj h
            have hk : jJ X G 6 L 0 0 (jQM X G L (some (.int r)) μ' 0 0) 43 [(0, .ref (L.2.2 a0)), (1, .int x1), (2, .int v1), (3, .ref (L.2.2 ((a0 + 2) + 1 * x1.toNatClampNeg))), (4, .int (u9 + (1 : Int32)))] [] m10 := hk
            exact j_lv [1, 2, 3, 4, 0] rfl hk
          · rw [if_pos c15] at h
            refine j_aload_n (pc := 62) hC 0 0 dX5_seekIn_62 rfl rfl ?_
            refine jgi_5 (pc := 63) hC 4 (by decide) rfl kf_X5_28 dX5_seekIn_63 ka0 ?_
            refine j_sipush (pc := 66) hC (200 : Int32) dX5_seekIn_66 (by decide) ?_
            refine j_icmp_lt (pc := 69) hC 74 dX5_seekIn_69 (by decide) (fun c16 => ?_) (fun c16 => ?_)
            · rw [if_pos c16] at h
              refine j_aload_n (pc := 74) hC 0 0 dX5_seekIn_74 rfl rfl ?_
              refine j_iload_n (pc := 75) hC 2 2 dX5_seekIn_75 rfl rfl ?_
              refine j_iload (pc := 76) hC 4 dX5_seekIn_76 rfl ?_
              refine j_iload_n (pc := 78) hC 1 1 dX5_seekIn_78 rfl rfl ?_
              obtain ⟨v17, m18, e19, h⟩ := jcl2_some h
              refine j_vi (pc := 79) hC hR [.int v1, .int u9, .int x1] iy_X5_enter (q := (RX5, TX5, 8)) (ci := 5) rfl rfl (by decide) km_X5_75 dX5_seekIn_79 rfl (by decide) ka0 (cb_X5_enter hL hD hA ka0 e19) (by omega) (Nat.le_of_ble_eq_true rfl) rfl ?_
              refine j_istore (pc := 82) hC [(5, .int v17), (0, .ref (L.2.2 a0)), (1, .int x1), (2, .int v1), (3, .ref (L.2.2 ((a0 + 2) + 1 * x1.toNatClampNeg))), (4, .int u9)] dX5_seekIn_82 (by decide) rfl rfl ?_
              refine j_iload (pc := 84) hC 0 dX5_seekIn_84 rfl ?_
              refine j_if_eq (pc := 86) hC 92 dX5_seekIn_86 (by decide) (fun c20 => ?_) (fun c20 => ?_)
              · rw [if_pos c20] at h
                refine j_aload_n (pc := 92) hC 3 4 dX5_seekIn_92 rfl rfl ?_
                refine j_iconst (pc := 93) hC (0 : Int32) dX5_seekIn_93 (by decide) ?_
                refine j_aload_n (pc := 94) hC 0 1 dX5_seekIn_94 rfl rfl ?_
                refine jgr_5 (pc := 95) hC 1 (by decide) rfl kf_X5_20 dX5_seekIn_95 ka0 (ly_5_1 hL ka0).1 ?_
                refine jgr_6 (pc := 98) hC 0 (by decide) rfl kf_X5_68 dX5_seekIn_98 (ly_5_1 hL ka0).2.1 (ly_6_0 hL (ly_5_1 hL ka0).2.1).1 ?_
                refine j_iconst (pc := 101) hC (0 : Int32) dX5_seekIn_101 (by decide) ?_
                refine j_iconst (pc := 102) hC (5 : Int32) dX5_seekIn_102 (by decide) ?_
                obtain ⟨h21, h⟩ := jcpq_some h
                obtain ⟨m22, e23, h⟩ := jbd_ex h
                refine j_copyi (pc := 103) hC ka_X5_69 kac1 kac2 kac3 dX5_seekIn_103 (le_18 hL (ly_5_2 hL ka0).2.1 (jlt i5)).2.2.1 (le_18 hL (ly_5_2 hL ka0).2.1 (jlt i5)).2.2.2 (ly_6_0 hL (ly_5_1 hL ka0).2.1).2.1 (ly_6_0 hL (ly_5_1 hL ka0).2.1).2.2 h21.1 h21.2.1 h21.2.2.1 h21.2.2.2.1 h21.2.2.2.2 (j_nat1 hR (by omega)) (j_nat2 hR (by omega) (Nat.le_of_ble_eq_true rfl)) e23 ?_
                refine j_iinc (pc := 106) hC 5 (u9 + (1 : Int32)) [(4, .int (u9 + (1 : Int32))), (5, .int v17), (0, .ref (L.2.2 a0)), (1, .int x1), (2, .int v1), (3, .ref (L.2.2 ((a0 + 2) + 1 * x1.toNatClampNeg)))] dX5_seekIn_106 rfl rfl (by decide) rfl ?_
                refine j_goto (pc := 109) hC 43 dX5_seekIn_109 (by decide) ?_
                obtain rfl := Option.some.inj h
                have hk : jJ X G 6 L 0 0 (jQM X G L (some (.int r)) μ' 0 0) 43 [(0, .ref (L.2.2 a0)), (1, .int x1), (2, .int v1), (3, .ref (L.2.2 ((a0 + 2) + 1 * x1.toNatClampNeg))), (4, .int (u9 + (1 : Int32)))] [] m22 := hk
                exact j_lv [2, 3, 4, 5, 0] rfl hk
              · rw [if_neg c20] at h
                obtain rfl := Option.some.inj h
                have hk : jJ X G 6 L 0 0 (jQM X G L (some (.int r)) μ' 0 0) 89 [(5, .int v17)] [] m18 := hk
                exact j_lv [0] rfl hk
            · rw [if_neg c16] at h
              obtain rfl := Option.some.inj h
              have hk : jJ X G 6 L 0 0 (jQM X G L (some (.int r)) μ' 0 0) 72 [] [] m10 := hk
              exact j_lv [] rfl hk
      · cases w24 with
        | inl w24 =>
          try dsimp only at h
          obtain ⟨m27, rfl⟩ : ∃ y, y = w24 := ⟨_, rfl⟩
          try dsimp only at h
          show jJ X G 6 L 0 0 (jQM X G L (some (.int r)) μ' 0 0) 72 [] [] m27
          refine j_iconst (pc := 72) hC (2 : Int32) dX5_seekIn_72 (by decide) ?_
          obtain ⟨rfl, rfl⟩ := Prod.mk.inj (Option.some.inj h)
          exact j_iret (pc := 73) hC dX5_seekIn_73 rfl
        | inr w24 =>
          try dsimp only at h
          cases w24 with
          | inl w24 =>
            try dsimp only at h
            obtain ⟨z28, m29⟩ := w24
            try dsimp only at h
            show jJ X G 6 L 0 0 (jQM X G L (some (.int r)) μ' 0 0) 89 [(5, .int z28)] [] m29
            refine j_iload (pc := 89) hC 0 dX5_seekIn_89 rfl ?_
            obtain ⟨rfl, rfl⟩ := Prod.mk.inj (Option.some.inj h)
            exact j_iret (pc := 91) hC dX5_seekIn_91 rfl
          | inr w24 =>
            try dsimp only at h
            obtain ⟨m30, rfl⟩ : ∃ y, y = w24 := ⟨_, rfl⟩
            try dsimp only at h
            show jJ X G 6 L 0 0 (jQM X G L (some (.int r)) μ' 0 0) 112 [] [] m30
            refine j_iconst (pc := 112) hC (0 : Int32) dX5_seekIn_112 (by decide) ?_
            obtain ⟨rfl, rfl⟩ := Prod.mk.inj (Option.some.inj h)
            exact j_iret (pc := 113) hC dX5_seekIn_113 rfl
    · rw [if_neg c4] at h
      refine j_iconst (pc := 17) hC (0 : Int32) dX5_seekIn_17 (by decide) ?_
      obtain ⟨rfl, rfl⟩ := Prod.mk.inj (Option.some.inj h)
      exact j_iret (pc := 18) hC dX5_seekIn_18 rfl
  · rw [if_pos c3] at h
    refine j_iconst (pc := 10) hC (1 : Int32) dX5_seekIn_10 (by decide) ?_
    obtain ⟨rfl, rfl⟩ := Prod.mk.inj (Option.some.inj h)
    exact j_iret (pc := 11) hC dX5_seekIn_11 rfl
def f_X5_seekIn : Nat → Nat → Int32 → jM → Option (Int32 × jM)
  | 0 => fun _ _ _ => none
  | d + 1 => fb_X5_seekIn (f_X5_seekIn d)
theorem c_X5_seekIn {l : Launch} {G : jG} {L : jL} (hL : jOKL L) : ∀ (d : Nat) {b0 : Nat} {b1 : Int32} (kb0 : jK L b0 5) {μ μ' : jM} {r : Int32} (h : f_X5_seekIn d b0 b1 μ = some (r, μ')), jCt l G L (5 + 2 * d) yX5_seekIn cX5_seekIn 6 (some .int) [.ref (L.2.2 b0), .int b1] μ (some (.int r)) μ' := by
  intro d
  induction d with
  | zero => intros; rename_i h; cases h
  | succ d ih =>
    intros
    rename_i h
    exact cb_X5_seekIn hL (dA := 5 + 2 * d) (by omega) (fun k0 h => ih k0 h) (by assumption) h
theorem dX5_seek_0 : decode cX5_seek 0 = .ok (.aload_n 0, 1) := by decide +kernel
theorem dX5_seek_1 : decode cX5_seek 1 = .ok (.iload_n 1, 1) := by decide +kernel
theorem dX5_seek_2 : decode cX5_seek 2 = .ok (.putfield 24, 3) := by decide +kernel
theorem dX5_seek_5 : decode cX5_seek 5 = .ok (.aload_n 0, 1) := by decide +kernel
theorem dX5_seek_6 : decode cX5_seek 6 = .ok (.iconst 0, 1) := by decide +kernel
theorem dX5_seek_7 : decode cX5_seek 7 = .ok (.putfield 28, 3) := by decide +kernel
theorem dX5_seek_10 : decode cX5_seek 10 = .ok (.aload_n 0, 1) := by decide +kernel
theorem dX5_seek_11 : decode cX5_seek 11 = .ok (.iconst 0, 1) := by decide +kernel
theorem dX5_seek_12 : decode cX5_seek 12 = .ok (.putfield 31, 3) := by decide +kernel
theorem dX5_seek_15 : decode cX5_seek 15 = .ok (.aload_n 0, 1) := by decide +kernel
theorem dX5_seek_16 : decode cX5_seek 16 = .ok (.iconst 0, 1) := by decide +kernel
theorem dX5_seek_17 : decode cX5_seek 17 = .ok (.putfield 34, 3) := by decide +kernel
theorem dX5_seek_20 : decode cX5_seek 20 = .ok (.aload_n 0, 1) := by decide +kernel
theorem dX5_seek_21 : decode cX5_seek 21 = .ok (.iconst 0, 1) := by decide +kernel
theorem dX5_seek_22 : decode cX5_seek 22 = .ok (.putfield 37, 3) := by decide +kernel
theorem dX5_seek_25 : decode cX5_seek 25 = .ok (.aload_n 0, 1) := by decide +kernel
theorem dX5_seek_26 : decode cX5_seek 26 = .ok (.getfield 20, 3) := by decide +kernel
theorem dX5_seek_29 : decode cX5_seek 29 = .ok (.aload_n 0, 1) := by decide +kernel
theorem dX5_seek_30 : decode cX5_seek 30 = .ok (.getfield 16, 3) := by decide +kernel
theorem dX5_seek_33 : decode cX5_seek 33 = .ok (.invokevirtual 40, 3) := by decide +kernel
theorem dX5_seek_36 : decode cX5_seek 36 = .ok (.aload_n 0, 1) := by decide +kernel
theorem dX5_seek_37 : decode cX5_seek 37 = .ok (.getfield 20, 3) := by decide +kernel
theorem dX5_seek_40 : decode cX5_seek 40 = .ok (.aload_n 0, 1) := by decide +kernel
theorem dX5_seek_41 : decode cX5_seek 41 = .ok (.getfield 16, 3) := by decide +kernel
theorem dX5_seek_44 : decode cX5_seek 44 = .ok (.sipush 255, 3) := by decide +kernel
theorem dX5_seek_47 : decode cX5_seek 47 = .ok (.invokevirtual 46, 3) := by decide +kernel
theorem dX5_seek_50 : decode cX5_seek 50 = .ok (.ifCond .ne 10, 3) := by decide +kernel
theorem dX5_seek_53 : decode cX5_seek 53 = .ok (.aload_n 0, 1) := by decide +kernel
theorem dX5_seek_54 : decode cX5_seek 54 = .ok (.iconst 1, 1) := by decide +kernel
theorem dX5_seek_55 : decode cX5_seek 55 = .ok (.putfield 31, 3) := by decide +kernel
theorem dX5_seek_58 : decode cX5_seek 58 = .ok (.iconst 0, 1) := by decide +kernel
theorem dX5_seek_59 : decode cX5_seek 59 = .ok (.ireturn, 1) := by decide +kernel
theorem dX5_seek_60 : decode cX5_seek 60 = .ok (.aload_n 0, 1) := by decide +kernel
theorem dX5_seek_61 : decode cX5_seek 61 = .ok (.aload_n 0, 1) := by decide +kernel
theorem dX5_seek_62 : decode cX5_seek 62 = .ok (.aload_n 0, 1) := by decide +kernel
theorem dX5_seek_63 : decode cX5_seek 63 = .ok (.getfield 16, 3) := by decide +kernel
theorem dX5_seek_66 : decode cX5_seek 66 = .ok (.getfield 50, 3) := by decide +kernel
theorem dX5_seek_69 : decode cX5_seek 69 = .ok (.invokevirtual 56, 3) := by decide +kernel
theorem dX5_seek_72 : decode cX5_seek 72 = .ok (.putfield 37, 3) := by decide +kernel
theorem dX5_seek_75 : decode cX5_seek 75 = .ok (.aload_n 0, 1) := by decide +kernel
theorem dX5_seek_76 : decode cX5_seek 76 = .ok (.iconst 0, 1) := by decide +kernel
theorem dX5_seek_77 : decode cX5_seek 77 = .ok (.invokevirtual 60, 3) := by decide +kernel
theorem dX5_seek_80 : decode cX5_seek 80 = .ok (.ireturn, 1) := by decide +kernel
def f_X5_seek (a0 : Nat) (x1 : Int32) (μ : jM) : Option (Int32 × jM) :=
  jbd (jsi μ a0 3 x1) (fun m1 => jbd (jsi m1 a0 4 (0 : Int32)) (fun m3 => jbd (jsi m3 a0 5 (0 : Int32)) (fun m5 => jbd (jsi m5 a0 6 (0 : Int32)) (fun m7 => jbd (jsi m7 a0 7 (0 : Int32)) (fun m9 => jcl (f_X6_begin 165 6 m9) (fun m11 => jcl2 (f_X6_spread 165 6 (255 : Int32) m11) (fun v13 m14 => (if v13 = (0 : Int32) then jbd (jsi m14 a0 5 (1 : Int32)) (fun m24 => some (((0 : Int32), m24))) else jcl (f_X5_changesSince a0 8 m14) (fun v17 => jbd (jsi m14 a0 7 v17) (fun m19 => jcl2 (f_X5_seekIn 8 a0 (0 : Int32) m19) (fun v21 m22 => some ((v21, m22)))))))))))))
set_option maxHeartbeats 4000000 in
set_option maxRecDepth 100000 in
theorem c_X5_seek {l : Launch} {G : jG} {L : jL} (hL : jOKL L) {a0 : Nat} {x1 : Int32} (ka0 : jK L a0 5) {μ μ' : jM} {r : Int32} (h : f_X5_seek a0 x1 μ = some ((r, μ'))) : jCt l G L 22 yX5_seek cX5_seek 2 (some .int) [.ref (L.2.2 a0), .int x1] μ (some (.int r)) μ' := by
  refine jCt_of (by decide) (Nat.le_of_ble_eq_true rfl) (fun X hC hX hR => ?_)
  subst hX
  have hC : jC X G cX5_seek 2 RX5 (some .int) := hC
  unfold f_X5_seek at h
  show jJ X G 2 L 0 0 (jQM X G L (some (.int r)) μ' 0 0) 0 [(0, .ref (L.2.2 a0)), (1, .int x1)] [] μ
  refine j_aload_n (pc := 0) hC 0 0 dX5_seek_0 rfl rfl ?_
  refine j_iload_n (pc := 1) hC 1 1 dX5_seek_1 rfl rfl ?_
  obtain ⟨m1, e2, h⟩ := jbd_ex h
  refine jpi_5 (pc := 2) hC 3 (by decide) rfl kf_X5_24 dX5_seek_2 rfl (by decide) ka0 e2 ?_
  refine j_aload_n (pc := 5) hC 0 0 dX5_seek_5 rfl rfl ?_
  refine j_iconst (pc := 6) hC (0 : Int32) dX5_seek_6 (by decide) ?_
  obtain ⟨m3, e4, h⟩ := jbd_ex h
  refine jpi_5 (pc := 7) hC 4 (by decide) rfl kf_X5_28 dX5_seek_7 rfl (by decide) ka0 e4 ?_
  refine j_aload_n (pc := 10) hC 0 0 dX5_seek_10 rfl rfl ?_
  refine j_iconst (pc := 11) hC (0 : Int32) dX5_seek_11 (by decide) ?_
  obtain ⟨m5, e6, h⟩ := jbd_ex h
  refine jpi_5 (pc := 12) hC 5 (by decide) rfl kf_X5_31 dX5_seek_12 rfl (by decide) ka0 e6 ?_
  refine j_aload_n (pc := 15) hC 0 0 dX5_seek_15 rfl rfl ?_
  refine j_iconst (pc := 16) hC (0 : Int32) dX5_seek_16 (by decide) ?_
  obtain ⟨m7, e8, h⟩ := jbd_ex h
  refine jpi_5 (pc := 17) hC 6 (by decide) rfl kf_X5_34 dX5_seek_17 rfl (by decide) ka0 e8 ?_
  refine j_aload_n (pc := 20) hC 0 0 dX5_seek_20 rfl rfl ?_
  refine j_iconst (pc := 21) hC (0 : Int32) dX5_seek_21 (by decide) ?_
  obtain ⟨m9, e10, h⟩ := jbd_ex h
  refine jpi_5 (pc := 22) hC 7 (by decide) rfl kf_X5_37 dX5_seek_22 rfl (by decide) ka0 e10 ?_
  refine j_aload_n (pc := 25) hC 0 0 dX5_seek_25 rfl rfl ?_
  refine jgr_5 (pc := 26) hC 1 (by decide) rfl kf_X5_20 dX5_seek_26 ka0 (ly_5_1 hL ka0).1 ?_
  refine j_aload_n (pc := 29) hC 0 0 dX5_seek_29 rfl rfl ?_
  refine jgr_5 (pc := 30) hC 0 (by decide) rfl kf_X5_16 dX5_seek_30 ka0 (ly_5_0 hL ka0).1 ?_
  obtain ⟨m11, e12, h⟩ := jcl_some h
  refine j_vv (pc := 33) hC hR [.ref (L.2.2 6)] iy_X6_begin (q := (RX6, TX6, 1)) (ci := 6) rfl rfl (by decide) km_X5_40 dX5_seek_33 rfl (by decide) (ly_5_1 hL ka0).2.1 (c_X6_begin hL (ly_5_1 hL ka0).2.1 (ly_5_0 hL ka0).2.1 e12) (by decide) (Nat.le_of_ble_eq_true rfl) rfl ?_
  refine j_aload_n (pc := 36) hC 0 0 dX5_seek_36 rfl rfl ?_
  refine jgr_5 (pc := 37) hC 1 (by decide) rfl kf_X5_20 dX5_seek_37 ka0 (ly_5_1 hL ka0).1 ?_
  refine j_aload_n (pc := 40) hC 0 0 dX5_seek_40 rfl rfl ?_
  refine jgr_5 (pc := 41) hC 0 (by decide) rfl kf_X5_16 dX5_seek_41 ka0 (ly_5_0 hL ka0).1 ?_
  refine j_sipush (pc := 44) hC (255 : Int32) dX5_seek_44 (by decide) ?_
  obtain ⟨v13, m14, e15, h⟩ := jcl2_some h
  refine j_vi (pc := 47) hC hR [.ref (L.2.2 6), .int (255 : Int32)] iy_X6_spread (q := (RX6, TX6, 1)) (ci := 6) rfl rfl (by decide) km_X5_46 dX5_seek_47 rfl (by decide) (ly_5_1 hL ka0).2.1 (c_X6_spread hL (ly_5_1 hL ka0).2.1 (ly_5_0 hL ka0).2.1 e15) (by decide) (Nat.le_of_ble_eq_true rfl) rfl ?_
  refine j_if_ne (pc := 50) hC 60 dX5_seek_50 (by decide) (fun c16 => ?_) (fun c16 => ?_)
  · rw [if_neg c16] at h
    refine j_aload_n (pc := 60) hC 0 0 dX5_seek_60 rfl rfl ?_
    refine j_aload_n (pc := 61) hC 0 0 dX5_seek_61 rfl rfl ?_
    refine j_aload_n (pc := 62) hC 0 0 dX5_seek_62 rfl rfl ?_
    refine jgr_5 (pc := 63) hC 0 (by decide) rfl kf_X5_16 dX5_seek_63 ka0 (ly_5_0 hL ka0).1 ?_
    refine jgr_9 (pc := 66) hC 1 (by decide) rfl kf_X5_50 dX5_seek_66 (ly_5_0 hL ka0).2.1 (ly_9_1 hL (ly_5_0 hL ka0).2.1).1 ?_
    obtain ⟨v17, e18, h⟩ := jcl_some h
    refine j_vi (pc := 69) hC hR [.ref (L.2.2 8)] iy_X5_changesSince (q := (RX5, TX5, 8)) (ci := 5) rfl rfl (by decide) km_X5_56 dX5_seek_69 rfl (by decide) ka0 (c_X5_changesSince hL ka0 (ly_9_1 hL (ly_5_0 hL ka0).2.1).2.1 e18) (by decide) (Nat.le_of_ble_eq_true rfl) rfl ?_
    obtain ⟨m19, e20, h⟩ := jbd_ex h
    refine jpi_5 (pc := 72) hC 7 (by decide) rfl kf_X5_37 dX5_seek_72 rfl (by decide) ka0 e20 ?_
    refine j_aload_n (pc := 75) hC 0 0 dX5_seek_75 rfl rfl ?_
    refine j_iconst (pc := 76) hC (0 : Int32) dX5_seek_76 (by decide) ?_
    obtain ⟨v21, m22, e23, h⟩ := jcl2_some h
    refine j_vi (pc := 77) hC hR [.int (0 : Int32)] iy_X5_seekIn (q := (RX5, TX5, 8)) (ci := 5) rfl rfl (by decide) km_X5_60 dX5_seek_77 rfl (by decide) ka0 (c_X5_seekIn hL 8 ka0 e23) (by decide) (Nat.le_of_ble_eq_true rfl) rfl ?_
    obtain ⟨rfl, rfl⟩ := Prod.mk.inj (Option.some.inj h)
    exact j_iret (pc := 80) hC dX5_seek_80 rfl
  · rw [if_pos c16] at h
    refine j_aload_n (pc := 53) hC 0 0 dX5_seek_53 rfl rfl ?_
    refine j_iconst (pc := 54) hC (1 : Int32) dX5_seek_54 (by decide) ?_
    obtain ⟨m24, e25, h⟩ := jbd_ex h
    refine jpi_5 (pc := 55) hC 5 (by decide) rfl kf_X5_31 dX5_seek_55 rfl (by decide) ka0 e25 ?_
    refine j_iconst (pc := 58) hC (0 : Int32) dX5_seek_58 (by decide) ?_
    obtain ⟨rfl, rfl⟩ := Prod.mk.inj (Option.some.inj h)
    exact j_iret (pc := 59) hC dX5_seek_59 rfl
theorem dX7_become_0 : decode cX7_become 0 = .ok (.aload_n 0, 1) := by decide +kernel
theorem dX7_become_1 : decode cX7_become 1 = .ok (.getfield 12, 3) := by decide +kernel
theorem dX7_become_4 : decode cX7_become 4 = .ok (.aload_n 1, 1) := by decide +kernel
theorem dX7_become_5 : decode cX7_become 5 = .ok (.getfield 12, 3) := by decide +kernel
theorem dX7_become_8 : decode cX7_become 8 = .ok (.invokevirtual 25, 3) := by decide +kernel
theorem dX7_become_11 : decode cX7_become 11 = .ok (.aload_n 0, 1) := by decide +kernel
theorem dX7_become_12 : decode cX7_become 12 = .ok (.aload_n 1, 1) := by decide +kernel
theorem dX7_become_13 : decode cX7_become 13 = .ok (.getfield 29, 3) := by decide +kernel
theorem dX7_become_16 : decode cX7_become 16 = .ok (.putfield 29, 3) := by decide +kernel
theorem dX7_become_19 : decode cX7_become 19 = .ok (.iconst 0, 1) := by decide +kernel
theorem dX7_become_20 : decode cX7_become 20 = .ok (.istore_n 2, 1) := by decide +kernel
theorem dX7_become_21 : decode cX7_become 21 = .ok (.iload_n 2, 1) := by decide +kernel
theorem dX7_become_22 : decode cX7_become 22 = .ok (.aload_n 0, 1) := by decide +kernel
theorem dX7_become_23 : decode cX7_become 23 = .ok (.getfield 29, 3) := by decide +kernel
theorem dX7_become_26 : decode cX7_become 26 = .ok (.if_icmp .ge 24, 3) := by decide +kernel
theorem dX7_become_29 : decode cX7_become 29 = .ok (.aload_n 0, 1) := by decide +kernel
theorem dX7_become_30 : decode cX7_become 30 = .ok (.getfield 20, 3) := by decide +kernel
theorem dX7_become_33 : decode cX7_become 33 = .ok (.iload_n 2, 1) := by decide +kernel
theorem dX7_become_34 : decode cX7_become 34 = .ok (.aaload, 1) := by decide +kernel
theorem dX7_become_35 : decode cX7_become 35 = .ok (.aload_n 1, 1) := by decide +kernel
theorem dX7_become_36 : decode cX7_become 36 = .ok (.getfield 20, 3) := by decide +kernel
theorem dX7_become_39 : decode cX7_become 39 = .ok (.iload_n 2, 1) := by decide +kernel
theorem dX7_become_40 : decode cX7_become 40 = .ok (.aaload, 1) := by decide +kernel
theorem dX7_become_41 : decode cX7_become 41 = .ok (.invokevirtual 33, 3) := by decide +kernel
theorem dX7_become_44 : decode cX7_become 44 = .ok (.iinc 2 1, 3) := by decide +kernel
theorem dX7_become_47 : decode cX7_become 47 = .ok (.goto (-26), 3) := by decide +kernel
theorem dX7_become_50 : decode cX7_become 50 = .ok (.return_, 1) := by decide +kernel
def f_X7_become_L21 (a0 : Nat) (a1 : Nat) (u5 : Int32) (m6 : jM) : Option ((Int32 × jM) ⊕ (jM)) :=
  (if (m6.1 a0 2) ≤ u5 then some (.inr m6) else jin u5 9 (jin u5 9 (jcl (f_X1_become ((a0 + 8) + 8 * u5.toNatClampNeg) ((a1 + 8) + 8 * u5.toNatClampNeg) m6) (fun m10 => some (.inl ((u5 + (1 : Int32), m10)))))))
def f_X7_become (a0 : Nat) (a1 : Nat) (μ : jM) : Option (jM) :=
  jcl (f_X9_become (a0 + 1) (a1 + 1) μ) (fun m1 => jbd (jsi m1 a0 2 (m1.1 a1 2)) (fun m3 => jcl (jloop (fun (s : Int32 × jM) => f_X7_become_L21 a0 a1 s.1 s.2) jfu (((0 : Int32), m3))) (fun w12 => some w12)))
set_option maxHeartbeats 4000000 in
set_option maxRecDepth 100000 in
theorem c_X7_become {l : Launch} {G : jG} {L : jL} (hL : jOKL L) {a0 : Nat} {a1 : Nat} (ka0 : jK L a0 7) (ka1 : jK L a1 7) {μ μ' : jM} (h : f_X7_become a0 a1 μ = some μ') : jCt l G L 5 yX7_become cX7_become 3 none [.ref (L.2.2 a0), .ref (L.2.2 a1)] μ none μ' := by
  refine jCt_of (by decide) (Nat.le_of_ble_eq_true rfl) (fun X hC hX hR => ?_)
  subst hX
  have hC : jC X G cX7_become 3 RX7 none := hC
  unfold f_X7_become at h
  show jJ X G 3 L 0 0 (jQM X G L none μ' 0 0) 0 [(0, .ref (L.2.2 a0)), (1, .ref (L.2.2 a1))] [] μ
  refine j_aload_n (pc := 0) hC 0 0 dX7_become_0 rfl rfl ?_
  refine jgr_7 (pc := 1) hC 0 (by decide) rfl kf_X7_12 dX7_become_1 ka0 (ly_7_0 hL ka0).1 ?_
  refine j_aload_n (pc := 4) hC 1 1 dX7_become_4 rfl rfl ?_
  refine jgr_7 (pc := 5) hC 0 (by decide) rfl kf_X7_12 dX7_become_5 ka1 (ly_7_0 hL ka1).1 ?_
  obtain ⟨m1, e2, h⟩ := jcl_some h
  refine j_vv (pc := 8) hC hR [.ref (L.2.2 (a1 + 1))] iy_X9_become (q := (RX9, TX9, 7)) (ci := 9) rfl rfl (by decide) km_X7_25 dX7_become_8 rfl (by decide) (ly_7_0 hL ka0).2.1 (c_X9_become hL (ly_7_0 hL ka0).2.1 (ly_7_0 hL ka1).2.1 e2) (by decide) (Nat.le_of_ble_eq_true rfl) rfl ?_
  refine j_aload_n (pc := 11) hC 0 0 dX7_become_11 rfl rfl ?_
  refine j_aload_n (pc := 12) hC 1 1 dX7_become_12 rfl rfl ?_
  refine jgi_7 (pc := 13) hC 2 (by decide) rfl kf_X7_29 dX7_become_13 ka1 ?_
  obtain ⟨m3, e4, h⟩ := jbd_ex h
  refine jpi_7 (pc := 16) hC 2 (by decide) rfl kf_X7_29 dX7_become_16 rfl (by decide) ka0 e4 ?_
  refine j_iconst (pc := 19) hC (0 : Int32) dX7_become_19 (by decide) ?_
  refine j_istore_n (pc := 20) hC 2 [(2, .int (0 : Int32)), (0, .ref (L.2.2 a0)), (1, .ref (L.2.2 a1))] dX7_become_20 rfl (by decide) rfl rfl ?_
  obtain ⟨w12, hw13, h⟩ := jcl_some h
  refine j_lv [1, 2, 0] rfl ?_
  refine j_loop (step := (fun (s : Int32 × jM) => f_X7_become_L21 a0 a1 s.1 s.2)) (P := (fun (s : Int32 × jM) => jJ X G 3 L 0 0 (jQM X G L none μ' 0 0) 21 [(0, .ref (L.2.2 a0)), (1, .ref (L.2.2 a1)), (2, .int s.1)] [] s.2)) (R := (fun (e : jM) => jJ X G 3 L 0 0 (jQM X G L none μ' 0 0) 50 [] [] e)) ?_ jfu (((0 : Int32), m3)) w12 hw13 ?_
  · intro s14 o h hk
    obtain ⟨u5, m6⟩ := s14
    change f_X7_become_L21 a0 a1 u5 m6 = some o at h
    unfold f_X7_become_L21 at h
    show jJ X G 3 L 0 0 (jQM X G L none μ' 0 0) 21 [(0, .ref (L.2.2 a0)), (1, .ref (L.2.2 a1)), (2, .int u5)] [] m6
    refine j_iload_n (pc := 21) hC 2 2 dX7_become_21 rfl rfl ?_
    refine j_aload_n (pc := 22) hC 0 0 dX7_become_22 rfl rfl ?_
    refine jgi_7 (pc := 23) hC 2 (by decide) rfl kf_X7_29 dX7_become_23 ka0 ?_
    refine j_icmp_ge (pc := 26) hC 50 dX7_become_26 (by decide) (fun c7 => ?_) (fun c7 => ?_)
    · rw [if_pos c7] at h
      obtain rfl := Option.some.inj h
      have hk : jJ X G 3 L 0 0 (jQM X G L none μ' 0 0) 50 [] [] m6 := hk
      exact j_lv [] rfl hk
    · rw [if_neg c7] at h
      refine j_aload_n (pc := 29) hC 0 0 dX7_become_29 rfl rfl ?_
      refine jgr_7 (pc := 30) hC 1 (by decide) rfl kf_X7_20 dX7_become_30 ka0 (ly_7_1 hL ka0).1 ?_
      refine j_iload_n (pc := 33) hC 2 2 dX7_become_33 rfl rfl ?_
      obtain ⟨i8, h⟩ := jin_some h
      refine j_aald (pc := 34) hC 3 dX7_become_34 rfl (by decide) (ly_7_1 hL ka0).2.1 (le_16 hL (ly_7_1 hL ka0).2.1 (jlt i8)).1 i8 (le_16 hL (ly_7_1 hL ka0).2.1 (jlt i8)).2.1 ?_
      refine j_aload_n (pc := 35) hC 1 1 dX7_become_35 rfl rfl ?_
      refine jgr_7 (pc := 36) hC 1 (by decide) rfl kf_X7_20 dX7_become_36 ka1 (ly_7_1 hL ka1).1 ?_
      refine j_iload_n (pc := 39) hC 2 2 dX7_become_39 rfl rfl ?_
      obtain ⟨i9, h⟩ := jin_some h
      refine j_aald (pc := 40) hC 3 dX7_become_40 rfl (by decide) (ly_7_1 hL ka1).2.1 (le_16 hL (ly_7_1 hL ka1).2.1 (jlt i9)).1 i9 (le_16 hL (ly_7_1 hL ka1).2.1 (jlt i9)).2.1 ?_
      obtain ⟨m10, e11, h⟩ := jcl_some h
      refine j_vv (pc := 41) hC hR [.ref (L.2.2 ((a1 + 8) + 8 * u5.toNatClampNeg))] iy_X1_become (q := (RX1, TX1, 4)) (ci := 1) rfl rfl (by decide) km_X7_33 dX7_become_41 rfl (by decide) (le_16 hL (ly_7_1 hL ka0).2.1 (jlt i8)).2.2.1 (c_X1_become hL (le_16 hL (ly_7_1 hL ka0).2.1 (jlt i8)).2.2.1 (le_16 hL (ly_7_1 hL ka1).2.1 (jlt i9)).2.2.1 e11) (by decide) (Nat.le_of_ble_eq_true rfl) rfl ?_
      refine j_iinc (pc := 44) hC 2 (u5 + (1 : Int32)) [(2, .int (u5 + (1 : Int32))), (0, .ref (L.2.2 a0)), (1, .ref (L.2.2 a1))] dX7_become_44 rfl rfl (by decide) rfl ?_
      refine j_goto (pc := 47) hC 21 dX7_become_47 (by decide) ?_
      obtain rfl := Option.some.inj h
      have hk : jJ X G 3 L 0 0 (jQM X G L none μ' 0 0) 21 [(0, .ref (L.2.2 a0)), (1, .ref (L.2.2 a1)), (2, .int (u5 + (1 : Int32)))] [] m10 := hk
      exact j_lv [1, 2, 0] rfl hk
  · obtain ⟨m15, rfl⟩ : ∃ y, y = w12 := ⟨_, rfl⟩
    try dsimp only at h
    show jJ X G 3 L 0 0 (jQM X G L none μ' 0 0) 50 [] [] m15
    obtain rfl := Option.some.inj h
    exact j_vret (pc := 50) hC dX7_become_50 rfl
theorem dX7_renewVariable_0 : decode cX7_renewVariable 0 = .ok (.iload_n 1, 1) := by decide +kernel
theorem dX7_renewVariable_1 : decode cX7_renewVariable 1 = .ok (.invokestatic 68, 3) := by decide +kernel
theorem dX7_renewVariable_4 : decode cX7_renewVariable 4 = .ok (.ifCond .ne 5, 3) := by decide +kernel
theorem dX7_renewVariable_7 : decode cX7_renewVariable 7 = .ok (.iconst (-1), 1) := by decide +kernel
theorem dX7_renewVariable_8 : decode cX7_renewVariable 8 = .ok (.ireturn, 1) := by decide +kernel
theorem dX7_renewVariable_9 : decode cX7_renewVariable 9 = .ok (.aload_n 0, 1) := by decide +kernel
theorem dX7_renewVariable_10 : decode cX7_renewVariable 10 = .ok (.getfield 29, 3) := by decide +kernel
theorem dX7_renewVariable_13 : decode cX7_renewVariable 13 = .ok (.ifCond .le 8, 3) := by decide +kernel
theorem dX7_renewVariable_16 : decode cX7_renewVariable 16 = .ok (.bipush (-2), 2) := by decide +kernel
theorem dX7_renewVariable_18 : decode cX7_renewVariable 18 = .ok (.goto 10, 3) := by decide +kernel
theorem dX7_renewVariable_21 : decode cX7_renewVariable 21 = .ok (.aload_n 0, 1) := by decide +kernel
theorem dX7_renewVariable_22 : decode cX7_renewVariable 22 = .ok (.iload_n 1, 1) := by decide +kernel
theorem dX7_renewVariable_23 : decode cX7_renewVariable 23 = .ok (.bipush 63, 2) := by decide +kernel
theorem dX7_renewVariable_25 : decode cX7_renewVariable 25 = .ok (.invokevirtual 78, 3) := by decide +kernel
theorem dX7_renewVariable_28 : decode cX7_renewVariable 28 = .ok (.ireturn, 1) := by decide +kernel
def f_X7_renewVariable (a0 : Nat) (x1 : Int32) (μ : jM) : Option (Int32 × jM) :=
  (if (f_X11_isVariable x1) = (0 : Int32) then some (((-1 : Int32), μ)) else (if (μ.1 a0 2) ≤ (0 : Int32) then jcl2 (f_X7_variableBecomes a0 x1 (63 : Int32) μ) (fun v3 m4 => some ((v3, m4))) else some (((-2 : Int32), μ))))
set_option maxHeartbeats 4000000 in
set_option maxRecDepth 100000 in
theorem c_X7_renewVariable {l : Launch} {G : jG} {L : jL} (hL : jOKL L) {a0 : Nat} {x1 : Int32} (ka0 : jK L a0 7) {μ μ' : jM} {r : Int32} (h : f_X7_renewVariable a0 x1 μ = some ((r, μ'))) : jCt l G L 6 yX7_renewVariable cX7_renewVariable 2 (some .int) [.ref (L.2.2 a0), .int x1] μ (some (.int r)) μ' := by
  refine jCt_of (by decide) (Nat.le_of_ble_eq_true rfl) (fun X hC hX hR => ?_)
  subst hX
  have hC : jC X G cX7_renewVariable 2 RX7 (some .int) := hC
  unfold f_X7_renewVariable at h
  show jJ X G 2 L 0 0 (jQM X G L (some (.int r)) μ' 0 0) 0 [(0, .ref (L.2.2 a0)), (1, .int x1)] [] μ
  refine j_iload_n (pc := 0) hC 1 1 dX7_renewVariable_0 rfl rfl ?_
  refine j_ni (pc := 1) hC hR [.int x1] iy_X11_isVariable kn_X7_68 dX7_renewVariable_1 rfl (by decide) (c_X11_isVariable hL  rfl) (by decide) (Nat.le_of_ble_eq_true rfl) rfl ?_
  refine j_if_ne (pc := 4) hC 9 dX7_renewVariable_4 (by decide) (fun c1 => ?_) (fun c1 => ?_)
  · rw [if_neg c1] at h
    refine j_aload_n (pc := 9) hC 0 0 dX7_renewVariable_9 rfl rfl ?_
    refine jgi_7 (pc := 10) hC 2 (by decide) rfl kf_X7_29 dX7_renewVariable_10 ka0 ?_
    refine j_if_le (pc := 13) hC 21 dX7_renewVariable_13 (by decide) (fun c2 => ?_) (fun c2 => ?_)
    · rw [if_pos c2] at h
      refine j_aload_n (pc := 21) hC 0 0 dX7_renewVariable_21 rfl rfl ?_
      refine j_iload_n (pc := 22) hC 1 1 dX7_renewVariable_22 rfl rfl ?_
      refine j_bipush (pc := 23) hC (63 : Int32) dX7_renewVariable_23 (by decide) ?_
      obtain ⟨v3, m4, e5, h⟩ := jcl2_some h
      refine j_vi (pc := 25) hC hR [.int x1, .int (63 : Int32)] iy_X7_variableBecomes (q := (RX7, TX7, 3)) (ci := 7) rfl rfl (by decide) km_X7_78 dX7_renewVariable_25 rfl (by decide) ka0 (c_X7_variableBecomes hL ka0 e5) (by decide) (Nat.le_of_ble_eq_true rfl) rfl ?_
      obtain ⟨rfl, rfl⟩ := Prod.mk.inj (Option.some.inj h)
      exact j_iret (pc := 28) hC dX7_renewVariable_28 rfl
    · rw [if_neg c2] at h
      refine j_bipush (pc := 16) hC (-2 : Int32) dX7_renewVariable_16 (by decide) ?_
      refine j_goto (pc := 18) hC 28 dX7_renewVariable_18 (by decide) ?_
      obtain ⟨rfl, rfl⟩ := Prod.mk.inj (Option.some.inj h)
      exact j_iret (pc := 28) hC dX7_renewVariable_28 rfl
  · rw [if_pos c1] at h
    refine j_iconst (pc := 7) hC (-1 : Int32) dX7_renewVariable_7 (by decide) ?_
    obtain ⟨rfl, rfl⟩ := Prod.mk.inj (Option.some.inj h)
    exact j_iret (pc := 8) hC dX7_renewVariable_8 rfl
theorem dX7_addConstraints_0 : decode cX7_addConstraints 0 = .ok (.iconst 4, 1) := by decide +kernel
theorem dX7_addConstraints_1 : decode cX7_addConstraints 1 = .ok (.aload_n 0, 1) := by decide +kernel
theorem dX7_addConstraints_2 : decode cX7_addConstraints 2 = .ok (.getfield 12, 3) := by decide +kernel
theorem dX7_addConstraints_5 : decode cX7_addConstraints 5 = .ok (.getfield 102, 3) := by decide +kernel
theorem dX7_addConstraints_8 : decode cX7_addConstraints 8 = .ok (.imul, 1) := by decide +kernel
theorem dX7_addConstraints_9 : decode cX7_addConstraints 9 = .ok (.istore_n 3, 1) := by decide +kernel
theorem dX7_addConstraints_10 : decode cX7_addConstraints 10 = .ok (.iconst 0, 1) := by decide +kernel
theorem dX7_addConstraints_11 : decode cX7_addConstraints 11 = .ok (.istore 4, 2) := by decide +kernel
theorem dX7_addConstraints_13 : decode cX7_addConstraints 13 = .ok (.iload 4, 2) := by decide +kernel
theorem dX7_addConstraints_15 : decode cX7_addConstraints 15 = .ok (.iconst 4, 1) := by decide +kernel
theorem dX7_addConstraints_16 : decode cX7_addConstraints 16 = .ok (.iload_n 2, 1) := by decide +kernel
theorem dX7_addConstraints_17 : decode cX7_addConstraints 17 = .ok (.imul, 1) := by decide +kernel
theorem dX7_addConstraints_18 : decode cX7_addConstraints 18 = .ok (.if_icmp .ge 47, 3) := by decide +kernel
theorem dX7_addConstraints_21 : decode cX7_addConstraints 21 = .ok (.iload 4, 2) := by decide +kernel
theorem dX7_addConstraints_23 : decode cX7_addConstraints 23 = .ok (.aload_n 1, 1) := by decide +kernel
theorem dX7_addConstraints_24 : decode cX7_addConstraints 24 = .ok (.arraylength, 1) := by decide +kernel
theorem dX7_addConstraints_25 : decode cX7_addConstraints 25 = .ok (.if_icmp .ge 40, 3) := by decide +kernel
theorem dX7_addConstraints_28 : decode cX7_addConstraints 28 = .ok (.iload_n 3, 1) := by decide +kernel
theorem dX7_addConstraints_29 : decode cX7_addConstraints 29 = .ok (.iload 4, 2) := by decide +kernel
theorem dX7_addConstraints_31 : decode cX7_addConstraints 31 = .ok (.iadd, 1) := by decide +kernel
theorem dX7_addConstraints_32 : decode cX7_addConstraints 32 = .ok (.aload_n 0, 1) := by decide +kernel
theorem dX7_addConstraints_33 : decode cX7_addConstraints 33 = .ok (.getfield 12, 3) := by decide +kernel
theorem dX7_addConstraints_36 : decode cX7_addConstraints 36 = .ok (.getfield 105, 3) := by decide +kernel
theorem dX7_addConstraints_39 : decode cX7_addConstraints 39 = .ok (.arraylength, 1) := by decide +kernel
theorem dX7_addConstraints_40 : decode cX7_addConstraints 40 = .ok (.if_icmp .ge 25, 3) := by decide +kernel
theorem dX7_addConstraints_43 : decode cX7_addConstraints 43 = .ok (.aload_n 0, 1) := by decide +kernel
theorem dX7_addConstraints_44 : decode cX7_addConstraints 44 = .ok (.getfield 12, 3) := by decide +kernel
theorem dX7_addConstraints_47 : decode cX7_addConstraints 47 = .ok (.getfield 105, 3) := by decide +kernel
theorem dX7_addConstraints_50 : decode cX7_addConstraints 50 = .ok (.iload_n 3, 1) := by decide +kernel
theorem dX7_addConstraints_51 : decode cX7_addConstraints 51 = .ok (.iload 4, 2) := by decide +kernel
theorem dX7_addConstraints_53 : decode cX7_addConstraints 53 = .ok (.iadd, 1) := by decide +kernel
theorem dX7_addConstraints_54 : decode cX7_addConstraints 54 = .ok (.aload_n 1, 1) := by decide +kernel
theorem dX7_addConstraints_55 : decode cX7_addConstraints 55 = .ok (.iload 4, 2) := by decide +kernel
theorem dX7_addConstraints_57 : decode cX7_addConstraints 57 = .ok (.iaload, 1) := by decide +kernel
theorem dX7_addConstraints_58 : decode cX7_addConstraints 58 = .ok (.iastore, 1) := by decide +kernel
theorem dX7_addConstraints_59 : decode cX7_addConstraints 59 = .ok (.iinc 4 1, 3) := by decide +kernel
theorem dX7_addConstraints_62 : decode cX7_addConstraints 62 = .ok (.goto (-49), 3) := by decide +kernel
theorem dX7_addConstraints_65 : decode cX7_addConstraints 65 = .ok (.aload_n 0, 1) := by decide +kernel
theorem dX7_addConstraints_66 : decode cX7_addConstraints 66 = .ok (.getfield 12, 3) := by decide +kernel
theorem dX7_addConstraints_69 : decode cX7_addConstraints 69 = .ok (.dup, 1) := by decide +kernel
theorem dX7_addConstraints_70 : decode cX7_addConstraints 70 = .ok (.getfield 102, 3) := by decide +kernel
theorem dX7_addConstraints_73 : decode cX7_addConstraints 73 = .ok (.iload_n 2, 1) := by decide +kernel
theorem dX7_addConstraints_74 : decode cX7_addConstraints 74 = .ok (.iadd, 1) := by decide +kernel
theorem dX7_addConstraints_75 : decode cX7_addConstraints 75 = .ok (.putfield 102, 3) := by decide +kernel
theorem dX7_addConstraints_78 : decode cX7_addConstraints 78 = .ok (.iload_n 2, 1) := by decide +kernel
theorem dX7_addConstraints_79 : decode cX7_addConstraints 79 = .ok (.ifCond .le 9, 3) := by decide +kernel
theorem dX7_addConstraints_82 : decode cX7_addConstraints 82 = .ok (.aload_n 0, 1) := by decide +kernel
theorem dX7_addConstraints_83 : decode cX7_addConstraints 83 = .ok (.bipush 30, 2) := by decide +kernel
theorem dX7_addConstraints_85 : decode cX7_addConstraints 85 = .ok (.invokevirtual 44, 3) := by decide +kernel
theorem dX7_addConstraints_88 : decode cX7_addConstraints 88 = .ok (.return_, 1) := by decide +kernel
def f_X7_addConstraints_L13 (a0 : Nat) (a1 : Nat) (x2 : Int32) (v1 : Int32) (u3 : Int32) (m4 : jM) : Option ((Int32 × jM) ⊕ (jM)) :=
  (if ((4 : Int32) * x2) ≤ u3 then some (.inr m4) else (if (nI (jlen a1)) ≤ u3 then some (.inr m4) else (if (nI 32) ≤ (v1 + u3) then some (.inr m4) else jrd (m4.1 a1) u3 (jlen a1) (fun v9 => jin (v1 + u3) 32 (jbd (jsi m4 (a0 + 6) (v1 + u3).toNatClampNeg v9) (fun m12 => some (.inl ((u3 + (1 : Int32), m12)))))))))
def f_X7_addConstraints (a0 : Nat) (a1 : Nat) (x2 : Int32) (μ : jM) : Option (jM) :=
  jbd ((4 : Int32) * (μ.1 (a0 + 1) 6) : Int32) (fun v1 => jcl (jloop (fun (s : Int32 × jM) => f_X7_addConstraints_L13 a0 a1 x2 v1 s.1 s.2) jfu (((0 : Int32), μ))) (fun w14 => jbd (jsi w14 (a0 + 1) 6 ((w14.1 (a0 + 1) 6) + x2)) (fun m18 => (if x2 ≤ (0 : Int32) then some m18 else jcl (f_X7_changed a0 (30 : Int32) m18) (fun m21 => some m21)))))
set_option maxHeartbeats 4000000 in
set_option maxRecDepth 100000 in
theorem c_X7_addConstraints {l : Launch} {G : jG} {L : jL} (hL : jOKL L) {a0 : Nat} {a1 : Nat} {x2 : Int32} (ka0 : jK L a0 7) (ka1 : jK L a1 13) {μ μ' : jM} (h : f_X7_addConstraints a0 a1 x2 μ = some μ') : jCt l G L 5 yX7_addConstraints cX7_addConstraints 5 none [.ref (L.2.2 a0), .ref (L.2.2 a1), .int x2] μ none μ' := by
  refine jCt_of (by decide) (Nat.le_of_ble_eq_true rfl) (fun X hC hX hR => ?_)
  subst hX
  have hC : jC X G cX7_addConstraints 5 RX7 none := hC
  unfold f_X7_addConstraints at h
  show jJ X G 5 L 0 0 (jQM X G L none μ' 0 0) 0 [(0, .ref (L.2.2 a0)), (1, .ref (L.2.2 a1)), (2, .int x2)] [] μ
  refine j_iconst (pc := 0) hC (4 : Int32) dX7_addConstraints_0 (by decide) ?_
  refine j_aload_n (pc := 1) hC 0 0 dX7_addConstraints_1 rfl rfl ?_
  refine jgr_7 (pc := 2) hC 0 (by decide) rfl kf_X7_12 dX7_addConstraints_2 ka0 (ly_7_0 hL ka0).1 ?_
  refine jgi_9 (pc := 5) hC 6 (by decide) rfl kf_X7_102 dX7_addConstraints_5 (ly_7_0 hL ka0).2.1 ?_
  refine j_imul (pc := 8) hC dX7_addConstraints_8 ?_
  obtain ⟨v1, e2, h⟩ := jbd_ex h
  refine j_istore_n (pc := 9) hC 3 [(3, .int v1), (0, .ref (L.2.2 a0)), (1, .ref (L.2.2 a1)), (2, .int x2)] dX7_addConstraints_9 rfl (by decide) e2 rfl ?_
  refine j_iconst (pc := 10) hC (0 : Int32) dX7_addConstraints_10 (by decide) ?_
  refine j_istore (pc := 11) hC [(4, .int (0 : Int32)), (3, .int v1), (0, .ref (L.2.2 a0)), (1, .ref (L.2.2 a1)), (2, .int x2)] dX7_addConstraints_11 (by decide) rfl rfl ?_
  obtain ⟨w14, hw15, h⟩ := jcl_some h
  refine j_lv [2, 3, 4, 1, 0] rfl ?_
  refine j_loop (step := (fun (s : Int32 × jM) => f_X7_addConstraints_L13 a0 a1 x2 v1 s.1 s.2)) (P := (fun (s : Int32 × jM) => jJ X G 5 L 0 0 (jQM X G L none μ' 0 0) 13 [(0, .ref (L.2.2 a0)), (1, .ref (L.2.2 a1)), (2, .int x2), (3, .int v1), (4, .int s.1)] [] s.2)) (R := (fun (e : jM) => jJ X G 5 L 0 0 (jQM X G L none μ' 0 0) 65 [(0, .ref (L.2.2 a0)), (2, .int x2)] [] e)) ?_ jfu (((0 : Int32), μ)) w14 hw15 ?_
  · intro s16 o h hk
    obtain ⟨u3, m4⟩ := s16
    change f_X7_addConstraints_L13 a0 a1 x2 v1 u3 m4 = some o at h
    unfold f_X7_addConstraints_L13 at h
    show jJ X G 5 L 0 0 (jQM X G L none μ' 0 0) 13 [(0, .ref (L.2.2 a0)), (1, .ref (L.2.2 a1)), (2, .int x2), (3, .int v1), (4, .int u3)] [] m4
    refine j_iload (pc := 13) hC 4 dX7_addConstraints_13 rfl ?_
    refine j_iconst (pc := 15) hC (4 : Int32) dX7_addConstraints_15 (by decide) ?_
    refine j_iload_n (pc := 16) hC 2 2 dX7_addConstraints_16 rfl rfl ?_
    refine j_imul (pc := 17) hC dX7_addConstraints_17 ?_
    refine j_icmp_ge (pc := 18) hC 65 dX7_addConstraints_18 (by decide) (fun c5 => ?_) (fun c5 => ?_)
    · rw [if_pos c5] at h
      obtain rfl := Option.some.inj h
      have hk : jJ X G 5 L 0 0 (jQM X G L none μ' 0 0) 65 [(0, .ref (L.2.2 a0)), (2, .int x2)] [] m4 := hk
      exact j_lv [0, 2] rfl hk
    · rw [if_neg c5] at h
      refine j_iload (pc := 21) hC 4 dX7_addConstraints_21 rfl ?_
      refine j_aload_n (pc := 23) hC 1 1 dX7_addConstraints_23 rfl rfl ?_
      refine j_alen (pc := 24) hC 0 dX7_addConstraints_24 ka1 rfl (by decide) (jlen_ok hL _) ?_
      refine j_icmp_ge (pc := 25) hC 65 dX7_addConstraints_25 (by decide) (fun c6 => ?_) (fun c6 => ?_)
      · rw [if_pos c6] at h
        obtain rfl := Option.some.inj h
        have hk : jJ X G 5 L 0 0 (jQM X G L none μ' 0 0) 65 [(0, .ref (L.2.2 a0)), (2, .int x2)] [] m4 := hk
        exact j_lv [0, 2] rfl hk
      · rw [if_neg c6] at h
        refine j_iload_n (pc := 28) hC 3 3 dX7_addConstraints_28 rfl rfl ?_
        refine j_iload (pc := 29) hC 4 dX7_addConstraints_29 rfl ?_
        refine j_iadd (pc := 31) hC dX7_addConstraints_31 ?_
        refine j_aload_n (pc := 32) hC 0 0 dX7_addConstraints_32 rfl rfl ?_
        refine jgr_7 (pc := 33) hC 0 (by decide) rfl kf_X7_12 dX7_addConstraints_33 ka0 (ly_7_0 hL ka0).1 ?_
        refine jgr_9 (pc := 36) hC 4 (by decide) rfl kf_X7_105 dX7_addConstraints_36 (ly_7_0 hL ka0).2.1 (ly_9_4 hL (ly_7_0 hL ka0).2.1).1 ?_
        refine j_alen (pc := 39) hC 0 dX7_addConstraints_39 (ly_9_4 hL (ly_7_0 hL ka0).2.1).2.1 rfl (by decide) (ly_9_4 hL (ly_7_0 hL ka0).2.1).2.2 ?_
        refine j_icmp_ge (pc := 40) hC 65 dX7_addConstraints_40 (by decide) (fun c7 => ?_) (fun c7 => ?_)
        · rw [if_pos c7] at h
          obtain rfl := Option.some.inj h
          have hk : jJ X G 5 L 0 0 (jQM X G L none μ' 0 0) 65 [(0, .ref (L.2.2 a0)), (2, .int x2)] [] m4 := hk
          exact j_lv [0, 2] rfl hk
        · rw [if_neg c7] at h
          refine j_aload_n (pc := 43) hC 0 0 dX7_addConstraints_43 rfl rfl ?_
          refine jgr_7 (pc := 44) hC 0 (by decide) rfl kf_X7_12 dX7_addConstraints_44 ka0 (ly_7_0 hL ka0).1 ?_
          refine jgr_9 (pc := 47) hC 4 (by decide) rfl kf_X7_105 dX7_addConstraints_47 (ly_7_0 hL ka0).2.1 (ly_9_4 hL (ly_7_0 hL ka0).2.1).1 ?_
          refine j_iload_n (pc := 50) hC 3 3 dX7_addConstraints_50 rfl rfl ?_
          refine j_iload (pc := 51) hC 4 dX7_addConstraints_51 rfl ?_
          refine j_iadd (pc := 53) hC dX7_addConstraints_53 ?_
          refine j_aload_n (pc := 54) hC 1 1 dX7_addConstraints_54 rfl rfl ?_
          refine j_iload (pc := 55) hC 4 dX7_addConstraints_55 rfl ?_
          obtain ⟨i8, v9, e10, h⟩ := jrd_some h
          refine j_iald (pc := 57) hC dX7_addConstraints_57 ka1 (jlen_ok hL _) i8 e10 ?_
          obtain ⟨i11, h⟩ := jin_some h
          obtain ⟨m12, e13, h⟩ := jbd_ex h
          refine j_iast (pc := 58) hC dX7_addConstraints_58 (ly_9_4 hL (ly_7_0 hL ka0).2.1).2.1 (ly_9_4 hL (ly_7_0 hL ka0).2.1).2.2 i11 e13 ?_
          refine j_iinc (pc := 59) hC 4 (u3 + (1 : Int32)) [(4, .int (u3 + (1 : Int32))), (0, .ref (L.2.2 a0)), (1, .ref (L.2.2 a1)), (2, .int x2), (3, .int v1)] dX7_addConstraints_59 rfl rfl (by decide) rfl ?_
          refine j_goto (pc := 62) hC 13 dX7_addConstraints_62 (by decide) ?_
          obtain rfl := Option.some.inj h
          have hk : jJ X G 5 L 0 0 (jQM X G L none μ' 0 0) 13 [(0, .ref (L.2.2 a0)), (1, .ref (L.2.2 a1)), (2, .int x2), (3, .int v1), (4, .int (u3 + (1 : Int32)))] [] m12 := hk
          exact j_lv [1, 2, 3, 4, 0] rfl hk
  · obtain ⟨m17, rfl⟩ : ∃ y, y = w14 := ⟨_, rfl⟩
    try dsimp only at h
    show jJ X G 5 L 0 0 (jQM X G L none μ' 0 0) 65 [(0, .ref (L.2.2 a0)), (2, .int x2)] [] m17
    refine j_aload_n (pc := 65) hC 0 0 dX7_addConstraints_65 rfl rfl ?_
    refine jgr_7 (pc := 66) hC 0 (by decide) rfl kf_X7_12 dX7_addConstraints_66 ka0 (ly_7_0 hL ka0).1 ?_
    refine j_dup (pc := 69) hC dX7_addConstraints_69 rfl ?_
    refine jgi_9 (pc := 70) hC 6 (by decide) rfl kf_X7_102 dX7_addConstraints_70 (ly_7_0 hL ka0).2.1 ?_
    refine j_iload_n (pc := 73) hC 2 1 dX7_addConstraints_73 rfl rfl ?_
    refine j_iadd (pc := 74) hC dX7_addConstraints_74 ?_
    obtain ⟨m18, e19, h⟩ := jbd_ex h
    refine jpi_9 (pc := 75) hC 6 (by decide) rfl kf_X7_102 dX7_addConstraints_75 rfl (by decide) (ly_7_0 hL ka0).2.1 e19 ?_
    refine j_iload_n (pc := 78) hC 2 1 dX7_addConstraints_78 rfl rfl ?_
    refine j_if_le (pc := 79) hC 88 dX7_addConstraints_79 (by decide) (fun c20 => ?_) (fun c20 => ?_)
    · rw [if_pos c20] at h
      obtain rfl := Option.some.inj h
      exact j_vret (pc := 88) hC dX7_addConstraints_88 rfl
    · rw [if_neg c20] at h
      refine j_aload_n (pc := 82) hC 0 0 dX7_addConstraints_82 rfl rfl ?_
      refine j_bipush (pc := 83) hC (30 : Int32) dX7_addConstraints_83 (by decide) ?_
      obtain ⟨m21, e22, h⟩ := jcl_some h
      refine j_vv (pc := 85) hC hR [.int (30 : Int32)] iy_X7_changed (q := (RX7, TX7, 3)) (ci := 7) rfl rfl (by decide) km_X7_44 dX7_addConstraints_85 rfl (by decide) ka0 (c_X7_changed hL ka0 e22) (by decide) (Nat.le_of_ble_eq_true rfl) rfl ?_
      obtain rfl := Option.some.inj h
      exact j_vret (pc := 88) hC dX7_addConstraints_88 rfl
theorem dX7_liftConstraint_0 : decode cX7_liftConstraint 0 = .ok (.iload_n 1, 1) := by decide +kernel
theorem dX7_liftConstraint_1 : decode cX7_liftConstraint 1 = .ok (.ifCond .lt 14, 3) := by decide +kernel
theorem dX7_liftConstraint_4 : decode cX7_liftConstraint 4 = .ok (.iload_n 1, 1) := by decide +kernel
theorem dX7_liftConstraint_5 : decode cX7_liftConstraint 5 = .ok (.aload_n 0, 1) := by decide +kernel
theorem dX7_liftConstraint_6 : decode cX7_liftConstraint 6 = .ok (.getfield 12, 3) := by decide +kernel
theorem dX7_liftConstraint_9 : decode cX7_liftConstraint 9 = .ok (.getfield 102, 3) := by decide +kernel
theorem dX7_liftConstraint_12 : decode cX7_liftConstraint 12 = .ok (.if_icmp .lt 5, 3) := by decide +kernel
theorem dX7_liftConstraint_15 : decode cX7_liftConstraint 15 = .ok (.iconst (-1), 1) := by decide +kernel
theorem dX7_liftConstraint_16 : decode cX7_liftConstraint 16 = .ok (.ireturn, 1) := by decide +kernel
theorem dX7_liftConstraint_17 : decode cX7_liftConstraint 17 = .ok (.iconst 4, 1) := by decide +kernel
theorem dX7_liftConstraint_18 : decode cX7_liftConstraint 18 = .ok (.iload_n 1, 1) := by decide +kernel
theorem dX7_liftConstraint_19 : decode cX7_liftConstraint 19 = .ok (.iconst 1, 1) := by decide +kernel
theorem dX7_liftConstraint_20 : decode cX7_liftConstraint 20 = .ok (.iadd, 1) := by decide +kernel
theorem dX7_liftConstraint_21 : decode cX7_liftConstraint 21 = .ok (.imul, 1) := by decide +kernel
theorem dX7_liftConstraint_22 : decode cX7_liftConstraint 22 = .ok (.istore_n 2, 1) := by decide +kernel
theorem dX7_liftConstraint_23 : decode cX7_liftConstraint 23 = .ok (.iload_n 2, 1) := by decide +kernel
theorem dX7_liftConstraint_24 : decode cX7_liftConstraint 24 = .ok (.iconst 4, 1) := by decide +kernel
theorem dX7_liftConstraint_25 : decode cX7_liftConstraint 25 = .ok (.aload_n 0, 1) := by decide +kernel
theorem dX7_liftConstraint_26 : decode cX7_liftConstraint 26 = .ok (.getfield 12, 3) := by decide +kernel
theorem dX7_liftConstraint_29 : decode cX7_liftConstraint 29 = .ok (.getfield 102, 3) := by decide +kernel
theorem dX7_liftConstraint_32 : decode cX7_liftConstraint 32 = .ok (.imul, 1) := by decide +kernel
theorem dX7_liftConstraint_33 : decode cX7_liftConstraint 33 = .ok (.if_icmp .ge 29, 3) := by decide +kernel
theorem dX7_liftConstraint_36 : decode cX7_liftConstraint 36 = .ok (.aload_n 0, 1) := by decide +kernel
theorem dX7_liftConstraint_37 : decode cX7_liftConstraint 37 = .ok (.getfield 12, 3) := by decide +kernel
theorem dX7_liftConstraint_40 : decode cX7_liftConstraint 40 = .ok (.getfield 105, 3) := by decide +kernel
theorem dX7_liftConstraint_43 : decode cX7_liftConstraint 43 = .ok (.iload_n 2, 1) := by decide +kernel
theorem dX7_liftConstraint_44 : decode cX7_liftConstraint 44 = .ok (.iconst 4, 1) := by decide +kernel
theorem dX7_liftConstraint_45 : decode cX7_liftConstraint 45 = .ok (.isub, 1) := by decide +kernel
theorem dX7_liftConstraint_46 : decode cX7_liftConstraint 46 = .ok (.aload_n 0, 1) := by decide +kernel
theorem dX7_liftConstraint_47 : decode cX7_liftConstraint 47 = .ok (.getfield 12, 3) := by decide +kernel
theorem dX7_liftConstraint_50 : decode cX7_liftConstraint 50 = .ok (.getfield 105, 3) := by decide +kernel
theorem dX7_liftConstraint_53 : decode cX7_liftConstraint 53 = .ok (.iload_n 2, 1) := by decide +kernel
theorem dX7_liftConstraint_54 : decode cX7_liftConstraint 54 = .ok (.iaload, 1) := by decide +kernel
theorem dX7_liftConstraint_55 : decode cX7_liftConstraint 55 = .ok (.iastore, 1) := by decide +kernel
theorem dX7_liftConstraint_56 : decode cX7_liftConstraint 56 = .ok (.iinc 2 1, 3) := by decide +kernel
theorem dX7_liftConstraint_59 : decode cX7_liftConstraint 59 = .ok (.goto (-36), 3) := by decide +kernel
theorem dX7_liftConstraint_62 : decode cX7_liftConstraint 62 = .ok (.aload_n 0, 1) := by decide +kernel
theorem dX7_liftConstraint_63 : decode cX7_liftConstraint 63 = .ok (.getfield 12, 3) := by decide +kernel
theorem dX7_liftConstraint_66 : decode cX7_liftConstraint 66 = .ok (.dup, 1) := by decide +kernel
theorem dX7_liftConstraint_67 : decode cX7_liftConstraint 67 = .ok (.getfield 102, 3) := by decide +kernel
theorem dX7_liftConstraint_70 : decode cX7_liftConstraint 70 = .ok (.iconst 1, 1) := by decide +kernel
theorem dX7_liftConstraint_71 : decode cX7_liftConstraint 71 = .ok (.isub, 1) := by decide +kernel
theorem dX7_liftConstraint_72 : decode cX7_liftConstraint 72 = .ok (.putfield 102, 3) := by decide +kernel
theorem dX7_liftConstraint_75 : decode cX7_liftConstraint 75 = .ok (.aload_n 0, 1) := by decide +kernel
theorem dX7_liftConstraint_76 : decode cX7_liftConstraint 76 = .ok (.bipush 30, 2) := by decide +kernel
theorem dX7_liftConstraint_78 : decode cX7_liftConstraint 78 = .ok (.invokevirtual 44, 3) := by decide +kernel
theorem dX7_liftConstraint_81 : decode cX7_liftConstraint 81 = .ok (.aload_n 0, 1) := by decide +kernel
theorem dX7_liftConstraint_82 : decode cX7_liftConstraint 82 = .ok (.getfield 12, 3) := by decide +kernel
theorem dX7_liftConstraint_85 : decode cX7_liftConstraint 85 = .ok (.getfield 102, 3) := by decide +kernel
theorem dX7_liftConstraint_88 : decode cX7_liftConstraint 88 = .ok (.ireturn, 1) := by decide +kernel
def f_X7_liftConstraint_L23 (a0 : Nat) (u5 : Int32) (m6 : jM) : Option ((Int32 × jM) ⊕ (jM)) :=
  (if ((4 : Int32) * (m6.1 (a0 + 1) 6)) ≤ u5 then some (.inr m6) else jrd (m6.1 (a0 + 6)) u5 32 (fun v9 => jin (u5 - (4 : Int32)) 32 (jbd (jsi m6 (a0 + 6) (u5 - (4 : Int32)).toNatClampNeg v9) (fun m12 => some (.inl ((u5 + (1 : Int32), m12)))))))
def f_X7_liftConstraint (a0 : Nat) (x1 : Int32) (μ : jM) : Option (Int32 × jM) :=
  (if x1 < (0 : Int32) then some (((-1 : Int32), μ)) else (if x1 < (μ.1 (a0 + 1) 6) then jbd ((4 : Int32) * (x1 + (1 : Int32)) : Int32) (fun v3 => jcl (jloop (fun (s : Int32 × jM) => f_X7_liftConstraint_L23 a0 s.1 s.2) jfu ((v3, μ))) (fun w14 => jbd (jsi w14 (a0 + 1) 6 ((w14.1 (a0 + 1) 6) - (1 : Int32))) (fun m18 => jcl (f_X7_changed a0 (30 : Int32) m18) (fun m20 => some ((m20.1 (a0 + 1) 6, m20)))))) else some (((-1 : Int32), μ))))
set_option maxHeartbeats 4000000 in
set_option maxRecDepth 100000 in
theorem c_X7_liftConstraint {l : Launch} {G : jG} {L : jL} (hL : jOKL L) {a0 : Nat} {x1 : Int32} (ka0 : jK L a0 7) {μ μ' : jM} {r : Int32} (h : f_X7_liftConstraint a0 x1 μ = some ((r, μ'))) : jCt l G L 5 yX7_liftConstraint cX7_liftConstraint 3 (some .int) [.ref (L.2.2 a0), .int x1] μ (some (.int r)) μ' := by
  refine jCt_of (by decide) (Nat.le_of_ble_eq_true rfl) (fun X hC hX hR => ?_)
  subst hX
  have hC : jC X G cX7_liftConstraint 3 RX7 (some .int) := hC
  unfold f_X7_liftConstraint at h
  show jJ X G 3 L 0 0 (jQM X G L (some (.int r)) μ' 0 0) 0 [(0, .ref (L.2.2 a0)), (1, .int x1)] [] μ
  refine j_iload_n (pc := 0) hC 1 1 dX7_liftConstraint_0 rfl rfl ?_
  refine j_if_lt (pc := 1) hC 15 dX7_liftConstraint_1 (by decide) (fun c1 => ?_) (fun c1 => ?_)
  · rw [if_pos c1] at h
    refine j_iconst (pc := 15) hC (-1 : Int32) dX7_liftConstraint_15 (by decide) ?_
    obtain ⟨rfl, rfl⟩ := Prod.mk.inj (Option.some.inj h)
    exact j_iret (pc := 16) hC dX7_liftConstraint_16 rfl
  · rw [if_neg c1] at h
    refine j_iload_n (pc := 4) hC 1 1 dX7_liftConstraint_4 rfl rfl ?_
    refine j_aload_n (pc := 5) hC 0 0 dX7_liftConstraint_5 rfl rfl ?_
    refine jgr_7 (pc := 6) hC 0 (by decide) rfl kf_X7_12 dX7_liftConstraint_6 ka0 (ly_7_0 hL ka0).1 ?_
    refine jgi_9 (pc := 9) hC 6 (by decide) rfl kf_X7_102 dX7_liftConstraint_9 (ly_7_0 hL ka0).2.1 ?_
    refine j_icmp_lt (pc := 12) hC 17 dX7_liftConstraint_12 (by decide) (fun c2 => ?_) (fun c2 => ?_)
    · rw [if_pos c2] at h
      refine j_iconst (pc := 17) hC (4 : Int32) dX7_liftConstraint_17 (by decide) ?_
      refine j_iload_n (pc := 18) hC 1 1 dX7_liftConstraint_18 rfl rfl ?_
      refine j_iconst (pc := 19) hC (1 : Int32) dX7_liftConstraint_19 (by decide) ?_
      refine j_iadd (pc := 20) hC dX7_liftConstraint_20 ?_
      refine j_imul (pc := 21) hC dX7_liftConstraint_21 ?_
      obtain ⟨v3, e4, h⟩ := jbd_ex h
      refine j_istore_n (pc := 22) hC 2 [(2, .int v3), (0, .ref (L.2.2 a0)), (1, .int x1)] dX7_liftConstraint_22 rfl (by decide) e4 rfl ?_
      obtain ⟨w14, hw15, h⟩ := jcl_some h
      refine j_lv [1, 0] rfl ?_
      refine j_loop (step := (fun (s : Int32 × jM) => f_X7_liftConstraint_L23 a0 s.1 s.2)) (P := (fun (s : Int32 × jM) => jJ X G 3 L 0 0 (jQM X G L (some (.int r)) μ' 0 0) 23 [(0, .ref (L.2.2 a0)), (2, .int s.1)] [] s.2)) (R := (fun (e : jM) => jJ X G 3 L 0 0 (jQM X G L (some (.int r)) μ' 0 0) 62 [(0, .ref (L.2.2 a0))] [] e)) ?_ jfu ((v3, μ)) w14 hw15 ?_
      · intro s16 o h hk
        obtain ⟨u5, m6⟩ := s16
        change f_X7_liftConstraint_L23 a0 u5 m6 = some o at h
        unfold f_X7_liftConstraint_L23 at h
        show jJ X G 3 L 0 0 (jQM X G L (some (.int r)) μ' 0 0) 23 [(0, .ref (L.2.2 a0)), (2, .int u5)] [] m6
        refine j_iload_n (pc := 23) hC 2 1 dX7_liftConstraint_23 rfl rfl ?_
        refine j_iconst (pc := 24) hC (4 : Int32) dX7_liftConstraint_24 (by decide) ?_
        refine j_aload_n (pc := 25) hC 0 0 dX7_liftConstraint_25 rfl rfl ?_
        refine jgr_7 (pc := 26) hC 0 (by decide) rfl kf_X7_12 dX7_liftConstraint_26 ka0 (ly_7_0 hL ka0).1 ?_
        refine jgi_9 (pc := 29) hC 6 (by decide) rfl kf_X7_102 dX7_liftConstraint_29 (ly_7_0 hL ka0).2.1 ?_
        refine j_imul (pc := 32) hC dX7_liftConstraint_32 ?_
        refine j_icmp_ge (pc := 33) hC 62 dX7_liftConstraint_33 (by decide) (fun c7 => ?_) (fun c7 => ?_)
        · rw [if_pos c7] at h
          obtain rfl := Option.some.inj h
          have hk : jJ X G 3 L 0 0 (jQM X G L (some (.int r)) μ' 0 0) 62 [(0, .ref (L.2.2 a0))] [] m6 := hk
          exact j_lv [0] rfl hk
        · rw [if_neg c7] at h
          refine j_aload_n (pc := 36) hC 0 0 dX7_liftConstraint_36 rfl rfl ?_
          refine jgr_7 (pc := 37) hC 0 (by decide) rfl kf_X7_12 dX7_liftConstraint_37 ka0 (ly_7_0 hL ka0).1 ?_
          refine jgr_9 (pc := 40) hC 4 (by decide) rfl kf_X7_105 dX7_liftConstraint_40 (ly_7_0 hL ka0).2.1 (ly_9_4 hL (ly_7_0 hL ka0).2.1).1 ?_
          refine j_iload_n (pc := 43) hC 2 1 dX7_liftConstraint_43 rfl rfl ?_
          refine j_iconst (pc := 44) hC (4 : Int32) dX7_liftConstraint_44 (by decide) ?_
          refine j_isub (pc := 45) hC dX7_liftConstraint_45 ?_
          refine j_aload_n (pc := 46) hC 0 0 dX7_liftConstraint_46 rfl rfl ?_
          refine jgr_7 (pc := 47) hC 0 (by decide) rfl kf_X7_12 dX7_liftConstraint_47 ka0 (ly_7_0 hL ka0).1 ?_
          refine jgr_9 (pc := 50) hC 4 (by decide) rfl kf_X7_105 dX7_liftConstraint_50 (ly_7_0 hL ka0).2.1 (ly_9_4 hL (ly_7_0 hL ka0).2.1).1 ?_
          refine j_iload_n (pc := 53) hC 2 1 dX7_liftConstraint_53 rfl rfl ?_
          obtain ⟨i8, v9, e10, h⟩ := jrd_some h
          refine j_iald (pc := 54) hC dX7_liftConstraint_54 (ly_9_4 hL (ly_7_0 hL ka0).2.1).2.1 (ly_9_4 hL (ly_7_0 hL ka0).2.1).2.2 i8 e10 ?_
          obtain ⟨i11, h⟩ := jin_some h
          obtain ⟨m12, e13, h⟩ := jbd_ex h
          refine j_iast (pc := 55) hC dX7_liftConstraint_55 (ly_9_4 hL (ly_7_0 hL ka0).2.1).2.1 (ly_9_4 hL (ly_7_0 hL ka0).2.1).2.2 i11 e13 ?_
          refine j_iinc (pc := 56) hC 1 (u5 + (1 : Int32)) [(2, .int (u5 + (1 : Int32))), (0, .ref (L.2.2 a0))] dX7_liftConstraint_56 rfl rfl (by decide) rfl ?_
          refine j_goto (pc := 59) hC 23 dX7_liftConstraint_59 (by decide) ?_
          obtain rfl := Option.some.inj h
          have hk : jJ X G 3 L 0 0 (jQM X G L (some (.int r)) μ' 0 0) 23 [(0, .ref (L.2.2 a0)), (2, .int (u5 + (1 : Int32)))] [] m12 := hk
          exact j_lv [1, 0] rfl hk
      · obtain ⟨m17, rfl⟩ : ∃ y, y = w14 := ⟨_, rfl⟩
        try dsimp only at h
        show jJ X G 3 L 0 0 (jQM X G L (some (.int r)) μ' 0 0) 62 [(0, .ref (L.2.2 a0))] [] m17
        refine j_aload_n (pc := 62) hC 0 0 dX7_liftConstraint_62 rfl rfl ?_
        refine jgr_7 (pc := 63) hC 0 (by decide) rfl kf_X7_12 dX7_liftConstraint_63 ka0 (ly_7_0 hL ka0).1 ?_
        refine j_dup (pc := 66) hC dX7_liftConstraint_66 rfl ?_
        refine jgi_9 (pc := 67) hC 6 (by decide) rfl kf_X7_102 dX7_liftConstraint_67 (ly_7_0 hL ka0).2.1 ?_
        refine j_iconst (pc := 70) hC (1 : Int32) dX7_liftConstraint_70 (by decide) ?_
        refine j_isub (pc := 71) hC dX7_liftConstraint_71 ?_
        obtain ⟨m18, e19, h⟩ := jbd_ex h
        refine jpi_9 (pc := 72) hC 6 (by decide) rfl kf_X7_102 dX7_liftConstraint_72 rfl (by decide) (ly_7_0 hL ka0).2.1 e19 ?_
        refine j_aload_n (pc := 75) hC 0 0 dX7_liftConstraint_75 rfl rfl ?_
        refine j_bipush (pc := 76) hC (30 : Int32) dX7_liftConstraint_76 (by decide) ?_
        obtain ⟨m20, e21, h⟩ := jcl_some h
        refine j_vv (pc := 78) hC hR [.int (30 : Int32)] iy_X7_changed (q := (RX7, TX7, 3)) (ci := 7) rfl rfl (by decide) km_X7_44 dX7_liftConstraint_78 rfl (by decide) ka0 (c_X7_changed hL ka0 e21) (by decide) (Nat.le_of_ble_eq_true rfl) rfl ?_
        refine j_aload_n (pc := 81) hC 0 0 dX7_liftConstraint_81 rfl rfl ?_
        refine jgr_7 (pc := 82) hC 0 (by decide) rfl kf_X7_12 dX7_liftConstraint_82 ka0 (ly_7_0 hL ka0).1 ?_
        refine jgi_9 (pc := 85) hC 6 (by decide) rfl kf_X7_102 dX7_liftConstraint_85 (ly_7_0 hL ka0).2.1 ?_
        obtain ⟨rfl, rfl⟩ := Prod.mk.inj (Option.some.inj h)
        exact j_iret (pc := 88) hC dX7_liftConstraint_88 rfl
    · rw [if_neg c2] at h
      refine j_iconst (pc := 15) hC (-1 : Int32) dX7_liftConstraint_15 (by decide) ?_
      obtain ⟨rfl, rfl⟩ := Prod.mk.inj (Option.some.inj h)
      exact j_iret (pc := 16) hC dX7_liftConstraint_16 rfl
theorem dX7_thingsOnTrails_0 : decode cX7_thingsOnTrails 0 = .ok (.iconst 0, 1) := by decide +kernel
theorem dX7_thingsOnTrails_1 : decode cX7_thingsOnTrails 1 = .ok (.istore_n 1, 1) := by decide +kernel
theorem dX7_thingsOnTrails_2 : decode cX7_thingsOnTrails 2 = .ok (.iconst 0, 1) := by decide +kernel
theorem dX7_thingsOnTrails_3 : decode cX7_thingsOnTrails 3 = .ok (.istore_n 2, 1) := by decide +kernel
theorem dX7_thingsOnTrails_4 : decode cX7_thingsOnTrails 4 = .ok (.iload_n 2, 1) := by decide +kernel
theorem dX7_thingsOnTrails_5 : decode cX7_thingsOnTrails 5 = .ok (.aload_n 0, 1) := by decide +kernel
theorem dX7_thingsOnTrails_6 : decode cX7_thingsOnTrails 6 = .ok (.getfield 29, 3) := by decide +kernel
theorem dX7_thingsOnTrails_9 : decode cX7_thingsOnTrails 9 = .ok (.if_icmp .ge 21, 3) := by decide +kernel
theorem dX7_thingsOnTrails_12 : decode cX7_thingsOnTrails 12 = .ok (.iload_n 1, 1) := by decide +kernel
theorem dX7_thingsOnTrails_13 : decode cX7_thingsOnTrails 13 = .ok (.aload_n 0, 1) := by decide +kernel
theorem dX7_thingsOnTrails_14 : decode cX7_thingsOnTrails 14 = .ok (.getfield 20, 3) := by decide +kernel
theorem dX7_thingsOnTrails_17 : decode cX7_thingsOnTrails 17 = .ok (.iload_n 2, 1) := by decide +kernel
theorem dX7_thingsOnTrails_18 : decode cX7_thingsOnTrails 18 = .ok (.aaload, 1) := by decide +kernel
theorem dX7_thingsOnTrails_19 : decode cX7_thingsOnTrails 19 = .ok (.getfield 120, 3) := by decide +kernel
theorem dX7_thingsOnTrails_22 : decode cX7_thingsOnTrails 22 = .ok (.iadd, 1) := by decide +kernel
theorem dX7_thingsOnTrails_23 : decode cX7_thingsOnTrails 23 = .ok (.istore_n 1, 1) := by decide +kernel
theorem dX7_thingsOnTrails_24 : decode cX7_thingsOnTrails 24 = .ok (.iinc 2 1, 3) := by decide +kernel
theorem dX7_thingsOnTrails_27 : decode cX7_thingsOnTrails 27 = .ok (.goto (-23), 3) := by decide +kernel
theorem dX7_thingsOnTrails_30 : decode cX7_thingsOnTrails 30 = .ok (.iload_n 1, 1) := by decide +kernel
theorem dX7_thingsOnTrails_31 : decode cX7_thingsOnTrails 31 = .ok (.ireturn, 1) := by decide +kernel
def f_X7_thingsOnTrails_L4 (a0 : Nat) (μ : jM) (u1 : Int32) (u2 : Int32) : Option ((Int32 × Int32) ⊕ (Int32)) :=
  (if (μ.1 a0 2) ≤ u2 then some (.inr u1) else jin u2 9 (jbd (u1 + (μ.1 ((a0 + 8) + 8 * u2.toNatClampNeg) 2) : Int32) (fun v5 => some (.inl ((v5, u2 + (1 : Int32)))))))
def f_X7_thingsOnTrails (a0 : Nat) (μ : jM) : Option (Int32) :=
  jcl (jloop (fun (s : Int32 × Int32) => f_X7_thingsOnTrails_L4 a0 μ s.1 s.2) jfu (((0 : Int32), (0 : Int32)))) (fun w7 => some w7)
set_option maxHeartbeats 4000000 in
set_option maxRecDepth 100000 in
theorem c_X7_thingsOnTrails {l : Launch} {G : jG} {L : jL} (hL : jOKL L) {a0 : Nat} (ka0 : jK L a0 7) {μ : jM} {r : Int32} (h : f_X7_thingsOnTrails a0 μ = some r) : jCt l G L 3 yX7_thingsOnTrails cX7_thingsOnTrails 3 (some .int) [.ref (L.2.2 a0)] μ (some (.int r)) μ := by
  refine jCt_of (by decide) (Nat.le_of_ble_eq_true rfl) (fun X hC hX hR => ?_)
  subst hX
  have hC : jC X G cX7_thingsOnTrails 3 RX7 (some .int) := hC
  unfold f_X7_thingsOnTrails at h
  show jJ X G 3 L 0 0 (jQM X G L (some (.int r)) μ 0 0) 0 [(0, .ref (L.2.2 a0))] [] μ
  refine j_iconst (pc := 0) hC (0 : Int32) dX7_thingsOnTrails_0 (by decide) ?_
  refine j_istore_n (pc := 1) hC 1 [(1, .int (0 : Int32)), (0, .ref (L.2.2 a0))] dX7_thingsOnTrails_1 rfl (by decide) rfl rfl ?_
  refine j_iconst (pc := 2) hC (0 : Int32) dX7_thingsOnTrails_2 (by decide) ?_
  refine j_istore_n (pc := 3) hC 2 [(2, .int (0 : Int32)), (1, .int (0 : Int32)), (0, .ref (L.2.2 a0))] dX7_thingsOnTrails_3 rfl (by decide) rfl rfl ?_
  obtain ⟨w7, hw8, h⟩ := jcl_some h
  refine j_lv [2, 1, 0] rfl ?_
  refine j_loop (step := (fun (s : Int32 × Int32) => f_X7_thingsOnTrails_L4 a0 μ s.1 s.2)) (P := (fun (s : Int32 × Int32) => jJ X G 3 L 0 0 (jQM X G L (some (.int r)) μ 0 0) 4 [(0, .ref (L.2.2 a0)), (1, .int s.1), (2, .int s.2)] [] μ)) (R := (fun (e : Int32) => jJ X G 3 L 0 0 (jQM X G L (some (.int r)) μ 0 0) 30 [(1, .int e)] [] μ)) ?_ jfu (((0 : Int32), (0 : Int32))) w7 hw8 ?_
  · intro s9 o h hk
    obtain ⟨u1, u2⟩ := s9
    change f_X7_thingsOnTrails_L4 a0 μ u1 u2 = some o at h
    unfold f_X7_thingsOnTrails_L4 at h
    show jJ X G 3 L 0 0 (jQM X G L (some (.int r)) μ 0 0) 4 [(0, .ref (L.2.2 a0)), (1, .int u1), (2, .int u2)] [] μ
    refine j_iload_n (pc := 4) hC 2 2 dX7_thingsOnTrails_4 rfl rfl ?_
    refine j_aload_n (pc := 5) hC 0 0 dX7_thingsOnTrails_5 rfl rfl ?_
    refine jgi_7 (pc := 6) hC 2 (by decide) rfl kf_X7_29 dX7_thingsOnTrails_6 ka0 ?_
    refine j_icmp_ge (pc := 9) hC 30 dX7_thingsOnTrails_9 (by decide) (fun c3 => ?_) (fun c3 => ?_)
    · rw [if_pos c3] at h
      obtain rfl := Option.some.inj h
      have hk : jJ X G 3 L 0 0 (jQM X G L (some (.int r)) μ 0 0) 30 [(1, .int u1)] [] μ := hk
      exact j_lv [1] rfl hk
    · rw [if_neg c3] at h
      refine j_iload_n (pc := 12) hC 1 1 dX7_thingsOnTrails_12 rfl rfl ?_
      refine j_aload_n (pc := 13) hC 0 0 dX7_thingsOnTrails_13 rfl rfl ?_
      refine jgr_7 (pc := 14) hC 1 (by decide) rfl kf_X7_20 dX7_thingsOnTrails_14 ka0 (ly_7_1 hL ka0).1 ?_
      refine j_iload_n (pc := 17) hC 2 2 dX7_thingsOnTrails_17 rfl rfl ?_
      obtain ⟨i4, h⟩ := jin_some h
      refine j_aald (pc := 18) hC 3 dX7_thingsOnTrails_18 rfl (by decide) (ly_7_1 hL ka0).2.1 (le_16 hL (ly_7_1 hL ka0).2.1 (jlt i4)).1 i4 (le_16 hL (ly_7_1 hL ka0).2.1 (jlt i4)).2.1 ?_
      refine jgi_1 (pc := 19) hC 2 (by decide) rfl kf_X7_120 dX7_thingsOnTrails_19 (le_16 hL (ly_7_1 hL ka0).2.1 (jlt i4)).2.2.1 ?_
      refine j_iadd (pc := 22) hC dX7_thingsOnTrails_22 ?_
      obtain ⟨v5, e6, h⟩ := jbd_ex h
      refine j_istore_n (pc := 23) hC 1 [(1, .int v5), (0, .ref (L.2.2 a0)), (2, .int u2)] dX7_thingsOnTrails_23 rfl (by decide) e6 rfl ?_
      refine j_iinc (pc := 24) hC 2 (u2 + (1 : Int32)) [(2, .int (u2 + (1 : Int32))), (1, .int v5), (0, .ref (L.2.2 a0))] dX7_thingsOnTrails_24 rfl rfl (by decide) rfl ?_
      refine j_goto (pc := 27) hC 4 dX7_thingsOnTrails_27 (by decide) ?_
      obtain rfl := Option.some.inj h
      have hk : jJ X G 3 L 0 0 (jQM X G L (some (.int r)) μ 0 0) 4 [(0, .ref (L.2.2 a0)), (1, .int v5), (2, .int (u2 + (1 : Int32)))] [] μ := hk
      exact j_lv [2, 1, 0] rfl hk
  · obtain ⟨z10, rfl⟩ : ∃ y, y = w7 := ⟨_, rfl⟩
    try dsimp only at h
    show jJ X G 3 L 0 0 (jQM X G L (some (.int r)) μ 0 0) 30 [(1, .int z10)] [] μ
    refine j_iload_n (pc := 30) hC 1 0 dX7_thingsOnTrails_30 rfl rfl ?_
    obtain rfl := Option.some.inj h
    exact j_iret (pc := 31) hC dX7_thingsOnTrails_31 rfl
theorem dX8_append_0 : decode cX8_append 0 = .ok (.aload_n 0, 1) := by decide +kernel
theorem dX8_append_1 : decode cX8_append 1 = .ok (.getfield 15, 3) := by decide +kernel
theorem dX8_append_4 : decode cX8_append 4 = .ok (.iconst 4, 1) := by decide +kernel
theorem dX8_append_5 : decode cX8_append 5 = .ok (.iadd, 1) := by decide +kernel
theorem dX8_append_6 : decode cX8_append 6 = .ok (.bipush 80, 2) := by decide +kernel
theorem dX8_append_8 : decode cX8_append 8 = .ok (.if_icmp .le 5, 3) := by decide +kernel
theorem dX8_append_11 : decode cX8_append 11 = .ok (.iconst (-1), 1) := by decide +kernel
theorem dX8_append_12 : decode cX8_append 12 = .ok (.ireturn, 1) := by decide +kernel
theorem dX8_append_13 : decode cX8_append 13 = .ok (.bipush 24, 2) := by decide +kernel
theorem dX8_append_15 : decode cX8_append 15 = .ok (.istore_n 2, 1) := by decide +kernel
theorem dX8_append_16 : decode cX8_append 16 = .ok (.iload_n 2, 1) := by decide +kernel
theorem dX8_append_17 : decode cX8_append 17 = .ok (.ifCond .lt 35, 3) := by decide +kernel
theorem dX8_append_20 : decode cX8_append 20 = .ok (.aload_n 0, 1) := by decide +kernel
theorem dX8_append_21 : decode cX8_append 21 = .ok (.getfield 9, 3) := by decide +kernel
theorem dX8_append_24 : decode cX8_append 24 = .ok (.aload_n 0, 1) := by decide +kernel
theorem dX8_append_25 : decode cX8_append 25 = .ok (.getfield 15, 3) := by decide +kernel
theorem dX8_append_28 : decode cX8_append 28 = .ok (.iload_n 1, 1) := by decide +kernel
theorem dX8_append_29 : decode cX8_append 29 = .ok (.iload_n 2, 1) := by decide +kernel
theorem dX8_append_30 : decode cX8_append 30 = .ok (.iushr, 1) := by decide +kernel
theorem dX8_append_31 : decode cX8_append 31 = .ok (.sipush 255, 3) := by decide +kernel
theorem dX8_append_34 : decode cX8_append 34 = .ok (.iand, 1) := by decide +kernel
theorem dX8_append_35 : decode cX8_append 35 = .ok (.iastore, 1) := by decide +kernel
theorem dX8_append_36 : decode cX8_append 36 = .ok (.aload_n 0, 1) := by decide +kernel
theorem dX8_append_37 : decode cX8_append 37 = .ok (.dup, 1) := by decide +kernel
theorem dX8_append_38 : decode cX8_append 38 = .ok (.getfield 15, 3) := by decide +kernel
theorem dX8_append_41 : decode cX8_append 41 = .ok (.iconst 1, 1) := by decide +kernel
theorem dX8_append_42 : decode cX8_append 42 = .ok (.iadd, 1) := by decide +kernel
theorem dX8_append_43 : decode cX8_append 43 = .ok (.putfield 15, 3) := by decide +kernel
theorem dX8_append_46 : decode cX8_append 46 = .ok (.iinc 2 (-8), 3) := by decide +kernel
theorem dX8_append_49 : decode cX8_append 49 = .ok (.goto (-33), 3) := by decide +kernel
theorem dX8_append_52 : decode cX8_append 52 = .ok (.aload_n 0, 1) := by decide +kernel
theorem dX8_append_53 : decode cX8_append 53 = .ok (.getfield 15, 3) := by decide +kernel
theorem dX8_append_56 : decode cX8_append 56 = .ok (.ireturn, 1) := by decide +kernel
def f_X8_append_L16 (a0 : Nat) (x1 : Int32) (u2 : Int32) (m3 : jM) : Option ((Int32 × jM) ⊕ (jM)) :=
  (if u2 < (0 : Int32) then some (.inr m3) else jin (m3.1 a0 1) 80 (jbd (jsi m3 (a0 + 1) (m3.1 a0 1).toNatClampNeg ((jushr x1 u2) &&& (255 : Int32))) (fun m6 => jbd (jsi m6 a0 1 ((m6.1 a0 1) + (1 : Int32))) (fun m8 => some (.inl ((u2 + (-8 : Int32), m8)))))))
def f_X8_append (a0 : Nat) (x1 : Int32) (μ : jM) : Option (Int32 × jM) :=
  (if ((μ.1 a0 1) + (4 : Int32)) ≤ (80 : Int32) then jcl (jloop (fun (s : Int32 × jM) => f_X8_append_L16 a0 x1 s.1 s.2) jfu (((24 : Int32), μ))) (fun w10 => some ((w10.1 a0 1, w10))) else some (((-1 : Int32), μ)))
set_option maxHeartbeats 4000000 in
set_option maxRecDepth 100000 in
theorem c_X8_append {l : Launch} {G : jG} {L : jL} (hL : jOKL L) {a0 : Nat} {x1 : Int32} (ka0 : jK L a0 8) {μ μ' : jM} {r : Int32} (h : f_X8_append a0 x1 μ = some ((r, μ'))) : jCt l G L 3 yX8_append cX8_append 3 (some .int) [.ref (L.2.2 a0), .int x1] μ (some (.int r)) μ' := by
  refine jCt_of (by decide) (Nat.le_of_ble_eq_true rfl) (fun X hC hX hR => ?_)
  subst hX
  have hC : jC X G cX8_append 3 RX8 (some .int) := hC
  unfold f_X8_append at h
  show jJ X G 3 L 0 0 (jQM X G L (some (.int r)) μ' 0 0) 0 [(0, .ref (L.2.2 a0)), (1, .int x1)] [] μ
  refine j_aload_n (pc := 0) hC 0 0 dX8_append_0 rfl rfl ?_
  refine jgi_8 (pc := 1) hC 1 (by decide) rfl kf_X8_15 dX8_append_1 ka0 ?_
  refine j_iconst (pc := 4) hC (4 : Int32) dX8_append_4 (by decide) ?_
  refine j_iadd (pc := 5) hC dX8_append_5 ?_
  refine j_bipush (pc := 6) hC (80 : Int32) dX8_append_6 (by decide) ?_
  refine j_icmp_le (pc := 8) hC 13 dX8_append_8 (by decide) (fun c1 => ?_) (fun c1 => ?_)
  · rw [if_pos c1] at h
    refine j_bipush (pc := 13) hC (24 : Int32) dX8_append_13 (by decide) ?_
    refine j_istore_n (pc := 15) hC 2 [(2, .int (24 : Int32)), (0, .ref (L.2.2 a0)), (1, .int x1)] dX8_append_15 rfl (by decide) rfl rfl ?_
    obtain ⟨w10, hw11, h⟩ := jcl_some h
    refine j_lv [1, 2, 0] rfl ?_
    refine j_loop (step := (fun (s : Int32 × jM) => f_X8_append_L16 a0 x1 s.1 s.2)) (P := (fun (s : Int32 × jM) => jJ X G 3 L 0 0 (jQM X G L (some (.int r)) μ' 0 0) 16 [(0, .ref (L.2.2 a0)), (1, .int x1), (2, .int s.1)] [] s.2)) (R := (fun (e : jM) => jJ X G 3 L 0 0 (jQM X G L (some (.int r)) μ' 0 0) 52 [(0, .ref (L.2.2 a0))] [] e)) ?_ jfu (((24 : Int32), μ)) w10 hw11 ?_
    · intro s12 o h hk
      obtain ⟨u2, m3⟩ := s12
      change f_X8_append_L16 a0 x1 u2 m3 = some o at h
      unfold f_X8_append_L16 at h
      show jJ X G 3 L 0 0 (jQM X G L (some (.int r)) μ' 0 0) 16 [(0, .ref (L.2.2 a0)), (1, .int x1), (2, .int u2)] [] m3
      refine j_iload_n (pc := 16) hC 2 2 dX8_append_16 rfl rfl ?_
      refine j_if_lt (pc := 17) hC 52 dX8_append_17 (by decide) (fun c4 => ?_) (fun c4 => ?_)
      · rw [if_pos c4] at h
        obtain rfl := Option.some.inj h
        have hk : jJ X G 3 L 0 0 (jQM X G L (some (.int r)) μ' 0 0) 52 [(0, .ref (L.2.2 a0))] [] m3 := hk
        exact j_lv [0] rfl hk
      · rw [if_neg c4] at h
        refine j_aload_n (pc := 20) hC 0 0 dX8_append_20 rfl rfl ?_
        refine jgr_8 (pc := 21) hC 0 (by decide) rfl kf_X8_9 dX8_append_21 ka0 (ly_8_0 hL ka0).1 ?_
        refine j_aload_n (pc := 24) hC 0 0 dX8_append_24 rfl rfl ?_
        refine jgi_8 (pc := 25) hC 1 (by decide) rfl kf_X8_15 dX8_append_25 ka0 ?_
        refine j_iload_n (pc := 28) hC 1 1 dX8_append_28 rfl rfl ?_
        refine j_iload_n (pc := 29) hC 2 2 dX8_append_29 rfl rfl ?_
        refine j_iushr (pc := 30) hC dX8_append_30 ?_
        refine j_sipush (pc := 31) hC (255 : Int32) dX8_append_31 (by decide) ?_
        refine j_iand (pc := 34) hC dX8_append_34 ?_
        obtain ⟨i5, h⟩ := jin_some h
        obtain ⟨m6, e7, h⟩ := jbd_ex h
        refine j_iast (pc := 35) hC dX8_append_35 (ly_8_0 hL ka0).2.1 (ly_8_0 hL ka0).2.2 i5 e7 ?_
        refine j_aload_n (pc := 36) hC 0 0 dX8_append_36 rfl rfl ?_
        refine j_dup (pc := 37) hC dX8_append_37 rfl ?_
        refine jgi_8 (pc := 38) hC 1 (by decide) rfl kf_X8_15 dX8_append_38 ka0 ?_
        refine j_iconst (pc := 41) hC (1 : Int32) dX8_append_41 (by decide) ?_
        refine j_iadd (pc := 42) hC dX8_append_42 ?_
        obtain ⟨m8, e9, h⟩ := jbd_ex h
        refine jpi_8 (pc := 43) hC 1 (by decide) rfl kf_X8_15 dX8_append_43 rfl (by decide) ka0 e9 ?_
        refine j_iinc (pc := 46) hC 2 (u2 + (-8 : Int32)) [(2, .int (u2 + (-8 : Int32))), (0, .ref (L.2.2 a0)), (1, .int x1)] dX8_append_46 rfl rfl (by decide) rfl ?_
        refine j_goto (pc := 49) hC 16 dX8_append_49 (by decide) ?_
        obtain rfl := Option.some.inj h
        have hk : jJ X G 3 L 0 0 (jQM X G L (some (.int r)) μ' 0 0) 16 [(0, .ref (L.2.2 a0)), (1, .int x1), (2, .int (u2 + (-8 : Int32)))] [] m8 := hk
        exact j_lv [1, 2, 0] rfl hk
    · obtain ⟨m13, rfl⟩ : ∃ y, y = w10 := ⟨_, rfl⟩
      try dsimp only at h
      show jJ X G 3 L 0 0 (jQM X G L (some (.int r)) μ' 0 0) 52 [(0, .ref (L.2.2 a0))] [] m13
      refine j_aload_n (pc := 52) hC 0 0 dX8_append_52 rfl rfl ?_
      refine jgi_8 (pc := 53) hC 1 (by decide) rfl kf_X8_15 dX8_append_53 ka0 ?_
      obtain ⟨rfl, rfl⟩ := Prod.mk.inj (Option.some.inj h)
      exact j_iret (pc := 56) hC dX8_append_56 rfl
  · rw [if_neg c1] at h
    refine j_iconst (pc := 11) hC (-1 : Int32) dX8_append_11 (by decide) ?_
    obtain ⟨rfl, rfl⟩ := Prod.mk.inj (Option.some.inj h)
    exact j_iret (pc := 12) hC dX8_append_12 rfl
theorem dX8_cut_0 : decode cX8_cut 0 = .ok (.iload_n 1, 1) := by decide +kernel
theorem dX8_cut_1 : decode cX8_cut 1 = .ok (.ifCond .lt 11, 3) := by decide +kernel
theorem dX8_cut_4 : decode cX8_cut 4 = .ok (.iload_n 1, 1) := by decide +kernel
theorem dX8_cut_5 : decode cX8_cut 5 = .ok (.aload_n 0, 1) := by decide +kernel
theorem dX8_cut_6 : decode cX8_cut 6 = .ok (.getfield 15, 3) := by decide +kernel
theorem dX8_cut_9 : decode cX8_cut 9 = .ok (.if_icmp .le 5, 3) := by decide +kernel
theorem dX8_cut_12 : decode cX8_cut 12 = .ok (.iconst 0, 1) := by decide +kernel
theorem dX8_cut_13 : decode cX8_cut 13 = .ok (.ireturn, 1) := by decide +kernel
theorem dX8_cut_14 : decode cX8_cut 14 = .ok (.aload_n 0, 1) := by decide +kernel
theorem dX8_cut_15 : decode cX8_cut 15 = .ok (.iload_n 1, 1) := by decide +kernel
theorem dX8_cut_16 : decode cX8_cut 16 = .ok (.putfield 15, 3) := by decide +kernel
theorem dX8_cut_19 : decode cX8_cut 19 = .ok (.iconst 1, 1) := by decide +kernel
theorem dX8_cut_20 : decode cX8_cut 20 = .ok (.ireturn, 1) := by decide +kernel
def f_X8_cut (a0 : Nat) (x1 : Int32) (μ : jM) : Int32 × jM :=
  (if x1 < (0 : Int32) then ((0 : Int32), μ) else (if x1 ≤ (μ.1 a0 1) then jbd (jsi μ a0 1 x1) (fun m3 => ((1 : Int32), m3)) else ((0 : Int32), μ)))
set_option maxHeartbeats 4000000 in
set_option maxRecDepth 100000 in
theorem c_X8_cut {l : Launch} {G : jG} {L : jL} (hL : jOKL L) {a0 : Nat} {x1 : Int32} (ka0 : jK L a0 8) {μ μ' : jM} {r : Int32} (h : f_X8_cut a0 x1 μ = (r, μ')) : jCt l G L 3 yX8_cut cX8_cut 2 (some .boolean) [.ref (L.2.2 a0), .int x1] μ (some (.int r)) μ' := by
  refine jCt_of (by decide) (Nat.le_of_ble_eq_true rfl) (fun X hC hX hR => ?_)
  subst hX
  have hC : jC X G cX8_cut 2 RX8 (some .boolean) := hC
  unfold f_X8_cut at h
  show jJ X G 2 L 0 0 (jQM X G L (some (.int r)) μ' 0 0) 0 [(0, .ref (L.2.2 a0)), (1, .int x1)] [] μ
  refine j_iload_n (pc := 0) hC 1 1 dX8_cut_0 rfl rfl ?_
  refine j_if_lt (pc := 1) hC 12 dX8_cut_1 (by decide) (fun c1 => ?_) (fun c1 => ?_)
  · rw [if_pos c1] at h
    refine j_iconst (pc := 12) hC (0 : Int32) dX8_cut_12 (by decide) ?_
    obtain ⟨rfl, rfl⟩ := Prod.mk.inj h
    exact j_bret (pc := 13) hC dX8_cut_13 rfl rfl
  · rw [if_neg c1] at h
    refine j_iload_n (pc := 4) hC 1 1 dX8_cut_4 rfl rfl ?_
    refine j_aload_n (pc := 5) hC 0 0 dX8_cut_5 rfl rfl ?_
    refine jgi_8 (pc := 6) hC 1 (by decide) rfl kf_X8_15 dX8_cut_6 ka0 ?_
    refine j_icmp_le (pc := 9) hC 14 dX8_cut_9 (by decide) (fun c2 => ?_) (fun c2 => ?_)
    · rw [if_pos c2] at h
      refine j_aload_n (pc := 14) hC 0 0 dX8_cut_14 rfl rfl ?_
      refine j_iload_n (pc := 15) hC 1 1 dX8_cut_15 rfl rfl ?_
      obtain ⟨m3, e4, h⟩ := jbd_ex h
      refine jpi_8 (pc := 16) hC 1 (by decide) rfl kf_X8_15 dX8_cut_16 rfl (by decide) ka0 e4 ?_
      refine j_iconst (pc := 19) hC (1 : Int32) dX8_cut_19 (by decide) ?_
      obtain ⟨rfl, rfl⟩ := Prod.mk.inj h
      exact j_bret (pc := 20) hC dX8_cut_20 rfl rfl
    · rw [if_neg c2] at h
      refine j_iconst (pc := 12) hC (0 : Int32) dX8_cut_12 (by decide) ?_
      obtain ⟨rfl, rfl⟩ := Prod.mk.inj h
      exact j_bret (pc := 13) hC dX8_cut_13 rfl rfl
theorem dX8_empty_0 : decode cX8_empty 0 = .ok (.aload_n 0, 1) := by decide +kernel
theorem dX8_empty_1 : decode cX8_empty 1 = .ok (.iconst 0, 1) := by decide +kernel
theorem dX8_empty_2 : decode cX8_empty 2 = .ok (.putfield 15, 3) := by decide +kernel
theorem dX8_empty_5 : decode cX8_empty 5 = .ok (.return_, 1) := by decide +kernel
def f_X8_empty (a0 : Nat) (μ : jM) : jM :=
  jbd (jsi μ a0 1 (0 : Int32)) (fun m1 => m1)
set_option maxHeartbeats 4000000 in
set_option maxRecDepth 100000 in
theorem c_X8_empty {l : Launch} {G : jG} {L : jL} (hL : jOKL L) {a0 : Nat} (ka0 : jK L a0 8) {μ μ' : jM} (h : f_X8_empty a0 μ = μ') : jCt l G L 3 yX8_empty cX8_empty 1 none [.ref (L.2.2 a0)] μ none μ' := by
  refine jCt_of (by decide) (Nat.le_of_ble_eq_true rfl) (fun X hC hX hR => ?_)
  subst hX
  have hC : jC X G cX8_empty 1 RX8 none := hC
  unfold f_X8_empty at h
  show jJ X G 1 L 0 0 (jQM X G L none μ' 0 0) 0 [(0, .ref (L.2.2 a0))] [] μ
  refine j_aload_n (pc := 0) hC 0 0 dX8_empty_0 rfl rfl ?_
  refine j_iconst (pc := 1) hC (0 : Int32) dX8_empty_1 (by decide) ?_
  obtain ⟨m1, e2, h⟩ := jbd_ex h
  refine jpi_8 (pc := 2) hC 1 (by decide) rfl kf_X8_15 dX8_empty_2 rfl (by decide) ka0 e2 ?_
  subst h
  exact j_vret (pc := 5) hC dX8_empty_5 rfl
