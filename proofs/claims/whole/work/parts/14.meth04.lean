theorem dX6_valuesLeft_0 : decode cX6_valuesLeft 0 = .ok (.iconst 0, 1) := by decide +kernel
theorem dX6_valuesLeft_1 : decode cX6_valuesLeft 1 = .ok (.istore_n 1, 1) := by decide +kernel
theorem dX6_valuesLeft_2 : decode cX6_valuesLeft 2 = .ok (.aload_n 0, 1) := by decide +kernel
theorem dX6_valuesLeft_3 : decode cX6_valuesLeft 3 = .ok (.getfield 9, 3) := by decide +kernel
theorem dX6_valuesLeft_6 : decode cX6_valuesLeft 6 = .ok (.astore_n 2, 1) := by decide +kernel
theorem dX6_valuesLeft_7 : decode cX6_valuesLeft 7 = .ok (.aload_n 2, 1) := by decide +kernel
theorem dX6_valuesLeft_8 : decode cX6_valuesLeft 8 = .ok (.arraylength, 1) := by decide +kernel
theorem dX6_valuesLeft_9 : decode cX6_valuesLeft 9 = .ok (.istore_n 3, 1) := by decide +kernel
theorem dX6_valuesLeft_10 : decode cX6_valuesLeft 10 = .ok (.iconst 0, 1) := by decide +kernel
theorem dX6_valuesLeft_11 : decode cX6_valuesLeft 11 = .ok (.istore 4, 2) := by decide +kernel
theorem dX6_valuesLeft_13 : decode cX6_valuesLeft 13 = .ok (.iload 4, 2) := by decide +kernel
theorem dX6_valuesLeft_15 : decode cX6_valuesLeft 15 = .ok (.iload_n 3, 1) := by decide +kernel
theorem dX6_valuesLeft_16 : decode cX6_valuesLeft 16 = .ok (.if_icmp .ge 23, 3) := by decide +kernel
theorem dX6_valuesLeft_19 : decode cX6_valuesLeft 19 = .ok (.aload_n 2, 1) := by decide +kernel
theorem dX6_valuesLeft_20 : decode cX6_valuesLeft 20 = .ok (.iload 4, 2) := by decide +kernel
theorem dX6_valuesLeft_22 : decode cX6_valuesLeft 22 = .ok (.iaload, 1) := by decide +kernel
theorem dX6_valuesLeft_23 : decode cX6_valuesLeft 23 = .ok (.istore 5, 2) := by decide +kernel
theorem dX6_valuesLeft_25 : decode cX6_valuesLeft 25 = .ok (.iload_n 1, 1) := by decide +kernel
theorem dX6_valuesLeft_26 : decode cX6_valuesLeft 26 = .ok (.iload 5, 2) := by decide +kernel
theorem dX6_valuesLeft_28 : decode cX6_valuesLeft 28 = .ok (.invokestatic 24, 3) := by decide +kernel
theorem dX6_valuesLeft_31 : decode cX6_valuesLeft 31 = .ok (.iadd, 1) := by decide +kernel
theorem dX6_valuesLeft_32 : decode cX6_valuesLeft 32 = .ok (.istore_n 1, 1) := by decide +kernel
theorem dX6_valuesLeft_33 : decode cX6_valuesLeft 33 = .ok (.iinc 4 1, 3) := by decide +kernel
theorem dX6_valuesLeft_36 : decode cX6_valuesLeft 36 = .ok (.goto (-23), 3) := by decide +kernel
theorem dX6_valuesLeft_39 : decode cX6_valuesLeft 39 = .ok (.iload_n 1, 1) := by decide +kernel
theorem dX6_valuesLeft_40 : decode cX6_valuesLeft 40 = .ok (.ireturn, 1) := by decide +kernel
def f_X6_valuesLeft_L13 (a0 : Nat) (μ : jM) (u1 : Int32) (u2 : Int32) : Option ((Int32 × Int32) ⊕ (Int32)) :=
  (if (nI 5) ≤ u2 then some (.inr u1) else jrd (μ.1 (a0 + 1)) u2 5 (fun v5 => jbd (u1 + (f_J6_bitCount_0f7a4 v5) : Int32) (fun v7 => some (.inl ((v7, u2 + (1 : Int32)))))))
def f_X6_valuesLeft (a0 : Nat) (μ : jM) : Option (Int32) :=
  jcl (jloop (fun (s : Int32 × Int32) => f_X6_valuesLeft_L13 a0 μ s.1 s.2) jfu (((0 : Int32), (0 : Int32)))) (fun w9 => some w9)
set_option maxHeartbeats 4000000 in
set_option maxRecDepth 100000 in
theorem c_X6_valuesLeft {l : Launch} {G : jG} {L : jL} (hL : jOKL L) {a0 : Nat} (ka0 : jK L a0 6) {μ : jM} {r : Int32} (h : f_X6_valuesLeft a0 μ = some r) : jCt l G L 4 yX6_valuesLeft cX6_valuesLeft 6 (some .int) [.ref (L.2.2 a0)] μ (some (.int r)) μ := by
  refine jCt_of (by decide) (Nat.le_of_ble_eq_true rfl) (fun X hC hX hR => ?_)
  subst hX
  have hC : jC X G cX6_valuesLeft 6 RX6 (some .int) := hC
  unfold f_X6_valuesLeft at h
  show jJ X G 6 L 0 0 (jQM X G L (some (.int r)) μ 0 0) 0 [(0, .ref (L.2.2 a0))] [] μ
  refine j_iconst (pc := 0) hC (0 : Int32) dX6_valuesLeft_0 (by decide) ?_
  refine j_istore_n (pc := 1) hC 1 [(1, .int (0 : Int32)), (0, .ref (L.2.2 a0))] dX6_valuesLeft_1 rfl (by decide) rfl rfl ?_
  refine j_aload_n (pc := 2) hC 0 1 dX6_valuesLeft_2 rfl rfl ?_
  refine jgr_6 (pc := 3) hC 0 (by decide) rfl kf_X6_9 dX6_valuesLeft_3 ka0 (ly_6_0 hL ka0).1 ?_
  refine j_astore_n (pc := 6) hC 2 [(2, .ref (L.2.2 (a0 + 1))), (1, .int (0 : Int32)), (0, .ref (L.2.2 a0))] dX6_valuesLeft_6 rfl (by decide) rfl rfl ?_
  refine j_aload_n (pc := 7) hC 2 0 dX6_valuesLeft_7 rfl rfl ?_
  refine j_alen (pc := 8) hC 0 dX6_valuesLeft_8 (ly_6_0 hL ka0).2.1 rfl (by decide) (ly_6_0 hL ka0).2.2 ?_
  refine j_istore_n (pc := 9) hC 3 [(3, .int (nI 5)), (2, .ref (L.2.2 (a0 + 1))), (1, .int (0 : Int32)), (0, .ref (L.2.2 a0))] dX6_valuesLeft_9 rfl (by decide) rfl rfl ?_
  refine j_iconst (pc := 10) hC (0 : Int32) dX6_valuesLeft_10 (by decide) ?_
  refine j_istore (pc := 11) hC [(4, .int (0 : Int32)), (3, .int (nI 5)), (2, .ref (L.2.2 (a0 + 1))), (1, .int (0 : Int32)), (0, .ref (L.2.2 a0))] dX6_valuesLeft_11 (by decide) rfl rfl ?_
  obtain ⟨w9, hw10, h⟩ := jcl_some h
  refine j_lv [3, 2, 1, 0] rfl ?_
  refine j_loop (step := (fun (s : Int32 × Int32) => f_X6_valuesLeft_L13 a0 μ s.1 s.2)) (P := (fun (s : Int32 × Int32) => jJ X G 6 L 0 0 (jQM X G L (some (.int r)) μ 0 0) 13 [(1, .int s.1), (2, .ref (L.2.2 (a0 + 1))), (3, .int (nI 5)), (4, .int s.2)] [] μ)) (R := (fun (e : Int32) => jJ X G 6 L 0 0 (jQM X G L (some (.int r)) μ 0 0) 39 [(1, .int e)] [] μ)) ?_ jfu (((0 : Int32), (0 : Int32))) w9 hw10 ?_
  · intro s11 o h hk
    obtain ⟨u1, u2⟩ := s11
    change f_X6_valuesLeft_L13 a0 μ u1 u2 = some o at h
    unfold f_X6_valuesLeft_L13 at h
    show jJ X G 6 L 0 0 (jQM X G L (some (.int r)) μ 0 0) 13 [(1, .int u1), (2, .ref (L.2.2 (a0 + 1))), (3, .int (nI 5)), (4, .int u2)] [] μ
    refine j_iload (pc := 13) hC 3 dX6_valuesLeft_13 rfl ?_
    refine j_iload_n (pc := 15) hC 3 2 dX6_valuesLeft_15 rfl rfl ?_
    refine j_icmp_ge (pc := 16) hC 39 dX6_valuesLeft_16 (by decide) (fun c3 => ?_) (fun c3 => ?_)
    · rw [if_pos c3] at h
      obtain rfl := Option.some.inj h
      have hk : jJ X G 6 L 0 0 (jQM X G L (some (.int r)) μ 0 0) 39 [(1, .int u1)] [] μ := hk
      exact j_lv [0] rfl hk
    · rw [if_neg c3] at h
      refine j_aload_n (pc := 19) hC 2 1 dX6_valuesLeft_19 rfl rfl ?_
      refine j_iload (pc := 20) hC 3 dX6_valuesLeft_20 rfl ?_
      obtain ⟨i4, v5, e6, h⟩ := jrd_some h
      refine j_iald (pc := 22) hC dX6_valuesLeft_22 (ly_6_0 hL ka0).2.1 (ly_6_0 hL ka0).2.2 i4 e6 ?_
      refine j_istore (pc := 23) hC [(5, .int v5), (1, .int u1), (2, .ref (L.2.2 (a0 + 1))), (3, .int (nI 5)), (4, .int u2)] dX6_valuesLeft_23 (by decide) rfl rfl ?_
      refine j_iload_n (pc := 25) hC 1 1 dX6_valuesLeft_25 rfl rfl ?_
      refine j_iload (pc := 26) hC 0 dX6_valuesLeft_26 rfl ?_
      refine j_si (pc := 28) hC hR [.int v5] iy_J6_bitCount_0f7a4 km_X6_24 dX6_valuesLeft_28 rfl (by decide) (c_J6_bitCount_0f7a4 hL  rfl) (by decide) (Nat.le_of_ble_eq_true rfl) rfl ?_
      refine j_iadd (pc := 31) hC dX6_valuesLeft_31 ?_
      obtain ⟨v7, e8, h⟩ := jbd_ex h
      refine j_istore_n (pc := 32) hC 1 [(1, .int v7), (5, .int v5), (2, .ref (L.2.2 (a0 + 1))), (3, .int (nI 5)), (4, .int u2)] dX6_valuesLeft_32 rfl (by decide) e8 rfl ?_
      refine j_iinc (pc := 33) hC 4 (u2 + (1 : Int32)) [(4, .int (u2 + (1 : Int32))), (1, .int v7), (5, .int v5), (2, .ref (L.2.2 (a0 + 1))), (3, .int (nI 5))] dX6_valuesLeft_33 rfl rfl (by decide) rfl ?_
      refine j_goto (pc := 36) hC 13 dX6_valuesLeft_36 (by decide) ?_
      obtain rfl := Option.some.inj h
      have hk : jJ X G 6 L 0 0 (jQM X G L (some (.int r)) μ 0 0) 13 [(1, .int v7), (2, .ref (L.2.2 (a0 + 1))), (3, .int (nI 5)), (4, .int (u2 + (1 : Int32)))] [] μ := hk
      exact j_lv [1, 3, 4, 0] rfl hk
  · obtain ⟨z12, rfl⟩ : ∃ y, y = w9 := ⟨_, rfl⟩
    try dsimp only at h
    show jJ X G 6 L 0 0 (jQM X G L (some (.int r)) μ 0 0) 39 [(1, .int z12)] [] μ
    refine j_iload_n (pc := 39) hC 1 0 dX6_valuesLeft_39 rfl rfl ?_
    obtain rfl := Option.some.inj h
    exact j_iret (pc := 40) hC dX6_valuesLeft_40 rfl
theorem dX6_spread_0 : decode cX6_spread 0 = .ok (.aload_n 1, 1) := by decide +kernel
theorem dX6_spread_1 : decode cX6_spread 1 = .ok (.getfield 30, 3) := by decide +kernel
theorem dX6_spread_4 : decode cX6_spread 4 = .ok (.astore_n 3, 1) := by decide +kernel
theorem dX6_spread_5 : decode cX6_spread 5 = .ok (.aload_n 0, 1) := by decide +kernel
theorem dX6_spread_6 : decode cX6_spread 6 = .ok (.invokevirtual 33, 3) := by decide +kernel
theorem dX6_spread_9 : decode cX6_spread 9 = .ok (.istore 4, 2) := by decide +kernel
theorem dX6_spread_11 : decode cX6_spread 11 = .ok (.iconst 0, 1) := by decide +kernel
theorem dX6_spread_12 : decode cX6_spread 12 = .ok (.istore 5, 2) := by decide +kernel
theorem dX6_spread_14 : decode cX6_spread 14 = .ok (.iload 5, 2) := by decide +kernel
theorem dX6_spread_16 : decode cX6_spread 16 = .ok (.bipush 30, 2) := by decide +kernel
theorem dX6_spread_18 : decode cX6_spread 18 = .ok (.if_icmp .gt 118, 3) := by decide +kernel
theorem dX6_spread_21 : decode cX6_spread 21 = .ok (.iconst 0, 1) := by decide +kernel
theorem dX6_spread_22 : decode cX6_spread 22 = .ok (.istore 6, 2) := by decide +kernel
theorem dX6_spread_24 : decode cX6_spread 24 = .ok (.iload 6, 2) := by decide +kernel
theorem dX6_spread_26 : decode cX6_spread 26 = .ok (.aload_n 1, 1) := by decide +kernel
theorem dX6_spread_27 : decode cX6_spread 27 = .ok (.getfield 37, 3) := by decide +kernel
theorem dX6_spread_30 : decode cX6_spread 30 = .ok (.if_icmp .ge 81, 3) := by decide +kernel
theorem dX6_spread_33 : decode cX6_spread 33 = .ok (.iload_n 2, 1) := by decide +kernel
theorem dX6_spread_34 : decode cX6_spread 34 = .ok (.iload 6, 2) := by decide +kernel
theorem dX6_spread_36 : decode cX6_spread 36 = .ok (.iushr, 1) := by decide +kernel
theorem dX6_spread_37 : decode cX6_spread 37 = .ok (.iconst 1, 1) := by decide +kernel
theorem dX6_spread_38 : decode cX6_spread 38 = .ok (.iand, 1) := by decide +kernel
theorem dX6_spread_39 : decode cX6_spread 39 = .ok (.iconst 1, 1) := by decide +kernel
theorem dX6_spread_40 : decode cX6_spread 40 = .ok (.if_icmp .ne 65, 3) := by decide +kernel
theorem dX6_spread_43 : decode cX6_spread 43 = .ok (.iconst 4, 1) := by decide +kernel
theorem dX6_spread_44 : decode cX6_spread 44 = .ok (.iload 6, 2) := by decide +kernel
theorem dX6_spread_46 : decode cX6_spread 46 = .ok (.imul, 1) := by decide +kernel
theorem dX6_spread_47 : decode cX6_spread 47 = .ok (.istore 7, 2) := by decide +kernel
theorem dX6_spread_49 : decode cX6_spread 49 = .ok (.aload_n 3, 1) := by decide +kernel
theorem dX6_spread_50 : decode cX6_spread 50 = .ok (.iload 7, 2) := by decide +kernel
theorem dX6_spread_52 : decode cX6_spread 52 = .ok (.iaload, 1) := by decide +kernel
theorem dX6_spread_53 : decode cX6_spread 53 = .ok (.iconst 3, 1) := by decide +kernel
theorem dX6_spread_54 : decode cX6_spread 54 = .ok (.if_icmp .ne 16, 3) := by decide +kernel
theorem dX6_spread_57 : decode cX6_spread 57 = .ok (.aload_n 0, 1) := by decide +kernel
theorem dX6_spread_58 : decode cX6_spread 58 = .ok (.aload_n 3, 1) := by decide +kernel
theorem dX6_spread_59 : decode cX6_spread 59 = .ok (.iload 7, 2) := by decide +kernel
theorem dX6_spread_61 : decode cX6_spread 61 = .ok (.iconst 1, 1) := by decide +kernel
theorem dX6_spread_62 : decode cX6_spread 62 = .ok (.iadd, 1) := by decide +kernel
theorem dX6_spread_63 : decode cX6_spread 63 = .ok (.iaload, 1) := by decide +kernel
theorem dX6_spread_64 : decode cX6_spread 64 = .ok (.invokevirtual 41, 3) := by decide +kernel
theorem dX6_spread_67 : decode cX6_spread 67 = .ok (.goto 29, 3) := by decide +kernel
theorem dX6_spread_70 : decode cX6_spread 70 = .ok (.aload_n 0, 1) := by decide +kernel
theorem dX6_spread_71 : decode cX6_spread 71 = .ok (.aload_n 3, 1) := by decide +kernel
theorem dX6_spread_72 : decode cX6_spread 72 = .ok (.iload 7, 2) := by decide +kernel
theorem dX6_spread_74 : decode cX6_spread 74 = .ok (.iaload, 1) := by decide +kernel
theorem dX6_spread_75 : decode cX6_spread 75 = .ok (.aload_n 3, 1) := by decide +kernel
theorem dX6_spread_76 : decode cX6_spread 76 = .ok (.iload 7, 2) := by decide +kernel
theorem dX6_spread_78 : decode cX6_spread 78 = .ok (.iconst 1, 1) := by decide +kernel
theorem dX6_spread_79 : decode cX6_spread 79 = .ok (.iadd, 1) := by decide +kernel
theorem dX6_spread_80 : decode cX6_spread 80 = .ok (.iaload, 1) := by decide +kernel
theorem dX6_spread_81 : decode cX6_spread 81 = .ok (.aload_n 3, 1) := by decide +kernel
theorem dX6_spread_82 : decode cX6_spread 82 = .ok (.iload 7, 2) := by decide +kernel
theorem dX6_spread_84 : decode cX6_spread 84 = .ok (.iconst 2, 1) := by decide +kernel
theorem dX6_spread_85 : decode cX6_spread 85 = .ok (.iadd, 1) := by decide +kernel
theorem dX6_spread_86 : decode cX6_spread 86 = .ok (.iaload, 1) := by decide +kernel
theorem dX6_spread_87 : decode cX6_spread 87 = .ok (.aload_n 3, 1) := by decide +kernel
theorem dX6_spread_88 : decode cX6_spread 88 = .ok (.iload 7, 2) := by decide +kernel
theorem dX6_spread_90 : decode cX6_spread 90 = .ok (.iconst 3, 1) := by decide +kernel
theorem dX6_spread_91 : decode cX6_spread 91 = .ok (.iadd, 1) := by decide +kernel
theorem dX6_spread_92 : decode cX6_spread 92 = .ok (.iaload, 1) := by decide +kernel
theorem dX6_spread_93 : decode cX6_spread 93 = .ok (.invokevirtual 45, 3) := by decide +kernel
theorem dX6_spread_96 : decode cX6_spread 96 = .ok (.istore 8, 2) := by decide +kernel
theorem dX6_spread_98 : decode cX6_spread 98 = .ok (.iload 8, 2) := by decide +kernel
theorem dX6_spread_100 : decode cX6_spread 100 = .ok (.ifCond .ne 5, 3) := by decide +kernel
theorem dX6_spread_103 : decode cX6_spread 103 = .ok (.iconst 0, 1) := by decide +kernel
theorem dX6_spread_104 : decode cX6_spread 104 = .ok (.ireturn, 1) := by decide +kernel
theorem dX6_spread_105 : decode cX6_spread 105 = .ok (.iinc 6 1, 3) := by decide +kernel
theorem dX6_spread_108 : decode cX6_spread 108 = .ok (.goto (-84), 3) := by decide +kernel
theorem dX6_spread_111 : decode cX6_spread 111 = .ok (.aload_n 0, 1) := by decide +kernel
theorem dX6_spread_112 : decode cX6_spread 112 = .ok (.invokevirtual 33, 3) := by decide +kernel
theorem dX6_spread_115 : decode cX6_spread 115 = .ok (.istore 6, 2) := by decide +kernel
theorem dX6_spread_117 : decode cX6_spread 117 = .ok (.iload 6, 2) := by decide +kernel
theorem dX6_spread_119 : decode cX6_spread 119 = .ok (.iload 4, 2) := by decide +kernel
theorem dX6_spread_121 : decode cX6_spread 121 = .ok (.if_icmp .ne 5, 3) := by decide +kernel
theorem dX6_spread_124 : decode cX6_spread 124 = .ok (.iconst 1, 1) := by decide +kernel
theorem dX6_spread_125 : decode cX6_spread 125 = .ok (.ireturn, 1) := by decide +kernel
theorem dX6_spread_126 : decode cX6_spread 126 = .ok (.iload 6, 2) := by decide +kernel
theorem dX6_spread_128 : decode cX6_spread 128 = .ok (.istore 4, 2) := by decide +kernel
theorem dX6_spread_130 : decode cX6_spread 130 = .ok (.iinc 5 1, 3) := by decide +kernel
theorem dX6_spread_133 : decode cX6_spread 133 = .ok (.goto (-119), 3) := by decide +kernel
theorem dX6_spread_136 : decode cX6_spread 136 = .ok (.iconst 1, 1) := by decide +kernel
theorem dX6_spread_137 : decode cX6_spread 137 = .ok (.ireturn, 1) := by decide +kernel
def f_X6_spread_L24 (a0 : Nat) (a1 : Nat) (x2 : Int32) (u7 : Int32) (m8 : jM) : Option ((Int32 × jM) ⊕ ((jM) ⊕ (jM))) :=
  (if (m8.1 a1 6) ≤ u7 then some (.inr (.inr (m8))) else (if ((jushr x2 u7) &&& (1 : Int32)) = (1 : Int32) then jrd (m8.1 (a1 + 5)) ((4 : Int32) * u7) 32 (fun v12 => jbd (fun (t14 : Int32) (m15 : jM) => (if t14 = (0 : Int32) then some (.inr (.inl m15)) else some (.inl ((u7 + (1 : Int32), m15))))) (fun k16 => (if v12 = (3 : Int32) then jrd (m8.1 (a1 + 5)) (((4 : Int32) * u7) + (1 : Int32)) 32 (fun v37 => jcl2 (f_X6_bearAllDifferent a0 v37 m8) (fun v39 m40 => k16 v39 m40)) else jrd (m8.1 (a1 + 5)) ((4 : Int32) * u7) 32 (fun v22 => jrd (m8.1 (a1 + 5)) (((4 : Int32) * u7) + (1 : Int32)) 32 (fun v25 => jrd (m8.1 (a1 + 5)) (((4 : Int32) * u7) + (2 : Int32)) 32 (fun v28 => jrd (m8.1 (a1 + 5)) (((4 : Int32) * u7) + (3 : Int32)) 32 (fun v31 => jcl2 (f_X6_bearTwo a0 v22 v25 v28 v31 m8) (fun v33 m34 => k16 v33 m34)))))))) else some (.inl ((u7 + (1 : Int32), m8)))))
def f_X6_spread_L14 (a0 : Nat) (a1 : Nat) (x2 : Int32) (u3 : Int32) (u4 : Int32) (m5 : jM) : Option ((Int32 × Int32 × jM) ⊕ ((jM) ⊕ ((jM) ⊕ (jM)))) :=
  (if (30 : Int32) < u4 then some (.inr (.inr (.inr (m5)))) else jcl (jloop (fun (s : Int32 × jM) => f_X6_spread_L24 a0 a1 x2 s.1 s.2) jfu (((0 : Int32), m5))) (fun w42 => match w42 with | .inl w42 => some (.inr (.inl w42)) | .inr w42 => jcl (f_X6_valuesLeft a0 w42) (fun v47 => (if v47 = u3 then some (.inr (.inr (.inl w42))) else some (.inl ((v47, u4 + (1 : Int32), w42)))))))
def f_X6_spread (a0 : Nat) (a1 : Nat) (x2 : Int32) (μ : jM) : Option (Int32 × jM) :=
  jcl (f_X6_valuesLeft a0 μ) (fun v1 => jcl (jloop (fun (s : Int32 × Int32 × jM) => f_X6_spread_L14 a0 a1 x2 s.1 s.2.1 s.2.2) jfu ((v1, (0 : Int32), μ))) (fun w50 => match w50 with | .inl w50 => some (((0 : Int32), w50)) | .inr w50 => match w50 with | .inl w50 => some (((1 : Int32), w50)) | .inr w50 => some (((1 : Int32), w50))))
set_option maxHeartbeats 4000000 in
set_option maxRecDepth 100000 in
theorem c_X6_spread {l : Launch} {G : jG} {L : jL} (hL : jOKL L) {a0 : Nat} {a1 : Nat} {x2 : Int32} (ka0 : jK L a0 6) (ka1 : jK L a1 9) {μ μ' : jM} {r : Int32} (h : f_X6_spread a0 a1 x2 μ = some ((r, μ'))) : jCt l G L 5 yX6_spread cX6_spread 9 (some .boolean) [.ref (L.2.2 a0), .ref (L.2.2 a1), .int x2] μ (some (.int r)) μ' := by
  refine jCt_of (by decide) (Nat.le_of_ble_eq_true rfl) (fun X hC hX hR => ?_)
  subst hX
  have hC : jC X G cX6_spread 9 RX6 (some .boolean) := hC
  unfold f_X6_spread at h
  show jJ X G 9 L 0 0 (jQM X G L (some (.int r)) μ' 0 0) 0 [(0, .ref (L.2.2 a0)), (1, .ref (L.2.2 a1)), (2, .int x2)] [] μ
  refine j_aload_n (pc := 0) hC 1 1 dX6_spread_0 rfl rfl ?_
  refine jgr_9 (pc := 1) hC 4 (by decide) rfl kf_X6_30 dX6_spread_1 ka1 (ly_9_4 hL ka1).1 ?_
  refine j_astore_n (pc := 4) hC 3 [(3, .ref (L.2.2 (a1 + 5))), (0, .ref (L.2.2 a0)), (1, .ref (L.2.2 a1)), (2, .int x2)] dX6_spread_4 rfl (by decide) rfl rfl ?_
  refine j_aload_n (pc := 5) hC 0 1 dX6_spread_5 rfl rfl ?_
  obtain ⟨v1, e2, h⟩ := jcl_some h
  refine j_vi (pc := 6) hC hR [] iy_X6_valuesLeft (q := (RX6, TX6, 1)) (ci := 6) rfl rfl (by decide) km_X6_33 dX6_spread_6 rfl (by decide) ka0 (c_X6_valuesLeft hL ka0 e2) (by decide) (Nat.le_of_ble_eq_true rfl) rfl ?_
  refine j_istore (pc := 9) hC [(4, .int v1), (3, .ref (L.2.2 (a1 + 5))), (0, .ref (L.2.2 a0)), (1, .ref (L.2.2 a1)), (2, .int x2)] dX6_spread_9 (by decide) rfl rfl ?_
  refine j_iconst (pc := 11) hC (0 : Int32) dX6_spread_11 (by decide) ?_
  refine j_istore (pc := 12) hC [(5, .int (0 : Int32)), (4, .int v1), (3, .ref (L.2.2 (a1 + 5))), (0, .ref (L.2.2 a0)), (1, .ref (L.2.2 a1)), (2, .int x2)] dX6_spread_12 (by decide) rfl rfl ?_
  obtain ⟨w50, hw51, h⟩ := jcl_some h
  refine j_lv [3, 4, 5, 2, 1, 0] rfl ?_
  refine j_loop (step := (fun (s : Int32 × Int32 × jM) => f_X6_spread_L14 a0 a1 x2 s.1 s.2.1 s.2.2)) (P := (fun (s : Int32 × Int32 × jM) => jJ X G 9 L 0 0 (jQM X G L (some (.int r)) μ' 0 0) 14 [(0, .ref (L.2.2 a0)), (1, .ref (L.2.2 a1)), (2, .int x2), (3, .ref (L.2.2 (a1 + 5))), (4, .int s.1), (5, .int s.2.1)] [] s.2.2)) (R := (fun (e : (jM) ⊕ ((jM) ⊕ (jM))) => match e with | .inl e => jJ X G 9 L 0 0 (jQM X G L (some (.int r)) μ' 0 0) 103 [] [] e | .inr e => match e with | .inl e => jJ X G 9 L 0 0 (jQM X G L (some (.int r)) μ' 0 0) 124 [] [] e | .inr e => jJ X G 9 L 0 0 (jQM X G L (some (.int r)) μ' 0 0) 136 [] [] e)) ?_ jfu ((v1, (0 : Int32), μ)) w50 hw51 ?_
  · intro s52 o h hk
    obtain ⟨u3, u4, m5⟩ := s52
    change f_X6_spread_L14 a0 a1 x2 u3 u4 m5 = some o at h
    unfold f_X6_spread_L14 at h
    show jJ X G 9 L 0 0 (jQM X G L (some (.int r)) μ' 0 0) 14 [(0, .ref (L.2.2 a0)), (1, .ref (L.2.2 a1)), (2, .int x2), (3, .ref (L.2.2 (a1 + 5))), (4, .int u3), (5, .int u4)] [] m5
    refine j_iload (pc := 14) hC 5 dX6_spread_14 rfl ?_
    refine j_bipush (pc := 16) hC (30 : Int32) dX6_spread_16 (by decide) ?_
    refine j_icmp_gt (pc := 18) hC 136 dX6_spread_18 (by decide) (fun c6 => ?_) (fun c6 => ?_)
    · rw [if_pos c6] at h
      obtain rfl := Option.some.inj h
      have hk : jJ X G 9 L 0 0 (jQM X G L (some (.int r)) μ' 0 0) 136 [] [] m5 := hk
      exact j_lv [] rfl hk
    · rw [if_neg c6] at h
      refine j_iconst (pc := 21) hC (0 : Int32) dX6_spread_21 (by decide) ?_
      refine j_istore (pc := 22) hC [(6, .int (0 : Int32)), (0, .ref (L.2.2 a0)), (1, .ref (L.2.2 a1)), (2, .int x2), (3, .ref (L.2.2 (a1 + 5))), (4, .int u3), (5, .int u4)] dX6_spread_22 (by decide) rfl rfl ?_
      obtain ⟨w42, hw43, h⟩ := jcl_some h
      refine j_lv [1, 2, 3, 4, 5, 6, 0] rfl ?_
      refine j_loop (step := (fun (s : Int32 × jM) => f_X6_spread_L24 a0 a1 x2 s.1 s.2)) (P := (fun (s : Int32 × jM) => jJ X G 9 L 0 0 (jQM X G L (some (.int r)) μ' 0 0) 24 [(0, .ref (L.2.2 a0)), (1, .ref (L.2.2 a1)), (2, .int x2), (3, .ref (L.2.2 (a1 + 5))), (4, .int u3), (5, .int u4), (6, .int s.1)] [] s.2)) (R := (fun (e : (jM) ⊕ (jM)) => match e with | .inl e => jJ X G 9 L 0 0 (jQM X G L (some (.int r)) μ' 0 0) 103 [] [] e | .inr e => jJ X G 9 L 0 0 (jQM X G L (some (.int r)) μ' 0 0) 111 [(0, .ref (L.2.2 a0)), (1, .ref (L.2.2 a1)), (2, .int x2), (3, .ref (L.2.2 (a1 + 5))), (4, .int u3), (5, .int u4)] [] e)) ?_ jfu (((0 : Int32), m5)) w42 hw43 ?_
      · intro s44 o h hk
        obtain ⟨u7, m8⟩ := s44
        change f_X6_spread_L24 a0 a1 x2 u7 m8 = some o at h
        unfold f_X6_spread_L24 at h
        show jJ X G 9 L 0 0 (jQM X G L (some (.int r)) μ' 0 0) 24 [(0, .ref (L.2.2 a0)), (1, .ref (L.2.2 a1)), (2, .int x2), (3, .ref (L.2.2 (a1 + 5))), (4, .int u3), (5, .int u4), (6, .int u7)] [] m8
        refine j_iload (pc := 24) hC 6 dX6_spread_24 rfl ?_
        refine j_aload_n (pc := 26) hC 1 1 dX6_spread_26 rfl rfl ?_
        refine jgi_9 (pc := 27) hC 6 (by decide) rfl kf_X6_37 dX6_spread_27 ka1 ?_
        refine j_icmp_ge (pc := 30) hC 111 dX6_spread_30 (by decide) (fun c9 => ?_) (fun c9 => ?_)
        · rw [if_pos c9] at h
          obtain rfl := Option.some.inj h
          have hk : jJ X G 9 L 0 0 (jQM X G L (some (.int r)) μ' 0 0) 111 [(0, .ref (L.2.2 a0)), (1, .ref (L.2.2 a1)), (2, .int x2), (3, .ref (L.2.2 (a1 + 5))), (4, .int u3), (5, .int u4)] [] m8 := hk
          exact j_lv [0, 1, 2, 3, 4, 5] rfl hk
        · rw [if_neg c9] at h
          refine j_iload_n (pc := 33) hC 2 2 dX6_spread_33 rfl rfl ?_
          refine j_iload (pc := 34) hC 6 dX6_spread_34 rfl ?_
          refine j_iushr (pc := 36) hC dX6_spread_36 ?_
          refine j_iconst (pc := 37) hC (1 : Int32) dX6_spread_37 (by decide) ?_
          refine j_iand (pc := 38) hC dX6_spread_38 ?_
          refine j_iconst (pc := 39) hC (1 : Int32) dX6_spread_39 (by decide) ?_
          refine j_icmp_ne (pc := 40) hC 105 dX6_spread_40 (by decide) (fun c10 => ?_) (fun c10 => ?_)
          · rw [if_neg c10] at h
            refine j_iinc (pc := 105) hC 6 (u7 + (1 : Int32)) [(6, .int (u7 + (1 : Int32))), (0, .ref (L.2.2 a0)), (1, .ref (L.2.2 a1)), (2, .int x2), (3, .ref (L.2.2 (a1 + 5))), (4, .int u3), (5, .int u4)] dX6_spread_105 rfl rfl (by decide) rfl ?_
            refine j_goto (pc := 108) hC 24 dX6_spread_108 (by decide) ?_
            obtain rfl := Option.some.inj h
            have hk : jJ X G 9 L 0 0 (jQM X G L (some (.int r)) μ' 0 0) 24 [(0, .ref (L.2.2 a0)), (1, .ref (L.2.2 a1)), (2, .int x2), (3, .ref (L.2.2 (a1 + 5))), (4, .int u3), (5, .int u4), (6, .int (u7 + (1 : Int32)))] [] m8 := hk
            exact j_lv [1, 2, 3, 4, 5, 6, 0] rfl hk
          · rw [if_pos c10] at h
            refine j_iconst (pc := 43) hC (4 : Int32) dX6_spread_43 (by decide) ?_
            refine j_iload (pc := 44) hC 6 dX6_spread_44 rfl ?_
            refine j_imul (pc := 46) hC dX6_spread_46 ?_
            refine j_istore (pc := 47) hC [(7, .int ((4 : Int32) * u7)), (0, .ref (L.2.2 a0)), (1, .ref (L.2.2 a1)), (2, .int x2), (3, .ref (L.2.2 (a1 + 5))), (4, .int u3), (5, .int u4), (6, .int u7)] dX6_spread_47 (by decide) rfl rfl ?_
            refine j_aload_n (pc := 49) hC 3 4 dX6_spread_49 rfl rfl ?_
            refine j_iload (pc := 50) hC 0 dX6_spread_50 rfl ?_
            obtain ⟨i11, v12, e13, h⟩ := jrd_some h
            refine j_iald (pc := 52) hC dX6_spread_52 (ly_9_4 hL ka1).2.1 (ly_9_4 hL ka1).2.2 i11 e13 ?_
            refine j_iconst (pc := 53) hC (3 : Int32) dX6_spread_53 (by decide) ?_
            obtain ⟨k16, e18, h⟩ := jbd_ex h
            have q17 : ∀ (t14 : Int32) (m15 : jM), k16 t14 m15 = some o → jJ X G 9 L 0 0 (jQM X G L (some (.int r)) μ' 0 0) 96 [(0, .ref (L.2.2 a0)), (1, .ref (L.2.2 a1)), (2, .int x2), (3, .ref (L.2.2 (a1 + 5))), (4, .int u3), (5, .int u4), (6, .int u7)] [.int t14] m15 := by
              intro t14 m15 h
              rw [e18] at h
              try dsimp only at h
              refine j_istore (pc := 96) hC [(8, .int t14), (0, .ref (L.2.2 a0)), (1, .ref (L.2.2 a1)), (2, .int x2), (3, .ref (L.2.2 (a1 + 5))), (4, .int u3), (5, .int u4), (6, .int u7)] dX6_spread_96 (by decide) rfl rfl ?_
              refine j_iload (pc := 98) hC 0 dX6_spread_98 rfl ?_
              refine j_if_ne (pc := 100) hC 105 dX6_spread_100 (by decide) (fun c19 => ?_) (fun c19 => ?_)
              · rw [if_neg c19] at h
                refine j_iinc (pc := 105) hC 7 (u7 + (1 : Int32)) [(6, .int (u7 + (1 : Int32))), (8, .int t14), (0, .ref (L.2.2 a0)), (1, .ref (L.2.2 a1)), (2, .int x2), (3, .ref (L.2.2 (a1 + 5))), (4, .int u3), (5, .int u4)] dX6_spread_105 rfl rfl (by decide) rfl ?_
                refine j_goto (pc := 108) hC 24 dX6_spread_108 (by decide) ?_
                obtain rfl := Option.some.inj h
                have hk : jJ X G 9 L 0 0 (jQM X G L (some (.int r)) μ' 0 0) 24 [(0, .ref (L.2.2 a0)), (1, .ref (L.2.2 a1)), (2, .int x2), (3, .ref (L.2.2 (a1 + 5))), (4, .int u3), (5, .int u4), (6, .int (u7 + (1 : Int32)))] [] m15 := hk
                exact j_lv [2, 3, 4, 5, 6, 7, 0] rfl hk
              · rw [if_pos c19] at h
                obtain rfl := Option.some.inj h
                have hk : jJ X G 9 L 0 0 (jQM X G L (some (.int r)) μ' 0 0) 103 [] [] m15 := hk
                exact j_lv [] rfl hk
            refine j_icmp_ne (pc := 54) hC 70 dX6_spread_54 (by decide) (fun c20 => ?_) (fun c20 => ?_)
            · rw [if_neg c20] at h
              refine j_aload_n (pc := 70) hC 0 1 dX6_spread_70 rfl rfl ?_
              refine j_aload_n (pc := 71) hC 3 4 dX6_spread_71 rfl rfl ?_
              refine j_iload (pc := 72) hC 0 dX6_spread_72 rfl ?_
              obtain ⟨i21, v22, e23, h⟩ := jrd_some h
              refine j_iald (pc := 74) hC dX6_spread_74 (ly_9_4 hL ka1).2.1 (ly_9_4 hL ka1).2.2 i21 e23 ?_
              refine j_aload_n (pc := 75) hC 3 4 dX6_spread_75 rfl rfl ?_
              refine j_iload (pc := 76) hC 0 dX6_spread_76 rfl ?_
              refine j_iconst (pc := 78) hC (1 : Int32) dX6_spread_78 (by decide) ?_
              refine j_iadd (pc := 79) hC dX6_spread_79 ?_
              obtain ⟨i24, v25, e26, h⟩ := jrd_some h
              refine j_iald (pc := 80) hC dX6_spread_80 (ly_9_4 hL ka1).2.1 (ly_9_4 hL ka1).2.2 i24 e26 ?_
              refine j_aload_n (pc := 81) hC 3 4 dX6_spread_81 rfl rfl ?_
              refine j_iload (pc := 82) hC 0 dX6_spread_82 rfl ?_
              refine j_iconst (pc := 84) hC (2 : Int32) dX6_spread_84 (by decide) ?_
              refine j_iadd (pc := 85) hC dX6_spread_85 ?_
              obtain ⟨i27, v28, e29, h⟩ := jrd_some h
              refine j_iald (pc := 86) hC dX6_spread_86 (ly_9_4 hL ka1).2.1 (ly_9_4 hL ka1).2.2 i27 e29 ?_
              refine j_aload_n (pc := 87) hC 3 4 dX6_spread_87 rfl rfl ?_
              refine j_iload (pc := 88) hC 0 dX6_spread_88 rfl ?_
              refine j_iconst (pc := 90) hC (3 : Int32) dX6_spread_90 (by decide) ?_
              refine j_iadd (pc := 91) hC dX6_spread_91 ?_
              obtain ⟨i30, v31, e32, h⟩ := jrd_some h
              refine j_iald (pc := 92) hC dX6_spread_92 (ly_9_4 hL ka1).2.1 (ly_9_4 hL ka1).2.2 i30 e32 ?_
              obtain ⟨v33, m34, e35, h⟩ := jcl2_some h
              refine j_vi (pc := 93) hC hR [.int v22, .int v25, .int v28, .int v31] iy_X6_bearTwo (q := (RX6, TX6, 1)) (ci := 6) rfl rfl (by decide) km_X6_45 dX6_spread_93 rfl (by decide) ka0 (c_X6_bearTwo hL ka0 e35) (by decide) (Nat.le_of_ble_eq_true rfl) rfl ?_
              exact j_lv [1, 2, 3, 4, 5, 6, 7] rfl (q17 _ _ h)
            · rw [if_pos c20] at h
              refine j_aload_n (pc := 57) hC 0 1 dX6_spread_57 rfl rfl ?_
              refine j_aload_n (pc := 58) hC 3 4 dX6_spread_58 rfl rfl ?_
              refine j_iload (pc := 59) hC 0 dX6_spread_59 rfl ?_
              refine j_iconst (pc := 61) hC (1 : Int32) dX6_spread_61 (by decide) ?_
              refine j_iadd (pc := 62) hC dX6_spread_62 ?_
              obtain ⟨i36, v37, e38, h⟩ := jrd_some h
              refine j_iald (pc := 63) hC dX6_spread_63 (ly_9_4 hL ka1).2.1 (ly_9_4 hL ka1).2.2 i36 e38 ?_
              obtain ⟨v39, m40, e41, h⟩ := jcl2_some h
              refine j_vi (pc := 64) hC hR [.int v37] iy_X6_bearAllDifferent (q := (RX6, TX6, 1)) (ci := 6) rfl rfl (by decide) km_X6_41 dX6_spread_64 rfl (by decide) ka0 (c_X6_bearAllDifferent hL ka0 e41) (by decide) (Nat.le_of_ble_eq_true rfl) rfl ?_
              refine j_goto (pc := 67) hC 96 dX6_spread_67 (by decide) ?_
              exact j_lv [1, 2, 3, 4, 5, 6, 7] rfl (q17 _ _ h)
      · cases w42 with
        | inl w42 =>
          try dsimp only at h
          obtain ⟨m45, rfl⟩ : ∃ y, y = w42 := ⟨_, rfl⟩
          try dsimp only at h
          show jJ X G 9 L 0 0 (jQM X G L (some (.int r)) μ' 0 0) 103 [] [] m45
          obtain rfl := Option.some.inj h
          have hk : jJ X G 9 L 0 0 (jQM X G L (some (.int r)) μ' 0 0) 103 [] [] m45 := hk
          exact j_lv [] rfl hk
        | inr w42 =>
          try dsimp only at h
          obtain ⟨m46, rfl⟩ : ∃ y, y = w42 := ⟨_, rfl⟩
          try dsimp only at h
          show jJ X G 9 L 0 0 (jQM X G L (some (.int r)) μ' 0 0) 111 [(0, .ref (L.2.2 a0)), (1, .ref (L.2.2 a1)), (2, .int x2), (3, .ref (L.2.2 (a1 + 5))), (4, .int u3), (5, .int u4)] [] m46
          refine j_aload_n (pc := 111) hC 0 0 dX6_spread_111 rfl rfl ?_
          obtain ⟨v47, e48, h⟩ := jcl_some h
          refine j_vi (pc := 112) hC hR [] iy_X6_valuesLeft (q := (RX6, TX6, 1)) (ci := 6) rfl rfl (by decide) km_X6_33 dX6_spread_112 rfl (by decide) ka0 (c_X6_valuesLeft hL ka0 e48) (by decide) (Nat.le_of_ble_eq_true rfl) rfl ?_
          refine j_istore (pc := 115) hC [(6, .int v47), (0, .ref (L.2.2 a0)), (1, .ref (L.2.2 a1)), (2, .int x2), (3, .ref (L.2.2 (a1 + 5))), (4, .int u3), (5, .int u4)] dX6_spread_115 (by decide) rfl rfl ?_
          refine j_iload (pc := 117) hC 0 dX6_spread_117 rfl ?_
          refine j_iload (pc := 119) hC 5 dX6_spread_119 rfl ?_
          refine j_icmp_ne (pc := 121) hC 126 dX6_spread_121 (by decide) (fun c49 => ?_) (fun c49 => ?_)
          · rw [if_neg c49] at h
            refine j_iload (pc := 126) hC 0 dX6_spread_126 rfl ?_
            refine j_istore (pc := 128) hC [(4, .int v47), (6, .int v47), (0, .ref (L.2.2 a0)), (1, .ref (L.2.2 a1)), (2, .int x2), (3, .ref (L.2.2 (a1 + 5))), (5, .int u4)] dX6_spread_128 (by decide) rfl rfl ?_
            refine j_iinc (pc := 130) hC 6 (u4 + (1 : Int32)) [(5, .int (u4 + (1 : Int32))), (4, .int v47), (6, .int v47), (0, .ref (L.2.2 a0)), (1, .ref (L.2.2 a1)), (2, .int x2), (3, .ref (L.2.2 (a1 + 5)))] dX6_spread_130 rfl rfl (by decide) rfl ?_
            refine j_goto (pc := 133) hC 14 dX6_spread_133 (by decide) ?_
            obtain rfl := Option.some.inj h
            have hk : jJ X G 9 L 0 0 (jQM X G L (some (.int r)) μ' 0 0) 14 [(0, .ref (L.2.2 a0)), (1, .ref (L.2.2 a1)), (2, .int x2), (3, .ref (L.2.2 (a1 + 5))), (4, .int v47), (5, .int (u4 + (1 : Int32)))] [] m46 := hk
            exact j_lv [3, 4, 5, 6, 1, 0] rfl hk
          · rw [if_pos c49] at h
            obtain rfl := Option.some.inj h
            have hk : jJ X G 9 L 0 0 (jQM X G L (some (.int r)) μ' 0 0) 124 [] [] m46 := hk
            exact j_lv [] rfl hk
  · cases w50 with
    | inl w50 =>
      try dsimp only at h
      obtain ⟨m53, rfl⟩ : ∃ y, y = w50 := ⟨_, rfl⟩
      try dsimp only at h
      show jJ X G 9 L 0 0 (jQM X G L (some (.int r)) μ' 0 0) 103 [] [] m53
      refine j_iconst (pc := 103) hC (0 : Int32) dX6_spread_103 (by decide) ?_
      obtain ⟨rfl, rfl⟩ := Prod.mk.inj (Option.some.inj h)
      exact j_bret (pc := 104) hC dX6_spread_104 rfl rfl
    | inr w50 =>
      try dsimp only at h
      cases w50 with
      | inl w50 =>
        try dsimp only at h
        obtain ⟨m54, rfl⟩ : ∃ y, y = w50 := ⟨_, rfl⟩
        try dsimp only at h
        show jJ X G 9 L 0 0 (jQM X G L (some (.int r)) μ' 0 0) 124 [] [] m54
        refine j_iconst (pc := 124) hC (1 : Int32) dX6_spread_124 (by decide) ?_
        obtain ⟨rfl, rfl⟩ := Prod.mk.inj (Option.some.inj h)
        exact j_bret (pc := 125) hC dX6_spread_125 rfl rfl
      | inr w50 =>
        try dsimp only at h
        obtain ⟨m55, rfl⟩ : ∃ y, y = w50 := ⟨_, rfl⟩
        try dsimp only at h
        show jJ X G 9 L 0 0 (jQM X G L (some (.int r)) μ' 0 0) 136 [] [] m55
        refine j_iconst (pc := 136) hC (1 : Int32) dX6_spread_136 (by decide) ?_
        obtain ⟨rfl, rfl⟩ := Prod.mk.inj (Option.some.inj h)
        exact j_bret (pc := 137) hC dX6_spread_137 rfl rfl
theorem dX7_spreadAll_0 : decode cX7_spreadAll 0 = .ok (.aload_n 1, 1) := by decide +kernel
theorem dX7_spreadAll_1 : decode cX7_spreadAll 1 = .ok (.aload_n 0, 1) := by decide +kernel
theorem dX7_spreadAll_2 : decode cX7_spreadAll 2 = .ok (.getfield 12, 3) := by decide +kernel
theorem dX7_spreadAll_5 : decode cX7_spreadAll 5 = .ok (.invokevirtual 108, 3) := by decide +kernel
theorem dX7_spreadAll_8 : decode cX7_spreadAll 8 = .ok (.aload_n 1, 1) := by decide +kernel
theorem dX7_spreadAll_9 : decode cX7_spreadAll 9 = .ok (.aload_n 0, 1) := by decide +kernel
theorem dX7_spreadAll_10 : decode cX7_spreadAll 10 = .ok (.getfield 12, 3) := by decide +kernel
theorem dX7_spreadAll_13 : decode cX7_spreadAll 13 = .ok (.sipush 255, 3) := by decide +kernel
theorem dX7_spreadAll_16 : decode cX7_spreadAll 16 = .ok (.invokevirtual 111, 3) := by decide +kernel
theorem dX7_spreadAll_19 : decode cX7_spreadAll 19 = .ok (.ifCond .ne 6, 3) := by decide +kernel
theorem dX7_spreadAll_22 : decode cX7_spreadAll 22 = .ok (.bipush (-2), 2) := by decide +kernel
theorem dX7_spreadAll_24 : decode cX7_spreadAll 24 = .ok (.ireturn, 1) := by decide +kernel
theorem dX7_spreadAll_25 : decode cX7_spreadAll 25 = .ok (.iconst 0, 1) := by decide +kernel
theorem dX7_spreadAll_26 : decode cX7_spreadAll 26 = .ok (.istore_n 2, 1) := by decide +kernel
theorem dX7_spreadAll_27 : decode cX7_spreadAll 27 = .ok (.iconst 0, 1) := by decide +kernel
theorem dX7_spreadAll_28 : decode cX7_spreadAll 28 = .ok (.istore_n 3, 1) := by decide +kernel
theorem dX7_spreadAll_29 : decode cX7_spreadAll 29 = .ok (.iload_n 3, 1) := by decide +kernel
theorem dX7_spreadAll_30 : decode cX7_spreadAll 30 = .ok (.iconst 5, 1) := by decide +kernel
theorem dX7_spreadAll_31 : decode cX7_spreadAll 31 = .ok (.if_icmp .ge 23, 3) := by decide +kernel
theorem dX7_spreadAll_34 : decode cX7_spreadAll 34 = .ok (.iload_n 2, 1) := by decide +kernel
theorem dX7_spreadAll_35 : decode cX7_spreadAll 35 = .ok (.aload_n 0, 1) := by decide +kernel
theorem dX7_spreadAll_36 : decode cX7_spreadAll 36 = .ok (.iload_n 3, 1) := by decide +kernel
theorem dX7_spreadAll_37 : decode cX7_spreadAll 37 = .ok (.aload_n 1, 1) := by decide +kernel
theorem dX7_spreadAll_38 : decode cX7_spreadAll 38 = .ok (.getfield 115, 3) := by decide +kernel
theorem dX7_spreadAll_41 : decode cX7_spreadAll 41 = .ok (.iload_n 3, 1) := by decide +kernel
theorem dX7_spreadAll_42 : decode cX7_spreadAll 42 = .ok (.iaload, 1) := by decide +kernel
theorem dX7_spreadAll_43 : decode cX7_spreadAll 43 = .ok (.invokevirtual 78, 3) := by decide +kernel
theorem dX7_spreadAll_46 : decode cX7_spreadAll 46 = .ok (.iadd, 1) := by decide +kernel
theorem dX7_spreadAll_47 : decode cX7_spreadAll 47 = .ok (.istore_n 2, 1) := by decide +kernel
theorem dX7_spreadAll_48 : decode cX7_spreadAll 48 = .ok (.iinc 3 1, 3) := by decide +kernel
theorem dX7_spreadAll_51 : decode cX7_spreadAll 51 = .ok (.goto (-22), 3) := by decide +kernel
theorem dX7_spreadAll_54 : decode cX7_spreadAll 54 = .ok (.iload_n 2, 1) := by decide +kernel
theorem dX7_spreadAll_55 : decode cX7_spreadAll 55 = .ok (.ireturn, 1) := by decide +kernel
def f_X7_spreadAll_L29 (a0 : Nat) (a1 : Nat) (u7 : Int32) (u8 : Int32) (m9 : jM) : Option ((Int32 × Int32 × jM) ⊕ (Int32 × jM)) :=
  (if (5 : Int32) ≤ u8 then some (.inr ((u7, m9))) else jrd (m9.1 (a1 + 1)) u8 5 (fun v12 => jcl2 (f_X7_variableBecomes a0 u8 v12 m9) (fun v14 m15 => some (.inl ((u7 + v14, u8 + (1 : Int32), m15))))))
def f_X7_spreadAll (a0 : Nat) (a1 : Nat) (μ : jM) : Option (Int32 × jM) :=
  jcl (f_X6_begin a1 (a0 + 1) μ) (fun m1 => jcl2 (f_X6_spread a1 (a0 + 1) (255 : Int32) m1) (fun v3 m4 => (if v3 = (0 : Int32) then some (((-2 : Int32), m4)) else jcl (jloop (fun (s : Int32 × Int32 × jM) => f_X7_spreadAll_L29 a0 a1 s.1 s.2.1 s.2.2) jfu (((0 : Int32), (0 : Int32), m4))) (fun w17 => some ((w17.1, w17.2))))))
set_option maxHeartbeats 4000000 in
set_option maxRecDepth 100000 in
theorem c_X7_spreadAll {l : Launch} {G : jG} {L : jL} (hL : jOKL L) {a0 : Nat} {a1 : Nat} (ka0 : jK L a0 7) (ka1 : jK L a1 6) {μ μ' : jM} {r : Int32} (h : f_X7_spreadAll a0 a1 μ = some ((r, μ'))) : jCt l G L 6 yX7_spreadAll cX7_spreadAll 4 (some .int) [.ref (L.2.2 a0), .ref (L.2.2 a1)] μ (some (.int r)) μ' := by
  refine jCt_of (by decide) (Nat.le_of_ble_eq_true rfl) (fun X hC hX hR => ?_)
  subst hX
  have hC : jC X G cX7_spreadAll 4 RX7 (some .int) := hC
  unfold f_X7_spreadAll at h
  show jJ X G 4 L 0 0 (jQM X G L (some (.int r)) μ' 0 0) 0 [(0, .ref (L.2.2 a0)), (1, .ref (L.2.2 a1))] [] μ
  refine j_aload_n (pc := 0) hC 1 1 dX7_spreadAll_0 rfl rfl ?_
  refine j_aload_n (pc := 1) hC 0 0 dX7_spreadAll_1 rfl rfl ?_
  refine jgr_7 (pc := 2) hC 0 (by decide) rfl kf_X7_12 dX7_spreadAll_2 ka0 (ly_7_0 hL ka0).1 ?_
  obtain ⟨m1, e2, h⟩ := jcl_some h
  refine j_vv (pc := 5) hC hR [.ref (L.2.2 (a0 + 1))] iy_X6_begin (q := (RX6, TX6, 1)) (ci := 6) rfl rfl (by decide) km_X7_108 dX7_spreadAll_5 rfl (by decide) ka1 (c_X6_begin hL ka1 (ly_7_0 hL ka0).2.1 e2) (by decide) (Nat.le_of_ble_eq_true rfl) rfl ?_
  refine j_aload_n (pc := 8) hC 1 1 dX7_spreadAll_8 rfl rfl ?_
  refine j_aload_n (pc := 9) hC 0 0 dX7_spreadAll_9 rfl rfl ?_
  refine jgr_7 (pc := 10) hC 0 (by decide) rfl kf_X7_12 dX7_spreadAll_10 ka0 (ly_7_0 hL ka0).1 ?_
  refine j_sipush (pc := 13) hC (255 : Int32) dX7_spreadAll_13 (by decide) ?_
  obtain ⟨v3, m4, e5, h⟩ := jcl2_some h
  refine j_vi (pc := 16) hC hR [.ref (L.2.2 (a0 + 1)), .int (255 : Int32)] iy_X6_spread (q := (RX6, TX6, 1)) (ci := 6) rfl rfl (by decide) km_X7_111 dX7_spreadAll_16 rfl (by decide) ka1 (c_X6_spread hL ka1 (ly_7_0 hL ka0).2.1 e5) (by decide) (Nat.le_of_ble_eq_true rfl) rfl ?_
  refine j_if_ne (pc := 19) hC 25 dX7_spreadAll_19 (by decide) (fun c6 => ?_) (fun c6 => ?_)
  · rw [if_neg c6] at h
    refine j_iconst (pc := 25) hC (0 : Int32) dX7_spreadAll_25 (by decide) ?_
    refine j_istore_n (pc := 26) hC 2 [(2, .int (0 : Int32)), (0, .ref (L.2.2 a0)), (1, .ref (L.2.2 a1))] dX7_spreadAll_26 rfl (by decide) rfl rfl ?_
    refine j_iconst (pc := 27) hC (0 : Int32) dX7_spreadAll_27 (by decide) ?_
    refine j_istore_n (pc := 28) hC 3 [(3, .int (0 : Int32)), (2, .int (0 : Int32)), (0, .ref (L.2.2 a0)), (1, .ref (L.2.2 a1))] dX7_spreadAll_28 rfl (by decide) rfl rfl ?_
    obtain ⟨w17, hw18, h⟩ := jcl_some h
    refine j_lv [2, 3, 1, 0] rfl ?_
    refine j_loop (step := (fun (s : Int32 × Int32 × jM) => f_X7_spreadAll_L29 a0 a1 s.1 s.2.1 s.2.2)) (P := (fun (s : Int32 × Int32 × jM) => jJ X G 4 L 0 0 (jQM X G L (some (.int r)) μ' 0 0) 29 [(0, .ref (L.2.2 a0)), (1, .ref (L.2.2 a1)), (2, .int s.1), (3, .int s.2.1)] [] s.2.2)) (R := (fun (e : Int32 × jM) => jJ X G 4 L 0 0 (jQM X G L (some (.int r)) μ' 0 0) 54 [(2, .int e.1)] [] e.2)) ?_ jfu (((0 : Int32), (0 : Int32), m4)) w17 hw18 ?_
    · intro s19 o h hk
      obtain ⟨u7, u8, m9⟩ := s19
      change f_X7_spreadAll_L29 a0 a1 u7 u8 m9 = some o at h
      unfold f_X7_spreadAll_L29 at h
      show jJ X G 4 L 0 0 (jQM X G L (some (.int r)) μ' 0 0) 29 [(0, .ref (L.2.2 a0)), (1, .ref (L.2.2 a1)), (2, .int u7), (3, .int u8)] [] m9
      refine j_iload_n (pc := 29) hC 3 3 dX7_spreadAll_29 rfl rfl ?_
      refine j_iconst (pc := 30) hC (5 : Int32) dX7_spreadAll_30 (by decide) ?_
      refine j_icmp_ge (pc := 31) hC 54 dX7_spreadAll_31 (by decide) (fun c10 => ?_) (fun c10 => ?_)
      · rw [if_pos c10] at h
        obtain rfl := Option.some.inj h
        have hk : jJ X G 4 L 0 0 (jQM X G L (some (.int r)) μ' 0 0) 54 [(2, .int u7)] [] m9 := hk
        exact j_lv [2] rfl hk
      · rw [if_neg c10] at h
        refine j_iload_n (pc := 34) hC 2 2 dX7_spreadAll_34 rfl rfl ?_
        refine j_aload_n (pc := 35) hC 0 0 dX7_spreadAll_35 rfl rfl ?_
        refine j_iload_n (pc := 36) hC 3 3 dX7_spreadAll_36 rfl rfl ?_
        refine j_aload_n (pc := 37) hC 1 1 dX7_spreadAll_37 rfl rfl ?_
        refine jgr_6 (pc := 38) hC 0 (by decide) rfl kf_X7_115 dX7_spreadAll_38 ka1 (ly_6_0 hL ka1).1 ?_
        refine j_iload_n (pc := 41) hC 3 3 dX7_spreadAll_41 rfl rfl ?_
        obtain ⟨i11, v12, e13, h⟩ := jrd_some h
        refine j_iald (pc := 42) hC dX7_spreadAll_42 (ly_6_0 hL ka1).2.1 (ly_6_0 hL ka1).2.2 i11 e13 ?_
        obtain ⟨v14, m15, e16, h⟩ := jcl2_some h
        refine j_vi (pc := 43) hC hR [.int u8, .int v12] iy_X7_variableBecomes (q := (RX7, TX7, 3)) (ci := 7) rfl rfl (by decide) km_X7_78 dX7_spreadAll_43 rfl (by decide) ka0 (c_X7_variableBecomes hL ka0 e16) (by decide) (Nat.le_of_ble_eq_true rfl) rfl ?_
        refine j_iadd (pc := 46) hC dX7_spreadAll_46 ?_
        refine j_istore_n (pc := 47) hC 2 [(2, .int (u7 + v14)), (0, .ref (L.2.2 a0)), (1, .ref (L.2.2 a1)), (3, .int u8)] dX7_spreadAll_47 rfl (by decide) rfl rfl ?_
        refine j_iinc (pc := 48) hC 3 (u8 + (1 : Int32)) [(3, .int (u8 + (1 : Int32))), (2, .int (u7 + v14)), (0, .ref (L.2.2 a0)), (1, .ref (L.2.2 a1))] dX7_spreadAll_48 rfl rfl (by decide) rfl ?_
        refine j_goto (pc := 51) hC 29 dX7_spreadAll_51 (by decide) ?_
        obtain rfl := Option.some.inj h
        have hk : jJ X G 4 L 0 0 (jQM X G L (some (.int r)) μ' 0 0) 29 [(0, .ref (L.2.2 a0)), (1, .ref (L.2.2 a1)), (2, .int (u7 + v14)), (3, .int (u8 + (1 : Int32)))] [] m15 := hk
        exact j_lv [2, 3, 1, 0] rfl hk
    · obtain ⟨z20, m21⟩ := w17
      try dsimp only at h
      show jJ X G 4 L 0 0 (jQM X G L (some (.int r)) μ' 0 0) 54 [(2, .int z20)] [] m21
      refine j_iload_n (pc := 54) hC 2 0 dX7_spreadAll_54 rfl rfl ?_
      obtain ⟨rfl, rfl⟩ := Prod.mk.inj (Option.some.inj h)
      exact j_iret (pc := 55) hC dX7_spreadAll_55 rfl
  · rw [if_pos c6] at h
    refine j_bipush (pc := 22) hC (-2 : Int32) dX7_spreadAll_22 (by decide) ?_
    obtain ⟨rfl, rfl⟩ := Prod.mk.inj (Option.some.inj h)
    exact j_iret (pc := 24) hC dX7_spreadAll_24 rfl
theorem dX7_takeValue_0 : decode cX7_takeValue 0 = .ok (.iload_n 1, 1) := by decide +kernel
theorem dX7_takeValue_1 : decode cX7_takeValue 1 = .ok (.invokestatic 68, 3) := by decide +kernel
theorem dX7_takeValue_4 : decode cX7_takeValue 4 = .ok (.ifCond .eq 10, 3) := by decide +kernel
theorem dX7_takeValue_7 : decode cX7_takeValue 7 = .ok (.iload_n 2, 1) := by decide +kernel
theorem dX7_takeValue_8 : decode cX7_takeValue 8 = .ok (.invokestatic 71, 3) := by decide +kernel
theorem dX7_takeValue_11 : decode cX7_takeValue 11 = .ok (.ifCond .ne 5, 3) := by decide +kernel
theorem dX7_takeValue_14 : decode cX7_takeValue 14 = .ok (.iconst (-1), 1) := by decide +kernel
theorem dX7_takeValue_15 : decode cX7_takeValue 15 = .ok (.ireturn, 1) := by decide +kernel
theorem dX7_takeValue_16 : decode cX7_takeValue 16 = .ok (.aload_n 0, 1) := by decide +kernel
theorem dX7_takeValue_17 : decode cX7_takeValue 17 = .ok (.getfield 12, 3) := by decide +kernel
theorem dX7_takeValue_20 : decode cX7_takeValue 20 = .ok (.iload_n 1, 1) := by decide +kernel
theorem dX7_takeValue_21 : decode cX7_takeValue 21 = .ok (.iload_n 2, 1) := by decide +kernel
theorem dX7_takeValue_22 : decode cX7_takeValue 22 = .ok (.invokevirtual 74, 3) := by decide +kernel
theorem dX7_takeValue_25 : decode cX7_takeValue 25 = .ok (.ifCond .ne 6, 3) := by decide +kernel
theorem dX7_takeValue_28 : decode cX7_takeValue 28 = .ok (.bipush (-2), 2) := by decide +kernel
theorem dX7_takeValue_30 : decode cX7_takeValue 30 = .ok (.ireturn, 1) := by decide +kernel
theorem dX7_takeValue_31 : decode cX7_takeValue 31 = .ok (.aload_n 0, 1) := by decide +kernel
theorem dX7_takeValue_32 : decode cX7_takeValue 32 = .ok (.getfield 12, 3) := by decide +kernel
theorem dX7_takeValue_35 : decode cX7_takeValue 35 = .ok (.getfield 59, 3) := by decide +kernel
theorem dX7_takeValue_38 : decode cX7_takeValue 38 = .ok (.iload_n 1, 1) := by decide +kernel
theorem dX7_takeValue_39 : decode cX7_takeValue 39 = .ok (.iaload, 1) := by decide +kernel
theorem dX7_takeValue_40 : decode cX7_takeValue 40 = .ok (.iconst 1, 1) := by decide +kernel
theorem dX7_takeValue_41 : decode cX7_takeValue 41 = .ok (.iload_n 2, 1) := by decide +kernel
theorem dX7_takeValue_42 : decode cX7_takeValue 42 = .ok (.ishl, 1) := by decide +kernel
theorem dX7_takeValue_43 : decode cX7_takeValue 43 = .ok (.iconst (-1), 1) := by decide +kernel
theorem dX7_takeValue_44 : decode cX7_takeValue 44 = .ok (.ixor, 1) := by decide +kernel
theorem dX7_takeValue_45 : decode cX7_takeValue 45 = .ok (.iand, 1) := by decide +kernel
theorem dX7_takeValue_46 : decode cX7_takeValue 46 = .ok (.istore_n 3, 1) := by decide +kernel
theorem dX7_takeValue_47 : decode cX7_takeValue 47 = .ok (.iload_n 3, 1) := by decide +kernel
theorem dX7_takeValue_48 : decode cX7_takeValue 48 = .ok (.ifCond .ne 6, 3) := by decide +kernel
theorem dX7_takeValue_51 : decode cX7_takeValue 51 = .ok (.bipush (-3), 2) := by decide +kernel
theorem dX7_takeValue_53 : decode cX7_takeValue 53 = .ok (.ireturn, 1) := by decide +kernel
theorem dX7_takeValue_54 : decode cX7_takeValue 54 = .ok (.aload_n 0, 1) := by decide +kernel
theorem dX7_takeValue_55 : decode cX7_takeValue 55 = .ok (.iload_n 1, 1) := by decide +kernel
theorem dX7_takeValue_56 : decode cX7_takeValue 56 = .ok (.iload_n 3, 1) := by decide +kernel
theorem dX7_takeValue_57 : decode cX7_takeValue 57 = .ok (.invokevirtual 78, 3) := by decide +kernel
theorem dX7_takeValue_60 : decode cX7_takeValue 60 = .ok (.pop, 1) := by decide +kernel
theorem dX7_takeValue_61 : decode cX7_takeValue 61 = .ok (.iload_n 3, 1) := by decide +kernel
theorem dX7_takeValue_62 : decode cX7_takeValue 62 = .ok (.invokestatic 62, 3) := by decide +kernel
theorem dX7_takeValue_65 : decode cX7_takeValue 65 = .ok (.ireturn, 1) := by decide +kernel
def f_X7_takeValue (a0 : Nat) (x1 : Int32) (x2 : Int32) (μ : jM) : Option (Int32 × jM) :=
  (if (f_X11_isVariable x1) = (0 : Int32) then some (((-1 : Int32), μ)) else (if (f_X11_isValue x2) = (0 : Int32) then some (((-1 : Int32), μ)) else jcl (f_X9_hasValue (a0 + 1) x1 x2 μ) (fun v3 => (if v3 = (0 : Int32) then some (((-2 : Int32), μ)) else jrd (μ.1 (a0 + 3)) x1 5 (fun v7 => jbd (v7 &&& (((1 : Int32) <<< (x2 &&& 31)) ^^^ (-1 : Int32)) : Int32) (fun v9 => (if v9 = (0 : Int32) then some (((-3 : Int32), μ)) else jcl2 (f_X7_variableBecomes a0 x1 v9 μ) (fun v12 m13 => some ((f_J6_bitCount_0f7a4 v9, m13))))))))))
set_option maxHeartbeats 4000000 in
set_option maxRecDepth 100000 in
theorem c_X7_takeValue {l : Launch} {G : jG} {L : jL} (hL : jOKL L) {a0 : Nat} {x1 : Int32} {x2 : Int32} (ka0 : jK L a0 7) {μ μ' : jM} {r : Int32} (h : f_X7_takeValue a0 x1 x2 μ = some ((r, μ'))) : jCt l G L 6 yX7_takeValue cX7_takeValue 4 (some .int) [.ref (L.2.2 a0), .int x1, .int x2] μ (some (.int r)) μ' := by
  refine jCt_of (by decide) (Nat.le_of_ble_eq_true rfl) (fun X hC hX hR => ?_)
  subst hX
  have hC : jC X G cX7_takeValue 4 RX7 (some .int) := hC
  unfold f_X7_takeValue at h
  show jJ X G 4 L 0 0 (jQM X G L (some (.int r)) μ' 0 0) 0 [(0, .ref (L.2.2 a0)), (1, .int x1), (2, .int x2)] [] μ
  refine j_iload_n (pc := 0) hC 1 1 dX7_takeValue_0 rfl rfl ?_
  refine j_ni (pc := 1) hC hR [.int x1] iy_X11_isVariable kn_X7_68 dX7_takeValue_1 rfl (by decide) (c_X11_isVariable hL  rfl) (by decide) (Nat.le_of_ble_eq_true rfl) rfl ?_
  refine j_if_eq (pc := 4) hC 14 dX7_takeValue_4 (by decide) (fun c1 => ?_) (fun c1 => ?_)
  · rw [if_pos c1] at h
    refine j_iconst (pc := 14) hC (-1 : Int32) dX7_takeValue_14 (by decide) ?_
    obtain ⟨rfl, rfl⟩ := Prod.mk.inj (Option.some.inj h)
    exact j_iret (pc := 15) hC dX7_takeValue_15 rfl
  · rw [if_neg c1] at h
    refine j_iload_n (pc := 7) hC 2 2 dX7_takeValue_7 rfl rfl ?_
    refine j_ni (pc := 8) hC hR [.int x2] iy_X11_isValue kn_X7_71 dX7_takeValue_8 rfl (by decide) (c_X11_isValue hL  rfl) (by decide) (Nat.le_of_ble_eq_true rfl) rfl ?_
    refine j_if_ne (pc := 11) hC 16 dX7_takeValue_11 (by decide) (fun c2 => ?_) (fun c2 => ?_)
    · rw [if_neg c2] at h
      refine j_aload_n (pc := 16) hC 0 0 dX7_takeValue_16 rfl rfl ?_
      refine jgr_7 (pc := 17) hC 0 (by decide) rfl kf_X7_12 dX7_takeValue_17 ka0 (ly_7_0 hL ka0).1 ?_
      refine j_iload_n (pc := 20) hC 1 1 dX7_takeValue_20 rfl rfl ?_
      refine j_iload_n (pc := 21) hC 2 2 dX7_takeValue_21 rfl rfl ?_
      obtain ⟨v3, e4, h⟩ := jcl_some h
      refine j_vi (pc := 22) hC hR [.int x1, .int x2] iy_X9_hasValue (q := (RX9, TX9, 7)) (ci := 9) rfl rfl (by decide) km_X7_74 dX7_takeValue_22 rfl (by decide) (ly_7_0 hL ka0).2.1 (c_X9_hasValue hL (ly_7_0 hL ka0).2.1 e4) (by decide) (Nat.le_of_ble_eq_true rfl) rfl ?_
      refine j_if_ne (pc := 25) hC 31 dX7_takeValue_25 (by decide) (fun c5 => ?_) (fun c5 => ?_)
      · rw [if_neg c5] at h
        refine j_aload_n (pc := 31) hC 0 0 dX7_takeValue_31 rfl rfl ?_
        refine jgr_7 (pc := 32) hC 0 (by decide) rfl kf_X7_12 dX7_takeValue_32 ka0 (ly_7_0 hL ka0).1 ?_
        refine jgr_9 (pc := 35) hC 1 (by decide) rfl kf_X7_59 dX7_takeValue_35 (ly_7_0 hL ka0).2.1 (ly_9_1 hL (ly_7_0 hL ka0).2.1).1 ?_
        refine j_iload_n (pc := 38) hC 1 1 dX7_takeValue_38 rfl rfl ?_
        obtain ⟨i6, v7, e8, h⟩ := jrd_some h
        refine j_iald (pc := 39) hC dX7_takeValue_39 (ly_9_1 hL (ly_7_0 hL ka0).2.1).2.1 (ly_9_1 hL (ly_7_0 hL ka0).2.1).2.2 i6 e8 ?_
        refine j_iconst (pc := 40) hC (1 : Int32) dX7_takeValue_40 (by decide) ?_
        refine j_iload_n (pc := 41) hC 2 2 dX7_takeValue_41 rfl rfl ?_
        refine j_ishl (pc := 42) hC dX7_takeValue_42 ?_
        refine j_iconst (pc := 43) hC (-1 : Int32) dX7_takeValue_43 (by decide) ?_
        refine j_ixor (pc := 44) hC dX7_takeValue_44 ?_
        refine j_iand (pc := 45) hC dX7_takeValue_45 ?_
        obtain ⟨v9, e10, h⟩ := jbd_ex h
        refine j_istore_n (pc := 46) hC 3 [(3, .int v9), (0, .ref (L.2.2 a0)), (1, .int x1), (2, .int x2)] dX7_takeValue_46 rfl (by decide) e10 rfl ?_
        refine j_iload_n (pc := 47) hC 3 0 dX7_takeValue_47 rfl rfl ?_
        refine j_if_ne (pc := 48) hC 54 dX7_takeValue_48 (by decide) (fun c11 => ?_) (fun c11 => ?_)
        · rw [if_neg c11] at h
          refine j_aload_n (pc := 54) hC 0 1 dX7_takeValue_54 rfl rfl ?_
          refine j_iload_n (pc := 55) hC 1 2 dX7_takeValue_55 rfl rfl ?_
          refine j_iload_n (pc := 56) hC 3 0 dX7_takeValue_56 rfl rfl ?_
          obtain ⟨v12, m13, e14, h⟩ := jcl2_some h
          refine j_vi (pc := 57) hC hR [.int x1, .int v9] iy_X7_variableBecomes (q := (RX7, TX7, 3)) (ci := 7) rfl rfl (by decide) km_X7_78 dX7_takeValue_57 rfl (by decide) ka0 (c_X7_variableBecomes hL ka0 e14) (by decide) (Nat.le_of_ble_eq_true rfl) rfl ?_
          refine j_pop (pc := 60) hC dX7_takeValue_60 rfl ?_
          refine j_iload_n (pc := 61) hC 3 0 dX7_takeValue_61 rfl rfl ?_
          refine j_si (pc := 62) hC hR [.int v9] iy_J6_bitCount_0f7a4 km_X7_62 dX7_takeValue_62 rfl (by decide) (c_J6_bitCount_0f7a4 hL  rfl) (by decide) (Nat.le_of_ble_eq_true rfl) rfl ?_
          obtain ⟨rfl, rfl⟩ := Prod.mk.inj (Option.some.inj h)
          exact j_iret (pc := 65) hC dX7_takeValue_65 rfl
        · rw [if_pos c11] at h
          refine j_bipush (pc := 51) hC (-3 : Int32) dX7_takeValue_51 (by decide) ?_
          obtain ⟨rfl, rfl⟩ := Prod.mk.inj (Option.some.inj h)
          exact j_iret (pc := 53) hC dX7_takeValue_53 rfl
      · rw [if_pos c5] at h
        refine j_bipush (pc := 28) hC (-2 : Int32) dX7_takeValue_28 (by decide) ?_
        obtain ⟨rfl, rfl⟩ := Prod.mk.inj (Option.some.inj h)
        exact j_iret (pc := 30) hC dX7_takeValue_30 rfl
    · rw [if_pos c2] at h
      refine j_iconst (pc := 14) hC (-1 : Int32) dX7_takeValue_14 (by decide) ?_
      obtain ⟨rfl, rfl⟩ := Prod.mk.inj (Option.some.inj h)
      exact j_iret (pc := 15) hC dX7_takeValue_15 rfl
theorem dX4_doAct_0 : decode cX4_doAct 0 = .ok (.iload_n 1, 1) := by decide +kernel
theorem dX4_doAct_1 : decode cX4_doAct 1 = .ok (.tableswitch 459 0 9 #[55, 98, 141, 185, 228, 271, 315, 359, 404, 436], 55) := by decide +kernel
theorem dX4_doAct_56 : decode cX4_doAct 56 = .ok (.aload_n 0, 1) := by decide +kernel
theorem dX4_doAct_57 : decode cX4_doAct 57 = .ok (.getfield 15, 3) := by decide +kernel
theorem dX4_doAct_60 : decode cX4_doAct 60 = .ok (.aload_n 0, 1) := by decide +kernel
theorem dX4_doAct_61 : decode cX4_doAct 61 = .ok (.getfield 19, 3) := by decide +kernel
theorem dX4_doAct_64 : decode cX4_doAct 64 = .ok (.aload_n 0, 1) := by decide +kernel
theorem dX4_doAct_65 : decode cX4_doAct 65 = .ok (.getfield 111, 3) := by decide +kernel
theorem dX4_doAct_68 : decode cX4_doAct 68 = .ok (.invokevirtual 145, 3) := by decide +kernel
theorem dX4_doAct_71 : decode cX4_doAct 71 = .ok (.aload_n 0, 1) := by decide +kernel
theorem dX4_doAct_72 : decode cX4_doAct 72 = .ok (.getfield 19, 3) := by decide +kernel
theorem dX4_doAct_75 : decode cX4_doAct 75 = .ok (.aload_n 0, 1) := by decide +kernel
theorem dX4_doAct_76 : decode cX4_doAct 76 = .ok (.getfield 111, 3) := by decide +kernel
theorem dX4_doAct_79 : decode cX4_doAct 79 = .ok (.iconst 2, 1) := by decide +kernel
theorem dX4_doAct_80 : decode cX4_doAct 80 = .ok (.iadd, 1) := by decide +kernel
theorem dX4_doAct_81 : decode cX4_doAct 81 = .ok (.invokevirtual 148, 3) := by decide +kernel
theorem dX4_doAct_84 : decode cX4_doAct 84 = .ok (.invokevirtual 151, 3) := by decide +kernel
theorem dX4_doAct_87 : decode cX4_doAct 87 = .ok (.ifCond .lt 7, 3) := by decide +kernel
theorem dX4_doAct_90 : decode cX4_doAct 90 = .ok (.iconst 1, 1) := by decide +kernel
theorem dX4_doAct_91 : decode cX4_doAct 91 = .ok (.goto 4, 3) := by decide +kernel
theorem dX4_doAct_94 : decode cX4_doAct 94 = .ok (.iconst 0, 1) := by decide +kernel
theorem dX4_doAct_95 : decode cX4_doAct 95 = .ok (.istore_n 2, 1) := by decide +kernel
theorem dX4_doAct_96 : decode cX4_doAct 96 = .ok (.goto 370, 3) := by decide +kernel
theorem dX4_doAct_99 : decode cX4_doAct 99 = .ok (.aload_n 0, 1) := by decide +kernel
theorem dX4_doAct_100 : decode cX4_doAct 100 = .ok (.getfield 15, 3) := by decide +kernel
theorem dX4_doAct_103 : decode cX4_doAct 103 = .ok (.aload_n 0, 1) := by decide +kernel
theorem dX4_doAct_104 : decode cX4_doAct 104 = .ok (.getfield 19, 3) := by decide +kernel
theorem dX4_doAct_107 : decode cX4_doAct 107 = .ok (.aload_n 0, 1) := by decide +kernel
theorem dX4_doAct_108 : decode cX4_doAct 108 = .ok (.getfield 111, 3) := by decide +kernel
theorem dX4_doAct_111 : decode cX4_doAct 111 = .ok (.invokevirtual 145, 3) := by decide +kernel
theorem dX4_doAct_114 : decode cX4_doAct 114 = .ok (.aload_n 0, 1) := by decide +kernel
theorem dX4_doAct_115 : decode cX4_doAct 115 = .ok (.getfield 19, 3) := by decide +kernel
theorem dX4_doAct_118 : decode cX4_doAct 118 = .ok (.aload_n 0, 1) := by decide +kernel
theorem dX4_doAct_119 : decode cX4_doAct 119 = .ok (.getfield 111, 3) := by decide +kernel
theorem dX4_doAct_122 : decode cX4_doAct 122 = .ok (.iconst 2, 1) := by decide +kernel
theorem dX4_doAct_123 : decode cX4_doAct 123 = .ok (.iadd, 1) := by decide +kernel
theorem dX4_doAct_124 : decode cX4_doAct 124 = .ok (.invokevirtual 148, 3) := by decide +kernel
theorem dX4_doAct_127 : decode cX4_doAct 127 = .ok (.invokevirtual 154, 3) := by decide +kernel
theorem dX4_doAct_130 : decode cX4_doAct 130 = .ok (.ifCond .lt 7, 3) := by decide +kernel
theorem dX4_doAct_133 : decode cX4_doAct 133 = .ok (.iconst 1, 1) := by decide +kernel
theorem dX4_doAct_134 : decode cX4_doAct 134 = .ok (.goto 4, 3) := by decide +kernel
theorem dX4_doAct_137 : decode cX4_doAct 137 = .ok (.iconst 0, 1) := by decide +kernel
theorem dX4_doAct_138 : decode cX4_doAct 138 = .ok (.istore_n 2, 1) := by decide +kernel
theorem dX4_doAct_139 : decode cX4_doAct 139 = .ok (.goto 327, 3) := by decide +kernel
theorem dX4_doAct_142 : decode cX4_doAct 142 = .ok (.aload_n 0, 1) := by decide +kernel
theorem dX4_doAct_143 : decode cX4_doAct 143 = .ok (.getfield 15, 3) := by decide +kernel
theorem dX4_doAct_146 : decode cX4_doAct 146 = .ok (.aload_n 0, 1) := by decide +kernel
theorem dX4_doAct_147 : decode cX4_doAct 147 = .ok (.getfield 19, 3) := by decide +kernel
theorem dX4_doAct_150 : decode cX4_doAct 150 = .ok (.aload_n 0, 1) := by decide +kernel
theorem dX4_doAct_151 : decode cX4_doAct 151 = .ok (.getfield 111, 3) := by decide +kernel
theorem dX4_doAct_154 : decode cX4_doAct 154 = .ok (.invokevirtual 145, 3) := by decide +kernel
theorem dX4_doAct_157 : decode cX4_doAct 157 = .ok (.aload_n 0, 1) := by decide +kernel
theorem dX4_doAct_158 : decode cX4_doAct 158 = .ok (.getfield 19, 3) := by decide +kernel
theorem dX4_doAct_161 : decode cX4_doAct 161 = .ok (.aload_n 0, 1) := by decide +kernel
theorem dX4_doAct_162 : decode cX4_doAct 162 = .ok (.getfield 111, 3) := by decide +kernel
theorem dX4_doAct_165 : decode cX4_doAct 165 = .ok (.iconst 2, 1) := by decide +kernel
theorem dX4_doAct_166 : decode cX4_doAct 166 = .ok (.iadd, 1) := by decide +kernel
theorem dX4_doAct_167 : decode cX4_doAct 167 = .ok (.invokevirtual 148, 3) := by decide +kernel
theorem dX4_doAct_170 : decode cX4_doAct 170 = .ok (.ineg, 1) := by decide +kernel
theorem dX4_doAct_171 : decode cX4_doAct 171 = .ok (.invokevirtual 154, 3) := by decide +kernel
theorem dX4_doAct_174 : decode cX4_doAct 174 = .ok (.ifCond .lt 7, 3) := by decide +kernel
theorem dX4_doAct_177 : decode cX4_doAct 177 = .ok (.iconst 1, 1) := by decide +kernel
theorem dX4_doAct_178 : decode cX4_doAct 178 = .ok (.goto 4, 3) := by decide +kernel
theorem dX4_doAct_181 : decode cX4_doAct 181 = .ok (.iconst 0, 1) := by decide +kernel
theorem dX4_doAct_182 : decode cX4_doAct 182 = .ok (.istore_n 2, 1) := by decide +kernel
theorem dX4_doAct_183 : decode cX4_doAct 183 = .ok (.goto 283, 3) := by decide +kernel
theorem dX4_doAct_186 : decode cX4_doAct 186 = .ok (.aload_n 0, 1) := by decide +kernel
theorem dX4_doAct_187 : decode cX4_doAct 187 = .ok (.getfield 15, 3) := by decide +kernel
theorem dX4_doAct_190 : decode cX4_doAct 190 = .ok (.aload_n 0, 1) := by decide +kernel
theorem dX4_doAct_191 : decode cX4_doAct 191 = .ok (.getfield 19, 3) := by decide +kernel
theorem dX4_doAct_194 : decode cX4_doAct 194 = .ok (.aload_n 0, 1) := by decide +kernel
theorem dX4_doAct_195 : decode cX4_doAct 195 = .ok (.getfield 111, 3) := by decide +kernel
theorem dX4_doAct_198 : decode cX4_doAct 198 = .ok (.invokevirtual 157, 3) := by decide +kernel
theorem dX4_doAct_201 : decode cX4_doAct 201 = .ok (.aload_n 0, 1) := by decide +kernel
theorem dX4_doAct_202 : decode cX4_doAct 202 = .ok (.getfield 19, 3) := by decide +kernel
theorem dX4_doAct_205 : decode cX4_doAct 205 = .ok (.aload_n 0, 1) := by decide +kernel
theorem dX4_doAct_206 : decode cX4_doAct 206 = .ok (.getfield 111, 3) := by decide +kernel
theorem dX4_doAct_209 : decode cX4_doAct 209 = .ok (.iconst 2, 1) := by decide +kernel
theorem dX4_doAct_210 : decode cX4_doAct 210 = .ok (.iadd, 1) := by decide +kernel
theorem dX4_doAct_211 : decode cX4_doAct 211 = .ok (.invokevirtual 160, 3) := by decide +kernel
theorem dX4_doAct_214 : decode cX4_doAct 214 = .ok (.invokevirtual 163, 3) := by decide +kernel
theorem dX4_doAct_217 : decode cX4_doAct 217 = .ok (.ifCond .lt 7, 3) := by decide +kernel
theorem dX4_doAct_220 : decode cX4_doAct 220 = .ok (.iconst 1, 1) := by decide +kernel
theorem dX4_doAct_221 : decode cX4_doAct 221 = .ok (.goto 4, 3) := by decide +kernel
theorem dX4_doAct_224 : decode cX4_doAct 224 = .ok (.iconst 0, 1) := by decide +kernel
theorem dX4_doAct_225 : decode cX4_doAct 225 = .ok (.istore_n 2, 1) := by decide +kernel
theorem dX4_doAct_226 : decode cX4_doAct 226 = .ok (.goto 240, 3) := by decide +kernel
theorem dX4_doAct_229 : decode cX4_doAct 229 = .ok (.aload_n 0, 1) := by decide +kernel
theorem dX4_doAct_230 : decode cX4_doAct 230 = .ok (.getfield 15, 3) := by decide +kernel
theorem dX4_doAct_233 : decode cX4_doAct 233 = .ok (.aload_n 0, 1) := by decide +kernel
theorem dX4_doAct_234 : decode cX4_doAct 234 = .ok (.getfield 19, 3) := by decide +kernel
theorem dX4_doAct_237 : decode cX4_doAct 237 = .ok (.aload_n 0, 1) := by decide +kernel
theorem dX4_doAct_238 : decode cX4_doAct 238 = .ok (.getfield 111, 3) := by decide +kernel
theorem dX4_doAct_241 : decode cX4_doAct 241 = .ok (.invokevirtual 157, 3) := by decide +kernel
theorem dX4_doAct_244 : decode cX4_doAct 244 = .ok (.aload_n 0, 1) := by decide +kernel
theorem dX4_doAct_245 : decode cX4_doAct 245 = .ok (.getfield 19, 3) := by decide +kernel
theorem dX4_doAct_248 : decode cX4_doAct 248 = .ok (.aload_n 0, 1) := by decide +kernel
theorem dX4_doAct_249 : decode cX4_doAct 249 = .ok (.getfield 111, 3) := by decide +kernel
theorem dX4_doAct_252 : decode cX4_doAct 252 = .ok (.iconst 2, 1) := by decide +kernel
theorem dX4_doAct_253 : decode cX4_doAct 253 = .ok (.iadd, 1) := by decide +kernel
theorem dX4_doAct_254 : decode cX4_doAct 254 = .ok (.invokevirtual 160, 3) := by decide +kernel
theorem dX4_doAct_257 : decode cX4_doAct 257 = .ok (.invokevirtual 166, 3) := by decide +kernel
theorem dX4_doAct_260 : decode cX4_doAct 260 = .ok (.ifCond .lt 7, 3) := by decide +kernel
theorem dX4_doAct_263 : decode cX4_doAct 263 = .ok (.iconst 1, 1) := by decide +kernel
theorem dX4_doAct_264 : decode cX4_doAct 264 = .ok (.goto 4, 3) := by decide +kernel
theorem dX4_doAct_267 : decode cX4_doAct 267 = .ok (.iconst 0, 1) := by decide +kernel
theorem dX4_doAct_268 : decode cX4_doAct 268 = .ok (.istore_n 2, 1) := by decide +kernel
theorem dX4_doAct_269 : decode cX4_doAct 269 = .ok (.goto 197, 3) := by decide +kernel
theorem dX4_doAct_272 : decode cX4_doAct 272 = .ok (.aload_n 0, 1) := by decide +kernel
theorem dX4_doAct_273 : decode cX4_doAct 273 = .ok (.getfield 15, 3) := by decide +kernel
theorem dX4_doAct_276 : decode cX4_doAct 276 = .ok (.aload_n 0, 1) := by decide +kernel
theorem dX4_doAct_277 : decode cX4_doAct 277 = .ok (.getfield 19, 3) := by decide +kernel
theorem dX4_doAct_280 : decode cX4_doAct 280 = .ok (.aload_n 0, 1) := by decide +kernel
theorem dX4_doAct_281 : decode cX4_doAct 281 = .ok (.getfield 111, 3) := by decide +kernel
theorem dX4_doAct_284 : decode cX4_doAct 284 = .ok (.invokevirtual 157, 3) := by decide +kernel
theorem dX4_doAct_287 : decode cX4_doAct 287 = .ok (.iconst 0, 1) := by decide +kernel
theorem dX4_doAct_288 : decode cX4_doAct 288 = .ok (.aload_n 0, 1) := by decide +kernel
theorem dX4_doAct_289 : decode cX4_doAct 289 = .ok (.getfield 19, 3) := by decide +kernel
theorem dX4_doAct_292 : decode cX4_doAct 292 = .ok (.aload_n 0, 1) := by decide +kernel
theorem dX4_doAct_293 : decode cX4_doAct 293 = .ok (.getfield 111, 3) := by decide +kernel
theorem dX4_doAct_296 : decode cX4_doAct 296 = .ok (.iconst 2, 1) := by decide +kernel
theorem dX4_doAct_297 : decode cX4_doAct 297 = .ok (.iadd, 1) := by decide +kernel
theorem dX4_doAct_298 : decode cX4_doAct 298 = .ok (.invokevirtual 160, 3) := by decide +kernel
theorem dX4_doAct_301 : decode cX4_doAct 301 = .ok (.invokevirtual 169, 3) := by decide +kernel
theorem dX4_doAct_304 : decode cX4_doAct 304 = .ok (.ifCond .lt 7, 3) := by decide +kernel
theorem dX4_doAct_307 : decode cX4_doAct 307 = .ok (.iconst 1, 1) := by decide +kernel
theorem dX4_doAct_308 : decode cX4_doAct 308 = .ok (.goto 4, 3) := by decide +kernel
theorem dX4_doAct_311 : decode cX4_doAct 311 = .ok (.iconst 0, 1) := by decide +kernel
theorem dX4_doAct_312 : decode cX4_doAct 312 = .ok (.istore_n 2, 1) := by decide +kernel
theorem dX4_doAct_313 : decode cX4_doAct 313 = .ok (.goto 153, 3) := by decide +kernel
theorem dX4_doAct_316 : decode cX4_doAct 316 = .ok (.aload_n 0, 1) := by decide +kernel
theorem dX4_doAct_317 : decode cX4_doAct 317 = .ok (.getfield 15, 3) := by decide +kernel
theorem dX4_doAct_320 : decode cX4_doAct 320 = .ok (.aload_n 0, 1) := by decide +kernel
theorem dX4_doAct_321 : decode cX4_doAct 321 = .ok (.getfield 19, 3) := by decide +kernel
theorem dX4_doAct_324 : decode cX4_doAct 324 = .ok (.aload_n 0, 1) := by decide +kernel
theorem dX4_doAct_325 : decode cX4_doAct 325 = .ok (.getfield 111, 3) := by decide +kernel
theorem dX4_doAct_328 : decode cX4_doAct 328 = .ok (.invokevirtual 157, 3) := by decide +kernel
theorem dX4_doAct_331 : decode cX4_doAct 331 = .ok (.aload_n 0, 1) := by decide +kernel
theorem dX4_doAct_332 : decode cX4_doAct 332 = .ok (.getfield 19, 3) := by decide +kernel
theorem dX4_doAct_335 : decode cX4_doAct 335 = .ok (.aload_n 0, 1) := by decide +kernel
theorem dX4_doAct_336 : decode cX4_doAct 336 = .ok (.getfield 111, 3) := by decide +kernel
theorem dX4_doAct_339 : decode cX4_doAct 339 = .ok (.iconst 2, 1) := by decide +kernel
theorem dX4_doAct_340 : decode cX4_doAct 340 = .ok (.iadd, 1) := by decide +kernel
theorem dX4_doAct_341 : decode cX4_doAct 341 = .ok (.invokevirtual 160, 3) := by decide +kernel
theorem dX4_doAct_344 : decode cX4_doAct 344 = .ok (.iconst 5, 1) := by decide +kernel
theorem dX4_doAct_345 : decode cX4_doAct 345 = .ok (.invokevirtual 169, 3) := by decide +kernel
theorem dX4_doAct_348 : decode cX4_doAct 348 = .ok (.ifCond .lt 7, 3) := by decide +kernel
theorem dX4_doAct_351 : decode cX4_doAct 351 = .ok (.iconst 1, 1) := by decide +kernel
theorem dX4_doAct_352 : decode cX4_doAct 352 = .ok (.goto 4, 3) := by decide +kernel
theorem dX4_doAct_355 : decode cX4_doAct 355 = .ok (.iconst 0, 1) := by decide +kernel
theorem dX4_doAct_356 : decode cX4_doAct 356 = .ok (.istore_n 2, 1) := by decide +kernel
theorem dX4_doAct_357 : decode cX4_doAct 357 = .ok (.goto 109, 3) := by decide +kernel
theorem dX4_doAct_360 : decode cX4_doAct 360 = .ok (.aload_n 0, 1) := by decide +kernel
theorem dX4_doAct_361 : decode cX4_doAct 361 = .ok (.getfield 15, 3) := by decide +kernel
theorem dX4_doAct_364 : decode cX4_doAct 364 = .ok (.aload_n 0, 1) := by decide +kernel
theorem dX4_doAct_365 : decode cX4_doAct 365 = .ok (.getfield 19, 3) := by decide +kernel
theorem dX4_doAct_368 : decode cX4_doAct 368 = .ok (.aload_n 0, 1) := by decide +kernel
theorem dX4_doAct_369 : decode cX4_doAct 369 = .ok (.getfield 111, 3) := by decide +kernel
theorem dX4_doAct_372 : decode cX4_doAct 372 = .ok (.iconst 1, 1) := by decide +kernel
theorem dX4_doAct_373 : decode cX4_doAct 373 = .ok (.iadd, 1) := by decide +kernel
theorem dX4_doAct_374 : decode cX4_doAct 374 = .ok (.invokevirtual 160, 3) := by decide +kernel
theorem dX4_doAct_377 : decode cX4_doAct 377 = .ok (.aload_n 0, 1) := by decide +kernel
theorem dX4_doAct_378 : decode cX4_doAct 378 = .ok (.getfield 19, 3) := by decide +kernel
theorem dX4_doAct_381 : decode cX4_doAct 381 = .ok (.aload_n 0, 1) := by decide +kernel
theorem dX4_doAct_382 : decode cX4_doAct 382 = .ok (.getfield 111, 3) := by decide +kernel
theorem dX4_doAct_385 : decode cX4_doAct 385 = .ok (.iconst 3, 1) := by decide +kernel
theorem dX4_doAct_386 : decode cX4_doAct 386 = .ok (.iadd, 1) := by decide +kernel
theorem dX4_doAct_387 : decode cX4_doAct 387 = .ok (.invokevirtual 148, 3) := by decide +kernel
theorem dX4_doAct_390 : decode cX4_doAct 390 = .ok (.invokevirtual 173, 3) := by decide +kernel
theorem dX4_doAct_393 : decode cX4_doAct 393 = .ok (.ifCond .lt 7, 3) := by decide +kernel
theorem dX4_doAct_396 : decode cX4_doAct 396 = .ok (.iconst 1, 1) := by decide +kernel
theorem dX4_doAct_397 : decode cX4_doAct 397 = .ok (.goto 4, 3) := by decide +kernel
theorem dX4_doAct_400 : decode cX4_doAct 400 = .ok (.iconst 0, 1) := by decide +kernel
theorem dX4_doAct_401 : decode cX4_doAct 401 = .ok (.istore_n 2, 1) := by decide +kernel
theorem dX4_doAct_402 : decode cX4_doAct 402 = .ok (.goto 64, 3) := by decide +kernel
theorem dX4_doAct_405 : decode cX4_doAct 405 = .ok (.aload_n 0, 1) := by decide +kernel
theorem dX4_doAct_406 : decode cX4_doAct 406 = .ok (.getfield 15, 3) := by decide +kernel
theorem dX4_doAct_409 : decode cX4_doAct 409 = .ok (.aload_n 0, 1) := by decide +kernel
theorem dX4_doAct_410 : decode cX4_doAct 410 = .ok (.getfield 19, 3) := by decide +kernel
theorem dX4_doAct_413 : decode cX4_doAct 413 = .ok (.aload_n 0, 1) := by decide +kernel
theorem dX4_doAct_414 : decode cX4_doAct 414 = .ok (.getfield 111, 3) := by decide +kernel
theorem dX4_doAct_417 : decode cX4_doAct 417 = .ok (.iconst 1, 1) := by decide +kernel
theorem dX4_doAct_418 : decode cX4_doAct 418 = .ok (.iadd, 1) := by decide +kernel
theorem dX4_doAct_419 : decode cX4_doAct 419 = .ok (.invokevirtual 160, 3) := by decide +kernel
theorem dX4_doAct_422 : decode cX4_doAct 422 = .ok (.invokevirtual 176, 3) := by decide +kernel
theorem dX4_doAct_425 : decode cX4_doAct 425 = .ok (.ifCond .lt 7, 3) := by decide +kernel
theorem dX4_doAct_428 : decode cX4_doAct 428 = .ok (.iconst 1, 1) := by decide +kernel
theorem dX4_doAct_429 : decode cX4_doAct 429 = .ok (.goto 4, 3) := by decide +kernel
theorem dX4_doAct_432 : decode cX4_doAct 432 = .ok (.iconst 0, 1) := by decide +kernel
theorem dX4_doAct_433 : decode cX4_doAct 433 = .ok (.istore_n 2, 1) := by decide +kernel
theorem dX4_doAct_434 : decode cX4_doAct 434 = .ok (.goto 32, 3) := by decide +kernel
theorem dX4_doAct_437 : decode cX4_doAct 437 = .ok (.aload_n 0, 1) := by decide +kernel
theorem dX4_doAct_438 : decode cX4_doAct 438 = .ok (.getfield 15, 3) := by decide +kernel
theorem dX4_doAct_441 : decode cX4_doAct 441 = .ok (.aload_n 0, 1) := by decide +kernel
theorem dX4_doAct_442 : decode cX4_doAct 442 = .ok (.getfield 23, 3) := by decide +kernel
theorem dX4_doAct_445 : decode cX4_doAct 445 = .ok (.invokevirtual 179, 3) := by decide +kernel
theorem dX4_doAct_448 : decode cX4_doAct 448 = .ok (.ifCond .lt 7, 3) := by decide +kernel
theorem dX4_doAct_451 : decode cX4_doAct 451 = .ok (.iconst 1, 1) := by decide +kernel
theorem dX4_doAct_452 : decode cX4_doAct 452 = .ok (.goto 4, 3) := by decide +kernel
theorem dX4_doAct_455 : decode cX4_doAct 455 = .ok (.iconst 0, 1) := by decide +kernel
theorem dX4_doAct_456 : decode cX4_doAct 456 = .ok (.istore_n 2, 1) := by decide +kernel
theorem dX4_doAct_457 : decode cX4_doAct 457 = .ok (.goto 9, 3) := by decide +kernel
theorem dX4_doAct_460 : decode cX4_doAct 460 = .ok (.aload_n 0, 1) := by decide +kernel
theorem dX4_doAct_461 : decode cX4_doAct 461 = .ok (.iload_n 1, 1) := by decide +kernel
theorem dX4_doAct_462 : decode cX4_doAct 462 = .ok (.invokevirtual 183, 3) := by decide +kernel
theorem dX4_doAct_465 : decode cX4_doAct 465 = .ok (.istore_n 2, 1) := by decide +kernel
theorem dX4_doAct_466 : decode cX4_doAct 466 = .ok (.iload_n 2, 1) := by decide +kernel
theorem dX4_doAct_467 : decode cX4_doAct 467 = .ok (.ifCond .eq 29, 3) := by decide +kernel
theorem dX4_doAct_470 : decode cX4_doAct 470 = .ok (.aload_n 0, 1) := by decide +kernel
theorem dX4_doAct_471 : decode cX4_doAct 471 = .ok (.dup, 1) := by decide +kernel
theorem dX4_doAct_472 : decode cX4_doAct 472 = .ok (.getfield 111, 3) := by decide +kernel
theorem dX4_doAct_475 : decode cX4_doAct 475 = .ok (.iload_n 1, 1) := by decide +kernel
theorem dX4_doAct_476 : decode cX4_doAct 476 = .ok (.invokestatic 57, 3) := by decide +kernel
theorem dX4_doAct_479 : decode cX4_doAct 479 = .ok (.invokevirtual 61, 3) := by decide +kernel
theorem dX4_doAct_482 : decode cX4_doAct 482 = .ok (.iadd, 1) := by decide +kernel
theorem dX4_doAct_483 : decode cX4_doAct 483 = .ok (.putfield 111, 3) := by decide +kernel
theorem dX4_doAct_486 : decode cX4_doAct 486 = .ok (.aload_n 0, 1) := by decide +kernel
theorem dX4_doAct_487 : decode cX4_doAct 487 = .ok (.dup, 1) := by decide +kernel
theorem dX4_doAct_488 : decode cX4_doAct 488 = .ok (.getfield 114, 3) := by decide +kernel
theorem dX4_doAct_491 : decode cX4_doAct 491 = .ok (.iconst 1, 1) := by decide +kernel
theorem dX4_doAct_492 : decode cX4_doAct 492 = .ok (.iadd, 1) := by decide +kernel
theorem dX4_doAct_493 : decode cX4_doAct 493 = .ok (.putfield 114, 3) := by decide +kernel
theorem dX4_doAct_496 : decode cX4_doAct 496 = .ok (.iload_n 2, 1) := by decide +kernel
theorem dX4_doAct_497 : decode cX4_doAct 497 = .ok (.ireturn, 1) := by decide +kernel
def f_X4_doAct (a0 : Nat) (x1 : Int32) (μ : jM) : Option (Int32 × jM) :=
  jbd (fun (t1 : Int32) (m2 : jM) => (if t1 = (0 : Int32) then some ((t1 &&& 1, m2)) else jbd (jsi m2 a0 4 ((m2.1 a0 4) + (jsLn (f_X4_form x1)))) (fun m7 => jbd (jsi m7 a0 5 ((m7.1 a0 5) + (1 : Int32))) (fun m9 => some ((t1 &&& 1, m9)))))) (fun k3 => (if x1 = (0 : Int32) then jcl (f_X8_cellAt 1 (μ.1 a0 4) μ) (fun v12 => jcl (f_X8_twoDigitsAt 1 ((μ.1 a0 4) + (2 : Int32)) μ) (fun v14 => jcl2 (f_X7_setCell 5 v12 v14 μ) (fun v16 m17 => jbd ((if v16 < (0 : Int32) then (0 : Int32) else (1 : Int32)) : Int32) (fun v20 => k3 v20 m17)))) else (if x1 = (1 : Int32) then jcl (f_X8_cellAt 1 (μ.1 a0 4) μ) (fun v23 => jcl (f_X8_twoDigitsAt 1 ((μ.1 a0 4) + (2 : Int32)) μ) (fun v25 => jcl2 (f_X7_addToCell 5 v23 v25 μ) (fun v27 m28 => jbd ((if v27 < (0 : Int32) then (0 : Int32) else (1 : Int32)) : Int32) (fun v31 => k3 v31 m28)))) else (if x1 = (2 : Int32) then jcl (f_X8_cellAt 1 (μ.1 a0 4) μ) (fun v34 => jcl (f_X8_twoDigitsAt 1 ((μ.1 a0 4) + (2 : Int32)) μ) (fun v36 => jcl2 (f_X7_addToCell 5 v34 (-v36) μ) (fun v38 m39 => jbd ((if v38 < (0 : Int32) then (0 : Int32) else (1 : Int32)) : Int32) (fun v42 => k3 v42 m39)))) else (if x1 = (3 : Int32) then jcl (f_X8_variableAt 1 (μ.1 a0 4) μ) (fun v45 => jcl (f_X8_digitAt 1 ((μ.1 a0 4) + (2 : Int32)) μ) (fun v47 => jcl2 (f_X7_takeValue 5 v45 v47 μ) (fun v49 m50 => jbd ((if v49 < (0 : Int32) then (0 : Int32) else (1 : Int32)) : Int32) (fun v53 => k3 v53 m50)))) else (if x1 = (4 : Int32) then jcl (f_X8_variableAt 1 (μ.1 a0 4) μ) (fun v56 => jcl (f_X8_digitAt 1 ((μ.1 a0 4) + (2 : Int32)) μ) (fun v58 => jcl2 (f_X7_fixVariable 5 v56 v58 μ) (fun v60 m61 => jbd ((if v60 < (0 : Int32) then (0 : Int32) else (1 : Int32)) : Int32) (fun v64 => k3 v64 m61)))) else (if x1 = (5 : Int32) then jcl (f_X8_variableAt 1 (μ.1 a0 4) μ) (fun v67 => jcl (f_X8_digitAt 1 ((μ.1 a0 4) + (2 : Int32)) μ) (fun v69 => jcl2 (f_X7_limitVariable 5 v67 (0 : Int32) v69 μ) (fun v71 m72 => jbd ((if v71 < (0 : Int32) then (0 : Int32) else (1 : Int32)) : Int32) (fun v75 => k3 v75 m72)))) else (if x1 = (6 : Int32) then jcl (f_X8_variableAt 1 (μ.1 a0 4) μ) (fun v78 => jcl (f_X8_digitAt 1 ((μ.1 a0 4) + (2 : Int32)) μ) (fun v80 => jcl2 (f_X7_limitVariable 5 v78 v80 (5 : Int32) μ) (fun v82 m83 => jbd ((if v82 < (0 : Int32) then (0 : Int32) else (1 : Int32)) : Int32) (fun v86 => k3 v86 m83)))) else (if x1 = (7 : Int32) then jcl (f_X8_digitAt 1 ((μ.1 a0 4) + (1 : Int32)) μ) (fun v89 => jcl (f_X8_twoDigitsAt 1 ((μ.1 a0 4) + (3 : Int32)) μ) (fun v91 => jcl2 (f_X7_putKey 5 v89 v91 μ) (fun v93 m94 => jbd ((if v93 < (0 : Int32) then (0 : Int32) else (1 : Int32)) : Int32) (fun v97 => k3 v97 m94)))) else (if x1 = (8 : Int32) then jcl (f_X8_digitAt 1 ((μ.1 a0 4) + (1 : Int32)) μ) (fun v100 => jcl2 (f_X7_dropKey 5 v100 μ) (fun v102 m103 => jbd ((if v102 < (0 : Int32) then (0 : Int32) else (1 : Int32)) : Int32) (fun v106 => k3 v106 m103))) else (if x1 = (9 : Int32) then jcl2 (f_X7_spreadAll 5 165 μ) (fun v109 m110 => jbd ((if v109 < (0 : Int32) then (0 : Int32) else (1 : Int32)) : Int32) (fun v113 => k3 v113 m110)) else jcl (f_X4_isSo a0 x1 μ) (fun v115 => k3 v115 μ))))))))))))
set_option maxHeartbeats 4000000 in
set_option maxRecDepth 100000 in
theorem c_X4_doAct {l : Launch} {G : jG} {L : jL} (hL : jOKL L) {a0 : Nat} {x1 : Int32} (ka0 : jK L a0 4) {μ μ' : jM} {r : Int32} (h : f_X4_doAct a0 x1 μ = some ((r, μ'))) : jCt l G L 7 yX4_doAct cX4_doAct 3 (some .boolean) [.ref (L.2.2 a0), .int x1] μ (some (.int r)) μ' := by
  refine jCt_of (by decide) (Nat.le_of_ble_eq_true rfl) (fun X hC hX hR => ?_)
  subst hX
  have hC : jC X G cX4_doAct 3 RX4 (some .boolean) := hC
  unfold f_X4_doAct at h
  show jJ X G 3 L 0 0 (jQM X G L (some (.int r)) μ' 0 0) 0 [(0, .ref (L.2.2 a0)), (1, .int x1)] [] μ
  refine j_iload_n (pc := 0) hC 1 1 dX4_doAct_0 rfl rfl ?_
  obtain ⟨k3, e5, h⟩ := jbd_ex h
  have q4 : ∀ (t1 : Int32) (m2 : jM), k3 t1 m2 = some ((r, μ')) → jJ X G 3 L 0 0 (jQM X G L (some (.int r)) μ' 0 0) 466 [(0, .ref (L.2.2 a0)), (1, .int x1), (2, .int t1)] [] m2 := by
    intro t1 m2 h
    rw [e5] at h
    try dsimp only at h
    refine j_iload_n (pc := 466) hC 2 2 dX4_doAct_466 rfl rfl ?_
    refine j_if_eq (pc := 467) hC 496 dX4_doAct_467 (by decide) (fun c6 => ?_) (fun c6 => ?_)
    · rw [if_pos c6] at h
      refine j_iload_n (pc := 496) hC 2 2 dX4_doAct_496 rfl rfl ?_
      obtain ⟨rfl, rfl⟩ := Prod.mk.inj (Option.some.inj h)
      exact j_bret (pc := 497) hC dX4_doAct_497 rfl (j_nz _)
    · rw [if_neg c6] at h
      refine j_aload_n (pc := 470) hC 0 0 dX4_doAct_470 rfl rfl ?_
      refine j_dup (pc := 471) hC dX4_doAct_471 rfl ?_
      refine jgi_4 (pc := 472) hC 4 (by decide) rfl kf_X4_111 dX4_doAct_472 ka0 ?_
      refine j_iload_n (pc := 475) hC 1 1 dX4_doAct_475 rfl rfl ?_
      refine j_sr (pc := 476) hC hR [.int x1] iy_X4_form km_X4_57 dX4_doAct_476 rfl (by decide) (c_X4_form hL  rfl) (by decide) (Nat.le_of_ble_eq_true rfl) rfl ?_
      refine j_slen (pc := 479) hC hR kw_X4_61 dX4_doAct_479 (kb_X4_form _) (by decide) (Nat.le_of_ble_eq_true rfl) ?_
      refine j_iadd (pc := 482) hC dX4_doAct_482 ?_
      obtain ⟨m7, e8, h⟩ := jbd_ex h
      refine jpi_4 (pc := 483) hC 4 (by decide) rfl kf_X4_111 dX4_doAct_483 rfl (by decide) ka0 e8 ?_
      refine j_aload_n (pc := 486) hC 0 0 dX4_doAct_486 rfl rfl ?_
      refine j_dup (pc := 487) hC dX4_doAct_487 rfl ?_
      refine jgi_4 (pc := 488) hC 5 (by decide) rfl kf_X4_114 dX4_doAct_488 ka0 ?_
      refine j_iconst (pc := 491) hC (1 : Int32) dX4_doAct_491 (by decide) ?_
      refine j_iadd (pc := 492) hC dX4_doAct_492 ?_
      obtain ⟨m9, e10, h⟩ := jbd_ex h
      refine jpi_4 (pc := 493) hC 5 (by decide) rfl kf_X4_114 dX4_doAct_493 rfl (by decide) ka0 e10 ?_
      refine j_iload_n (pc := 496) hC 2 2 dX4_doAct_496 rfl rfl ?_
      obtain ⟨rfl, rfl⟩ := Prod.mk.inj (Option.some.inj h)
      exact j_bret (pc := 497) hC dX4_doAct_497 rfl (j_nz _)
  by_cases c11 : x1 = (0 : Int32)
  · rw [if_pos c11] at h
    refine j_tableIn (pc := 1) hC 56 dX4_doAct_1 (by rw [c11]; decide) (by rw [c11]; decide) (by rw [c11]; rfl) (by decide) ?_
    refine j_aload_n (pc := 56) hC 0 0 dX4_doAct_56 rfl rfl ?_
    refine jgr_4 (pc := 57) hC 0 (by decide) rfl kf_X4_15 dX4_doAct_57 ka0 (ly_4_0 hL ka0).1 ?_
    refine j_aload_n (pc := 60) hC 0 0 dX4_doAct_60 rfl rfl ?_
    refine jgr_4 (pc := 61) hC 1 (by decide) rfl kf_X4_19 dX4_doAct_61 ka0 (ly_4_1 hL ka0).1 ?_
    refine j_aload_n (pc := 64) hC 0 0 dX4_doAct_64 rfl rfl ?_
    refine jgi_4 (pc := 65) hC 4 (by decide) rfl kf_X4_111 dX4_doAct_65 ka0 ?_
    obtain ⟨v12, e13, h⟩ := jcl_some h
    refine j_vi (pc := 68) hC hR [.int (μ.1 a0 4)] iy_X8_cellAt (q := (RX8, TX8, 2)) (ci := 8) rfl rfl (by decide) km_X4_145 dX4_doAct_68 rfl (by decide) (ly_4_1 hL ka0).2.1 (c_X8_cellAt hL (ly_4_1 hL ka0).2.1 e13) (by decide) (Nat.le_of_ble_eq_true rfl) rfl ?_
    refine j_aload_n (pc := 71) hC 0 0 dX4_doAct_71 rfl rfl ?_
    refine jgr_4 (pc := 72) hC 1 (by decide) rfl kf_X4_19 dX4_doAct_72 ka0 (ly_4_1 hL ka0).1 ?_
    refine j_aload_n (pc := 75) hC 0 0 dX4_doAct_75 rfl rfl ?_
    refine jgi_4 (pc := 76) hC 4 (by decide) rfl kf_X4_111 dX4_doAct_76 ka0 ?_
    refine j_iconst (pc := 79) hC (2 : Int32) dX4_doAct_79 (by decide) ?_
    refine j_iadd (pc := 80) hC dX4_doAct_80 ?_
    obtain ⟨v14, e15, h⟩ := jcl_some h
    refine j_vi (pc := 81) hC hR [.int ((μ.1 a0 4) + (2 : Int32))] iy_X8_twoDigitsAt (q := (RX8, TX8, 2)) (ci := 8) rfl rfl (by decide) km_X4_148 dX4_doAct_81 rfl (by decide) (ly_4_1 hL ka0).2.1 (c_X8_twoDigitsAt hL (ly_4_1 hL ka0).2.1 e15) (by decide) (Nat.le_of_ble_eq_true rfl) rfl ?_
    obtain ⟨v16, m17, e18, h⟩ := jcl2_some h
    refine j_vi (pc := 84) hC hR [.int v12, .int v14] iy_X7_setCell (q := (RX7, TX7, 3)) (ci := 7) rfl rfl (by decide) km_X4_151 dX4_doAct_84 rfl (by decide) (ly_4_0 hL ka0).2.1 (c_X7_setCell hL (ly_4_0 hL ka0).2.1 e18) (by decide) (Nat.le_of_ble_eq_true rfl) rfl ?_
    refine jmg (B := jJ X G 3 L 0 0 (jQM X G L (some (.int r)) μ' 0 0) 95 [(0, .ref (L.2.2 a0)), (1, .int x1)] [.int ((if v16 < (0 : Int32) then (0 : Int32) else (1 : Int32)))] m17) (fun hj => ?_) ?_
    · refine j_if_lt (pc := 87) hC 94 dX4_doAct_87 (by decide) (fun c19 => ?_) (fun c19 => ?_)
      · rw [if_pos c19] at hj
        refine j_iconst (pc := 94) hC (0 : Int32) dX4_doAct_94 (by decide) ?_
        exact hj
      · rw [if_neg c19] at hj
        refine j_iconst (pc := 90) hC (1 : Int32) dX4_doAct_90 (by decide) ?_
        refine j_goto (pc := 91) hC 95 dX4_doAct_91 (by decide) ?_
        exact hj
    obtain ⟨v20, e21, h⟩ := jbd_ex h
    refine j_istore_n (pc := 95) hC 2 [(2, .int v20), (0, .ref (L.2.2 a0)), (1, .int x1)] dX4_doAct_95 rfl (by decide) e21 rfl ?_
    refine j_goto (pc := 96) hC 466 dX4_doAct_96 (by decide) ?_
    exact j_lv [1, 2, 0] rfl (q4 _ _ h)
  · rw [if_neg c11] at h
    by_cases c22 : x1 = (1 : Int32)
    · rw [if_pos c22] at h
      refine j_tableIn (pc := 1) hC 99 dX4_doAct_1 (by rw [c22]; decide) (by rw [c22]; decide) (by rw [c22]; rfl) (by decide) ?_
      refine j_aload_n (pc := 99) hC 0 0 dX4_doAct_99 rfl rfl ?_
      refine jgr_4 (pc := 100) hC 0 (by decide) rfl kf_X4_15 dX4_doAct_100 ka0 (ly_4_0 hL ka0).1 ?_
      refine j_aload_n (pc := 103) hC 0 0 dX4_doAct_103 rfl rfl ?_
      refine jgr_4 (pc := 104) hC 1 (by decide) rfl kf_X4_19 dX4_doAct_104 ka0 (ly_4_1 hL ka0).1 ?_
      refine j_aload_n (pc := 107) hC 0 0 dX4_doAct_107 rfl rfl ?_
      refine jgi_4 (pc := 108) hC 4 (by decide) rfl kf_X4_111 dX4_doAct_108 ka0 ?_
      obtain ⟨v23, e24, h⟩ := jcl_some h
      refine j_vi (pc := 111) hC hR [.int (μ.1 a0 4)] iy_X8_cellAt (q := (RX8, TX8, 2)) (ci := 8) rfl rfl (by decide) km_X4_145 dX4_doAct_111 rfl (by decide) (ly_4_1 hL ka0).2.1 (c_X8_cellAt hL (ly_4_1 hL ka0).2.1 e24) (by decide) (Nat.le_of_ble_eq_true rfl) rfl ?_
      refine j_aload_n (pc := 114) hC 0 0 dX4_doAct_114 rfl rfl ?_
      refine jgr_4 (pc := 115) hC 1 (by decide) rfl kf_X4_19 dX4_doAct_115 ka0 (ly_4_1 hL ka0).1 ?_
      refine j_aload_n (pc := 118) hC 0 0 dX4_doAct_118 rfl rfl ?_
      refine jgi_4 (pc := 119) hC 4 (by decide) rfl kf_X4_111 dX4_doAct_119 ka0 ?_
      refine j_iconst (pc := 122) hC (2 : Int32) dX4_doAct_122 (by decide) ?_
      refine j_iadd (pc := 123) hC dX4_doAct_123 ?_
      obtain ⟨v25, e26, h⟩ := jcl_some h
      refine j_vi (pc := 124) hC hR [.int ((μ.1 a0 4) + (2 : Int32))] iy_X8_twoDigitsAt (q := (RX8, TX8, 2)) (ci := 8) rfl rfl (by decide) km_X4_148 dX4_doAct_124 rfl (by decide) (ly_4_1 hL ka0).2.1 (c_X8_twoDigitsAt hL (ly_4_1 hL ka0).2.1 e26) (by decide) (Nat.le_of_ble_eq_true rfl) rfl ?_
      obtain ⟨v27, m28, e29, h⟩ := jcl2_some h
      refine j_vi (pc := 127) hC hR [.int v23, .int v25] iy_X7_addToCell (q := (RX7, TX7, 3)) (ci := 7) rfl rfl (by decide) km_X4_154 dX4_doAct_127 rfl (by decide) (ly_4_0 hL ka0).2.1 (c_X7_addToCell hL (ly_4_0 hL ka0).2.1 e29) (by decide) (Nat.le_of_ble_eq_true rfl) rfl ?_
      refine jmg (B := jJ X G 3 L 0 0 (jQM X G L (some (.int r)) μ' 0 0) 138 [(0, .ref (L.2.2 a0)), (1, .int x1)] [.int ((if v27 < (0 : Int32) then (0 : Int32) else (1 : Int32)))] m28) (fun hj => ?_) ?_
      · refine j_if_lt (pc := 130) hC 137 dX4_doAct_130 (by decide) (fun c30 => ?_) (fun c30 => ?_)
        · rw [if_pos c30] at hj
          refine j_iconst (pc := 137) hC (0 : Int32) dX4_doAct_137 (by decide) ?_
          exact hj
        · rw [if_neg c30] at hj
          refine j_iconst (pc := 133) hC (1 : Int32) dX4_doAct_133 (by decide) ?_
          refine j_goto (pc := 134) hC 138 dX4_doAct_134 (by decide) ?_
          exact hj
      obtain ⟨v31, e32, h⟩ := jbd_ex h
      refine j_istore_n (pc := 138) hC 2 [(2, .int v31), (0, .ref (L.2.2 a0)), (1, .int x1)] dX4_doAct_138 rfl (by decide) e32 rfl ?_
      refine j_goto (pc := 139) hC 466 dX4_doAct_139 (by decide) ?_
      exact j_lv [1, 2, 0] rfl (q4 _ _ h)
    · rw [if_neg c22] at h
      by_cases c33 : x1 = (2 : Int32)
      · rw [if_pos c33] at h
        refine j_tableIn (pc := 1) hC 142 dX4_doAct_1 (by rw [c33]; decide) (by rw [c33]; decide) (by rw [c33]; rfl) (by decide) ?_
        refine j_aload_n (pc := 142) hC 0 0 dX4_doAct_142 rfl rfl ?_
        refine jgr_4 (pc := 143) hC 0 (by decide) rfl kf_X4_15 dX4_doAct_143 ka0 (ly_4_0 hL ka0).1 ?_
        refine j_aload_n (pc := 146) hC 0 0 dX4_doAct_146 rfl rfl ?_
        refine jgr_4 (pc := 147) hC 1 (by decide) rfl kf_X4_19 dX4_doAct_147 ka0 (ly_4_1 hL ka0).1 ?_
        refine j_aload_n (pc := 150) hC 0 0 dX4_doAct_150 rfl rfl ?_
        refine jgi_4 (pc := 151) hC 4 (by decide) rfl kf_X4_111 dX4_doAct_151 ka0 ?_
        obtain ⟨v34, e35, h⟩ := jcl_some h
        refine j_vi (pc := 154) hC hR [.int (μ.1 a0 4)] iy_X8_cellAt (q := (RX8, TX8, 2)) (ci := 8) rfl rfl (by decide) km_X4_145 dX4_doAct_154 rfl (by decide) (ly_4_1 hL ka0).2.1 (c_X8_cellAt hL (ly_4_1 hL ka0).2.1 e35) (by decide) (Nat.le_of_ble_eq_true rfl) rfl ?_
        refine j_aload_n (pc := 157) hC 0 0 dX4_doAct_157 rfl rfl ?_
        refine jgr_4 (pc := 158) hC 1 (by decide) rfl kf_X4_19 dX4_doAct_158 ka0 (ly_4_1 hL ka0).1 ?_
        refine j_aload_n (pc := 161) hC 0 0 dX4_doAct_161 rfl rfl ?_
        refine jgi_4 (pc := 162) hC 4 (by decide) rfl kf_X4_111 dX4_doAct_162 ka0 ?_
        refine j_iconst (pc := 165) hC (2 : Int32) dX4_doAct_165 (by decide) ?_
        refine j_iadd (pc := 166) hC dX4_doAct_166 ?_
        obtain ⟨v36, e37, h⟩ := jcl_some h
        refine j_vi (pc := 167) hC hR [.int ((μ.1 a0 4) + (2 : Int32))] iy_X8_twoDigitsAt (q := (RX8, TX8, 2)) (ci := 8) rfl rfl (by decide) km_X4_148 dX4_doAct_167 rfl (by decide) (ly_4_1 hL ka0).2.1 (c_X8_twoDigitsAt hL (ly_4_1 hL ka0).2.1 e37) (by decide) (Nat.le_of_ble_eq_true rfl) rfl ?_
        refine j_ineg (pc := 170) hC dX4_doAct_170 ?_
        obtain ⟨v38, m39, e40, h⟩ := jcl2_some h
        refine j_vi (pc := 171) hC hR [.int v34, .int (-v36)] iy_X7_addToCell (q := (RX7, TX7, 3)) (ci := 7) rfl rfl (by decide) km_X4_154 dX4_doAct_171 rfl (by decide) (ly_4_0 hL ka0).2.1 (c_X7_addToCell hL (ly_4_0 hL ka0).2.1 e40) (by decide) (Nat.le_of_ble_eq_true rfl) rfl ?_
        refine jmg (B := jJ X G 3 L 0 0 (jQM X G L (some (.int r)) μ' 0 0) 182 [(0, .ref (L.2.2 a0)), (1, .int x1)] [.int ((if v38 < (0 : Int32) then (0 : Int32) else (1 : Int32)))] m39) (fun hj => ?_) ?_
        · refine j_if_lt (pc := 174) hC 181 dX4_doAct_174 (by decide) (fun c41 => ?_) (fun c41 => ?_)
          · rw [if_pos c41] at hj
            refine j_iconst (pc := 181) hC (0 : Int32) dX4_doAct_181 (by decide) ?_
            exact hj
          · rw [if_neg c41] at hj
            refine j_iconst (pc := 177) hC (1 : Int32) dX4_doAct_177 (by decide) ?_
            refine j_goto (pc := 178) hC 182 dX4_doAct_178 (by decide) ?_
            exact hj
        obtain ⟨v42, e43, h⟩ := jbd_ex h
        refine j_istore_n (pc := 182) hC 2 [(2, .int v42), (0, .ref (L.2.2 a0)), (1, .int x1)] dX4_doAct_182 rfl (by decide) e43 rfl ?_
        refine j_goto (pc := 183) hC 466 dX4_doAct_183 (by decide) ?_
        exact j_lv [1, 2, 0] rfl (q4 _ _ h)
      · rw [if_neg c33] at h
        by_cases c44 : x1 = (3 : Int32)
        · rw [if_pos c44] at h
          refine j_tableIn (pc := 1) hC 186 dX4_doAct_1 (by rw [c44]; decide) (by rw [c44]; decide) (by rw [c44]; rfl) (by decide) ?_
          refine j_aload_n (pc := 186) hC 0 0 dX4_doAct_186 rfl rfl ?_
          refine jgr_4 (pc := 187) hC 0 (by decide) rfl kf_X4_15 dX4_doAct_187 ka0 (ly_4_0 hL ka0).1 ?_
          refine j_aload_n (pc := 190) hC 0 0 dX4_doAct_190 rfl rfl ?_
          refine jgr_4 (pc := 191) hC 1 (by decide) rfl kf_X4_19 dX4_doAct_191 ka0 (ly_4_1 hL ka0).1 ?_
          refine j_aload_n (pc := 194) hC 0 0 dX4_doAct_194 rfl rfl ?_
          refine jgi_4 (pc := 195) hC 4 (by decide) rfl kf_X4_111 dX4_doAct_195 ka0 ?_
          obtain ⟨v45, e46, h⟩ := jcl_some h
          refine j_vi (pc := 198) hC hR [.int (μ.1 a0 4)] iy_X8_variableAt (q := (RX8, TX8, 2)) (ci := 8) rfl rfl (by decide) km_X4_157 dX4_doAct_198 rfl (by decide) (ly_4_1 hL ka0).2.1 (c_X8_variableAt hL (ly_4_1 hL ka0).2.1 e46) (by decide) (Nat.le_of_ble_eq_true rfl) rfl ?_
          refine j_aload_n (pc := 201) hC 0 0 dX4_doAct_201 rfl rfl ?_
          refine jgr_4 (pc := 202) hC 1 (by decide) rfl kf_X4_19 dX4_doAct_202 ka0 (ly_4_1 hL ka0).1 ?_
          refine j_aload_n (pc := 205) hC 0 0 dX4_doAct_205 rfl rfl ?_
          refine jgi_4 (pc := 206) hC 4 (by decide) rfl kf_X4_111 dX4_doAct_206 ka0 ?_
          refine j_iconst (pc := 209) hC (2 : Int32) dX4_doAct_209 (by decide) ?_
          refine j_iadd (pc := 210) hC dX4_doAct_210 ?_
          obtain ⟨v47, e48, h⟩ := jcl_some h
          refine j_vi (pc := 211) hC hR [.int ((μ.1 a0 4) + (2 : Int32))] iy_X8_digitAt (q := (RX8, TX8, 2)) (ci := 8) rfl rfl (by decide) km_X4_160 dX4_doAct_211 rfl (by decide) (ly_4_1 hL ka0).2.1 (c_X8_digitAt hL (ly_4_1 hL ka0).2.1 e48) (by decide) (Nat.le_of_ble_eq_true rfl) rfl ?_
          obtain ⟨v49, m50, e51, h⟩ := jcl2_some h
          refine j_vi (pc := 214) hC hR [.int v45, .int v47] iy_X7_takeValue (q := (RX7, TX7, 3)) (ci := 7) rfl rfl (by decide) km_X4_163 dX4_doAct_214 rfl (by decide) (ly_4_0 hL ka0).2.1 (c_X7_takeValue hL (ly_4_0 hL ka0).2.1 e51) (by decide) (Nat.le_of_ble_eq_true rfl) rfl ?_
          refine jmg (B := jJ X G 3 L 0 0 (jQM X G L (some (.int r)) μ' 0 0) 225 [(0, .ref (L.2.2 a0)), (1, .int x1)] [.int ((if v49 < (0 : Int32) then (0 : Int32) else (1 : Int32)))] m50) (fun hj => ?_) ?_
          · refine j_if_lt (pc := 217) hC 224 dX4_doAct_217 (by decide) (fun c52 => ?_) (fun c52 => ?_)
            · rw [if_pos c52] at hj
              refine j_iconst (pc := 224) hC (0 : Int32) dX4_doAct_224 (by decide) ?_
              exact hj
            · rw [if_neg c52] at hj
              refine j_iconst (pc := 220) hC (1 : Int32) dX4_doAct_220 (by decide) ?_
              refine j_goto (pc := 221) hC 225 dX4_doAct_221 (by decide) ?_
              exact hj
          obtain ⟨v53, e54, h⟩ := jbd_ex h
          refine j_istore_n (pc := 225) hC 2 [(2, .int v53), (0, .ref (L.2.2 a0)), (1, .int x1)] dX4_doAct_225 rfl (by decide) e54 rfl ?_
          refine j_goto (pc := 226) hC 466 dX4_doAct_226 (by decide) ?_
          exact j_lv [1, 2, 0] rfl (q4 _ _ h)
        · rw [if_neg c44] at h
          by_cases c55 : x1 = (4 : Int32)
          · rw [if_pos c55] at h
            refine j_tableIn (pc := 1) hC 229 dX4_doAct_1 (by rw [c55]; decide) (by rw [c55]; decide) (by rw [c55]; rfl) (by decide) ?_
            refine j_aload_n (pc := 229) hC 0 0 dX4_doAct_229 rfl rfl ?_
            refine jgr_4 (pc := 230) hC 0 (by decide) rfl kf_X4_15 dX4_doAct_230 ka0 (ly_4_0 hL ka0).1 ?_
            refine j_aload_n (pc := 233) hC 0 0 dX4_doAct_233 rfl rfl ?_
            refine jgr_4 (pc := 234) hC 1 (by decide) rfl kf_X4_19 dX4_doAct_234 ka0 (ly_4_1 hL ka0).1 ?_
            refine j_aload_n (pc := 237) hC 0 0 dX4_doAct_237 rfl rfl ?_
            refine jgi_4 (pc := 238) hC 4 (by decide) rfl kf_X4_111 dX4_doAct_238 ka0 ?_
            obtain ⟨v56, e57, h⟩ := jcl_some h
            refine j_vi (pc := 241) hC hR [.int (μ.1 a0 4)] iy_X8_variableAt (q := (RX8, TX8, 2)) (ci := 8) rfl rfl (by decide) km_X4_157 dX4_doAct_241 rfl (by decide) (ly_4_1 hL ka0).2.1 (c_X8_variableAt hL (ly_4_1 hL ka0).2.1 e57) (by decide) (Nat.le_of_ble_eq_true rfl) rfl ?_
            refine j_aload_n (pc := 244) hC 0 0 dX4_doAct_244 rfl rfl ?_
            refine jgr_4 (pc := 245) hC 1 (by decide) rfl kf_X4_19 dX4_doAct_245 ka0 (ly_4_1 hL ka0).1 ?_
            refine j_aload_n (pc := 248) hC 0 0 dX4_doAct_248 rfl rfl ?_
            refine jgi_4 (pc := 249) hC 4 (by decide) rfl kf_X4_111 dX4_doAct_249 ka0 ?_
            refine j_iconst (pc := 252) hC (2 : Int32) dX4_doAct_252 (by decide) ?_
            refine j_iadd (pc := 253) hC dX4_doAct_253 ?_
            obtain ⟨v58, e59, h⟩ := jcl_some h
            refine j_vi (pc := 254) hC hR [.int ((μ.1 a0 4) + (2 : Int32))] iy_X8_digitAt (q := (RX8, TX8, 2)) (ci := 8) rfl rfl (by decide) km_X4_160 dX4_doAct_254 rfl (by decide) (ly_4_1 hL ka0).2.1 (c_X8_digitAt hL (ly_4_1 hL ka0).2.1 e59) (by decide) (Nat.le_of_ble_eq_true rfl) rfl ?_
            obtain ⟨v60, m61, e62, h⟩ := jcl2_some h
            refine j_vi (pc := 257) hC hR [.int v56, .int v58] iy_X7_fixVariable (q := (RX7, TX7, 3)) (ci := 7) rfl rfl (by decide) km_X4_166 dX4_doAct_257 rfl (by decide) (ly_4_0 hL ka0).2.1 (c_X7_fixVariable hL (ly_4_0 hL ka0).2.1 e62) (by decide) (Nat.le_of_ble_eq_true rfl) rfl ?_
            refine jmg (B := jJ X G 3 L 0 0 (jQM X G L (some (.int r)) μ' 0 0) 268 [(0, .ref (L.2.2 a0)), (1, .int x1)] [.int ((if v60 < (0 : Int32) then (0 : Int32) else (1 : Int32)))] m61) (fun hj => ?_) ?_
            · refine j_if_lt (pc := 260) hC 267 dX4_doAct_260 (by decide) (fun c63 => ?_) (fun c63 => ?_)
              · rw [if_pos c63] at hj
                refine j_iconst (pc := 267) hC (0 : Int32) dX4_doAct_267 (by decide) ?_
                exact hj
              · rw [if_neg c63] at hj
                refine j_iconst (pc := 263) hC (1 : Int32) dX4_doAct_263 (by decide) ?_
                refine j_goto (pc := 264) hC 268 dX4_doAct_264 (by decide) ?_
                exact hj
            obtain ⟨v64, e65, h⟩ := jbd_ex h
            refine j_istore_n (pc := 268) hC 2 [(2, .int v64), (0, .ref (L.2.2 a0)), (1, .int x1)] dX4_doAct_268 rfl (by decide) e65 rfl ?_
            refine j_goto (pc := 269) hC 466 dX4_doAct_269 (by decide) ?_
            exact j_lv [1, 2, 0] rfl (q4 _ _ h)
          · rw [if_neg c55] at h
            by_cases c66 : x1 = (5 : Int32)
            · rw [if_pos c66] at h
              refine j_tableIn (pc := 1) hC 272 dX4_doAct_1 (by rw [c66]; decide) (by rw [c66]; decide) (by rw [c66]; rfl) (by decide) ?_
              refine j_aload_n (pc := 272) hC 0 0 dX4_doAct_272 rfl rfl ?_
              refine jgr_4 (pc := 273) hC 0 (by decide) rfl kf_X4_15 dX4_doAct_273 ka0 (ly_4_0 hL ka0).1 ?_
              refine j_aload_n (pc := 276) hC 0 0 dX4_doAct_276 rfl rfl ?_
              refine jgr_4 (pc := 277) hC 1 (by decide) rfl kf_X4_19 dX4_doAct_277 ka0 (ly_4_1 hL ka0).1 ?_
              refine j_aload_n (pc := 280) hC 0 0 dX4_doAct_280 rfl rfl ?_
              refine jgi_4 (pc := 281) hC 4 (by decide) rfl kf_X4_111 dX4_doAct_281 ka0 ?_
              obtain ⟨v67, e68, h⟩ := jcl_some h
              refine j_vi (pc := 284) hC hR [.int (μ.1 a0 4)] iy_X8_variableAt (q := (RX8, TX8, 2)) (ci := 8) rfl rfl (by decide) km_X4_157 dX4_doAct_284 rfl (by decide) (ly_4_1 hL ka0).2.1 (c_X8_variableAt hL (ly_4_1 hL ka0).2.1 e68) (by decide) (Nat.le_of_ble_eq_true rfl) rfl ?_
              refine j_iconst (pc := 287) hC (0 : Int32) dX4_doAct_287 (by decide) ?_
              refine j_aload_n (pc := 288) hC 0 0 dX4_doAct_288 rfl rfl ?_
              refine jgr_4 (pc := 289) hC 1 (by decide) rfl kf_X4_19 dX4_doAct_289 ka0 (ly_4_1 hL ka0).1 ?_
              refine j_aload_n (pc := 292) hC 0 0 dX4_doAct_292 rfl rfl ?_
              refine jgi_4 (pc := 293) hC 4 (by decide) rfl kf_X4_111 dX4_doAct_293 ka0 ?_
              refine j_iconst (pc := 296) hC (2 : Int32) dX4_doAct_296 (by decide) ?_
              refine j_iadd (pc := 297) hC dX4_doAct_297 ?_
              obtain ⟨v69, e70, h⟩ := jcl_some h
              refine j_vi (pc := 298) hC hR [.int ((μ.1 a0 4) + (2 : Int32))] iy_X8_digitAt (q := (RX8, TX8, 2)) (ci := 8) rfl rfl (by decide) km_X4_160 dX4_doAct_298 rfl (by decide) (ly_4_1 hL ka0).2.1 (c_X8_digitAt hL (ly_4_1 hL ka0).2.1 e70) (by decide) (Nat.le_of_ble_eq_true rfl) rfl ?_
              obtain ⟨v71, m72, e73, h⟩ := jcl2_some h
              refine j_vi (pc := 301) hC hR [.int v67, .int (0 : Int32), .int v69] iy_X7_limitVariable (q := (RX7, TX7, 3)) (ci := 7) rfl rfl (by decide) km_X4_169 dX4_doAct_301 rfl (by decide) (ly_4_0 hL ka0).2.1 (c_X7_limitVariable hL (ly_4_0 hL ka0).2.1 e73) (by decide) (Nat.le_of_ble_eq_true rfl) rfl ?_
              refine jmg (B := jJ X G 3 L 0 0 (jQM X G L (some (.int r)) μ' 0 0) 312 [(0, .ref (L.2.2 a0)), (1, .int x1)] [.int ((if v71 < (0 : Int32) then (0 : Int32) else (1 : Int32)))] m72) (fun hj => ?_) ?_
              · refine j_if_lt (pc := 304) hC 311 dX4_doAct_304 (by decide) (fun c74 => ?_) (fun c74 => ?_)
                · rw [if_pos c74] at hj
                  refine j_iconst (pc := 311) hC (0 : Int32) dX4_doAct_311 (by decide) ?_
                  exact hj
                · rw [if_neg c74] at hj
                  refine j_iconst (pc := 307) hC (1 : Int32) dX4_doAct_307 (by decide) ?_
                  refine j_goto (pc := 308) hC 312 dX4_doAct_308 (by decide) ?_
                  exact hj
              obtain ⟨v75, e76, h⟩ := jbd_ex h
              refine j_istore_n (pc := 312) hC 2 [(2, .int v75), (0, .ref (L.2.2 a0)), (1, .int x1)] dX4_doAct_312 rfl (by decide) e76 rfl ?_
              refine j_goto (pc := 313) hC 466 dX4_doAct_313 (by decide) ?_
              exact j_lv [1, 2, 0] rfl (q4 _ _ h)
            · rw [if_neg c66] at h
              by_cases c77 : x1 = (6 : Int32)
              · rw [if_pos c77] at h
                refine j_tableIn (pc := 1) hC 316 dX4_doAct_1 (by rw [c77]; decide) (by rw [c77]; decide) (by rw [c77]; rfl) (by decide) ?_
                refine j_aload_n (pc := 316) hC 0 0 dX4_doAct_316 rfl rfl ?_
                refine jgr_4 (pc := 317) hC 0 (by decide) rfl kf_X4_15 dX4_doAct_317 ka0 (ly_4_0 hL ka0).1 ?_
                refine j_aload_n (pc := 320) hC 0 0 dX4_doAct_320 rfl rfl ?_
                refine jgr_4 (pc := 321) hC 1 (by decide) rfl kf_X4_19 dX4_doAct_321 ka0 (ly_4_1 hL ka0).1 ?_
                refine j_aload_n (pc := 324) hC 0 0 dX4_doAct_324 rfl rfl ?_
                refine jgi_4 (pc := 325) hC 4 (by decide) rfl kf_X4_111 dX4_doAct_325 ka0 ?_
                obtain ⟨v78, e79, h⟩ := jcl_some h
                refine j_vi (pc := 328) hC hR [.int (μ.1 a0 4)] iy_X8_variableAt (q := (RX8, TX8, 2)) (ci := 8) rfl rfl (by decide) km_X4_157 dX4_doAct_328 rfl (by decide) (ly_4_1 hL ka0).2.1 (c_X8_variableAt hL (ly_4_1 hL ka0).2.1 e79) (by decide) (Nat.le_of_ble_eq_true rfl) rfl ?_
                refine j_aload_n (pc := 331) hC 0 0 dX4_doAct_331 rfl rfl ?_
                refine jgr_4 (pc := 332) hC 1 (by decide) rfl kf_X4_19 dX4_doAct_332 ka0 (ly_4_1 hL ka0).1 ?_
                refine j_aload_n (pc := 335) hC 0 0 dX4_doAct_335 rfl rfl ?_
                refine jgi_4 (pc := 336) hC 4 (by decide) rfl kf_X4_111 dX4_doAct_336 ka0 ?_
                refine j_iconst (pc := 339) hC (2 : Int32) dX4_doAct_339 (by decide) ?_
                refine j_iadd (pc := 340) hC dX4_doAct_340 ?_
                obtain ⟨v80, e81, h⟩ := jcl_some h
                refine j_vi (pc := 341) hC hR [.int ((μ.1 a0 4) + (2 : Int32))] iy_X8_digitAt (q := (RX8, TX8, 2)) (ci := 8) rfl rfl (by decide) km_X4_160 dX4_doAct_341 rfl (by decide) (ly_4_1 hL ka0).2.1 (c_X8_digitAt hL (ly_4_1 hL ka0).2.1 e81) (by decide) (Nat.le_of_ble_eq_true rfl) rfl ?_
                refine j_iconst (pc := 344) hC (5 : Int32) dX4_doAct_344 (by decide) ?_
                obtain ⟨v82, m83, e84, h⟩ := jcl2_some h
                refine j_vi (pc := 345) hC hR [.int v78, .int v80, .int (5 : Int32)] iy_X7_limitVariable (q := (RX7, TX7, 3)) (ci := 7) rfl rfl (by decide) km_X4_169 dX4_doAct_345 rfl (by decide) (ly_4_0 hL ka0).2.1 (c_X7_limitVariable hL (ly_4_0 hL ka0).2.1 e84) (by decide) (Nat.le_of_ble_eq_true rfl) rfl ?_
                refine jmg (B := jJ X G 3 L 0 0 (jQM X G L (some (.int r)) μ' 0 0) 356 [(0, .ref (L.2.2 a0)), (1, .int x1)] [.int ((if v82 < (0 : Int32) then (0 : Int32) else (1 : Int32)))] m83) (fun hj => ?_) ?_
                · refine j_if_lt (pc := 348) hC 355 dX4_doAct_348 (by decide) (fun c85 => ?_) (fun c85 => ?_)
                  · rw [if_pos c85] at hj
                    refine j_iconst (pc := 355) hC (0 : Int32) dX4_doAct_355 (by decide) ?_
                    exact hj
                  · rw [if_neg c85] at hj
                    refine j_iconst (pc := 351) hC (1 : Int32) dX4_doAct_351 (by decide) ?_
                    refine j_goto (pc := 352) hC 356 dX4_doAct_352 (by decide) ?_
                    exact hj
                obtain ⟨v86, e87, h⟩ := jbd_ex h
                refine j_istore_n (pc := 356) hC 2 [(2, .int v86), (0, .ref (L.2.2 a0)), (1, .int x1)] dX4_doAct_356 rfl (by decide) e87 rfl ?_
                refine j_goto (pc := 357) hC 466 dX4_doAct_357 (by decide) ?_
                exact j_lv [1, 2, 0] rfl (q4 _ _ h)
              · rw [if_neg c77] at h
                by_cases c88 : x1 = (7 : Int32)
                · rw [if_pos c88] at h
                  refine j_tableIn (pc := 1) hC 360 dX4_doAct_1 (by rw [c88]; decide) (by rw [c88]; decide) (by rw [c88]; rfl) (by decide) ?_
                  refine j_aload_n (pc := 360) hC 0 0 dX4_doAct_360 rfl rfl ?_
                  refine jgr_4 (pc := 361) hC 0 (by decide) rfl kf_X4_15 dX4_doAct_361 ka0 (ly_4_0 hL ka0).1 ?_
                  refine j_aload_n (pc := 364) hC 0 0 dX4_doAct_364 rfl rfl ?_
                  refine jgr_4 (pc := 365) hC 1 (by decide) rfl kf_X4_19 dX4_doAct_365 ka0 (ly_4_1 hL ka0).1 ?_
                  refine j_aload_n (pc := 368) hC 0 0 dX4_doAct_368 rfl rfl ?_
                  refine jgi_4 (pc := 369) hC 4 (by decide) rfl kf_X4_111 dX4_doAct_369 ka0 ?_
                  refine j_iconst (pc := 372) hC (1 : Int32) dX4_doAct_372 (by decide) ?_
                  refine j_iadd (pc := 373) hC dX4_doAct_373 ?_
                  obtain ⟨v89, e90, h⟩ := jcl_some h
                  refine j_vi (pc := 374) hC hR [.int ((μ.1 a0 4) + (1 : Int32))] iy_X8_digitAt (q := (RX8, TX8, 2)) (ci := 8) rfl rfl (by decide) km_X4_160 dX4_doAct_374 rfl (by decide) (ly_4_1 hL ka0).2.1 (c_X8_digitAt hL (ly_4_1 hL ka0).2.1 e90) (by decide) (Nat.le_of_ble_eq_true rfl) rfl ?_
                  refine j_aload_n (pc := 377) hC 0 0 dX4_doAct_377 rfl rfl ?_
                  refine jgr_4 (pc := 378) hC 1 (by decide) rfl kf_X4_19 dX4_doAct_378 ka0 (ly_4_1 hL ka0).1 ?_
                  refine j_aload_n (pc := 381) hC 0 0 dX4_doAct_381 rfl rfl ?_
                  refine jgi_4 (pc := 382) hC 4 (by decide) rfl kf_X4_111 dX4_doAct_382 ka0 ?_
                  refine j_iconst (pc := 385) hC (3 : Int32) dX4_doAct_385 (by decide) ?_
                  refine j_iadd (pc := 386) hC dX4_doAct_386 ?_
                  obtain ⟨v91, e92, h⟩ := jcl_some h
                  refine j_vi (pc := 387) hC hR [.int ((μ.1 a0 4) + (3 : Int32))] iy_X8_twoDigitsAt (q := (RX8, TX8, 2)) (ci := 8) rfl rfl (by decide) km_X4_148 dX4_doAct_387 rfl (by decide) (ly_4_1 hL ka0).2.1 (c_X8_twoDigitsAt hL (ly_4_1 hL ka0).2.1 e92) (by decide) (Nat.le_of_ble_eq_true rfl) rfl ?_
                  obtain ⟨v93, m94, e95, h⟩ := jcl2_some h
                  refine j_vi (pc := 390) hC hR [.int v89, .int v91] iy_X7_putKey (q := (RX7, TX7, 3)) (ci := 7) rfl rfl (by decide) km_X4_173 dX4_doAct_390 rfl (by decide) (ly_4_0 hL ka0).2.1 (c_X7_putKey hL (ly_4_0 hL ka0).2.1 e95) (by decide) (Nat.le_of_ble_eq_true rfl) rfl ?_
                  refine jmg (B := jJ X G 3 L 0 0 (jQM X G L (some (.int r)) μ' 0 0) 401 [(0, .ref (L.2.2 a0)), (1, .int x1)] [.int ((if v93 < (0 : Int32) then (0 : Int32) else (1 : Int32)))] m94) (fun hj => ?_) ?_
                  · refine j_if_lt (pc := 393) hC 400 dX4_doAct_393 (by decide) (fun c96 => ?_) (fun c96 => ?_)
                    · rw [if_pos c96] at hj
                      refine j_iconst (pc := 400) hC (0 : Int32) dX4_doAct_400 (by decide) ?_
                      exact hj
                    · rw [if_neg c96] at hj
                      refine j_iconst (pc := 396) hC (1 : Int32) dX4_doAct_396 (by decide) ?_
                      refine j_goto (pc := 397) hC 401 dX4_doAct_397 (by decide) ?_
                      exact hj
                  obtain ⟨v97, e98, h⟩ := jbd_ex h
                  refine j_istore_n (pc := 401) hC 2 [(2, .int v97), (0, .ref (L.2.2 a0)), (1, .int x1)] dX4_doAct_401 rfl (by decide) e98 rfl ?_
                  refine j_goto (pc := 402) hC 466 dX4_doAct_402 (by decide) ?_
                  exact j_lv [1, 2, 0] rfl (q4 _ _ h)
                · rw [if_neg c88] at h
                  by_cases c99 : x1 = (8 : Int32)
                  · rw [if_pos c99] at h
                    refine j_tableIn (pc := 1) hC 405 dX4_doAct_1 (by rw [c99]; decide) (by rw [c99]; decide) (by rw [c99]; rfl) (by decide) ?_
                    refine j_aload_n (pc := 405) hC 0 0 dX4_doAct_405 rfl rfl ?_
                    refine jgr_4 (pc := 406) hC 0 (by decide) rfl kf_X4_15 dX4_doAct_406 ka0 (ly_4_0 hL ka0).1 ?_
                    refine j_aload_n (pc := 409) hC 0 0 dX4_doAct_409 rfl rfl ?_
                    refine jgr_4 (pc := 410) hC 1 (by decide) rfl kf_X4_19 dX4_doAct_410 ka0 (ly_4_1 hL ka0).1 ?_
                    refine j_aload_n (pc := 413) hC 0 0 dX4_doAct_413 rfl rfl ?_
                    refine jgi_4 (pc := 414) hC 4 (by decide) rfl kf_X4_111 dX4_doAct_414 ka0 ?_
                    refine j_iconst (pc := 417) hC (1 : Int32) dX4_doAct_417 (by decide) ?_
                    refine j_iadd (pc := 418) hC dX4_doAct_418 ?_
                    obtain ⟨v100, e101, h⟩ := jcl_some h
                    refine j_vi (pc := 419) hC hR [.int ((μ.1 a0 4) + (1 : Int32))] iy_X8_digitAt (q := (RX8, TX8, 2)) (ci := 8) rfl rfl (by decide) km_X4_160 dX4_doAct_419 rfl (by decide) (ly_4_1 hL ka0).2.1 (c_X8_digitAt hL (ly_4_1 hL ka0).2.1 e101) (by decide) (Nat.le_of_ble_eq_true rfl) rfl ?_
                    obtain ⟨v102, m103, e104, h⟩ := jcl2_some h
                    refine j_vi (pc := 422) hC hR [.int v100] iy_X7_dropKey (q := (RX7, TX7, 3)) (ci := 7) rfl rfl (by decide) km_X4_176 dX4_doAct_422 rfl (by decide) (ly_4_0 hL ka0).2.1 (c_X7_dropKey hL (ly_4_0 hL ka0).2.1 e104) (by decide) (Nat.le_of_ble_eq_true rfl) rfl ?_
                    refine jmg (B := jJ X G 3 L 0 0 (jQM X G L (some (.int r)) μ' 0 0) 433 [(0, .ref (L.2.2 a0)), (1, .int x1)] [.int ((if v102 < (0 : Int32) then (0 : Int32) else (1 : Int32)))] m103) (fun hj => ?_) ?_
                    · refine j_if_lt (pc := 425) hC 432 dX4_doAct_425 (by decide) (fun c105 => ?_) (fun c105 => ?_)
                      · rw [if_pos c105] at hj
                        refine j_iconst (pc := 432) hC (0 : Int32) dX4_doAct_432 (by decide) ?_
                        exact hj
                      · rw [if_neg c105] at hj
                        refine j_iconst (pc := 428) hC (1 : Int32) dX4_doAct_428 (by decide) ?_
                        refine j_goto (pc := 429) hC 433 dX4_doAct_429 (by decide) ?_
                        exact hj
                    obtain ⟨v106, e107, h⟩ := jbd_ex h
                    refine j_istore_n (pc := 433) hC 2 [(2, .int v106), (0, .ref (L.2.2 a0)), (1, .int x1)] dX4_doAct_433 rfl (by decide) e107 rfl ?_
                    refine j_goto (pc := 434) hC 466 dX4_doAct_434 (by decide) ?_
                    exact j_lv [1, 2, 0] rfl (q4 _ _ h)
                  · rw [if_neg c99] at h
                    by_cases c108 : x1 = (9 : Int32)
                    · rw [if_pos c108] at h
                      refine j_tableIn (pc := 1) hC 437 dX4_doAct_1 (by rw [c108]; decide) (by rw [c108]; decide) (by rw [c108]; rfl) (by decide) ?_
                      refine j_aload_n (pc := 437) hC 0 0 dX4_doAct_437 rfl rfl ?_
                      refine jgr_4 (pc := 438) hC 0 (by decide) rfl kf_X4_15 dX4_doAct_438 ka0 (ly_4_0 hL ka0).1 ?_
                      refine j_aload_n (pc := 441) hC 0 0 dX4_doAct_441 rfl rfl ?_
                      refine jgr_4 (pc := 442) hC 2 (by decide) rfl kf_X4_23 dX4_doAct_442 ka0 (ly_4_2 hL ka0).1 ?_
                      obtain ⟨v109, m110, e111, h⟩ := jcl2_some h
                      refine j_vi (pc := 445) hC hR [.ref (L.2.2 165)] iy_X7_spreadAll (q := (RX7, TX7, 3)) (ci := 7) rfl rfl (by decide) km_X4_179 dX4_doAct_445 rfl (by decide) (ly_4_0 hL ka0).2.1 (c_X7_spreadAll hL (ly_4_0 hL ka0).2.1 (ly_4_2 hL ka0).2.1 e111) (by decide) (Nat.le_of_ble_eq_true rfl) rfl ?_
                      refine jmg (B := jJ X G 3 L 0 0 (jQM X G L (some (.int r)) μ' 0 0) 456 [(0, .ref (L.2.2 a0)), (1, .int x1)] [.int ((if v109 < (0 : Int32) then (0 : Int32) else (1 : Int32)))] m110) (fun hj => ?_) ?_
                      · refine j_if_lt (pc := 448) hC 455 dX4_doAct_448 (by decide) (fun c112 => ?_) (fun c112 => ?_)
                        · rw [if_pos c112] at hj
                          refine j_iconst (pc := 455) hC (0 : Int32) dX4_doAct_455 (by decide) ?_
                          exact hj
                        · rw [if_neg c112] at hj
                          refine j_iconst (pc := 451) hC (1 : Int32) dX4_doAct_451 (by decide) ?_
                          refine j_goto (pc := 452) hC 456 dX4_doAct_452 (by decide) ?_
                          exact hj
                      obtain ⟨v113, e114, h⟩ := jbd_ex h
                      refine j_istore_n (pc := 456) hC 2 [(2, .int v113), (0, .ref (L.2.2 a0)), (1, .int x1)] dX4_doAct_456 rfl (by decide) e114 rfl ?_
                      refine j_goto (pc := 457) hC 466 dX4_doAct_457 (by decide) ?_
                      exact j_lv [1, 2, 0] rfl (q4 _ _ h)
                    · rw [if_neg c108] at h
                      refine j_tableOut (pc := 1) hC 460 dX4_doAct_1 (by have := lv_neT c11 (show (0 : Int32).toInt = 0 by decide); have := lv_neT c22 (show (1 : Int32).toInt = 1 by decide); have := lv_neT c33 (show (2 : Int32).toInt = 2 by decide); have := lv_neT c44 (show (3 : Int32).toInt = 3 by decide); have := lv_neT c55 (show (4 : Int32).toInt = 4 by decide); have := lv_neT c66 (show (5 : Int32).toInt = 5 by decide); have := lv_neT c77 (show (6 : Int32).toInt = 6 by decide); have := lv_neT c88 (show (7 : Int32).toInt = 7 by decide); have := lv_neT c99 (show (8 : Int32).toInt = 8 by decide); have := lv_neT c108 (show (9 : Int32).toInt = 9 by decide); omega) (by decide) ?_
                      refine j_aload_n (pc := 460) hC 0 0 dX4_doAct_460 rfl rfl ?_
                      refine j_iload_n (pc := 461) hC 1 1 dX4_doAct_461 rfl rfl ?_
                      obtain ⟨v115, e116, h⟩ := jcl_some h
                      refine j_vi (pc := 462) hC hR [.int x1] iy_X4_isSo (q := (RX4, TX4, 6)) (ci := 4) rfl rfl (by decide) km_X4_183 dX4_doAct_462 rfl (by decide) ka0 (c_X4_isSo hL ka0 e116) (by decide) (Nat.le_of_ble_eq_true rfl) rfl ?_
                      refine j_istore_n (pc := 465) hC 2 [(2, .int v115), (0, .ref (L.2.2 a0)), (1, .int x1)] dX4_doAct_465 rfl (by decide) rfl rfl ?_
                      exact j_lv [1, 2, 0] rfl (q4 _ _ h)
