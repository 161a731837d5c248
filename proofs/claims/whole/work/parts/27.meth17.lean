theorem dX12_spreadsBy_0 : decode cX12_spreadsBy 0 = .ok (.iconst 1, 1) := by decide +kernel
theorem dX12_spreadsBy_1 : decode cX12_spreadsBy 1 = .ok (.istore_n 3, 1) := by decide +kernel
theorem dX12_spreadsBy_2 : decode cX12_spreadsBy 2 = .ok (.iload_n 3, 1) := by decide +kernel
theorem dX12_spreadsBy_3 : decode cX12_spreadsBy 3 = .ok (.ifCond .eq 116, 3) := by decide +kernel
theorem dX12_spreadsBy_6 : decode cX12_spreadsBy 6 = .ok (.iconst 0, 1) := by decide +kernel
theorem dX12_spreadsBy_7 : decode cX12_spreadsBy 7 = .ok (.istore_n 3, 1) := by decide +kernel
theorem dX12_spreadsBy_8 : decode cX12_spreadsBy 8 = .ok (.iconst 0, 1) := by decide +kernel
theorem dX12_spreadsBy_9 : decode cX12_spreadsBy 9 = .ok (.istore 4, 2) := by decide +kernel
theorem dX12_spreadsBy_11 : decode cX12_spreadsBy 11 = .ok (.iload 4, 2) := by decide +kernel
theorem dX12_spreadsBy_13 : decode cX12_spreadsBy 13 = .ok (.aload_n 0, 1) := by decide +kernel
theorem dX12_spreadsBy_14 : decode cX12_spreadsBy 14 = .ok (.getfield 60, 3) := by decide +kernel
theorem dX12_spreadsBy_17 : decode cX12_spreadsBy 17 = .ok (.bipush 28, 2) := by decide +kernel
theorem dX12_spreadsBy_19 : decode cX12_spreadsBy 19 = .ok (.iaload, 1) := by decide +kernel
theorem dX12_spreadsBy_20 : decode cX12_spreadsBy 20 = .ok (.if_icmp .ge 96, 3) := by decide +kernel
theorem dX12_spreadsBy_23 : decode cX12_spreadsBy 23 = .ok (.iconst 0, 1) := by decide +kernel
theorem dX12_spreadsBy_24 : decode cX12_spreadsBy 24 = .ok (.istore 5, 2) := by decide +kernel
theorem dX12_spreadsBy_26 : decode cX12_spreadsBy 26 = .ok (.iload 5, 2) := by decide +kernel
theorem dX12_spreadsBy_28 : decode cX12_spreadsBy 28 = .ok (.bipush 30, 2) := by decide +kernel
theorem dX12_spreadsBy_30 : decode cX12_spreadsBy 30 = .ok (.if_icmp .ge 80, 3) := by decide +kernel
theorem dX12_spreadsBy_33 : decode cX12_spreadsBy 33 = .ok (.iload_n 2, 1) := by decide +kernel
theorem dX12_spreadsBy_34 : decode cX12_spreadsBy 34 = .ok (.iload 4, 2) := by decide +kernel
theorem dX12_spreadsBy_36 : decode cX12_spreadsBy 36 = .ok (.invokestatic 208, 3) := by decide +kernel
theorem dX12_spreadsBy_39 : decode cX12_spreadsBy 39 = .ok (.ifCond .eq 71, 3) := by decide +kernel
theorem dX12_spreadsBy_42 : decode cX12_spreadsBy 42 = .ok (.iload 5, 2) := by decide +kernel
theorem dX12_spreadsBy_44 : decode cX12_spreadsBy 44 = .ok (.bipush 6, 2) := by decide +kernel
theorem dX12_spreadsBy_46 : decode cX12_spreadsBy 46 = .ok (.idiv, 1) := by decide +kernel
theorem dX12_spreadsBy_47 : decode cX12_spreadsBy 47 = .ok (.istore 6, 2) := by decide +kernel
theorem dX12_spreadsBy_49 : decode cX12_spreadsBy 49 = .ok (.iload 5, 2) := by decide +kernel
theorem dX12_spreadsBy_51 : decode cX12_spreadsBy 51 = .ok (.bipush 6, 2) := by decide +kernel
theorem dX12_spreadsBy_53 : decode cX12_spreadsBy 53 = .ok (.irem, 1) := by decide +kernel
theorem dX12_spreadsBy_54 : decode cX12_spreadsBy 54 = .ok (.istore 7, 2) := by decide +kernel
theorem dX12_spreadsBy_56 : decode cX12_spreadsBy 56 = .ok (.aload_n 1, 1) := by decide +kernel
theorem dX12_spreadsBy_57 : decode cX12_spreadsBy 57 = .ok (.iload 6, 2) := by decide +kernel
theorem dX12_spreadsBy_59 : decode cX12_spreadsBy 59 = .ok (.iaload, 1) := by decide +kernel
theorem dX12_spreadsBy_60 : decode cX12_spreadsBy 60 = .ok (.iload 7, 2) := by decide +kernel
theorem dX12_spreadsBy_62 : decode cX12_spreadsBy 62 = .ok (.invokestatic 208, 3) := by decide +kernel
theorem dX12_spreadsBy_65 : decode cX12_spreadsBy 65 = .ok (.ifCond .eq 30, 3) := by decide +kernel
theorem dX12_spreadsBy_68 : decode cX12_spreadsBy 68 = .ok (.aload_n 0, 1) := by decide +kernel
theorem dX12_spreadsBy_69 : decode cX12_spreadsBy 69 = .ok (.aload_n 1, 1) := by decide +kernel
theorem dX12_spreadsBy_70 : decode cX12_spreadsBy 70 = .ok (.iload 4, 2) := by decide +kernel
theorem dX12_spreadsBy_72 : decode cX12_spreadsBy 72 = .ok (.iload 6, 2) := by decide +kernel
theorem dX12_spreadsBy_74 : decode cX12_spreadsBy 74 = .ok (.iload 7, 2) := by decide +kernel
theorem dX12_spreadsBy_76 : decode cX12_spreadsBy 76 = .ok (.invokevirtual 272, 3) := by decide +kernel
theorem dX12_spreadsBy_79 : decode cX12_spreadsBy 79 = .ok (.ifCond .ne 16, 3) := by decide +kernel
theorem dX12_spreadsBy_82 : decode cX12_spreadsBy 82 = .ok (.aload_n 1, 1) := by decide +kernel
theorem dX12_spreadsBy_83 : decode cX12_spreadsBy 83 = .ok (.iload 6, 2) := by decide +kernel
theorem dX12_spreadsBy_85 : decode cX12_spreadsBy 85 = .ok (.dup2, 1) := by decide +kernel
theorem dX12_spreadsBy_86 : decode cX12_spreadsBy 86 = .ok (.iaload, 1) := by decide +kernel
theorem dX12_spreadsBy_87 : decode cX12_spreadsBy 87 = .ok (.iconst 1, 1) := by decide +kernel
theorem dX12_spreadsBy_88 : decode cX12_spreadsBy 88 = .ok (.iload 7, 2) := by decide +kernel
theorem dX12_spreadsBy_90 : decode cX12_spreadsBy 90 = .ok (.ishl, 1) := by decide +kernel
theorem dX12_spreadsBy_91 : decode cX12_spreadsBy 91 = .ok (.isub, 1) := by decide +kernel
theorem dX12_spreadsBy_92 : decode cX12_spreadsBy 92 = .ok (.iastore, 1) := by decide +kernel
theorem dX12_spreadsBy_93 : decode cX12_spreadsBy 93 = .ok (.iconst 1, 1) := by decide +kernel
theorem dX12_spreadsBy_94 : decode cX12_spreadsBy 94 = .ok (.istore_n 3, 1) := by decide +kernel
theorem dX12_spreadsBy_95 : decode cX12_spreadsBy 95 = .ok (.aload_n 1, 1) := by decide +kernel
theorem dX12_spreadsBy_96 : decode cX12_spreadsBy 96 = .ok (.iload 6, 2) := by decide +kernel
theorem dX12_spreadsBy_98 : decode cX12_spreadsBy 98 = .ok (.iaload, 1) := by decide +kernel
theorem dX12_spreadsBy_99 : decode cX12_spreadsBy 99 = .ok (.ifCond .ne 5, 3) := by decide +kernel
theorem dX12_spreadsBy_102 : decode cX12_spreadsBy 102 = .ok (.iconst 0, 1) := by decide +kernel
theorem dX12_spreadsBy_103 : decode cX12_spreadsBy 103 = .ok (.ireturn, 1) := by decide +kernel
theorem dX12_spreadsBy_104 : decode cX12_spreadsBy 104 = .ok (.iinc 5 1, 3) := by decide +kernel
theorem dX12_spreadsBy_107 : decode cX12_spreadsBy 107 = .ok (.goto (-81), 3) := by decide +kernel
theorem dX12_spreadsBy_110 : decode cX12_spreadsBy 110 = .ok (.iinc 4 1, 3) := by decide +kernel
theorem dX12_spreadsBy_113 : decode cX12_spreadsBy 113 = .ok (.goto (-102), 3) := by decide +kernel
theorem dX12_spreadsBy_116 : decode cX12_spreadsBy 116 = .ok (.goto (-114), 3) := by decide +kernel
theorem dX12_spreadsBy_119 : decode cX12_spreadsBy 119 = .ok (.iconst 1, 1) := by decide +kernel
theorem dX12_spreadsBy_120 : decode cX12_spreadsBy 120 = .ok (.ireturn, 1) := by decide +kernel
def f_X12_spreadsBy_L26 (a0 : Nat) (a1 : Nat) (x2 : Int32) (u5 : Int32) (u11 : Int32) (u12 : Int32) (m13 : jM) : Option ((Int32 × Int32 × jM) ⊕ ((jM) ⊕ (Int32 × jM))) :=
  (if (30 : Int32) ≤ u12 then some (.inr (.inr ((u11, m13)))) else (if (f_X12_has x2 u5) = (0 : Int32) then some (.inr (.inr ((u11, m13)))) else jbd (u12 - u12 / (6 : Int32) * (6 : Int32) : Int32) (fun v16 => jrd (m13.1 a1) (u12 / (6 : Int32)) (jlen a1) (fun v19 => jbd (fun (t21 : Int32) (m22 : jM) => jrd (m22.1 a1) (u12 / (6 : Int32)) (jlen a1) (fun v27 => (if v27 = (0 : Int32) then some (.inr (.inl m22)) else some (.inl ((t21, u12 + (1 : Int32), m22)))))) (fun k23 => (if (f_X12_has v19 v16) = (0 : Int32) then k23 u11 m13 else jcl (f_X12_bears a0 a1 u5 (u12 / (6 : Int32)) v16 m13) (fun v31 => (if v31 = (0 : Int32) then jrd (m13.1 a1) (u12 / (6 : Int32)) (jlen a1) (fun v35 => jin (u12 / (6 : Int32)) (jlen a1) (jbd (jsi m13 a1 (u12 / (6 : Int32)).toNatClampNeg (v35 - ((1 : Int32) <<< (v16 &&& 31)))) (fun m38 => k23 (1 : Int32) m38))) else k23 u11 m13))))))))
def f_X12_spreadsBy_L11 (a0 : Nat) (a1 : Nat) (x2 : Int32) (u4 : Int32) (u5 : Int32) (m6 : jM) : Option ((Int32 × Int32 × jM) ⊕ ((jM) ⊕ (Int32 × jM))) :=
  jrd (m6.1 (a0 + 3)) (28 : Int32) 2074 (fun v8 => (if v8 ≤ u5 then some (.inr (.inr ((u4, m6)))) else jcl (jloop (fun (s : Int32 × Int32 × jM) => f_X12_spreadsBy_L26 a0 a1 x2 u5 s.1 s.2.1 s.2.2) jfu ((u4, (0 : Int32), m6))) (fun w40 => match w40 with | .inl w40 => some (.inr (.inl w40)) | .inr w40 => some (.inl ((w40.1, u5 + (1 : Int32), w40.2))))))
def f_X12_spreadsBy_L2 (a0 : Nat) (a1 : Nat) (x2 : Int32) (u1 : Int32) (m2 : jM) : Option ((Int32 × jM) ⊕ ((jM) ⊕ (jM))) :=
  (if u1 = (0 : Int32) then some (.inr (.inr (m2))) else jcl (jloop (fun (s : Int32 × Int32 × jM) => f_X12_spreadsBy_L11 a0 a1 x2 s.1 s.2.1 s.2.2) jfu (((0 : Int32), (0 : Int32), m2))) (fun w46 => match w46 with | .inl w46 => some (.inr (.inl w46)) | .inr w46 => some (.inl ((w46.1, w46.2)))))
def f_X12_spreadsBy (a0 : Nat) (a1 : Nat) (x2 : Int32) (μ : jM) : Option (Int32 × jM) :=
  jcl (jloop (fun (s : Int32 × jM) => f_X12_spreadsBy_L2 a0 a1 x2 s.1 s.2) jfu (((1 : Int32), μ))) (fun w52 => match w52 with | .inl w52 => some (((0 : Int32), w52)) | .inr w52 => some (((1 : Int32), w52)))
set_option maxHeartbeats 4000000 in
set_option maxRecDepth 100000 in
theorem c_X12_spreadsBy {l : Launch} {G : jG} {L : jL} (hL : jOKL L) {a0 : Nat} {a1 : Nat} {x2 : Int32} (ka0 : jK L a0 12) (ka1 : jK L a1 13) {μ μ' : jM} {r : Int32} (h : f_X12_spreadsBy a0 a1 x2 μ = some ((r, μ'))) : jCt l G L 13 yX12_spreadsBy cX12_spreadsBy 8 (some .boolean) [.ref (L.2.2 a0), .ref (L.2.2 a1), .int x2] μ (some (.int r)) μ' := by
  refine jCt_of (by decide) (Nat.le_of_ble_eq_true rfl) (fun X hC hX hR => ?_)
  subst hX
  have hC : jC X G cX12_spreadsBy 8 RX12 (some .boolean) := hC
  unfold f_X12_spreadsBy at h
  show jJ X G 8 L 0 0 (jQM X G L (some (.int r)) μ' 0 0) 0 [(0, .ref (L.2.2 a0)), (1, .ref (L.2.2 a1)), (2, .int x2)] [] μ
  refine j_iconst (pc := 0) hC (1 : Int32) dX12_spreadsBy_0 (by decide) ?_
  refine j_istore_n (pc := 1) hC 3 [(3, .int (1 : Int32)), (0, .ref (L.2.2 a0)), (1, .ref (L.2.2 a1)), (2, .int x2)] dX12_spreadsBy_1 rfl (by decide) rfl rfl ?_
  obtain ⟨w52, hw53, h⟩ := jcl_some h
  refine j_lv [1, 2, 3, 0] rfl ?_
  refine j_loop (step := (fun (s : Int32 × jM) => f_X12_spreadsBy_L2 a0 a1 x2 s.1 s.2)) (P := (fun (s : Int32 × jM) => jJ X G 8 L 0 0 (jQM X G L (some (.int r)) μ' 0 0) 2 [(0, .ref (L.2.2 a0)), (1, .ref (L.2.2 a1)), (2, .int x2), (3, .int s.1)] [] s.2)) (R := (fun (e : (jM) ⊕ (jM)) => match e with | .inl e => jJ X G 8 L 0 0 (jQM X G L (some (.int r)) μ' 0 0) 102 [] [] e | .inr e => jJ X G 8 L 0 0 (jQM X G L (some (.int r)) μ' 0 0) 119 [] [] e)) ?_ jfu (((1 : Int32), μ)) w52 hw53 ?_
  · intro s54 o h hk
    obtain ⟨u1, m2⟩ := s54
    change f_X12_spreadsBy_L2 a0 a1 x2 u1 m2 = some o at h
    unfold f_X12_spreadsBy_L2 at h
    show jJ X G 8 L 0 0 (jQM X G L (some (.int r)) μ' 0 0) 2 [(0, .ref (L.2.2 a0)), (1, .ref (L.2.2 a1)), (2, .int x2), (3, .int u1)] [] m2
    refine j_iload_n (pc := 2) hC 3 3 dX12_spreadsBy_2 rfl rfl ?_
    refine j_if_eq (pc := 3) hC 119 dX12_spreadsBy_3 (by decide) (fun c3 => ?_) (fun c3 => ?_)
    · rw [if_pos c3] at h
      obtain rfl := Option.some.inj h
      have hk : jJ X G 8 L 0 0 (jQM X G L (some (.int r)) μ' 0 0) 119 [] [] m2 := hk
      exact j_lv [] rfl hk
    · rw [if_neg c3] at h
      refine j_iconst (pc := 6) hC (0 : Int32) dX12_spreadsBy_6 (by decide) ?_
      refine j_istore_n (pc := 7) hC 3 [(3, .int (0 : Int32)), (0, .ref (L.2.2 a0)), (1, .ref (L.2.2 a1)), (2, .int x2)] dX12_spreadsBy_7 rfl (by decide) rfl rfl ?_
      refine j_iconst (pc := 8) hC (0 : Int32) dX12_spreadsBy_8 (by decide) ?_
      refine j_istore (pc := 9) hC [(4, .int (0 : Int32)), (3, .int (0 : Int32)), (0, .ref (L.2.2 a0)), (1, .ref (L.2.2 a1)), (2, .int x2)] dX12_spreadsBy_9 (by decide) rfl rfl ?_
      obtain ⟨w46, hw47, h⟩ := jcl_some h
      refine j_lv [2, 3, 4, 1, 0] rfl ?_
      refine j_loop (step := (fun (s : Int32 × Int32 × jM) => f_X12_spreadsBy_L11 a0 a1 x2 s.1 s.2.1 s.2.2)) (P := (fun (s : Int32 × Int32 × jM) => jJ X G 8 L 0 0 (jQM X G L (some (.int r)) μ' 0 0) 11 [(0, .ref (L.2.2 a0)), (1, .ref (L.2.2 a1)), (2, .int x2), (3, .int s.1), (4, .int s.2.1)] [] s.2.2)) (R := (fun (e : (jM) ⊕ (Int32 × jM)) => match e with | .inl e => jJ X G 8 L 0 0 (jQM X G L (some (.int r)) μ' 0 0) 102 [] [] e | .inr e => jJ X G 8 L 0 0 (jQM X G L (some (.int r)) μ' 0 0) 116 [(0, .ref (L.2.2 a0)), (1, .ref (L.2.2 a1)), (2, .int x2), (3, .int e.1)] [] e.2)) ?_ jfu (((0 : Int32), (0 : Int32), m2)) w46 hw47 ?_
      · intro s48 o h hk
        obtain ⟨u4, u5, m6⟩ := s48
        change f_X12_spreadsBy_L11 a0 a1 x2 u4 u5 m6 = some o at h
        unfold f_X12_spreadsBy_L11 at h
        show jJ X G 8 L 0 0 (jQM X G L (some (.int r)) μ' 0 0) 11 [(0, .ref (L.2.2 a0)), (1, .ref (L.2.2 a1)), (2, .int x2), (3, .int u4), (4, .int u5)] [] m6
        refine j_iload (pc := 11) hC 4 dX12_spreadsBy_11 rfl ?_
        refine j_aload_n (pc := 13) hC 0 0 dX12_spreadsBy_13 rfl rfl ?_
        refine jgr_12 (pc := 14) hC 8 (by decide) rfl kf_X12_60 dX12_spreadsBy_14 ka0 (ly_12_8 hL ka0).1 ?_
        refine j_bipush (pc := 17) hC (28 : Int32) dX12_spreadsBy_17 (by decide) ?_
        obtain ⟨i7, v8, e9, h⟩ := jrd_some h
        refine j_iald (pc := 19) hC dX12_spreadsBy_19 (ly_12_8 hL ka0).2.1 (ly_12_8 hL ka0).2.2 i7 e9 ?_
        refine j_icmp_ge (pc := 20) hC 116 dX12_spreadsBy_20 (by decide) (fun c10 => ?_) (fun c10 => ?_)
        · rw [if_pos c10] at h
          obtain rfl := Option.some.inj h
          have hk : jJ X G 8 L 0 0 (jQM X G L (some (.int r)) μ' 0 0) 116 [(0, .ref (L.2.2 a0)), (1, .ref (L.2.2 a1)), (2, .int x2), (3, .int u4)] [] m6 := hk
          exact j_lv [0, 1, 2, 3] rfl hk
        · rw [if_neg c10] at h
          refine j_iconst (pc := 23) hC (0 : Int32) dX12_spreadsBy_23 (by decide) ?_
          refine j_istore (pc := 24) hC [(5, .int (0 : Int32)), (0, .ref (L.2.2 a0)), (1, .ref (L.2.2 a1)), (2, .int x2), (3, .int u4), (4, .int u5)] dX12_spreadsBy_24 (by decide) rfl rfl ?_
          obtain ⟨w40, hw41, h⟩ := jcl_some h
          refine j_lv [1, 2, 3, 4, 5, 0] rfl ?_
          refine j_loop (step := (fun (s : Int32 × Int32 × jM) => f_X12_spreadsBy_L26 a0 a1 x2 u5 s.1 s.2.1 s.2.2)) (P := (fun (s : Int32 × Int32 × jM) => jJ X G 8 L 0 0 (jQM X G L (some (.int r)) μ' 0 0) 26 [(0, .ref (L.2.2 a0)), (1, .ref (L.2.2 a1)), (2, .int x2), (3, .int s.1), (4, .int u5), (5, .int s.2.1)] [] s.2.2)) (R := (fun (e : (jM) ⊕ (Int32 × jM)) => match e with | .inl e => jJ X G 8 L 0 0 (jQM X G L (some (.int r)) μ' 0 0) 102 [] [] e | .inr e => jJ X G 8 L 0 0 (jQM X G L (some (.int r)) μ' 0 0) 110 [(0, .ref (L.2.2 a0)), (1, .ref (L.2.2 a1)), (2, .int x2), (3, .int e.1), (4, .int u5)] [] e.2)) ?_ jfu ((u4, (0 : Int32), m6)) w40 hw41 ?_
          · intro s42 o h hk
            obtain ⟨u11, u12, m13⟩ := s42
            change f_X12_spreadsBy_L26 a0 a1 x2 u5 u11 u12 m13 = some o at h
            unfold f_X12_spreadsBy_L26 at h
            show jJ X G 8 L 0 0 (jQM X G L (some (.int r)) μ' 0 0) 26 [(0, .ref (L.2.2 a0)), (1, .ref (L.2.2 a1)), (2, .int x2), (3, .int u11), (4, .int u5), (5, .int u12)] [] m13
            refine j_iload (pc := 26) hC 5 dX12_spreadsBy_26 rfl ?_
            refine j_bipush (pc := 28) hC (30 : Int32) dX12_spreadsBy_28 (by decide) ?_
            refine j_icmp_ge (pc := 30) hC 110 dX12_spreadsBy_30 (by decide) (fun c14 => ?_) (fun c14 => ?_)
            · rw [if_pos c14] at h
              obtain rfl := Option.some.inj h
              have hk : jJ X G 8 L 0 0 (jQM X G L (some (.int r)) μ' 0 0) 110 [(0, .ref (L.2.2 a0)), (1, .ref (L.2.2 a1)), (2, .int x2), (3, .int u11), (4, .int u5)] [] m13 := hk
              exact j_lv [0, 1, 2, 3, 4] rfl hk
            · rw [if_neg c14] at h
              refine j_iload_n (pc := 33) hC 2 2 dX12_spreadsBy_33 rfl rfl ?_
              refine j_iload (pc := 34) hC 4 dX12_spreadsBy_34 rfl ?_
              refine j_si (pc := 36) hC hR [.int x2, .int u5] iy_X12_has km_X12_208 dX12_spreadsBy_36 rfl (by decide) (c_X12_has hL  rfl) (by decide) (Nat.le_of_ble_eq_true rfl) rfl ?_
              refine j_if_eq (pc := 39) hC 110 dX12_spreadsBy_39 (by decide) (fun c15 => ?_) (fun c15 => ?_)
              · rw [if_pos c15] at h
                obtain rfl := Option.some.inj h
                have hk : jJ X G 8 L 0 0 (jQM X G L (some (.int r)) μ' 0 0) 110 [(0, .ref (L.2.2 a0)), (1, .ref (L.2.2 a1)), (2, .int x2), (3, .int u11), (4, .int u5)] [] m13 := hk
                exact j_lv [0, 1, 2, 3, 4] rfl hk
              · rw [if_neg c15] at h
                refine j_iload (pc := 42) hC 5 dX12_spreadsBy_42 rfl ?_
                refine j_bipush (pc := 44) hC (6 : Int32) dX12_spreadsBy_44 (by decide) ?_
                refine j_idiv (pc := 46) hC dX12_spreadsBy_46 (by decide) ?_
                refine j_istore (pc := 47) hC [(6, .int (u12 / (6 : Int32))), (0, .ref (L.2.2 a0)), (1, .ref (L.2.2 a1)), (2, .int x2), (3, .int u11), (4, .int u5), (5, .int u12)] dX12_spreadsBy_47 (by decide) rfl rfl ?_
                refine j_iload (pc := 49) hC 6 dX12_spreadsBy_49 rfl ?_
                refine j_bipush (pc := 51) hC (6 : Int32) dX12_spreadsBy_51 (by decide) ?_
                refine j_irem (pc := 53) hC dX12_spreadsBy_53 (by decide) ?_
                obtain ⟨v16, e17, h⟩ := jbd_ex h
                refine j_istore (pc := 54) hC [(7, .int v16), (6, .int (u12 / (6 : Int32))), (0, .ref (L.2.2 a0)), (1, .ref (L.2.2 a1)), (2, .int x2), (3, .int u11), (4, .int u5), (5, .int u12)] dX12_spreadsBy_54 (by decide) e17 rfl ?_
                refine j_aload_n (pc := 56) hC 1 3 dX12_spreadsBy_56 rfl rfl ?_
                refine j_iload (pc := 57) hC 1 dX12_spreadsBy_57 rfl ?_
                obtain ⟨i18, v19, e20, h⟩ := jrd_some h
                refine j_iald (pc := 59) hC dX12_spreadsBy_59 ka1 (jlen_ok hL _) i18 e20 ?_
                refine j_iload (pc := 60) hC 0 dX12_spreadsBy_60 rfl ?_
                refine j_si (pc := 62) hC hR [.int v19, .int v16] iy_X12_has km_X12_208 dX12_spreadsBy_62 rfl (by decide) (c_X12_has hL  rfl) (by decide) (Nat.le_of_ble_eq_true rfl) rfl ?_
                obtain ⟨k23, e25, h⟩ := jbd_ex h
                have q24 : ∀ (t21 : Int32) (m22 : jM), k23 t21 m22 = some o → jJ X G 8 L 0 0 (jQM X G L (some (.int r)) μ' 0 0) 95 [(0, .ref (L.2.2 a0)), (1, .ref (L.2.2 a1)), (2, .int x2), (3, .int t21), (4, .int u5), (5, .int u12), (6, .int (u12 / (6 : Int32)))] [] m22 := by
                  intro t21 m22 h
                  rw [e25] at h
                  try dsimp only at h
                  refine j_aload_n (pc := 95) hC 1 1 dX12_spreadsBy_95 rfl rfl ?_
                  refine j_iload (pc := 96) hC 6 dX12_spreadsBy_96 rfl ?_
                  obtain ⟨i26, v27, e28, h⟩ := jrd_some h
                  refine j_iald (pc := 98) hC dX12_spreadsBy_98 ka1 (jlen_ok hL _) i26 e28 ?_
                  refine j_if_ne (pc := 99) hC 104 dX12_spreadsBy_99 (by decide) (fun c29 => ?_) (fun c29 => ?_)
                  · rw [if_neg c29] at h
                    refine j_iinc (pc := 104) hC 5 (u12 + (1 : Int32)) [(5, .int (u12 + (1 : Int32))), (0, .ref (L.2.2 a0)), (1, .ref (L.2.2 a1)), (2, .int x2), (3, .int t21), (4, .int u5), (6, .int (u12 / (6 : Int32)))] dX12_spreadsBy_104 rfl rfl (by decide) rfl ?_
                    refine j_goto (pc := 107) hC 26 dX12_spreadsBy_107 (by decide) ?_
                    obtain rfl := Option.some.inj h
                    have hk : jJ X G 8 L 0 0 (jQM X G L (some (.int r)) μ' 0 0) 26 [(0, .ref (L.2.2 a0)), (1, .ref (L.2.2 a1)), (2, .int x2), (3, .int t21), (4, .int u5), (5, .int (u12 + (1 : Int32)))] [] m22 := hk
                    exact j_lv [1, 2, 3, 4, 5, 0] rfl hk
                  · rw [if_pos c29] at h
                    obtain rfl := Option.some.inj h
                    have hk : jJ X G 8 L 0 0 (jQM X G L (some (.int r)) μ' 0 0) 102 [] [] m22 := hk
                    exact j_lv [] rfl hk
                refine j_if_eq (pc := 65) hC 95 dX12_spreadsBy_65 (by decide) (fun c30 => ?_) (fun c30 => ?_)
                · rw [if_pos c30] at h
                  exact j_lv [2, 3, 4, 5, 6, 7, 1] rfl (q24 _ _ h)
                · rw [if_neg c30] at h
                  refine j_aload_n (pc := 68) hC 0 2 dX12_spreadsBy_68 rfl rfl ?_
                  refine j_aload_n (pc := 69) hC 1 3 dX12_spreadsBy_69 rfl rfl ?_
                  refine j_iload (pc := 70) hC 6 dX12_spreadsBy_70 rfl ?_
                  refine j_iload (pc := 72) hC 1 dX12_spreadsBy_72 rfl ?_
                  refine j_iload (pc := 74) hC 0 dX12_spreadsBy_74 rfl ?_
                  obtain ⟨v31, e32, h⟩ := jcl_some h
                  refine j_vi (pc := 76) hC hR [.ref (L.2.2 a1), .int u5, .int (u12 / (6 : Int32)), .int v16] iy_X12_bears (q := (RX12, TX12, 40)) (ci := 12) rfl rfl (by decide) km_X12_272 dX12_spreadsBy_76 rfl (by decide) ka0 (c_X12_bears hL ka0 ka1 e32) (by decide) (Nat.le_of_ble_eq_true rfl) rfl ?_
                  refine j_if_ne (pc := 79) hC 95 dX12_spreadsBy_79 (by decide) (fun c33 => ?_) (fun c33 => ?_)
                  · rw [if_neg c33] at h
                    exact j_lv [2, 3, 4, 5, 6, 7, 1] rfl (q24 _ _ h)
                  · rw [if_pos c33] at h
                    refine j_aload_n (pc := 82) hC 1 3 dX12_spreadsBy_82 rfl rfl ?_
                    refine j_iload (pc := 83) hC 1 dX12_spreadsBy_83 rfl ?_
                    refine j_dup2 (pc := 85) hC dX12_spreadsBy_85 rfl rfl ?_
                    obtain ⟨i34, v35, e36, h⟩ := jrd_some h
                    refine j_iald (pc := 86) hC dX12_spreadsBy_86 ka1 (jlen_ok hL _) i34 e36 ?_
                    refine j_iconst (pc := 87) hC (1 : Int32) dX12_spreadsBy_87 (by decide) ?_
                    refine j_iload (pc := 88) hC 0 dX12_spreadsBy_88 rfl ?_
                    refine j_ishl (pc := 90) hC dX12_spreadsBy_90 ?_
                    refine j_isub (pc := 91) hC dX12_spreadsBy_91 ?_
                    obtain ⟨i37, h⟩ := jin_some h
                    obtain ⟨m38, e39, h⟩ := jbd_ex h
                    refine j_iast (pc := 92) hC dX12_spreadsBy_92 ka1 (jlen_ok hL _) i37 e39 ?_
                    refine j_iconst (pc := 93) hC (1 : Int32) dX12_spreadsBy_93 (by decide) ?_
                    refine j_istore_n (pc := 94) hC 3 [(3, .int (1 : Int32)), (7, .int v16), (6, .int (u12 / (6 : Int32))), (0, .ref (L.2.2 a0)), (1, .ref (L.2.2 a1)), (2, .int x2), (4, .int u5), (5, .int u12)] dX12_spreadsBy_94 rfl (by decide) rfl rfl ?_
                    exact j_lv [3, 4, 5, 0, 6, 7, 2] rfl (q24 _ _ h)
          · cases w40 with
            | inl w40 =>
              try dsimp only at h
              obtain ⟨m43, rfl⟩ : ∃ y, y = w40 := ⟨_, rfl⟩
              try dsimp only at h
              show jJ X G 8 L 0 0 (jQM X G L (some (.int r)) μ' 0 0) 102 [] [] m43
              obtain rfl := Option.some.inj h
              have hk : jJ X G 8 L 0 0 (jQM X G L (some (.int r)) μ' 0 0) 102 [] [] m43 := hk
              exact j_lv [] rfl hk
            | inr w40 =>
              try dsimp only at h
              obtain ⟨z44, m45⟩ := w40
              try dsimp only at h
              show jJ X G 8 L 0 0 (jQM X G L (some (.int r)) μ' 0 0) 110 [(0, .ref (L.2.2 a0)), (1, .ref (L.2.2 a1)), (2, .int x2), (3, .int z44), (4, .int u5)] [] m45
              refine j_iinc (pc := 110) hC 4 (u5 + (1 : Int32)) [(4, .int (u5 + (1 : Int32))), (0, .ref (L.2.2 a0)), (1, .ref (L.2.2 a1)), (2, .int x2), (3, .int z44)] dX12_spreadsBy_110 rfl rfl (by decide) rfl ?_
              refine j_goto (pc := 113) hC 11 dX12_spreadsBy_113 (by decide) ?_
              obtain rfl := Option.some.inj h
              have hk : jJ X G 8 L 0 0 (jQM X G L (some (.int r)) μ' 0 0) 11 [(0, .ref (L.2.2 a0)), (1, .ref (L.2.2 a1)), (2, .int x2), (3, .int z44), (4, .int (u5 + (1 : Int32)))] [] m45 := hk
              exact j_lv [1, 2, 3, 4, 0] rfl hk
      · cases w46 with
        | inl w46 =>
          try dsimp only at h
          obtain ⟨m49, rfl⟩ : ∃ y, y = w46 := ⟨_, rfl⟩
          try dsimp only at h
          show jJ X G 8 L 0 0 (jQM X G L (some (.int r)) μ' 0 0) 102 [] [] m49
          obtain rfl := Option.some.inj h
          have hk : jJ X G 8 L 0 0 (jQM X G L (some (.int r)) μ' 0 0) 102 [] [] m49 := hk
          exact j_lv [] rfl hk
        | inr w46 =>
          try dsimp only at h
          obtain ⟨z50, m51⟩ := w46
          try dsimp only at h
          show jJ X G 8 L 0 0 (jQM X G L (some (.int r)) μ' 0 0) 116 [(0, .ref (L.2.2 a0)), (1, .ref (L.2.2 a1)), (2, .int x2), (3, .int z50)] [] m51
          refine j_goto (pc := 116) hC 2 dX12_spreadsBy_116 (by decide) ?_
          obtain rfl := Option.some.inj h
          have hk : jJ X G 8 L 0 0 (jQM X G L (some (.int r)) μ' 0 0) 2 [(0, .ref (L.2.2 a0)), (1, .ref (L.2.2 a1)), (2, .int x2), (3, .int z50)] [] m51 := hk
          exact j_lv [0, 1, 2, 3] rfl hk
  · cases w52 with
    | inl w52 =>
      try dsimp only at h
      obtain ⟨m55, rfl⟩ : ∃ y, y = w52 := ⟨_, rfl⟩
      try dsimp only at h
      show jJ X G 8 L 0 0 (jQM X G L (some (.int r)) μ' 0 0) 102 [] [] m55
      refine j_iconst (pc := 102) hC (0 : Int32) dX12_spreadsBy_102 (by decide) ?_
      obtain ⟨rfl, rfl⟩ := Prod.mk.inj (Option.some.inj h)
      exact j_bret (pc := 103) hC dX12_spreadsBy_103 rfl rfl
    | inr w52 =>
      try dsimp only at h
      obtain ⟨m56, rfl⟩ : ∃ y, y = w52 := ⟨_, rfl⟩
      try dsimp only at h
      show jJ X G 8 L 0 0 (jQM X G L (some (.int r)) μ' 0 0) 119 [] [] m56
      refine j_iconst (pc := 119) hC (1 : Int32) dX12_spreadsBy_119 (by decide) ?_
      obtain ⟨rfl, rfl⟩ := Prod.mk.inj (Option.some.inj h)
      exact j_bret (pc := 120) hC dX12_spreadsBy_120 rfl rfl
theorem dX12_lays_0 : decode cX12_lays 0 = .ok (.iconst 0, 1) := by decide +kernel
theorem dX12_lays_1 : decode cX12_lays 1 = .ok (.istore_n 1, 1) := by decide +kernel
theorem dX12_lays_2 : decode cX12_lays 2 = .ok (.iload_n 1, 1) := by decide +kernel
theorem dX12_lays_3 : decode cX12_lays 3 = .ok (.iconst 5, 1) := by decide +kernel
theorem dX12_lays_4 : decode cX12_lays 4 = .ok (.if_icmp .ge 24, 3) := by decide +kernel
theorem dX12_lays_7 : decode cX12_lays 7 = .ok (.aload_n 0, 1) := by decide +kernel
theorem dX12_lays_8 : decode cX12_lays 8 = .ok (.getfield 78, 3) := by decide +kernel
theorem dX12_lays_11 : decode cX12_lays 11 = .ok (.iload_n 1, 1) := by decide +kernel
theorem dX12_lays_12 : decode cX12_lays 12 = .ok (.aload_n 0, 1) := by decide +kernel
theorem dX12_lays_13 : decode cX12_lays 13 = .ok (.getfield 60, 3) := by decide +kernel
theorem dX12_lays_16 : decode cX12_lays 16 = .ok (.bipush 6, 2) := by decide +kernel
theorem dX12_lays_18 : decode cX12_lays 18 = .ok (.iload_n 1, 1) := by decide +kernel
theorem dX12_lays_19 : decode cX12_lays 19 = .ok (.iadd, 1) := by decide +kernel
theorem dX12_lays_20 : decode cX12_lays 20 = .ok (.iaload, 1) := by decide +kernel
theorem dX12_lays_21 : decode cX12_lays 21 = .ok (.iastore, 1) := by decide +kernel
theorem dX12_lays_22 : decode cX12_lays 22 = .ok (.iinc 1 1, 3) := by decide +kernel
theorem dX12_lays_25 : decode cX12_lays 25 = .ok (.goto (-23), 3) := by decide +kernel
theorem dX12_lays_28 : decode cX12_lays 28 = .ok (.return_, 1) := by decide +kernel
def f_X12_lays_L2 (a0 : Nat) (u1 : Int32) (m2 : jM) : Option ((Int32 × jM) ⊕ (jM)) :=
  (if (5 : Int32) ≤ u1 then some (.inr m2) else jrd (m2.1 (a0 + 3)) ((6 : Int32) + u1) 2074 (fun v5 => jin u1 5 (jbd (jsi m2 (a0 + 9) u1.toNatClampNeg v5) (fun m8 => some (.inl ((u1 + (1 : Int32), m8)))))))
def f_X12_lays (a0 : Nat) (μ : jM) : Option (jM) :=
  jcl (jloop (fun (s : Int32 × jM) => f_X12_lays_L2 a0 s.1 s.2) jfu (((0 : Int32), μ))) (fun w10 => some w10)
set_option maxHeartbeats 4000000 in
set_option maxRecDepth 100000 in
theorem c_X12_lays {l : Launch} {G : jG} {L : jL} (hL : jOKL L) {a0 : Nat} (ka0 : jK L a0 12) {μ μ' : jM} (h : f_X12_lays a0 μ = some μ') : jCt l G L 3 yX12_lays cX12_lays 2 none [.ref (L.2.2 a0)] μ none μ' := by
  refine jCt_of (by decide) (Nat.le_of_ble_eq_true rfl) (fun X hC hX hR => ?_)
  subst hX
  have hC : jC X G cX12_lays 2 RX12 none := hC
  unfold f_X12_lays at h
  show jJ X G 2 L 0 0 (jQM X G L none μ' 0 0) 0 [(0, .ref (L.2.2 a0))] [] μ
  refine j_iconst (pc := 0) hC (0 : Int32) dX12_lays_0 (by decide) ?_
  refine j_istore_n (pc := 1) hC 1 [(1, .int (0 : Int32)), (0, .ref (L.2.2 a0))] dX12_lays_1 rfl (by decide) rfl rfl ?_
  obtain ⟨w10, hw11, h⟩ := jcl_some h
  refine j_lv [1, 0] rfl ?_
  refine j_loop (step := (fun (s : Int32 × jM) => f_X12_lays_L2 a0 s.1 s.2)) (P := (fun (s : Int32 × jM) => jJ X G 2 L 0 0 (jQM X G L none μ' 0 0) 2 [(0, .ref (L.2.2 a0)), (1, .int s.1)] [] s.2)) (R := (fun (e : jM) => jJ X G 2 L 0 0 (jQM X G L none μ' 0 0) 28 [] [] e)) ?_ jfu (((0 : Int32), μ)) w10 hw11 ?_
  · intro s12 o h hk
    obtain ⟨u1, m2⟩ := s12
    change f_X12_lays_L2 a0 u1 m2 = some o at h
    unfold f_X12_lays_L2 at h
    show jJ X G 2 L 0 0 (jQM X G L none μ' 0 0) 2 [(0, .ref (L.2.2 a0)), (1, .int u1)] [] m2
    refine j_iload_n (pc := 2) hC 1 1 dX12_lays_2 rfl rfl ?_
    refine j_iconst (pc := 3) hC (5 : Int32) dX12_lays_3 (by decide) ?_
    refine j_icmp_ge (pc := 4) hC 28 dX12_lays_4 (by decide) (fun c3 => ?_) (fun c3 => ?_)
    · rw [if_pos c3] at h
      obtain rfl := Option.some.inj h
      have hk : jJ X G 2 L 0 0 (jQM X G L none μ' 0 0) 28 [] [] m2 := hk
      exact j_lv [] rfl hk
    · rw [if_neg c3] at h
      refine j_aload_n (pc := 7) hC 0 0 dX12_lays_7 rfl rfl ?_
      refine jgr_12 (pc := 8) hC 18 (by decide) rfl kf_X12_78 dX12_lays_8 ka0 (ly_12_18 hL ka0).1 ?_
      refine j_iload_n (pc := 11) hC 1 1 dX12_lays_11 rfl rfl ?_
      refine j_aload_n (pc := 12) hC 0 0 dX12_lays_12 rfl rfl ?_
      refine jgr_12 (pc := 13) hC 8 (by decide) rfl kf_X12_60 dX12_lays_13 ka0 (ly_12_8 hL ka0).1 ?_
      refine j_bipush (pc := 16) hC (6 : Int32) dX12_lays_16 (by decide) ?_
      refine j_iload_n (pc := 18) hC 1 1 dX12_lays_18 rfl rfl ?_
      refine j_iadd (pc := 19) hC dX12_lays_19 ?_
      obtain ⟨i4, v5, e6, h⟩ := jrd_some h
      refine j_iald (pc := 20) hC dX12_lays_20 (ly_12_8 hL ka0).2.1 (ly_12_8 hL ka0).2.2 i4 e6 ?_
      obtain ⟨i7, h⟩ := jin_some h
      obtain ⟨m8, e9, h⟩ := jbd_ex h
      refine j_iast (pc := 21) hC dX12_lays_21 (ly_12_18 hL ka0).2.1 (ly_12_18 hL ka0).2.2 i7 e9 ?_
      refine j_iinc (pc := 22) hC 1 (u1 + (1 : Int32)) [(1, .int (u1 + (1 : Int32))), (0, .ref (L.2.2 a0))] dX12_lays_22 rfl rfl (by decide) rfl ?_
      refine j_goto (pc := 25) hC 2 dX12_lays_25 (by decide) ?_
      obtain rfl := Option.some.inj h
      have hk : jJ X G 2 L 0 0 (jQM X G L none μ' 0 0) 2 [(0, .ref (L.2.2 a0)), (1, .int (u1 + (1 : Int32)))] [] m8 := hk
      exact j_lv [1, 0] rfl hk
  · obtain ⟨m13, rfl⟩ : ∃ y, y = w10 := ⟨_, rfl⟩
    try dsimp only at h
    show jJ X G 2 L 0 0 (jQM X G L none μ' 0 0) 28 [] [] m13
    obtain rfl := Option.some.inj h
    exact j_vret (pc := 28) hC dX12_lays_28 rfl
theorem dX12_sumOf_0 : decode cX12_sumOf 0 = .ok (.iconst 0, 1) := by decide +kernel
theorem dX12_sumOf_1 : decode cX12_sumOf 1 = .ok (.istore_n 1, 1) := by decide +kernel
theorem dX12_sumOf_2 : decode cX12_sumOf 2 = .ok (.iconst 0, 1) := by decide +kernel
theorem dX12_sumOf_3 : decode cX12_sumOf 3 = .ok (.istore_n 2, 1) := by decide +kernel
theorem dX12_sumOf_4 : decode cX12_sumOf 4 = .ok (.iload_n 2, 1) := by decide +kernel
theorem dX12_sumOf_5 : decode cX12_sumOf 5 = .ok (.iconst 5, 1) := by decide +kernel
theorem dX12_sumOf_6 : decode cX12_sumOf 6 = .ok (.if_icmp .ge 18, 3) := by decide +kernel
theorem dX12_sumOf_9 : decode cX12_sumOf 9 = .ok (.iload_n 1, 1) := by decide +kernel
theorem dX12_sumOf_10 : decode cX12_sumOf 10 = .ok (.aload_n 0, 1) := by decide +kernel
theorem dX12_sumOf_11 : decode cX12_sumOf 11 = .ok (.iload_n 2, 1) := by decide +kernel
theorem dX12_sumOf_12 : decode cX12_sumOf 12 = .ok (.iaload, 1) := by decide +kernel
theorem dX12_sumOf_13 : decode cX12_sumOf 13 = .ok (.invokestatic 211, 3) := by decide +kernel
theorem dX12_sumOf_16 : decode cX12_sumOf 16 = .ok (.iadd, 1) := by decide +kernel
theorem dX12_sumOf_17 : decode cX12_sumOf 17 = .ok (.istore_n 1, 1) := by decide +kernel
theorem dX12_sumOf_18 : decode cX12_sumOf 18 = .ok (.iinc 2 1, 3) := by decide +kernel
theorem dX12_sumOf_21 : decode cX12_sumOf 21 = .ok (.goto (-17), 3) := by decide +kernel
theorem dX12_sumOf_24 : decode cX12_sumOf 24 = .ok (.iload_n 1, 1) := by decide +kernel
theorem dX12_sumOf_25 : decode cX12_sumOf 25 = .ok (.ireturn, 1) := by decide +kernel
def f_X12_sumOf_L4 (a0 : Nat) (μ : jM) (u1 : Int32) (u2 : Int32) : Option ((Int32 × Int32) ⊕ (Int32)) :=
  (if (5 : Int32) ≤ u2 then some (.inr u1) else jrd (μ.1 a0) u2 (jlen a0) (fun v5 => jcl (f_X12_bitsOf v5) (fun v7 => some (.inl ((u1 + v7, u2 + (1 : Int32)))))))
def f_X12_sumOf (a0 : Nat) (μ : jM) : Option (Int32) :=
  jcl (jloop (fun (s : Int32 × Int32) => f_X12_sumOf_L4 a0 μ s.1 s.2) jfu (((0 : Int32), (0 : Int32)))) (fun w9 => some w9)
set_option maxHeartbeats 4000000 in
set_option maxRecDepth 100000 in
theorem c_X12_sumOf {l : Launch} {G : jG} {L : jL} (hL : jOKL L) {a0 : Nat} (ka0 : jK L a0 13) {μ : jM} {r : Int32} (h : f_X12_sumOf a0 μ = some r) : jCt l G L 4 yX12_sumOf cX12_sumOf 3 (some .int) [.ref (L.2.2 a0)] μ (some (.int r)) μ := by
  refine jCt_of (by decide) (Nat.le_of_ble_eq_true rfl) (fun X hC hX hR => ?_)
  subst hX
  have hC : jC X G cX12_sumOf 3 RX12 (some .int) := hC
  unfold f_X12_sumOf at h
  show jJ X G 3 L 0 0 (jQM X G L (some (.int r)) μ 0 0) 0 [(0, .ref (L.2.2 a0))] [] μ
  refine j_iconst (pc := 0) hC (0 : Int32) dX12_sumOf_0 (by decide) ?_
  refine j_istore_n (pc := 1) hC 1 [(1, .int (0 : Int32)), (0, .ref (L.2.2 a0))] dX12_sumOf_1 rfl (by decide) rfl rfl ?_
  refine j_iconst (pc := 2) hC (0 : Int32) dX12_sumOf_2 (by decide) ?_
  refine j_istore_n (pc := 3) hC 2 [(2, .int (0 : Int32)), (1, .int (0 : Int32)), (0, .ref (L.2.2 a0))] dX12_sumOf_3 rfl (by decide) rfl rfl ?_
  obtain ⟨w9, hw10, h⟩ := jcl_some h
  refine j_lv [2, 1, 0] rfl ?_
  refine j_loop (step := (fun (s : Int32 × Int32) => f_X12_sumOf_L4 a0 μ s.1 s.2)) (P := (fun (s : Int32 × Int32) => jJ X G 3 L 0 0 (jQM X G L (some (.int r)) μ 0 0) 4 [(0, .ref (L.2.2 a0)), (1, .int s.1), (2, .int s.2)] [] μ)) (R := (fun (e : Int32) => jJ X G 3 L 0 0 (jQM X G L (some (.int r)) μ 0 0) 24 [(1, .int e)] [] μ)) ?_ jfu (((0 : Int32), (0 : Int32))) w9 hw10 ?_
  · intro s11 o h hk
    obtain ⟨u1, u2⟩ := s11
    change f_X12_sumOf_L4 a0 μ u1 u2 = some o at h
    unfold f_X12_sumOf_L4 at h
    show jJ X G 3 L 0 0 (jQM X G L (some (.int r)) μ 0 0) 4 [(0, .ref (L.2.2 a0)), (1, .int u1), (2, .int u2)] [] μ
    refine j_iload_n (pc := 4) hC 2 2 dX12_sumOf_4 rfl rfl ?_
    refine j_iconst (pc := 5) hC (5 : Int32) dX12_sumOf_5 (by decide) ?_
    refine j_icmp_ge (pc := 6) hC 24 dX12_sumOf_6 (by decide) (fun c3 => ?_) (fun c3 => ?_)
    · rw [if_pos c3] at h
      obtain rfl := Option.some.inj h
      have hk : jJ X G 3 L 0 0 (jQM X G L (some (.int r)) μ 0 0) 24 [(1, .int u1)] [] μ := hk
      exact j_lv [1] rfl hk
    · rw [if_neg c3] at h
      refine j_iload_n (pc := 9) hC 1 1 dX12_sumOf_9 rfl rfl ?_
      refine j_aload_n (pc := 10) hC 0 0 dX12_sumOf_10 rfl rfl ?_
      refine j_iload_n (pc := 11) hC 2 2 dX12_sumOf_11 rfl rfl ?_
      obtain ⟨i4, v5, e6, h⟩ := jrd_some h
      refine j_iald (pc := 12) hC dX12_sumOf_12 ka0 (jlen_ok hL _) i4 e6 ?_
      obtain ⟨v7, e8, h⟩ := jcl_some h
      refine j_si (pc := 13) hC hR [.int v5] iy_X12_bitsOf km_X12_211 dX12_sumOf_13 rfl (by decide) (c_X12_bitsOf hL  e8) (by decide) (Nat.le_of_ble_eq_true rfl) rfl ?_
      refine j_iadd (pc := 16) hC dX12_sumOf_16 ?_
      refine j_istore_n (pc := 17) hC 1 [(1, .int (u1 + v7)), (0, .ref (L.2.2 a0)), (2, .int u2)] dX12_sumOf_17 rfl (by decide) rfl rfl ?_
      refine j_iinc (pc := 18) hC 2 (u2 + (1 : Int32)) [(2, .int (u2 + (1 : Int32))), (1, .int (u1 + v7)), (0, .ref (L.2.2 a0))] dX12_sumOf_18 rfl rfl (by decide) rfl ?_
      refine j_goto (pc := 21) hC 4 dX12_sumOf_21 (by decide) ?_
      obtain rfl := Option.some.inj h
      have hk : jJ X G 3 L 0 0 (jQM X G L (some (.int r)) μ 0 0) 4 [(0, .ref (L.2.2 a0)), (1, .int (u1 + v7)), (2, .int (u2 + (1 : Int32)))] [] μ := hk
      exact j_lv [2, 1, 0] rfl hk
  · obtain ⟨z12, rfl⟩ : ∃ y, y = w9 := ⟨_, rfl⟩
    try dsimp only at h
    show jJ X G 3 L 0 0 (jQM X G L (some (.int r)) μ 0 0) 24 [(1, .int z12)] [] μ
    refine j_iload_n (pc := 24) hC 1 0 dX12_sumOf_24 rfl rfl ?_
    obtain rfl := Option.some.inj h
    exact j_iret (pc := 25) hC dX12_sumOf_25 rfl
theorem dX12_valuesMany_0 : decode cX12_valuesMany 0 = .ok (.iconst 0, 1) := by decide +kernel
theorem dX12_valuesMany_1 : decode cX12_valuesMany 1 = .ok (.istore_n 1, 1) := by decide +kernel
theorem dX12_valuesMany_2 : decode cX12_valuesMany 2 = .ok (.iconst 0, 1) := by decide +kernel
theorem dX12_valuesMany_3 : decode cX12_valuesMany 3 = .ok (.istore_n 2, 1) := by decide +kernel
theorem dX12_valuesMany_4 : decode cX12_valuesMany 4 = .ok (.iload_n 2, 1) := by decide +kernel
theorem dX12_valuesMany_5 : decode cX12_valuesMany 5 = .ok (.iconst 5, 1) := by decide +kernel
theorem dX12_valuesMany_6 : decode cX12_valuesMany 6 = .ok (.if_icmp .ge 24, 3) := by decide +kernel
theorem dX12_valuesMany_9 : decode cX12_valuesMany 9 = .ok (.iload_n 1, 1) := by decide +kernel
theorem dX12_valuesMany_10 : decode cX12_valuesMany 10 = .ok (.aload_n 0, 1) := by decide +kernel
theorem dX12_valuesMany_11 : decode cX12_valuesMany 11 = .ok (.getfield 60, 3) := by decide +kernel
theorem dX12_valuesMany_14 : decode cX12_valuesMany 14 = .ok (.bipush 6, 2) := by decide +kernel
theorem dX12_valuesMany_16 : decode cX12_valuesMany 16 = .ok (.iload_n 2, 1) := by decide +kernel
theorem dX12_valuesMany_17 : decode cX12_valuesMany 17 = .ok (.iadd, 1) := by decide +kernel
theorem dX12_valuesMany_18 : decode cX12_valuesMany 18 = .ok (.iaload, 1) := by decide +kernel
theorem dX12_valuesMany_19 : decode cX12_valuesMany 19 = .ok (.invokestatic 211, 3) := by decide +kernel
theorem dX12_valuesMany_22 : decode cX12_valuesMany 22 = .ok (.iadd, 1) := by decide +kernel
theorem dX12_valuesMany_23 : decode cX12_valuesMany 23 = .ok (.istore_n 1, 1) := by decide +kernel
theorem dX12_valuesMany_24 : decode cX12_valuesMany 24 = .ok (.iinc 2 1, 3) := by decide +kernel
theorem dX12_valuesMany_27 : decode cX12_valuesMany 27 = .ok (.goto (-23), 3) := by decide +kernel
theorem dX12_valuesMany_30 : decode cX12_valuesMany 30 = .ok (.iload_n 1, 1) := by decide +kernel
theorem dX12_valuesMany_31 : decode cX12_valuesMany 31 = .ok (.ireturn, 1) := by decide +kernel
def f_X12_valuesMany_L4 (a0 : Nat) (μ : jM) (u1 : Int32) (u2 : Int32) : Option ((Int32 × Int32) ⊕ (Int32)) :=
  (if (5 : Int32) ≤ u2 then some (.inr u1) else jrd (μ.1 (a0 + 3)) ((6 : Int32) + u2) 2074 (fun v5 => jcl (f_X12_bitsOf v5) (fun v7 => some (.inl ((u1 + v7, u2 + (1 : Int32)))))))
def f_X12_valuesMany (a0 : Nat) (μ : jM) : Option (Int32) :=
  jcl (jloop (fun (s : Int32 × Int32) => f_X12_valuesMany_L4 a0 μ s.1 s.2) jfu (((0 : Int32), (0 : Int32)))) (fun w9 => some w9)
set_option maxHeartbeats 4000000 in
set_option maxRecDepth 100000 in
theorem c_X12_valuesMany {l : Launch} {G : jG} {L : jL} (hL : jOKL L) {a0 : Nat} (ka0 : jK L a0 12) {μ : jM} {r : Int32} (h : f_X12_valuesMany a0 μ = some r) : jCt l G L 4 yX12_valuesMany cX12_valuesMany 3 (some .int) [.ref (L.2.2 a0)] μ (some (.int r)) μ := by
  refine jCt_of (by decide) (Nat.le_of_ble_eq_true rfl) (fun X hC hX hR => ?_)
  subst hX
  have hC : jC X G cX12_valuesMany 3 RX12 (some .int) := hC
  unfold f_X12_valuesMany at h
  show jJ X G 3 L 0 0 (jQM X G L (some (.int r)) μ 0 0) 0 [(0, .ref (L.2.2 a0))] [] μ
  refine j_iconst (pc := 0) hC (0 : Int32) dX12_valuesMany_0 (by decide) ?_
  refine j_istore_n (pc := 1) hC 1 [(1, .int (0 : Int32)), (0, .ref (L.2.2 a0))] dX12_valuesMany_1 rfl (by decide) rfl rfl ?_
  refine j_iconst (pc := 2) hC (0 : Int32) dX12_valuesMany_2 (by decide) ?_
  refine j_istore_n (pc := 3) hC 2 [(2, .int (0 : Int32)), (1, .int (0 : Int32)), (0, .ref (L.2.2 a0))] dX12_valuesMany_3 rfl (by decide) rfl rfl ?_
  obtain ⟨w9, hw10, h⟩ := jcl_some h
  refine j_lv [2, 1, 0] rfl ?_
  refine j_loop (step := (fun (s : Int32 × Int32) => f_X12_valuesMany_L4 a0 μ s.1 s.2)) (P := (fun (s : Int32 × Int32) => jJ X G 3 L 0 0 (jQM X G L (some (.int r)) μ 0 0) 4 [(0, .ref (L.2.2 a0)), (1, .int s.1), (2, .int s.2)] [] μ)) (R := (fun (e : Int32) => jJ X G 3 L 0 0 (jQM X G L (some (.int r)) μ 0 0) 30 [(1, .int e)] [] μ)) ?_ jfu (((0 : Int32), (0 : Int32))) w9 hw10 ?_
  · intro s11 o h hk
    obtain ⟨u1, u2⟩ := s11
    change f_X12_valuesMany_L4 a0 μ u1 u2 = some o at h
    unfold f_X12_valuesMany_L4 at h
    show jJ X G 3 L 0 0 (jQM X G L (some (.int r)) μ 0 0) 4 [(0, .ref (L.2.2 a0)), (1, .int u1), (2, .int u2)] [] μ
    refine j_iload_n (pc := 4) hC 2 2 dX12_valuesMany_4 rfl rfl ?_
    refine j_iconst (pc := 5) hC (5 : Int32) dX12_valuesMany_5 (by decide) ?_
    refine j_icmp_ge (pc := 6) hC 30 dX12_valuesMany_6 (by decide) (fun c3 => ?_) (fun c3 => ?_)
    · rw [if_pos c3] at h
      obtain rfl := Option.some.inj h
      have hk : jJ X G 3 L 0 0 (jQM X G L (some (.int r)) μ 0 0) 30 [(1, .int u1)] [] μ := hk
      exact j_lv [1] rfl hk
    · rw [if_neg c3] at h
      refine j_iload_n (pc := 9) hC 1 1 dX12_valuesMany_9 rfl rfl ?_
      refine j_aload_n (pc := 10) hC 0 0 dX12_valuesMany_10 rfl rfl ?_
      refine jgr_12 (pc := 11) hC 8 (by decide) rfl kf_X12_60 dX12_valuesMany_11 ka0 (ly_12_8 hL ka0).1 ?_
      refine j_bipush (pc := 14) hC (6 : Int32) dX12_valuesMany_14 (by decide) ?_
      refine j_iload_n (pc := 16) hC 2 2 dX12_valuesMany_16 rfl rfl ?_
      refine j_iadd (pc := 17) hC dX12_valuesMany_17 ?_
      obtain ⟨i4, v5, e6, h⟩ := jrd_some h
      refine j_iald (pc := 18) hC dX12_valuesMany_18 (ly_12_8 hL ka0).2.1 (ly_12_8 hL ka0).2.2 i4 e6 ?_
      obtain ⟨v7, e8, h⟩ := jcl_some h
      refine j_si (pc := 19) hC hR [.int v5] iy_X12_bitsOf km_X12_211 dX12_valuesMany_19 rfl (by decide) (c_X12_bitsOf hL  e8) (by decide) (Nat.le_of_ble_eq_true rfl) rfl ?_
      refine j_iadd (pc := 22) hC dX12_valuesMany_22 ?_
      refine j_istore_n (pc := 23) hC 1 [(1, .int (u1 + v7)), (0, .ref (L.2.2 a0)), (2, .int u2)] dX12_valuesMany_23 rfl (by decide) rfl rfl ?_
      refine j_iinc (pc := 24) hC 2 (u2 + (1 : Int32)) [(2, .int (u2 + (1 : Int32))), (1, .int (u1 + v7)), (0, .ref (L.2.2 a0))] dX12_valuesMany_24 rfl rfl (by decide) rfl ?_
      refine j_goto (pc := 27) hC 4 dX12_valuesMany_27 (by decide) ?_
      obtain rfl := Option.some.inj h
      have hk : jJ X G 3 L 0 0 (jQM X G L (some (.int r)) μ 0 0) 4 [(0, .ref (L.2.2 a0)), (1, .int (u1 + v7)), (2, .int (u2 + (1 : Int32)))] [] μ := hk
      exact j_lv [2, 1, 0] rfl hk
  · obtain ⟨z12, rfl⟩ : ∃ y, y = w9 := ⟨_, rfl⟩
    try dsimp only at h
    show jJ X G 3 L 0 0 (jQM X G L (some (.int r)) μ 0 0) 30 [(1, .int z12)] [] μ
    refine j_iload_n (pc := 30) hC 1 0 dX12_valuesMany_30 rfl rfl ?_
    obtain rfl := Option.some.inj h
    exact j_iret (pc := 31) hC dX12_valuesMany_31 rfl
theorem dX12_spreadsOne_0 : decode cX12_spreadsOne 0 = .ok (.aload_n 0, 1) := by decide +kernel
theorem dX12_spreadsOne_1 : decode cX12_spreadsOne 1 = .ok (.invokevirtual 276, 3) := by decide +kernel
theorem dX12_spreadsOne_4 : decode cX12_spreadsOne 4 = .ok (.aload_n 0, 1) := by decide +kernel
theorem dX12_spreadsOne_5 : decode cX12_spreadsOne 5 = .ok (.aload_n 0, 1) := by decide +kernel
theorem dX12_spreadsOne_6 : decode cX12_spreadsOne 6 = .ok (.getfield 78, 3) := by decide +kernel
theorem dX12_spreadsOne_9 : decode cX12_spreadsOne 9 = .ok (.sipush 255, 3) := by decide +kernel
theorem dX12_spreadsOne_12 : decode cX12_spreadsOne 12 = .ok (.invokevirtual 279, 3) := by decide +kernel
theorem dX12_spreadsOne_15 : decode cX12_spreadsOne 15 = .ok (.ifCond .ne 6, 3) := by decide +kernel
theorem dX12_spreadsOne_18 : decode cX12_spreadsOne 18 = .ok (.bipush (-2), 2) := by decide +kernel
theorem dX12_spreadsOne_20 : decode cX12_spreadsOne 20 = .ok (.ireturn, 1) := by decide +kernel
theorem dX12_spreadsOne_21 : decode cX12_spreadsOne 21 = .ok (.aload_n 0, 1) := by decide +kernel
theorem dX12_spreadsOne_22 : decode cX12_spreadsOne 22 = .ok (.invokevirtual 283, 3) := by decide +kernel
theorem dX12_spreadsOne_25 : decode cX12_spreadsOne 25 = .ok (.aload_n 0, 1) := by decide +kernel
theorem dX12_spreadsOne_26 : decode cX12_spreadsOne 26 = .ok (.getfield 78, 3) := by decide +kernel
theorem dX12_spreadsOne_29 : decode cX12_spreadsOne 29 = .ok (.invokestatic 286, 3) := by decide +kernel
theorem dX12_spreadsOne_32 : decode cX12_spreadsOne 32 = .ok (.isub, 1) := by decide +kernel
theorem dX12_spreadsOne_33 : decode cX12_spreadsOne 33 = .ok (.istore_n 1, 1) := by decide +kernel
theorem dX12_spreadsOne_34 : decode cX12_spreadsOne 34 = .ok (.iconst 0, 1) := by decide +kernel
theorem dX12_spreadsOne_35 : decode cX12_spreadsOne 35 = .ok (.istore_n 2, 1) := by decide +kernel
theorem dX12_spreadsOne_36 : decode cX12_spreadsOne 36 = .ok (.iload_n 2, 1) := by decide +kernel
theorem dX12_spreadsOne_37 : decode cX12_spreadsOne 37 = .ok (.iconst 5, 1) := by decide +kernel
theorem dX12_spreadsOne_38 : decode cX12_spreadsOne 38 = .ok (.if_icmp .ge 24, 3) := by decide +kernel
theorem dX12_spreadsOne_41 : decode cX12_spreadsOne 41 = .ok (.aload_n 0, 1) := by decide +kernel
theorem dX12_spreadsOne_42 : decode cX12_spreadsOne 42 = .ok (.getfield 60, 3) := by decide +kernel
theorem dX12_spreadsOne_45 : decode cX12_spreadsOne 45 = .ok (.bipush 6, 2) := by decide +kernel
theorem dX12_spreadsOne_47 : decode cX12_spreadsOne 47 = .ok (.iload_n 2, 1) := by decide +kernel
theorem dX12_spreadsOne_48 : decode cX12_spreadsOne 48 = .ok (.iadd, 1) := by decide +kernel
theorem dX12_spreadsOne_49 : decode cX12_spreadsOne 49 = .ok (.aload_n 0, 1) := by decide +kernel
theorem dX12_spreadsOne_50 : decode cX12_spreadsOne 50 = .ok (.getfield 78, 3) := by decide +kernel
theorem dX12_spreadsOne_53 : decode cX12_spreadsOne 53 = .ok (.iload_n 2, 1) := by decide +kernel
theorem dX12_spreadsOne_54 : decode cX12_spreadsOne 54 = .ok (.iaload, 1) := by decide +kernel
theorem dX12_spreadsOne_55 : decode cX12_spreadsOne 55 = .ok (.iastore, 1) := by decide +kernel
theorem dX12_spreadsOne_56 : decode cX12_spreadsOne 56 = .ok (.iinc 2 1, 3) := by decide +kernel
theorem dX12_spreadsOne_59 : decode cX12_spreadsOne 59 = .ok (.goto (-23), 3) := by decide +kernel
theorem dX12_spreadsOne_62 : decode cX12_spreadsOne 62 = .ok (.iload_n 1, 1) := by decide +kernel
theorem dX12_spreadsOne_63 : decode cX12_spreadsOne 63 = .ok (.ireturn, 1) := by decide +kernel
def f_X12_spreadsOne_L36 (a0 : Nat) (u11 : Int32) (m12 : jM) : Option ((Int32 × jM) ⊕ (jM)) :=
  (if (5 : Int32) ≤ u11 then some (.inr m12) else jrd (m12.1 (a0 + 9)) u11 5 (fun v15 => jin ((6 : Int32) + u11) 2074 (jbd (jsi m12 (a0 + 3) ((6 : Int32) + u11).toNatClampNeg v15) (fun m18 => some (.inl ((u11 + (1 : Int32), m18)))))))
def f_X12_spreadsOne (a0 : Nat) (μ : jM) : Option (Int32 × jM) :=
  jcl (f_X12_lays a0 μ) (fun m1 => jcl2 (f_X12_spreadsBy a0 (a0 + 9) (255 : Int32) m1) (fun v3 m4 => (if v3 = (0 : Int32) then some (((-2 : Int32), m4)) else jcl (f_X12_valuesMany a0 m4) (fun v7 => jcl (f_X12_sumOf (a0 + 9) m4) (fun v9 => jcl (jloop (fun (s : Int32 × jM) => f_X12_spreadsOne_L36 a0 s.1 s.2) jfu (((0 : Int32), m4))) (fun w20 => some ((v7 - v9, w20))))))))
set_option maxHeartbeats 4000000 in
set_option maxRecDepth 100000 in
theorem c_X12_spreadsOne {l : Launch} {G : jG} {L : jL} (hL : jOKL L) {a0 : Nat} (ka0 : jK L a0 12) {μ μ' : jM} {r : Int32} (h : f_X12_spreadsOne a0 μ = some ((r, μ'))) : jCt l G L 14 yX12_spreadsOne cX12_spreadsOne 3 (some .int) [.ref (L.2.2 a0)] μ (some (.int r)) μ' := by
  refine jCt_of (by decide) (Nat.le_of_ble_eq_true rfl) (fun X hC hX hR => ?_)
  subst hX
  have hC : jC X G cX12_spreadsOne 3 RX12 (some .int) := hC
  unfold f_X12_spreadsOne at h
  show jJ X G 3 L 0 0 (jQM X G L (some (.int r)) μ' 0 0) 0 [(0, .ref (L.2.2 a0))] [] μ
  refine j_aload_n (pc := 0) hC 0 0 dX12_spreadsOne_0 rfl rfl ?_
  obtain ⟨m1, e2, h⟩ := jcl_some h
  refine j_vv (pc := 1) hC hR [] iy_X12_lays (q := (RX12, TX12, 40)) (ci := 12) rfl rfl (by decide) km_X12_276 dX12_spreadsOne_1 rfl (by decide) ka0 (c_X12_lays hL ka0 e2) (by decide) (Nat.le_of_ble_eq_true rfl) rfl ?_
  refine j_aload_n (pc := 4) hC 0 0 dX12_spreadsOne_4 rfl rfl ?_
  refine j_aload_n (pc := 5) hC 0 0 dX12_spreadsOne_5 rfl rfl ?_
  refine jgr_12 (pc := 6) hC 18 (by decide) rfl kf_X12_78 dX12_spreadsOne_6 ka0 (ly_12_18 hL ka0).1 ?_
  refine j_sipush (pc := 9) hC (255 : Int32) dX12_spreadsOne_9 (by decide) ?_
  obtain ⟨v3, m4, e5, h⟩ := jcl2_some h
  refine j_vi (pc := 12) hC hR [.ref (L.2.2 (a0 + 9)), .int (255 : Int32)] iy_X12_spreadsBy (q := (RX12, TX12, 40)) (ci := 12) rfl rfl (by decide) km_X12_279 dX12_spreadsOne_12 rfl (by decide) ka0 (c_X12_spreadsBy hL ka0 (ly_12_18 hL ka0).2.1 e5) (by decide) (Nat.le_of_ble_eq_true rfl) rfl ?_
  refine j_if_ne (pc := 15) hC 21 dX12_spreadsOne_15 (by decide) (fun c6 => ?_) (fun c6 => ?_)
  · rw [if_neg c6] at h
    refine j_aload_n (pc := 21) hC 0 0 dX12_spreadsOne_21 rfl rfl ?_
    obtain ⟨v7, e8, h⟩ := jcl_some h
    refine j_vi (pc := 22) hC hR [] iy_X12_valuesMany (q := (RX12, TX12, 40)) (ci := 12) rfl rfl (by decide) km_X12_283 dX12_spreadsOne_22 rfl (by decide) ka0 (c_X12_valuesMany hL ka0 e8) (by decide) (Nat.le_of_ble_eq_true rfl) rfl ?_
    refine j_aload_n (pc := 25) hC 0 0 dX12_spreadsOne_25 rfl rfl ?_
    refine jgr_12 (pc := 26) hC 18 (by decide) rfl kf_X12_78 dX12_spreadsOne_26 ka0 (ly_12_18 hL ka0).1 ?_
    obtain ⟨v9, e10, h⟩ := jcl_some h
    refine j_si (pc := 29) hC hR [.ref (L.2.2 (a0 + 9))] iy_X12_sumOf km_X12_286 dX12_spreadsOne_29 rfl (by decide) (c_X12_sumOf hL (ly_12_18 hL ka0).2.1 e10) (by decide) (Nat.le_of_ble_eq_true rfl) rfl ?_
    refine j_isub (pc := 32) hC dX12_spreadsOne_32 ?_
    refine j_istore_n (pc := 33) hC 1 [(1, .int (v7 - v9)), (0, .ref (L.2.2 a0))] dX12_spreadsOne_33 rfl (by decide) rfl rfl ?_
    refine j_iconst (pc := 34) hC (0 : Int32) dX12_spreadsOne_34 (by decide) ?_
    refine j_istore_n (pc := 35) hC 2 [(2, .int (0 : Int32)), (1, .int (v7 - v9)), (0, .ref (L.2.2 a0))] dX12_spreadsOne_35 rfl (by decide) rfl rfl ?_
    obtain ⟨w20, hw21, h⟩ := jcl_some h
    refine j_lv [2, 1, 0] rfl ?_
    refine j_loop (step := (fun (s : Int32 × jM) => f_X12_spreadsOne_L36 a0 s.1 s.2)) (P := (fun (s : Int32 × jM) => jJ X G 3 L 0 0 (jQM X G L (some (.int r)) μ' 0 0) 36 [(0, .ref (L.2.2 a0)), (1, .int (v7 - v9)), (2, .int s.1)] [] s.2)) (R := (fun (e : jM) => jJ X G 3 L 0 0 (jQM X G L (some (.int r)) μ' 0 0) 62 [(1, .int (v7 - v9))] [] e)) ?_ jfu (((0 : Int32), m4)) w20 hw21 ?_
    · intro s22 o h hk
      obtain ⟨u11, m12⟩ := s22
      change f_X12_spreadsOne_L36 a0 u11 m12 = some o at h
      unfold f_X12_spreadsOne_L36 at h
      show jJ X G 3 L 0 0 (jQM X G L (some (.int r)) μ' 0 0) 36 [(0, .ref (L.2.2 a0)), (1, .int (v7 - v9)), (2, .int u11)] [] m12
      refine j_iload_n (pc := 36) hC 2 2 dX12_spreadsOne_36 rfl rfl ?_
      refine j_iconst (pc := 37) hC (5 : Int32) dX12_spreadsOne_37 (by decide) ?_
      refine j_icmp_ge (pc := 38) hC 62 dX12_spreadsOne_38 (by decide) (fun c13 => ?_) (fun c13 => ?_)
      · rw [if_pos c13] at h
        obtain rfl := Option.some.inj h
        have hk : jJ X G 3 L 0 0 (jQM X G L (some (.int r)) μ' 0 0) 62 [(1, .int (v7 - v9))] [] m12 := hk
        exact j_lv [1] rfl hk
      · rw [if_neg c13] at h
        refine j_aload_n (pc := 41) hC 0 0 dX12_spreadsOne_41 rfl rfl ?_
        refine jgr_12 (pc := 42) hC 8 (by decide) rfl kf_X12_60 dX12_spreadsOne_42 ka0 (ly_12_8 hL ka0).1 ?_
        refine j_bipush (pc := 45) hC (6 : Int32) dX12_spreadsOne_45 (by decide) ?_
        refine j_iload_n (pc := 47) hC 2 2 dX12_spreadsOne_47 rfl rfl ?_
        refine j_iadd (pc := 48) hC dX12_spreadsOne_48 ?_
        refine j_aload_n (pc := 49) hC 0 0 dX12_spreadsOne_49 rfl rfl ?_
        refine jgr_12 (pc := 50) hC 18 (by decide) rfl kf_X12_78 dX12_spreadsOne_50 ka0 (ly_12_18 hL ka0).1 ?_
        refine j_iload_n (pc := 53) hC 2 2 dX12_spreadsOne_53 rfl rfl ?_
        obtain ⟨i14, v15, e16, h⟩ := jrd_some h
        refine j_iald (pc := 54) hC dX12_spreadsOne_54 (ly_12_18 hL ka0).2.1 (ly_12_18 hL ka0).2.2 i14 e16 ?_
        obtain ⟨i17, h⟩ := jin_some h
        obtain ⟨m18, e19, h⟩ := jbd_ex h
        refine j_iast (pc := 55) hC dX12_spreadsOne_55 (ly_12_8 hL ka0).2.1 (ly_12_8 hL ka0).2.2 i17 e19 ?_
        refine j_iinc (pc := 56) hC 2 (u11 + (1 : Int32)) [(2, .int (u11 + (1 : Int32))), (0, .ref (L.2.2 a0)), (1, .int (v7 - v9))] dX12_spreadsOne_56 rfl rfl (by decide) rfl ?_
        refine j_goto (pc := 59) hC 36 dX12_spreadsOne_59 (by decide) ?_
        obtain rfl := Option.some.inj h
        have hk : jJ X G 3 L 0 0 (jQM X G L (some (.int r)) μ' 0 0) 36 [(0, .ref (L.2.2 a0)), (1, .int (v7 - v9)), (2, .int (u11 + (1 : Int32)))] [] m18 := hk
        exact j_lv [1, 2, 0] rfl hk
    · obtain ⟨m23, rfl⟩ : ∃ y, y = w20 := ⟨_, rfl⟩
      try dsimp only at h
      show jJ X G 3 L 0 0 (jQM X G L (some (.int r)) μ' 0 0) 62 [(1, .int (v7 - v9))] [] m23
      refine j_iload_n (pc := 62) hC 1 0 dX12_spreadsOne_62 rfl rfl ?_
      obtain ⟨rfl, rfl⟩ := Prod.mk.inj (Option.some.inj h)
      exact j_iret (pc := 63) hC dX12_spreadsOne_63 rfl
  · rw [if_pos c6] at h
    refine j_bipush (pc := 18) hC (-2 : Int32) dX12_spreadsOne_18 (by decide) ?_
    obtain ⟨rfl, rfl⟩ := Prod.mk.inj (Option.some.inj h)
    exact j_iret (pc := 20) hC dX12_spreadsOne_20 rfl
theorem dX12_spreads_0 : decode cX12_spreads 0 = .ok (.aload_n 0, 1) := by decide +kernel
theorem dX12_spreads_1 : decode cX12_spreads 1 = .ok (.iconst 0, 1) := by decide +kernel
theorem dX12_spreads_2 : decode cX12_spreads 2 = .ok (.putfield 1, 3) := by decide +kernel
theorem dX12_spreads_5 : decode cX12_spreads 5 = .ok (.aload_n 0, 1) := by decide +kernel
theorem dX12_spreads_6 : decode cX12_spreads 6 = .ok (.invokevirtual 170, 3) := by decide +kernel
theorem dX12_spreads_9 : decode cX12_spreads 9 = .ok (.aload_n 0, 1) := by decide +kernel
theorem dX12_spreads_10 : decode cX12_spreads 10 = .ok (.aload_n 0, 1) := by decide +kernel
theorem dX12_spreads_11 : decode cX12_spreads 11 = .ok (.invokevirtual 290, 3) := by decide +kernel
theorem dX12_spreads_14 : decode cX12_spreads 14 = .ok (.invokevirtual 195, 3) := by decide +kernel
theorem dX12_spreads_17 : decode cX12_spreads 17 = .ok (.ireturn, 1) := by decide +kernel
def f_X12_spreads (a0 : Nat) (μ : jM) : Option (Int32 × jM) :=
  jbd (jsi μ a0 0 (0 : Int32)) (fun m1 => jcl (f_X12_begins a0 m1) (fun m3 => jcl2 (f_X12_spreadsOne a0 m3) (fun v5 m6 => jcl2 (f_X12_ends a0 v5 m6) (fun v8 m9 => some ((v8, m9))))))
set_option maxHeartbeats 4000000 in
set_option maxRecDepth 100000 in
theorem c_X12_spreads {l : Launch} {G : jG} {L : jL} (hL : jOKL L) {a0 : Nat} (ka0 : jK L a0 12) {μ μ' : jM} {r : Int32} (h : f_X12_spreads a0 μ = some ((r, μ'))) : jCt l G L 15 yX12_spreads cX12_spreads 1 (some .int) [.ref (L.2.2 a0)] μ (some (.int r)) μ' := by
  refine jCt_of (by decide) (Nat.le_of_ble_eq_true rfl) (fun X hC hX hR => ?_)
  subst hX
  have hC : jC X G cX12_spreads 1 RX12 (some .int) := hC
  unfold f_X12_spreads at h
  show jJ X G 1 L 0 0 (jQM X G L (some (.int r)) μ' 0 0) 0 [(0, .ref (L.2.2 a0))] [] μ
  refine j_aload_n (pc := 0) hC 0 0 dX12_spreads_0 rfl rfl ?_
  refine j_iconst (pc := 1) hC (0 : Int32) dX12_spreads_1 (by decide) ?_
  obtain ⟨m1, e2, h⟩ := jbd_ex h
  refine jpi_12 (pc := 2) hC 0 (by decide) rfl kf_X12_1 dX12_spreads_2 rfl (by decide) ka0 e2 ?_
  refine j_aload_n (pc := 5) hC 0 0 dX12_spreads_5 rfl rfl ?_
  obtain ⟨m3, e4, h⟩ := jcl_some h
  refine j_vv (pc := 6) hC hR [] iy_X12_begins (q := (RX12, TX12, 40)) (ci := 12) rfl rfl (by decide) km_X12_170 dX12_spreads_6 rfl (by decide) ka0 (c_X12_begins hL ka0 e4) (by decide) (Nat.le_of_ble_eq_true rfl) rfl ?_
  refine j_aload_n (pc := 9) hC 0 0 dX12_spreads_9 rfl rfl ?_
  refine j_aload_n (pc := 10) hC 0 0 dX12_spreads_10 rfl rfl ?_
  obtain ⟨v5, m6, e7, h⟩ := jcl2_some h
  refine j_vi (pc := 11) hC hR [] iy_X12_spreadsOne (q := (RX12, TX12, 40)) (ci := 12) rfl rfl (by decide) km_X12_290 dX12_spreads_11 rfl (by decide) ka0 (c_X12_spreadsOne hL ka0 e7) (by decide) (Nat.le_of_ble_eq_true rfl) rfl ?_
  obtain ⟨v8, m9, e10, h⟩ := jcl2_some h
  refine j_vi (pc := 14) hC hR [.int v5] iy_X12_ends (q := (RX12, TX12, 40)) (ci := 12) rfl rfl (by decide) km_X12_195 dX12_spreads_14 rfl (by decide) ka0 (c_X12_ends hL ka0 e10) (by decide) (Nat.le_of_ble_eq_true rfl) rfl ?_
  obtain ⟨rfl, rfl⟩ := Prod.mk.inj (Option.some.inj h)
  exact j_iret (pc := 17) hC dX12_spreads_17 rfl
theorem dX12_comes_0 : decode cX12_comes 0 = .ok (.aload_n 0, 1) := by decide +kernel
theorem dX12_comes_1 : decode cX12_comes 1 = .ok (.getfield 81, 3) := by decide +kernel
theorem dX12_comes_4 : decode cX12_comes 4 = .ok (.aload_n 0, 1) := by decide +kernel
theorem dX12_comes_5 : decode cX12_comes 5 = .ok (.getfield 293, 3) := by decide +kernel
theorem dX12_comes_8 : decode cX12_comes 8 = .ok (.iload_n 1, 1) := by decide +kernel
theorem dX12_comes_9 : decode cX12_comes 9 = .ok (.iastore, 1) := by decide +kernel
theorem dX12_comes_10 : decode cX12_comes 10 = .ok (.aload_n 0, 1) := by decide +kernel
theorem dX12_comes_11 : decode cX12_comes 11 = .ok (.getfield 84, 3) := by decide +kernel
theorem dX12_comes_14 : decode cX12_comes 14 = .ok (.aload_n 0, 1) := by decide +kernel
theorem dX12_comes_15 : decode cX12_comes 15 = .ok (.getfield 293, 3) := by decide +kernel
theorem dX12_comes_18 : decode cX12_comes 18 = .ok (.iload_n 2, 1) := by decide +kernel
theorem dX12_comes_19 : decode cX12_comes 19 = .ok (.iastore, 1) := by decide +kernel
theorem dX12_comes_20 : decode cX12_comes 20 = .ok (.aload_n 0, 1) := by decide +kernel
theorem dX12_comes_21 : decode cX12_comes 21 = .ok (.getfield 87, 3) := by decide +kernel
theorem dX12_comes_24 : decode cX12_comes 24 = .ok (.aload_n 0, 1) := by decide +kernel
theorem dX12_comes_25 : decode cX12_comes 25 = .ok (.getfield 293, 3) := by decide +kernel
theorem dX12_comes_28 : decode cX12_comes 28 = .ok (.iload_n 3, 1) := by decide +kernel
theorem dX12_comes_29 : decode cX12_comes 29 = .ok (.iastore, 1) := by decide +kernel
theorem dX12_comes_30 : decode cX12_comes 30 = .ok (.aload_n 0, 1) := by decide +kernel
theorem dX12_comes_31 : decode cX12_comes 31 = .ok (.getfield 90, 3) := by decide +kernel
theorem dX12_comes_34 : decode cX12_comes 34 = .ok (.aload_n 0, 1) := by decide +kernel
theorem dX12_comes_35 : decode cX12_comes 35 = .ok (.getfield 293, 3) := by decide +kernel
theorem dX12_comes_38 : decode cX12_comes 38 = .ok (.iload 4, 2) := by decide +kernel
theorem dX12_comes_40 : decode cX12_comes 40 = .ok (.iastore, 1) := by decide +kernel
theorem dX12_comes_41 : decode cX12_comes 41 = .ok (.aload_n 0, 1) := by decide +kernel
theorem dX12_comes_42 : decode cX12_comes 42 = .ok (.dup, 1) := by decide +kernel
theorem dX12_comes_43 : decode cX12_comes 43 = .ok (.getfield 293, 3) := by decide +kernel
theorem dX12_comes_46 : decode cX12_comes 46 = .ok (.iconst 1, 1) := by decide +kernel
theorem dX12_comes_47 : decode cX12_comes 47 = .ok (.iadd, 1) := by decide +kernel
theorem dX12_comes_48 : decode cX12_comes 48 = .ok (.putfield 293, 3) := by decide +kernel
theorem dX12_comes_51 : decode cX12_comes 51 = .ok (.aload_n 0, 1) := by decide +kernel
theorem dX12_comes_52 : decode cX12_comes 52 = .ok (.getfield 293, 3) := by decide +kernel
theorem dX12_comes_55 : decode cX12_comes 55 = .ok (.iconst 1, 1) := by decide +kernel
theorem dX12_comes_56 : decode cX12_comes 56 = .ok (.isub, 1) := by decide +kernel
theorem dX12_comes_57 : decode cX12_comes 57 = .ok (.ireturn, 1) := by decide +kernel
def f_X12_comes (a0 : Nat) (x1 : Int32) (x2 : Int32) (x3 : Int32) (x4 : Int32) (μ : jM) : Option (Int32 × jM) :=
  jin (μ.1 a0 24) 168 (jbd (jsi μ (a0 + 10) (μ.1 a0 24).toNatClampNeg x1) (fun m2 => jin (m2.1 a0 24) 168 (jbd (jsi m2 (a0 + 11) (m2.1 a0 24).toNatClampNeg x2) (fun m5 => jin (m5.1 a0 24) 168 (jbd (jsi m5 (a0 + 12) (m5.1 a0 24).toNatClampNeg x3) (fun m8 => jin (m8.1 a0 24) 168 (jbd (jsi m8 (a0 + 13) (m8.1 a0 24).toNatClampNeg x4) (fun m11 => jbd (jsi m11 a0 24 ((m11.1 a0 24) + (1 : Int32))) (fun m13 => some (((m13.1 a0 24) - (1 : Int32), m13)))))))))))
set_option maxHeartbeats 4000000 in
set_option maxRecDepth 100000 in
theorem c_X12_comes {l : Launch} {G : jG} {L : jL} (hL : jOKL L) {a0 : Nat} {x1 : Int32} {x2 : Int32} {x3 : Int32} {x4 : Int32} (ka0 : jK L a0 12) {μ μ' : jM} {r : Int32} (h : f_X12_comes a0 x1 x2 x3 x4 μ = some ((r, μ'))) : jCt l G L 3 yX12_comes cX12_comes 5 (some .int) [.ref (L.2.2 a0), .int x1, .int x2, .int x3, .int x4] μ (some (.int r)) μ' := by
  refine jCt_of (by decide) (Nat.le_of_ble_eq_true rfl) (fun X hC hX hR => ?_)
  subst hX
  have hC : jC X G cX12_comes 5 RX12 (some .int) := hC
  unfold f_X12_comes at h
  show jJ X G 5 L 0 0 (jQM X G L (some (.int r)) μ' 0 0) 0 [(0, .ref (L.2.2 a0)), (1, .int x1), (2, .int x2), (3, .int x3), (4, .int x4)] [] μ
  refine j_aload_n (pc := 0) hC 0 0 dX12_comes_0 rfl rfl ?_
  refine jgr_12 (pc := 1) hC 19 (by decide) rfl kf_X12_81 dX12_comes_1 ka0 (ly_12_19 hL ka0).1 ?_
  refine j_aload_n (pc := 4) hC 0 0 dX12_comes_4 rfl rfl ?_
  refine jgi_12 (pc := 5) hC 24 (by decide) rfl kf_X12_293 dX12_comes_5 ka0 ?_
  refine j_iload_n (pc := 8) hC 1 1 dX12_comes_8 rfl rfl ?_
  obtain ⟨i1, h⟩ := jin_some h
  obtain ⟨m2, e3, h⟩ := jbd_ex h
  refine j_iast (pc := 9) hC dX12_comes_9 (ly_12_19 hL ka0).2.1 (ly_12_19 hL ka0).2.2 i1 e3 ?_
  refine j_aload_n (pc := 10) hC 0 0 dX12_comes_10 rfl rfl ?_
  refine jgr_12 (pc := 11) hC 20 (by decide) rfl kf_X12_84 dX12_comes_11 ka0 (ly_12_20 hL ka0).1 ?_
  refine j_aload_n (pc := 14) hC 0 0 dX12_comes_14 rfl rfl ?_
  refine jgi_12 (pc := 15) hC 24 (by decide) rfl kf_X12_293 dX12_comes_15 ka0 ?_
  refine j_iload_n (pc := 18) hC 2 2 dX12_comes_18 rfl rfl ?_
  obtain ⟨i4, h⟩ := jin_some h
  obtain ⟨m5, e6, h⟩ := jbd_ex h
  refine j_iast (pc := 19) hC dX12_comes_19 (ly_12_20 hL ka0).2.1 (ly_12_20 hL ka0).2.2 i4 e6 ?_
  refine j_aload_n (pc := 20) hC 0 0 dX12_comes_20 rfl rfl ?_
  refine jgr_12 (pc := 21) hC 21 (by decide) rfl kf_X12_87 dX12_comes_21 ka0 (ly_12_21 hL ka0).1 ?_
  refine j_aload_n (pc := 24) hC 0 0 dX12_comes_24 rfl rfl ?_
  refine jgi_12 (pc := 25) hC 24 (by decide) rfl kf_X12_293 dX12_comes_25 ka0 ?_
  refine j_iload_n (pc := 28) hC 3 3 dX12_comes_28 rfl rfl ?_
  obtain ⟨i7, h⟩ := jin_some h
  obtain ⟨m8, e9, h⟩ := jbd_ex h
  refine j_iast (pc := 29) hC dX12_comes_29 (ly_12_21 hL ka0).2.1 (ly_12_21 hL ka0).2.2 i7 e9 ?_
  refine j_aload_n (pc := 30) hC 0 0 dX12_comes_30 rfl rfl ?_
  refine jgr_12 (pc := 31) hC 22 (by decide) rfl kf_X12_90 dX12_comes_31 ka0 (ly_12_22 hL ka0).1 ?_
  refine j_aload_n (pc := 34) hC 0 0 dX12_comes_34 rfl rfl ?_
  refine jgi_12 (pc := 35) hC 24 (by decide) rfl kf_X12_293 dX12_comes_35 ka0 ?_
  refine j_iload (pc := 38) hC 4 dX12_comes_38 rfl ?_
  obtain ⟨i10, h⟩ := jin_some h
  obtain ⟨m11, e12, h⟩ := jbd_ex h
  refine j_iast (pc := 40) hC dX12_comes_40 (ly_12_22 hL ka0).2.1 (ly_12_22 hL ka0).2.2 i10 e12 ?_
  refine j_aload_n (pc := 41) hC 0 0 dX12_comes_41 rfl rfl ?_
  refine j_dup (pc := 42) hC dX12_comes_42 rfl ?_
  refine jgi_12 (pc := 43) hC 24 (by decide) rfl kf_X12_293 dX12_comes_43 ka0 ?_
  refine j_iconst (pc := 46) hC (1 : Int32) dX12_comes_46 (by decide) ?_
  refine j_iadd (pc := 47) hC dX12_comes_47 ?_
  obtain ⟨m13, e14, h⟩ := jbd_ex h
  refine jpi_12 (pc := 48) hC 24 (by decide) rfl kf_X12_293 dX12_comes_48 rfl (by decide) ka0 e14 ?_
  refine j_aload_n (pc := 51) hC 0 0 dX12_comes_51 rfl rfl ?_
  refine jgi_12 (pc := 52) hC 24 (by decide) rfl kf_X12_293 dX12_comes_52 ka0 ?_
  refine j_iconst (pc := 55) hC (1 : Int32) dX12_comes_55 (by decide) ?_
  refine j_isub (pc := 56) hC dX12_comes_56 ?_
  obtain ⟨rfl, rfl⟩ := Prod.mk.inj (Option.some.inj h)
  exact j_iret (pc := 57) hC dX12_comes_57 rfl
theorem dX12_readsCell_0 : decode cX12_readsCell 0 = .ok (.aload_n 0, 1) := by decide +kernel
theorem dX12_readsCell_1 : decode cX12_readsCell 1 = .ok (.ldc_w 296, 3) := by decide +kernel
theorem dX12_readsCell_4 : decode cX12_readsCell 4 = .ok (.invokevirtual 50, 3) := by decide +kernel
theorem dX12_readsCell_7 : decode cX12_readsCell 7 = .ok (.istore_n 3, 1) := by decide +kernel
theorem dX12_readsCell_8 : decode cX12_readsCell 8 = .ok (.iload_n 3, 1) := by decide +kernel
theorem dX12_readsCell_9 : decode cX12_readsCell 9 = .ok (.ifCond .ge 7, 3) := by decide +kernel
theorem dX12_readsCell_12 : decode cX12_readsCell 12 = .ok (.iconst (-1), 1) := by decide +kernel
theorem dX12_readsCell_13 : decode cX12_readsCell 13 = .ok (.goto 7, 3) := by decide +kernel
theorem dX12_readsCell_16 : decode cX12_readsCell 16 = .ok (.aload_n 0, 1) := by decide +kernel
theorem dX12_readsCell_17 : decode cX12_readsCell 17 = .ok (.invokevirtual 298, 3) := by decide +kernel
theorem dX12_readsCell_20 : decode cX12_readsCell 20 = .ok (.istore 4, 2) := by decide +kernel
theorem dX12_readsCell_22 : decode cX12_readsCell 22 = .ok (.iload 4, 2) := by decide +kernel
theorem dX12_readsCell_24 : decode cX12_readsCell 24 = .ok (.ifCond .ge 5, 3) := by decide +kernel
theorem dX12_readsCell_27 : decode cX12_readsCell 27 = .ok (.iconst 0, 1) := by decide +kernel
theorem dX12_readsCell_28 : decode cX12_readsCell 28 = .ok (.ireturn, 1) := by decide +kernel
theorem dX12_readsCell_29 : decode cX12_readsCell 29 = .ok (.aload_n 0, 1) := by decide +kernel
theorem dX12_readsCell_30 : decode cX12_readsCell 30 = .ok (.iload_n 3, 1) := by decide +kernel
theorem dX12_readsCell_31 : decode cX12_readsCell 31 = .ok (.ifCond .ne 7, 3) := by decide +kernel
theorem dX12_readsCell_34 : decode cX12_readsCell 34 = .ok (.iconst 0, 1) := by decide +kernel
theorem dX12_readsCell_35 : decode cX12_readsCell 35 = .ok (.goto 4, 3) := by decide +kernel
theorem dX12_readsCell_38 : decode cX12_readsCell 38 = .ok (.iconst 1, 1) := by decide +kernel
theorem dX12_readsCell_39 : decode cX12_readsCell 39 = .ok (.iload_n 1, 1) := by decide +kernel
theorem dX12_readsCell_40 : decode cX12_readsCell 40 = .ok (.iload_n 3, 1) := by decide +kernel
theorem dX12_readsCell_41 : decode cX12_readsCell 41 = .ok (.iconst 2, 1) := by decide +kernel
theorem dX12_readsCell_42 : decode cX12_readsCell 42 = .ok (.if_icmp .ne 9, 3) := by decide +kernel
theorem dX12_readsCell_45 : decode cX12_readsCell 45 = .ok (.iload 4, 2) := by decide +kernel
theorem dX12_readsCell_47 : decode cX12_readsCell 47 = .ok (.ineg, 1) := by decide +kernel
theorem dX12_readsCell_48 : decode cX12_readsCell 48 = .ok (.goto 5, 3) := by decide +kernel
theorem dX12_readsCell_51 : decode cX12_readsCell 51 = .ok (.iload 4, 2) := by decide +kernel
theorem dX12_readsCell_53 : decode cX12_readsCell 53 = .ok (.iload_n 2, 1) := by decide +kernel
theorem dX12_readsCell_54 : decode cX12_readsCell 54 = .ok (.invokevirtual 301, 3) := by decide +kernel
theorem dX12_readsCell_57 : decode cX12_readsCell 57 = .ok (.pop, 1) := by decide +kernel
theorem dX12_readsCell_58 : decode cX12_readsCell 58 = .ok (.iconst 1, 1) := by decide +kernel
theorem dX12_readsCell_59 : decode cX12_readsCell 59 = .ok (.ireturn, 1) := by decide +kernel
def f_X12_readsCell (a0 : Nat) (x1 : Int32) (x2 : Int32) (μ : jM) : Option (Int32 × jM) :=
  jcl2 (f_X12_takesOf a0 19 μ) (fun v1 m2 => jbd (fun (t4 : Int32) (m5 : jM) => (if (0 : Int32) ≤ t4 then jcl2 (f_X12_comes a0 ((if v1 = (0 : Int32) then (0 : Int32) else (1 : Int32))) x1 ((if v1 = (2 : Int32) then -t4 else t4)) x2 m5) (fun v12 m13 => some (((1 : Int32), m13))) else some (((0 : Int32), m5)))) (fun k6 => (if (0 : Int32) ≤ v1 then jcl2 (f_X12_two a0 m2) (fun v16 m17 => k6 v16 m17) else k6 (-1 : Int32) m2)))
set_option maxHeartbeats 4000000 in
set_option maxRecDepth 100000 in
theorem c_X12_readsCell {l : Launch} {G : jG} {L : jL} (hL : jOKL L) {a0 : Nat} {x1 : Int32} {x2 : Int32} (ka0 : jK L a0 12) {μ μ' : jM} {r : Int32} (h : f_X12_readsCell a0 x1 x2 μ = some ((r, μ'))) : jCt l G L 9 yX12_readsCell cX12_readsCell 5 (some .boolean) [.ref (L.2.2 a0), .int x1, .int x2] μ (some (.int r)) μ' := by
  refine jCt_of (by decide) (Nat.le_of_ble_eq_true rfl) (fun X hC hX hR => ?_)
  subst hX
  have hC : jC X G cX12_readsCell 5 RX12 (some .boolean) := hC
  unfold f_X12_readsCell at h
  show jJ X G 5 L 0 0 (jQM X G L (some (.int r)) μ' 0 0) 0 [(0, .ref (L.2.2 a0)), (1, .int x1), (2, .int x2)] [] μ
  refine j_aload_n (pc := 0) hC 0 0 dX12_readsCell_0 rfl rfl ?_
  refine j_ldcSw (pc := 1) hC 19 ks_X12_296 dX12_readsCell_1 ?_
  obtain ⟨v1, m2, e3, h⟩ := jcl2_some h
  refine j_vi (pc := 4) hC hR [.ref (G.2.2.2.1 19)] iy_X12_takesOf (q := (RX12, TX12, 40)) (ci := 12) rfl rfl (by decide) km_X12_50 dX12_readsCell_4 rfl (by decide) ka0 (c_X12_takesOf hL ka0 (by decide) e3) (by decide) (Nat.le_of_ble_eq_true rfl) rfl ?_
  refine j_istore_n (pc := 7) hC 3 [(3, .int v1), (0, .ref (L.2.2 a0)), (1, .int x1), (2, .int x2)] dX12_readsCell_7 rfl (by decide) rfl rfl ?_
  refine j_iload_n (pc := 8) hC 3 0 dX12_readsCell_8 rfl rfl ?_
  obtain ⟨k6, e8, h⟩ := jbd_ex h
  have q7 : ∀ (t4 : Int32) (m5 : jM), k6 t4 m5 = some ((r, μ')) → jJ X G 5 L 0 0 (jQM X G L (some (.int r)) μ' 0 0) 20 [(0, .ref (L.2.2 a0)), (1, .int x1), (2, .int x2), (3, .int v1)] [.int t4] m5 := by
    intro t4 m5 h
    rw [e8] at h
    try dsimp only at h
    refine j_istore (pc := 20) hC [(4, .int t4), (0, .ref (L.2.2 a0)), (1, .int x1), (2, .int x2), (3, .int v1)] dX12_readsCell_20 (by decide) rfl rfl ?_
    refine j_iload (pc := 22) hC 0 dX12_readsCell_22 rfl ?_
    refine j_if_ge (pc := 24) hC 29 dX12_readsCell_24 (by decide) (fun c9 => ?_) (fun c9 => ?_)
    · rw [if_pos c9] at h
      refine j_aload_n (pc := 29) hC 0 1 dX12_readsCell_29 rfl rfl ?_
      refine j_iload_n (pc := 30) hC 3 4 dX12_readsCell_30 rfl rfl ?_
      refine jmg (B := jJ X G 5 L 0 0 (jQM X G L (some (.int r)) μ' 0 0) 39 [(4, .int t4), (0, .ref (L.2.2 a0)), (1, .int x1), (2, .int x2), (3, .int v1)] [.int ((if v1 = (0 : Int32) then (0 : Int32) else (1 : Int32))), .ref (L.2.2 a0)] m5) (fun hj => ?_) ?_
      · refine j_if_ne (pc := 31) hC 38 dX12_readsCell_31 (by decide) (fun c10 => ?_) (fun c10 => ?_)
        · rw [if_neg c10] at hj
          refine j_iconst (pc := 38) hC (1 : Int32) dX12_readsCell_38 (by decide) ?_
          exact hj
        · rw [if_pos c10] at hj
          refine j_iconst (pc := 34) hC (0 : Int32) dX12_readsCell_34 (by decide) ?_
          refine j_goto (pc := 35) hC 39 dX12_readsCell_35 (by decide) ?_
          exact hj
      refine j_iload_n (pc := 39) hC 1 2 dX12_readsCell_39 rfl rfl ?_
      refine j_iload_n (pc := 40) hC 3 4 dX12_readsCell_40 rfl rfl ?_
      refine j_iconst (pc := 41) hC (2 : Int32) dX12_readsCell_41 (by decide) ?_
      refine jmg (B := jJ X G 5 L 0 0 (jQM X G L (some (.int r)) μ' 0 0) 53 [(4, .int t4), (0, .ref (L.2.2 a0)), (1, .int x1), (2, .int x2), (3, .int v1)] [.int ((if v1 = (2 : Int32) then -t4 else t4)), .int x1, .int ((if v1 = (0 : Int32) then (0 : Int32) else (1 : Int32))), .ref (L.2.2 a0)] m5) (fun hj => ?_) ?_
      · refine j_icmp_ne (pc := 42) hC 51 dX12_readsCell_42 (by decide) (fun c11 => ?_) (fun c11 => ?_)
        · rw [if_neg c11] at hj
          refine j_iload (pc := 51) hC 0 dX12_readsCell_51 rfl ?_
          exact hj
        · rw [if_pos c11] at hj
          refine j_iload (pc := 45) hC 0 dX12_readsCell_45 rfl ?_
          refine j_ineg (pc := 47) hC dX12_readsCell_47 ?_
          refine j_goto (pc := 48) hC 53 dX12_readsCell_48 (by decide) ?_
          exact hj
      refine j_iload_n (pc := 53) hC 2 3 dX12_readsCell_53 rfl rfl ?_
      obtain ⟨v12, m13, e14, h⟩ := jcl2_some h
      refine j_vi (pc := 54) hC hR [.int ((if v1 = (0 : Int32) then (0 : Int32) else (1 : Int32))), .int x1, .int ((if v1 = (2 : Int32) then -t4 else t4)), .int x2] iy_X12_comes (q := (RX12, TX12, 40)) (ci := 12) rfl rfl (by decide) km_X12_301 dX12_readsCell_54 rfl (by decide) ka0 (c_X12_comes hL ka0 e14) (by decide) (Nat.le_of_ble_eq_true rfl) rfl ?_
      refine j_pop (pc := 57) hC dX12_readsCell_57 rfl ?_
      refine j_iconst (pc := 58) hC (1 : Int32) dX12_readsCell_58 (by decide) ?_
      obtain ⟨rfl, rfl⟩ := Prod.mk.inj (Option.some.inj h)
      exact j_bret (pc := 59) hC dX12_readsCell_59 rfl rfl
    · rw [if_neg c9] at h
      refine j_iconst (pc := 27) hC (0 : Int32) dX12_readsCell_27 (by decide) ?_
      obtain ⟨rfl, rfl⟩ := Prod.mk.inj (Option.some.inj h)
      exact j_bret (pc := 28) hC dX12_readsCell_28 rfl rfl
  refine j_if_ge (pc := 9) hC 16 dX12_readsCell_9 (by decide) (fun c15 => ?_) (fun c15 => ?_)
  · rw [if_pos c15] at h
    refine j_aload_n (pc := 16) hC 0 1 dX12_readsCell_16 rfl rfl ?_
    obtain ⟨v16, m17, e18, h⟩ := jcl2_some h
    refine j_vi (pc := 17) hC hR [] iy_X12_two (q := (RX12, TX12, 40)) (ci := 12) rfl rfl (by decide) km_X12_298 dX12_readsCell_17 rfl (by decide) ka0 (c_X12_two hL ka0 e18) (by decide) (Nat.le_of_ble_eq_true rfl) rfl ?_
    exact j_lv [1, 2, 3, 0] rfl (q7 _ _ h)
  · rw [if_neg c15] at h
    refine j_iconst (pc := 12) hC (-1 : Int32) dX12_readsCell_12 (by decide) ?_
    refine j_goto (pc := 13) hC 20 dX12_readsCell_13 (by decide) ?_
    exact j_lv [1, 2, 3, 0] rfl (q7 _ _ h)
theorem dX12_readsVar_0 : decode cX12_readsVar 0 = .ok (.aload_n 0, 1) := by decide +kernel
theorem dX12_readsVar_1 : decode cX12_readsVar 1 = .ok (.ldc_w 305, 3) := by decide +kernel
theorem dX12_readsVar_4 : decode cX12_readsVar 4 = .ok (.invokevirtual 50, 3) := by decide +kernel
theorem dX12_readsVar_7 : decode cX12_readsVar 7 = .ok (.istore_n 3, 1) := by decide +kernel
theorem dX12_readsVar_8 : decode cX12_readsVar 8 = .ok (.iload_n 3, 1) := by decide +kernel
theorem dX12_readsVar_9 : decode cX12_readsVar 9 = .ok (.ifCond .ge 7, 3) := by decide +kernel
theorem dX12_readsVar_12 : decode cX12_readsVar 12 = .ok (.iconst (-1), 1) := by decide +kernel
theorem dX12_readsVar_13 : decode cX12_readsVar 13 = .ok (.goto 10, 3) := by decide +kernel
theorem dX12_readsVar_16 : decode cX12_readsVar 16 = .ok (.aload_n 0, 1) := by decide +kernel
theorem dX12_readsVar_17 : decode cX12_readsVar 17 = .ok (.ldc_w 307, 3) := by decide +kernel
theorem dX12_readsVar_20 : decode cX12_readsVar 20 = .ok (.invokevirtual 50, 3) := by decide +kernel
theorem dX12_readsVar_23 : decode cX12_readsVar 23 = .ok (.istore 4, 2) := by decide +kernel
theorem dX12_readsVar_25 : decode cX12_readsVar 25 = .ok (.iload 4, 2) := by decide +kernel
theorem dX12_readsVar_27 : decode cX12_readsVar 27 = .ok (.ifCond .ge 5, 3) := by decide +kernel
theorem dX12_readsVar_30 : decode cX12_readsVar 30 = .ok (.iconst 0, 1) := by decide +kernel
theorem dX12_readsVar_31 : decode cX12_readsVar 31 = .ok (.ireturn, 1) := by decide +kernel
theorem dX12_readsVar_32 : decode cX12_readsVar 32 = .ok (.aload_n 0, 1) := by decide +kernel
theorem dX12_readsVar_33 : decode cX12_readsVar 33 = .ok (.iconst 2, 1) := by decide +kernel
theorem dX12_readsVar_34 : decode cX12_readsVar 34 = .ok (.iload_n 3, 1) := by decide +kernel
theorem dX12_readsVar_35 : decode cX12_readsVar 35 = .ok (.iadd, 1) := by decide +kernel
theorem dX12_readsVar_36 : decode cX12_readsVar 36 = .ok (.iload_n 1, 1) := by decide +kernel
theorem dX12_readsVar_37 : decode cX12_readsVar 37 = .ok (.iload 4, 2) := by decide +kernel
theorem dX12_readsVar_39 : decode cX12_readsVar 39 = .ok (.iload_n 2, 1) := by decide +kernel
theorem dX12_readsVar_40 : decode cX12_readsVar 40 = .ok (.invokevirtual 301, 3) := by decide +kernel
theorem dX12_readsVar_43 : decode cX12_readsVar 43 = .ok (.pop, 1) := by decide +kernel
theorem dX12_readsVar_44 : decode cX12_readsVar 44 = .ok (.iconst 1, 1) := by decide +kernel
theorem dX12_readsVar_45 : decode cX12_readsVar 45 = .ok (.ireturn, 1) := by decide +kernel
def f_X12_readsVar (a0 : Nat) (x1 : Int32) (x2 : Int32) (μ : jM) : Option (Int32 × jM) :=
  jcl2 (f_X12_takesOf a0 20 μ) (fun v1 m2 => jbd (fun (t4 : Int32) (m5 : jM) => (if (0 : Int32) ≤ t4 then jcl2 (f_X12_comes a0 ((2 : Int32) + v1) x1 t4 x2 m5) (fun v10 m11 => some (((1 : Int32), m11))) else some (((0 : Int32), m5)))) (fun k6 => (if (0 : Int32) ≤ v1 then jcl2 (f_X12_takesOf a0 21 m2) (fun v14 m15 => k6 v14 m15) else k6 (-1 : Int32) m2)))
set_option maxHeartbeats 4000000 in
set_option maxRecDepth 100000 in
theorem c_X12_readsVar {l : Launch} {G : jG} {L : jL} (hL : jOKL L) {a0 : Nat} {x1 : Int32} {x2 : Int32} (ka0 : jK L a0 12) {μ μ' : jM} {r : Int32} (h : f_X12_readsVar a0 x1 x2 μ = some ((r, μ'))) : jCt l G L 8 yX12_readsVar cX12_readsVar 5 (some .boolean) [.ref (L.2.2 a0), .int x1, .int x2] μ (some (.int r)) μ' := by
  refine jCt_of (by decide) (Nat.le_of_ble_eq_true rfl) (fun X hC hX hR => ?_)
  subst hX
  have hC : jC X G cX12_readsVar 5 RX12 (some .boolean) := hC
  unfold f_X12_readsVar at h
  show jJ X G 5 L 0 0 (jQM X G L (some (.int r)) μ' 0 0) 0 [(0, .ref (L.2.2 a0)), (1, .int x1), (2, .int x2)] [] μ
  refine j_aload_n (pc := 0) hC 0 0 dX12_readsVar_0 rfl rfl ?_
  refine j_ldcSw (pc := 1) hC 20 ks_X12_305 dX12_readsVar_1 ?_
  obtain ⟨v1, m2, e3, h⟩ := jcl2_some h
  refine j_vi (pc := 4) hC hR [.ref (G.2.2.2.1 20)] iy_X12_takesOf (q := (RX12, TX12, 40)) (ci := 12) rfl rfl (by decide) km_X12_50 dX12_readsVar_4 rfl (by decide) ka0 (c_X12_takesOf hL ka0 (by decide) e3) (by decide) (Nat.le_of_ble_eq_true rfl) rfl ?_
  refine j_istore_n (pc := 7) hC 3 [(3, .int v1), (0, .ref (L.2.2 a0)), (1, .int x1), (2, .int x2)] dX12_readsVar_7 rfl (by decide) rfl rfl ?_
  refine j_iload_n (pc := 8) hC 3 0 dX12_readsVar_8 rfl rfl ?_
  obtain ⟨k6, e8, h⟩ := jbd_ex h
  have q7 : ∀ (t4 : Int32) (m5 : jM), k6 t4 m5 = some ((r, μ')) → jJ X G 5 L 0 0 (jQM X G L (some (.int r)) μ' 0 0) 23 [(0, .ref (L.2.2 a0)), (1, .int x1), (2, .int x2), (3, .int v1)] [.int t4] m5 := by
    intro t4 m5 h
    rw [e8] at h
    try dsimp only at h
    refine j_istore (pc := 23) hC [(4, .int t4), (0, .ref (L.2.2 a0)), (1, .int x1), (2, .int x2), (3, .int v1)] dX12_readsVar_23 (by decide) rfl rfl ?_
    refine j_iload (pc := 25) hC 0 dX12_readsVar_25 rfl ?_
    refine j_if_ge (pc := 27) hC 32 dX12_readsVar_27 (by decide) (fun c9 => ?_) (fun c9 => ?_)
    · rw [if_pos c9] at h
      refine j_aload_n (pc := 32) hC 0 1 dX12_readsVar_32 rfl rfl ?_
      refine j_iconst (pc := 33) hC (2 : Int32) dX12_readsVar_33 (by decide) ?_
      refine j_iload_n (pc := 34) hC 3 4 dX12_readsVar_34 rfl rfl ?_
      refine j_iadd (pc := 35) hC dX12_readsVar_35 ?_
      refine j_iload_n (pc := 36) hC 1 2 dX12_readsVar_36 rfl rfl ?_
      refine j_iload (pc := 37) hC 0 dX12_readsVar_37 rfl ?_
      refine j_iload_n (pc := 39) hC 2 3 dX12_readsVar_39 rfl rfl ?_
      obtain ⟨v10, m11, e12, h⟩ := jcl2_some h
      refine j_vi (pc := 40) hC hR [.int ((2 : Int32) + v1), .int x1, .int t4, .int x2] iy_X12_comes (q := (RX12, TX12, 40)) (ci := 12) rfl rfl (by decide) km_X12_301 dX12_readsVar_40 rfl (by decide) ka0 (c_X12_comes hL ka0 e12) (by decide) (Nat.le_of_ble_eq_true rfl) rfl ?_
      refine j_pop (pc := 43) hC dX12_readsVar_43 rfl ?_
      refine j_iconst (pc := 44) hC (1 : Int32) dX12_readsVar_44 (by decide) ?_
      obtain ⟨rfl, rfl⟩ := Prod.mk.inj (Option.some.inj h)
      exact j_bret (pc := 45) hC dX12_readsVar_45 rfl rfl
    · rw [if_neg c9] at h
      refine j_iconst (pc := 30) hC (0 : Int32) dX12_readsVar_30 (by decide) ?_
      obtain ⟨rfl, rfl⟩ := Prod.mk.inj (Option.some.inj h)
      exact j_bret (pc := 31) hC dX12_readsVar_31 rfl rfl
  refine j_if_ge (pc := 9) hC 16 dX12_readsVar_9 (by decide) (fun c13 => ?_) (fun c13 => ?_)
  · rw [if_pos c13] at h
    refine j_aload_n (pc := 16) hC 0 1 dX12_readsVar_16 rfl rfl ?_
    refine j_ldcSw (pc := 17) hC 21 ks_X12_307 dX12_readsVar_17 ?_
    obtain ⟨v14, m15, e16, h⟩ := jcl2_some h
    refine j_vi (pc := 20) hC hR [.ref (G.2.2.2.1 21)] iy_X12_takesOf (q := (RX12, TX12, 40)) (ci := 12) rfl rfl (by decide) km_X12_50 dX12_readsVar_20 rfl (by decide) ka0 (c_X12_takesOf hL ka0 (by decide) e16) (by decide) (Nat.le_of_ble_eq_true rfl) rfl ?_
    exact j_lv [1, 2, 3, 0] rfl (q7 _ _ h)
  · rw [if_neg c13] at h
    refine j_iconst (pc := 12) hC (-1 : Int32) dX12_readsVar_12 (by decide) ?_
    refine j_goto (pc := 13) hC 23 dX12_readsVar_13 (by decide) ?_
    exact j_lv [1, 2, 3, 0] rfl (q7 _ _ h)
theorem dX12_readsKey_0 : decode cX12_readsKey 0 = .ok (.aload_n 0, 1) := by decide +kernel
theorem dX12_readsKey_1 : decode cX12_readsKey 1 = .ok (.ldc 48, 2) := by decide +kernel
theorem dX12_readsKey_3 : decode cX12_readsKey 3 = .ok (.invokevirtual 50, 3) := by decide +kernel
theorem dX12_readsKey_6 : decode cX12_readsKey 6 = .ok (.istore_n 2, 1) := by decide +kernel
theorem dX12_readsKey_7 : decode cX12_readsKey 7 = .ok (.iload_n 2, 1) := by decide +kernel
theorem dX12_readsKey_8 : decode cX12_readsKey 8 = .ok (.ifCond .ge 7, 3) := by decide +kernel
theorem dX12_readsKey_11 : decode cX12_readsKey 11 = .ok (.iconst (-1), 1) := by decide +kernel
theorem dX12_readsKey_12 : decode cX12_readsKey 12 = .ok (.goto 10, 3) := by decide +kernel
theorem dX12_readsKey_15 : decode cX12_readsKey 15 = .ok (.aload_n 0, 1) := by decide +kernel
theorem dX12_readsKey_16 : decode cX12_readsKey 16 = .ok (.ldc_w 309, 3) := by decide +kernel
theorem dX12_readsKey_19 : decode cX12_readsKey 19 = .ok (.invokevirtual 50, 3) := by decide +kernel
theorem dX12_readsKey_22 : decode cX12_readsKey 22 = .ok (.istore_n 3, 1) := by decide +kernel
theorem dX12_readsKey_23 : decode cX12_readsKey 23 = .ok (.iload_n 3, 1) := by decide +kernel
theorem dX12_readsKey_24 : decode cX12_readsKey 24 = .ok (.ifCond .ge 5, 3) := by decide +kernel
theorem dX12_readsKey_27 : decode cX12_readsKey 27 = .ok (.iconst 0, 1) := by decide +kernel
theorem dX12_readsKey_28 : decode cX12_readsKey 28 = .ok (.ireturn, 1) := by decide +kernel
theorem dX12_readsKey_29 : decode cX12_readsKey 29 = .ok (.iload_n 3, 1) := by decide +kernel
theorem dX12_readsKey_30 : decode cX12_readsKey 30 = .ok (.iconst 1, 1) := by decide +kernel
theorem dX12_readsKey_31 : decode cX12_readsKey 31 = .ok (.if_icmp .ne 7, 3) := by decide +kernel
theorem dX12_readsKey_34 : decode cX12_readsKey 34 = .ok (.iconst 0, 1) := by decide +kernel
theorem dX12_readsKey_35 : decode cX12_readsKey 35 = .ok (.goto 7, 3) := by decide +kernel
theorem dX12_readsKey_38 : decode cX12_readsKey 38 = .ok (.aload_n 0, 1) := by decide +kernel
theorem dX12_readsKey_39 : decode cX12_readsKey 39 = .ok (.invokevirtual 298, 3) := by decide +kernel
theorem dX12_readsKey_42 : decode cX12_readsKey 42 = .ok (.istore 4, 2) := by decide +kernel
theorem dX12_readsKey_44 : decode cX12_readsKey 44 = .ok (.iload 4, 2) := by decide +kernel
theorem dX12_readsKey_46 : decode cX12_readsKey 46 = .ok (.ifCond .ge 5, 3) := by decide +kernel
theorem dX12_readsKey_49 : decode cX12_readsKey 49 = .ok (.iconst 0, 1) := by decide +kernel
theorem dX12_readsKey_50 : decode cX12_readsKey 50 = .ok (.ireturn, 1) := by decide +kernel
theorem dX12_readsKey_51 : decode cX12_readsKey 51 = .ok (.aload_n 0, 1) := by decide +kernel
theorem dX12_readsKey_52 : decode cX12_readsKey 52 = .ok (.bipush 6, 2) := by decide +kernel
theorem dX12_readsKey_54 : decode cX12_readsKey 54 = .ok (.iload_n 3, 1) := by decide +kernel
theorem dX12_readsKey_55 : decode cX12_readsKey 55 = .ok (.iadd, 1) := by decide +kernel
theorem dX12_readsKey_56 : decode cX12_readsKey 56 = .ok (.iload_n 2, 1) := by decide +kernel
theorem dX12_readsKey_57 : decode cX12_readsKey 57 = .ok (.iload 4, 2) := by decide +kernel
theorem dX12_readsKey_59 : decode cX12_readsKey 59 = .ok (.iload_n 1, 1) := by decide +kernel
theorem dX12_readsKey_60 : decode cX12_readsKey 60 = .ok (.invokevirtual 301, 3) := by decide +kernel
theorem dX12_readsKey_63 : decode cX12_readsKey 63 = .ok (.pop, 1) := by decide +kernel
theorem dX12_readsKey_64 : decode cX12_readsKey 64 = .ok (.iconst 1, 1) := by decide +kernel
theorem dX12_readsKey_65 : decode cX12_readsKey 65 = .ok (.ireturn, 1) := by decide +kernel
def f_X12_readsKey (a0 : Nat) (x1 : Int32) (μ : jM) : Option (Int32 × jM) :=
  jcl2 (f_X12_takesOf a0 15 μ) (fun v1 m2 => jbd (fun (t4 : Int32) (m5 : jM) => (if (0 : Int32) ≤ t4 then jbd (fun (t10 : Int32) (m11 : jM) => (if (0 : Int32) ≤ t10 then jcl2 (f_X12_comes a0 ((6 : Int32) + t4) v1 t10 x1 m11) (fun v16 m17 => some (((1 : Int32), m17))) else some (((0 : Int32), m11)))) (fun k12 => (if t4 = (1 : Int32) then k12 (0 : Int32) m5 else jcl2 (f_X12_two a0 m5) (fun v20 m21 => k12 v20 m21))) else some (((0 : Int32), m5)))) (fun k6 => (if (0 : Int32) ≤ v1 then jcl2 (f_X12_takesOf a0 22 m2) (fun v24 m25 => k6 v24 m25) else k6 (-1 : Int32) m2)))
set_option maxHeartbeats 4000000 in
set_option maxRecDepth 100000 in
theorem c_X12_readsKey {l : Launch} {G : jG} {L : jL} (hL : jOKL L) {a0 : Nat} {x1 : Int32} (ka0 : jK L a0 12) {μ μ' : jM} {r : Int32} (h : f_X12_readsKey a0 x1 μ = some ((r, μ'))) : jCt l G L 9 yX12_readsKey cX12_readsKey 5 (some .boolean) [.ref (L.2.2 a0), .int x1] μ (some (.int r)) μ' := by
  refine jCt_of (by decide) (Nat.le_of_ble_eq_true rfl) (fun X hC hX hR => ?_)
  subst hX
  have hC : jC X G cX12_readsKey 5 RX12 (some .boolean) := hC
  unfold f_X12_readsKey at h
  show jJ X G 5 L 0 0 (jQM X G L (some (.int r)) μ' 0 0) 0 [(0, .ref (L.2.2 a0)), (1, .int x1)] [] μ
  refine j_aload_n (pc := 0) hC 0 0 dX12_readsKey_0 rfl rfl ?_
  refine j_ldcS (pc := 1) hC 15 ks_X12_48 dX12_readsKey_1 ?_
  obtain ⟨v1, m2, e3, h⟩ := jcl2_some h
  refine j_vi (pc := 3) hC hR [.ref (G.2.2.2.1 15)] iy_X12_takesOf (q := (RX12, TX12, 40)) (ci := 12) rfl rfl (by decide) km_X12_50 dX12_readsKey_3 rfl (by decide) ka0 (c_X12_takesOf hL ka0 (by decide) e3) (by decide) (Nat.le_of_ble_eq_true rfl) rfl ?_
  refine j_istore_n (pc := 6) hC 2 [(2, .int v1), (0, .ref (L.2.2 a0)), (1, .int x1)] dX12_readsKey_6 rfl (by decide) rfl rfl ?_
  refine j_iload_n (pc := 7) hC 2 0 dX12_readsKey_7 rfl rfl ?_
  obtain ⟨k6, e8, h⟩ := jbd_ex h
  have q7 : ∀ (t4 : Int32) (m5 : jM), k6 t4 m5 = some ((r, μ')) → jJ X G 5 L 0 0 (jQM X G L (some (.int r)) μ' 0 0) 22 [(0, .ref (L.2.2 a0)), (1, .int x1), (2, .int v1)] [.int t4] m5 := by
    intro t4 m5 h
    rw [e8] at h
    try dsimp only at h
    refine j_istore_n (pc := 22) hC 3 [(3, .int t4), (0, .ref (L.2.2 a0)), (1, .int x1), (2, .int v1)] dX12_readsKey_22 rfl (by decide) rfl rfl ?_
    refine j_iload_n (pc := 23) hC 3 0 dX12_readsKey_23 rfl rfl ?_
    refine j_if_ge (pc := 24) hC 29 dX12_readsKey_24 (by decide) (fun c9 => ?_) (fun c9 => ?_)
    · rw [if_pos c9] at h
      refine j_iload_n (pc := 29) hC 3 0 dX12_readsKey_29 rfl rfl ?_
      refine j_iconst (pc := 30) hC (1 : Int32) dX12_readsKey_30 (by decide) ?_
      obtain ⟨k12, e14, h⟩ := jbd_ex h
      have q13 : ∀ (t10 : Int32) (m11 : jM), k12 t10 m11 = some ((r, μ')) → jJ X G 5 L 0 0 (jQM X G L (some (.int r)) μ' 0 0) 42 [(0, .ref (L.2.2 a0)), (1, .int x1), (2, .int v1), (3, .int t4)] [.int t10] m11 := by
        intro t10 m11 h
        rw [e14] at h
        try dsimp only at h
        refine j_istore (pc := 42) hC [(4, .int t10), (0, .ref (L.2.2 a0)), (1, .int x1), (2, .int v1), (3, .int t4)] dX12_readsKey_42 (by decide) rfl rfl ?_
        refine j_iload (pc := 44) hC 0 dX12_readsKey_44 rfl ?_
        refine j_if_ge (pc := 46) hC 51 dX12_readsKey_46 (by decide) (fun c15 => ?_) (fun c15 => ?_)
        · rw [if_pos c15] at h
          refine j_aload_n (pc := 51) hC 0 1 dX12_readsKey_51 rfl rfl ?_
          refine j_bipush (pc := 52) hC (6 : Int32) dX12_readsKey_52 (by decide) ?_
          refine j_iload_n (pc := 54) hC 3 4 dX12_readsKey_54 rfl rfl ?_
          refine j_iadd (pc := 55) hC dX12_readsKey_55 ?_
          refine j_iload_n (pc := 56) hC 2 3 dX12_readsKey_56 rfl rfl ?_
          refine j_iload (pc := 57) hC 0 dX12_readsKey_57 rfl ?_
          refine j_iload_n (pc := 59) hC 1 2 dX12_readsKey_59 rfl rfl ?_
          obtain ⟨v16, m17, e18, h⟩ := jcl2_some h
          refine j_vi (pc := 60) hC hR [.int ((6 : Int32) + t4), .int v1, .int t10, .int x1] iy_X12_comes (q := (RX12, TX12, 40)) (ci := 12) rfl rfl (by decide) km_X12_301 dX12_readsKey_60 rfl (by decide) ka0 (c_X12_comes hL ka0 e18) (by decide) (Nat.le_of_ble_eq_true rfl) rfl ?_
          refine j_pop (pc := 63) hC dX12_readsKey_63 rfl ?_
          refine j_iconst (pc := 64) hC (1 : Int32) dX12_readsKey_64 (by decide) ?_
          obtain ⟨rfl, rfl⟩ := Prod.mk.inj (Option.some.inj h)
          exact j_bret (pc := 65) hC dX12_readsKey_65 rfl rfl
        · rw [if_neg c15] at h
          refine j_iconst (pc := 49) hC (0 : Int32) dX12_readsKey_49 (by decide) ?_
          obtain ⟨rfl, rfl⟩ := Prod.mk.inj (Option.some.inj h)
          exact j_bret (pc := 50) hC dX12_readsKey_50 rfl rfl
      refine j_icmp_ne (pc := 31) hC 38 dX12_readsKey_31 (by decide) (fun c19 => ?_) (fun c19 => ?_)
      · rw [if_neg c19] at h
        refine j_aload_n (pc := 38) hC 0 1 dX12_readsKey_38 rfl rfl ?_
        obtain ⟨v20, m21, e22, h⟩ := jcl2_some h
        refine j_vi (pc := 39) hC hR [] iy_X12_two (q := (RX12, TX12, 40)) (ci := 12) rfl rfl (by decide) km_X12_298 dX12_readsKey_39 rfl (by decide) ka0 (c_X12_two hL ka0 e22) (by decide) (Nat.le_of_ble_eq_true rfl) rfl ?_
        exact j_lv [1, 2, 3, 0] rfl (q13 _ _ h)
      · rw [if_pos c19] at h
        refine j_iconst (pc := 34) hC (0 : Int32) dX12_readsKey_34 (by decide) ?_
        refine j_goto (pc := 35) hC 42 dX12_readsKey_35 (by decide) ?_
        exact j_lv [1, 2, 3, 0] rfl (q13 _ _ h)
    · rw [if_neg c9] at h
      refine j_iconst (pc := 27) hC (0 : Int32) dX12_readsKey_27 (by decide) ?_
      obtain ⟨rfl, rfl⟩ := Prod.mk.inj (Option.some.inj h)
      exact j_bret (pc := 28) hC dX12_readsKey_28 rfl rfl
  refine j_if_ge (pc := 8) hC 15 dX12_readsKey_8 (by decide) (fun c23 => ?_) (fun c23 => ?_)
  · rw [if_pos c23] at h
    refine j_aload_n (pc := 15) hC 0 1 dX12_readsKey_15 rfl rfl ?_
    refine j_ldcSw (pc := 16) hC 22 ks_X12_309 dX12_readsKey_16 ?_
    obtain ⟨v24, m25, e26, h⟩ := jcl2_some h
    refine j_vi (pc := 19) hC hR [.ref (G.2.2.2.1 22)] iy_X12_takesOf (q := (RX12, TX12, 40)) (ci := 12) rfl rfl (by decide) km_X12_50 dX12_readsKey_19 rfl (by decide) ka0 (c_X12_takesOf hL ka0 (by decide) e26) (by decide) (Nat.le_of_ble_eq_true rfl) rfl ?_
    exact j_lv [1, 2, 0] rfl (q7 _ _ h)
  · rw [if_neg c23] at h
    refine j_iconst (pc := 11) hC (-1 : Int32) dX12_readsKey_11 (by decide) ?_
    refine j_goto (pc := 12) hC 22 dX12_readsKey_12 (by decide) ?_
    exact j_lv [1, 2, 0] rfl (q7 _ _ h)
theorem dX12_readsAsked_0 : decode cX12_readsAsked 0 = .ok (.aload_n 0, 1) := by decide +kernel
theorem dX12_readsAsked_1 : decode cX12_readsAsked 1 = .ok (.ldc_w 311, 3) := by decide +kernel
theorem dX12_readsAsked_4 : decode cX12_readsAsked 4 = .ok (.invokevirtual 50, 3) := by decide +kernel
theorem dX12_readsAsked_7 : decode cX12_readsAsked 7 = .ok (.istore_n 2, 1) := by decide +kernel
theorem dX12_readsAsked_8 : decode cX12_readsAsked 8 = .ok (.iload_n 2, 1) := by decide +kernel
theorem dX12_readsAsked_9 : decode cX12_readsAsked 9 = .ok (.ifCond .lt 49, 3) := by decide +kernel
theorem dX12_readsAsked_12 : decode cX12_readsAsked 12 = .ok (.aload_n 0, 1) := by decide +kernel
theorem dX12_readsAsked_13 : decode cX12_readsAsked 13 = .ok (.ldc_w 313, 3) := by decide +kernel
theorem dX12_readsAsked_16 : decode cX12_readsAsked 16 = .ok (.invokevirtual 50, 3) := by decide +kernel
theorem dX12_readsAsked_19 : decode cX12_readsAsked 19 = .ok (.istore_n 3, 1) := by decide +kernel
theorem dX12_readsAsked_20 : decode cX12_readsAsked 20 = .ok (.iload_n 3, 1) := by decide +kernel
theorem dX12_readsAsked_21 : decode cX12_readsAsked 21 = .ok (.ifCond .ge 7, 3) := by decide +kernel
theorem dX12_readsAsked_24 : decode cX12_readsAsked 24 = .ok (.iconst (-1), 1) := by decide +kernel
theorem dX12_readsAsked_25 : decode cX12_readsAsked 25 = .ok (.goto 7, 3) := by decide +kernel
theorem dX12_readsAsked_28 : decode cX12_readsAsked 28 = .ok (.aload_n 0, 1) := by decide +kernel
theorem dX12_readsAsked_29 : decode cX12_readsAsked 29 = .ok (.invokevirtual 298, 3) := by decide +kernel
theorem dX12_readsAsked_32 : decode cX12_readsAsked 32 = .ok (.istore 4, 2) := by decide +kernel
theorem dX12_readsAsked_34 : decode cX12_readsAsked 34 = .ok (.aload_n 0, 1) := by decide +kernel
theorem dX12_readsAsked_35 : decode cX12_readsAsked 35 = .ok (.bipush 9, 2) := by decide +kernel
theorem dX12_readsAsked_37 : decode cX12_readsAsked 37 = .ok (.iload_n 3, 1) := by decide +kernel
theorem dX12_readsAsked_38 : decode cX12_readsAsked 38 = .ok (.iadd, 1) := by decide +kernel
theorem dX12_readsAsked_39 : decode cX12_readsAsked 39 = .ok (.iload_n 2, 1) := by decide +kernel
theorem dX12_readsAsked_40 : decode cX12_readsAsked 40 = .ok (.iload 4, 2) := by decide +kernel
theorem dX12_readsAsked_42 : decode cX12_readsAsked 42 = .ok (.iload_n 1, 1) := by decide +kernel
theorem dX12_readsAsked_43 : decode cX12_readsAsked 43 = .ok (.invokevirtual 301, 3) := by decide +kernel
theorem dX12_readsAsked_46 : decode cX12_readsAsked 46 = .ok (.pop, 1) := by decide +kernel
theorem dX12_readsAsked_47 : decode cX12_readsAsked 47 = .ok (.iload 4, 2) := by decide +kernel
theorem dX12_readsAsked_49 : decode cX12_readsAsked 49 = .ok (.ifCond .lt 7, 3) := by decide +kernel
theorem dX12_readsAsked_52 : decode cX12_readsAsked 52 = .ok (.iconst 1, 1) := by decide +kernel
theorem dX12_readsAsked_53 : decode cX12_readsAsked 53 = .ok (.goto 4, 3) := by decide +kernel
theorem dX12_readsAsked_56 : decode cX12_readsAsked 56 = .ok (.iconst 0, 1) := by decide +kernel
theorem dX12_readsAsked_57 : decode cX12_readsAsked 57 = .ok (.ireturn, 1) := by decide +kernel
theorem dX12_readsAsked_58 : decode cX12_readsAsked 58 = .ok (.aload_n 0, 1) := by decide +kernel
theorem dX12_readsAsked_59 : decode cX12_readsAsked 59 = .ok (.ldc 241, 2) := by decide +kernel
theorem dX12_readsAsked_61 : decode cX12_readsAsked 61 = .ok (.invokevirtual 50, 3) := by decide +kernel
theorem dX12_readsAsked_64 : decode cX12_readsAsked 64 = .ok (.istore_n 3, 1) := by decide +kernel
theorem dX12_readsAsked_65 : decode cX12_readsAsked 65 = .ok (.iload_n 3, 1) := by decide +kernel
theorem dX12_readsAsked_66 : decode cX12_readsAsked 66 = .ok (.ifCond .ge 16, 3) := by decide +kernel
theorem dX12_readsAsked_69 : decode cX12_readsAsked 69 = .ok (.aload_n 0, 1) := by decide +kernel
theorem dX12_readsAsked_70 : decode cX12_readsAsked 70 = .ok (.bipush 107, 2) := by decide +kernel
theorem dX12_readsAsked_72 : decode cX12_readsAsked 72 = .ok (.invokevirtual 247, 3) := by decide +kernel
theorem dX12_readsAsked_75 : decode cX12_readsAsked 75 = .ok (.ifCond .eq 7, 3) := by decide +kernel
theorem dX12_readsAsked_78 : decode cX12_readsAsked 78 = .ok (.iconst 1, 1) := by decide +kernel
theorem dX12_readsAsked_79 : decode cX12_readsAsked 79 = .ok (.goto 4, 3) := by decide +kernel
theorem dX12_readsAsked_82 : decode cX12_readsAsked 82 = .ok (.iconst 0, 1) := by decide +kernel
theorem dX12_readsAsked_83 : decode cX12_readsAsked 83 = .ok (.istore 4, 2) := by decide +kernel
theorem dX12_readsAsked_85 : decode cX12_readsAsked 85 = .ok (.iload_n 3, 1) := by decide +kernel
theorem dX12_readsAsked_86 : decode cX12_readsAsked 86 = .ok (.ifCond .lt 13, 3) := by decide +kernel
theorem dX12_readsAsked_89 : decode cX12_readsAsked 89 = .ok (.aload_n 0, 1) := by decide +kernel
theorem dX12_readsAsked_90 : decode cX12_readsAsked 90 = .ok (.ldc_w 307, 3) := by decide +kernel
theorem dX12_readsAsked_93 : decode cX12_readsAsked 93 = .ok (.invokevirtual 50, 3) := by decide +kernel
theorem dX12_readsAsked_96 : decode cX12_readsAsked 96 = .ok (.goto 18, 3) := by decide +kernel
theorem dX12_readsAsked_99 : decode cX12_readsAsked 99 = .ok (.iload 4, 2) := by decide +kernel
theorem dX12_readsAsked_101 : decode cX12_readsAsked 101 = .ok (.ifCond .eq 12, 3) := by decide +kernel
theorem dX12_readsAsked_104 : decode cX12_readsAsked 104 = .ok (.aload_n 0, 1) := by decide +kernel
theorem dX12_readsAsked_105 : decode cX12_readsAsked 105 = .ok (.ldc 48, 2) := by decide +kernel
theorem dX12_readsAsked_107 : decode cX12_readsAsked 107 = .ok (.invokevirtual 50, 3) := by decide +kernel
theorem dX12_readsAsked_110 : decode cX12_readsAsked 110 = .ok (.goto 4, 3) := by decide +kernel
theorem dX12_readsAsked_113 : decode cX12_readsAsked 113 = .ok (.iconst (-1), 1) := by decide +kernel
theorem dX12_readsAsked_114 : decode cX12_readsAsked 114 = .ok (.istore 5, 2) := by decide +kernel
theorem dX12_readsAsked_116 : decode cX12_readsAsked 116 = .ok (.aload_n 0, 1) := by decide +kernel
theorem dX12_readsAsked_117 : decode cX12_readsAsked 117 = .ok (.iload 4, 2) := by decide +kernel
theorem dX12_readsAsked_119 : decode cX12_readsAsked 119 = .ok (.ifCond .eq 8, 3) := by decide +kernel
theorem dX12_readsAsked_122 : decode cX12_readsAsked 122 = .ok (.bipush 13, 2) := by decide +kernel
theorem dX12_readsAsked_124 : decode cX12_readsAsked 124 = .ok (.goto 5, 3) := by decide +kernel
theorem dX12_readsAsked_127 : decode cX12_readsAsked 127 = .ok (.bipush 12, 2) := by decide +kernel
theorem dX12_readsAsked_129 : decode cX12_readsAsked 129 = .ok (.iload_n 3, 1) := by decide +kernel
theorem dX12_readsAsked_130 : decode cX12_readsAsked 130 = .ok (.iload 5, 2) := by decide +kernel
theorem dX12_readsAsked_132 : decode cX12_readsAsked 132 = .ok (.iload_n 1, 1) := by decide +kernel
theorem dX12_readsAsked_133 : decode cX12_readsAsked 133 = .ok (.invokevirtual 301, 3) := by decide +kernel
theorem dX12_readsAsked_136 : decode cX12_readsAsked 136 = .ok (.pop, 1) := by decide +kernel
theorem dX12_readsAsked_137 : decode cX12_readsAsked 137 = .ok (.iload 5, 2) := by decide +kernel
theorem dX12_readsAsked_139 : decode cX12_readsAsked 139 = .ok (.ifCond .lt 7, 3) := by decide +kernel
theorem dX12_readsAsked_142 : decode cX12_readsAsked 142 = .ok (.iconst 1, 1) := by decide +kernel
theorem dX12_readsAsked_143 : decode cX12_readsAsked 143 = .ok (.goto 4, 3) := by decide +kernel
theorem dX12_readsAsked_146 : decode cX12_readsAsked 146 = .ok (.iconst 0, 1) := by decide +kernel
theorem dX12_readsAsked_147 : decode cX12_readsAsked 147 = .ok (.ireturn, 1) := by decide +kernel
def f_X12_readsAsked (a0 : Nat) (x1 : Int32) (μ : jM) : Option (Int32 × jM) :=
  jcl2 (f_X12_takesOf a0 23 μ) (fun v1 m2 => (if v1 < (0 : Int32) then jcl2 (f_X12_takesOf a0 16 m2) (fun v5 m6 => jbd (fun (t8 : Int32) (m9 : jM) => jbd (fun (t13 : Int32) (m14 : jM) => jcl2 (f_X12_comes a0 ((if t8 = (0 : Int32) then (12 : Int32) else (13 : Int32))) v5 t13 x1 m14) (fun v19 m20 => some ((((if t13 < (0 : Int32) then (0 : Int32) else (1 : Int32))) &&& 1, m20)))) (fun k15 => (if v5 < (0 : Int32) then (if t8 = (0 : Int32) then k15 (-1 : Int32) m9 else jcl2 (f_X12_takesOf a0 15 m9) (fun v25 m26 => k15 v25 m26)) else jcl2 (f_X12_takesOf a0 21 m9) (fun v28 m29 => k15 v28 m29)))) (fun k10 => jbd (fun (m31 : jM) => k10 (0 : Int32) m31) (fun k32 => (if (0 : Int32) ≤ v5 then k32 m6 else jcl2 (f_X12_takes a0 (107 : Int32) m6) (fun v36 m37 => (if v36 = (0 : Int32) then k32 m37 else k10 (1 : Int32) m37)))))) else jcl2 (f_X12_takesOf a0 24 m2) (fun v40 m41 => jbd (fun (t43 : Int32) (m44 : jM) => jcl2 (f_X12_comes a0 ((9 : Int32) + v40) v1 t43 x1 m44) (fun v48 m49 => some ((((if t43 < (0 : Int32) then (0 : Int32) else (1 : Int32))) &&& 1, m49)))) (fun k45 => (if (0 : Int32) ≤ v40 then jcl2 (f_X12_two a0 m41) (fun v53 m54 => k45 v53 m54) else k45 (-1 : Int32) m41)))))
set_option maxHeartbeats 4000000 in
set_option maxRecDepth 100000 in
theorem c_X12_readsAsked {l : Launch} {G : jG} {L : jL} (hL : jOKL L) {a0 : Nat} {x1 : Int32} (ka0 : jK L a0 12) {μ μ' : jM} {r : Int32} (h : f_X12_readsAsked a0 x1 μ = some ((r, μ'))) : jCt l G L 9 yX12_readsAsked cX12_readsAsked 6 (some .boolean) [.ref (L.2.2 a0), .int x1] μ (some (.int r)) μ' := by
  refine jCt_of (by decide) (Nat.le_of_ble_eq_true rfl) (fun X hC hX hR => ?_)
  subst hX
  have hC : jC X G cX12_readsAsked 6 RX12 (some .boolean) := hC
  unfold f_X12_readsAsked at h
  show jJ X G 6 L 0 0 (jQM X G L (some (.int r)) μ' 0 0) 0 [(0, .ref (L.2.2 a0)), (1, .int x1)] [] μ
  refine j_aload_n (pc := 0) hC 0 0 dX12_readsAsked_0 rfl rfl ?_
  refine j_ldcSw (pc := 1) hC 23 ks_X12_311 dX12_readsAsked_1 ?_
  obtain ⟨v1, m2, e3, h⟩ := jcl2_some h
  refine j_vi (pc := 4) hC hR [.ref (G.2.2.2.1 23)] iy_X12_takesOf (q := (RX12, TX12, 40)) (ci := 12) rfl rfl (by decide) km_X12_50 dX12_readsAsked_4 rfl (by decide) ka0 (c_X12_takesOf hL ka0 (by decide) e3) (by decide) (Nat.le_of_ble_eq_true rfl) rfl ?_
  refine j_istore_n (pc := 7) hC 2 [(2, .int v1), (0, .ref (L.2.2 a0)), (1, .int x1)] dX12_readsAsked_7 rfl (by decide) rfl rfl ?_
  refine j_iload_n (pc := 8) hC 2 0 dX12_readsAsked_8 rfl rfl ?_
  refine j_if_lt (pc := 9) hC 58 dX12_readsAsked_9 (by decide) (fun c4 => ?_) (fun c4 => ?_)
  · rw [if_pos c4] at h
    refine j_aload_n (pc := 58) hC 0 1 dX12_readsAsked_58 rfl rfl ?_
    refine j_ldcS (pc := 59) hC 16 ks_X12_241 dX12_readsAsked_59 ?_
    obtain ⟨v5, m6, e7, h⟩ := jcl2_some h
    refine j_vi (pc := 61) hC hR [.ref (G.2.2.2.1 16)] iy_X12_takesOf (q := (RX12, TX12, 40)) (ci := 12) rfl rfl (by decide) km_X12_50 dX12_readsAsked_61 rfl (by decide) ka0 (c_X12_takesOf hL ka0 (by decide) e7) (by decide) (Nat.le_of_ble_eq_true rfl) rfl ?_
    refine j_istore_n (pc := 64) hC 3 [(3, .int v5), (2, .int v1), (0, .ref (L.2.2 a0)), (1, .int x1)] dX12_readsAsked_64 rfl (by decide) rfl rfl ?_
    refine j_iload_n (pc := 65) hC 3 0 dX12_readsAsked_65 rfl rfl ?_
    obtain ⟨k10, e12, h⟩ := jbd_ex h
    have q11 : ∀ (t8 : Int32) (m9 : jM), k10 t8 m9 = some ((r, μ')) → jJ X G 6 L 0 0 (jQM X G L (some (.int r)) μ' 0 0) 83 [(0, .ref (L.2.2 a0)), (1, .int x1), (3, .int v5)] [.int t8] m9 := by
      intro t8 m9 h
      rw [e12] at h
      try dsimp only at h
      refine j_istore (pc := 83) hC [(4, .int t8), (0, .ref (L.2.2 a0)), (1, .int x1), (3, .int v5)] dX12_readsAsked_83 (by decide) rfl rfl ?_
      refine j_iload_n (pc := 85) hC 3 3 dX12_readsAsked_85 rfl rfl ?_
      obtain ⟨k15, e17, h⟩ := jbd_ex h
      have q16 : ∀ (t13 : Int32) (m14 : jM), k15 t13 m14 = some ((r, μ')) → jJ X G 6 L 0 0 (jQM X G L (some (.int r)) μ' 0 0) 114 [(0, .ref (L.2.2 a0)), (1, .int x1), (3, .int v5), (4, .int t8)] [.int t13] m14 := by
        intro t13 m14 h
        rw [e17] at h
        try dsimp only at h
        refine j_istore (pc := 114) hC [(5, .int t13), (0, .ref (L.2.2 a0)), (1, .int x1), (3, .int v5), (4, .int t8)] dX12_readsAsked_114 (by decide) rfl rfl ?_
        refine j_aload_n (pc := 116) hC 0 1 dX12_readsAsked_116 rfl rfl ?_
        refine j_iload (pc := 117) hC 4 dX12_readsAsked_117 rfl ?_
        refine jmg (B := jJ X G 6 L 0 0 (jQM X G L (some (.int r)) μ' 0 0) 129 [(5, .int t13), (0, .ref (L.2.2 a0)), (1, .int x1), (3, .int v5), (4, .int t8)] [.int ((if t8 = (0 : Int32) then (12 : Int32) else (13 : Int32))), .ref (L.2.2 a0)] m14) (fun hj => ?_) ?_
        · refine j_if_eq (pc := 119) hC 127 dX12_readsAsked_119 (by decide) (fun c18 => ?_) (fun c18 => ?_)
          · rw [if_pos c18] at hj
            refine j_bipush (pc := 127) hC (12 : Int32) dX12_readsAsked_127 (by decide) ?_
            exact hj
          · rw [if_neg c18] at hj
            refine j_bipush (pc := 122) hC (13 : Int32) dX12_readsAsked_122 (by decide) ?_
            refine j_goto (pc := 124) hC 129 dX12_readsAsked_124 (by decide) ?_
            exact hj
        refine j_iload_n (pc := 129) hC 3 3 dX12_readsAsked_129 rfl rfl ?_
        refine j_iload (pc := 130) hC 0 dX12_readsAsked_130 rfl ?_
        refine j_iload_n (pc := 132) hC 1 2 dX12_readsAsked_132 rfl rfl ?_
        obtain ⟨v19, m20, e21, h⟩ := jcl2_some h
        refine j_vi (pc := 133) hC hR [.int ((if t8 = (0 : Int32) then (12 : Int32) else (13 : Int32))), .int v5, .int t13, .int x1] iy_X12_comes (q := (RX12, TX12, 40)) (ci := 12) rfl rfl (by decide) km_X12_301 dX12_readsAsked_133 rfl (by decide) ka0 (c_X12_comes hL ka0 e21) (by decide) (Nat.le_of_ble_eq_true rfl) rfl ?_
        refine j_pop (pc := 136) hC dX12_readsAsked_136 rfl ?_
        refine j_iload (pc := 137) hC 0 dX12_readsAsked_137 rfl ?_
        refine jmg (B := jJ X G 6 L 0 0 (jQM X G L (some (.int r)) μ' 0 0) 147 [(5, .int t13), (0, .ref (L.2.2 a0)), (1, .int x1), (3, .int v5), (4, .int t8)] [.int ((if t13 < (0 : Int32) then (0 : Int32) else (1 : Int32)))] m20) (fun hj => ?_) ?_
        · refine j_if_lt (pc := 139) hC 146 dX12_readsAsked_139 (by decide) (fun c22 => ?_) (fun c22 => ?_)
          · rw [if_pos c22] at hj
            refine j_iconst (pc := 146) hC (0 : Int32) dX12_readsAsked_146 (by decide) ?_
            exact hj
          · rw [if_neg c22] at hj
            refine j_iconst (pc := 142) hC (1 : Int32) dX12_readsAsked_142 (by decide) ?_
            refine j_goto (pc := 143) hC 147 dX12_readsAsked_143 (by decide) ?_
            exact hj
        obtain ⟨rfl, rfl⟩ := Prod.mk.inj (Option.some.inj h)
        exact j_bret (pc := 147) hC dX12_readsAsked_147 rfl (j_nz _)
      refine j_if_lt (pc := 86) hC 99 dX12_readsAsked_86 (by decide) (fun c23 => ?_) (fun c23 => ?_)
      · rw [if_pos c23] at h
        refine j_iload (pc := 99) hC 0 dX12_readsAsked_99 rfl ?_
        refine j_if_eq (pc := 101) hC 113 dX12_readsAsked_101 (by decide) (fun c24 => ?_) (fun c24 => ?_)
        · rw [if_pos c24] at h
          refine j_iconst (pc := 113) hC (-1 : Int32) dX12_readsAsked_113 (by decide) ?_
          exact j_lv [1, 2, 3, 0] rfl (q16 _ _ h)
        · rw [if_neg c24] at h
          refine j_aload_n (pc := 104) hC 0 1 dX12_readsAsked_104 rfl rfl ?_
          refine j_ldcS (pc := 105) hC 15 ks_X12_48 dX12_readsAsked_105 ?_
          obtain ⟨v25, m26, e27, h⟩ := jcl2_some h
          refine j_vi (pc := 107) hC hR [.ref (G.2.2.2.1 15)] iy_X12_takesOf (q := (RX12, TX12, 40)) (ci := 12) rfl rfl (by decide) km_X12_50 dX12_readsAsked_107 rfl (by decide) ka0 (c_X12_takesOf hL ka0 (by decide) e27) (by decide) (Nat.le_of_ble_eq_true rfl) rfl ?_
          refine j_goto (pc := 110) hC 114 dX12_readsAsked_110 (by decide) ?_
          exact j_lv [1, 2, 3, 0] rfl (q16 _ _ h)
      · rw [if_neg c23] at h
        refine j_aload_n (pc := 89) hC 0 1 dX12_readsAsked_89 rfl rfl ?_
        refine j_ldcSw (pc := 90) hC 21 ks_X12_307 dX12_readsAsked_90 ?_
        obtain ⟨v28, m29, e30, h⟩ := jcl2_some h
        refine j_vi (pc := 93) hC hR [.ref (G.2.2.2.1 21)] iy_X12_takesOf (q := (RX12, TX12, 40)) (ci := 12) rfl rfl (by decide) km_X12_50 dX12_readsAsked_93 rfl (by decide) ka0 (c_X12_takesOf hL ka0 (by decide) e30) (by decide) (Nat.le_of_ble_eq_true rfl) rfl ?_
        refine j_goto (pc := 96) hC 114 dX12_readsAsked_96 (by decide) ?_
        exact j_lv [1, 2, 3, 0] rfl (q16 _ _ h)
    obtain ⟨k32, e34, h⟩ := jbd_ex h
    have q33 : ∀ (m31 : jM), k32 m31 = some ((r, μ')) → jJ X G 6 L 0 0 (jQM X G L (some (.int r)) μ' 0 0) 82 [(0, .ref (L.2.2 a0)), (1, .int x1), (3, .int v5)] [] m31 := by
      intro m31 h
      rw [e34] at h
      try dsimp only at h
      refine j_iconst (pc := 82) hC (0 : Int32) dX12_readsAsked_82 (by decide) ?_
      exact j_lv [0, 1, 2] rfl (q11 _ _ h)
    refine j_if_ge (pc := 66) hC 82 dX12_readsAsked_66 (by decide) (fun c35 => ?_) (fun c35 => ?_)
    · rw [if_pos c35] at h
      exact j_lv [2, 3, 0] rfl (q33 _ h)
    · rw [if_neg c35] at h
      refine j_aload_n (pc := 69) hC 0 2 dX12_readsAsked_69 rfl rfl ?_
      refine j_bipush (pc := 70) hC (107 : Int32) dX12_readsAsked_70 (by decide) ?_
      obtain ⟨v36, m37, e38, h⟩ := jcl2_some h
      refine j_vi (pc := 72) hC hR [.int (107 : Int32)] iy_X12_takes (q := (RX12, TX12, 40)) (ci := 12) rfl rfl (by decide) km_X12_247 dX12_readsAsked_72 rfl (by decide) ka0 (c_X12_takes hL ka0 e38) (by decide) (Nat.le_of_ble_eq_true rfl) rfl ?_
      refine j_if_eq (pc := 75) hC 82 dX12_readsAsked_75 (by decide) (fun c39 => ?_) (fun c39 => ?_)
      · rw [if_pos c39] at h
        exact j_lv [2, 3, 0] rfl (q33 _ h)
      · rw [if_neg c39] at h
        refine j_iconst (pc := 78) hC (1 : Int32) dX12_readsAsked_78 (by decide) ?_
        refine j_goto (pc := 79) hC 83 dX12_readsAsked_79 (by decide) ?_
        exact j_lv [2, 3, 0] rfl (q11 _ _ h)
  · rw [if_neg c4] at h
    refine j_aload_n (pc := 12) hC 0 1 dX12_readsAsked_12 rfl rfl ?_
    refine j_ldcSw (pc := 13) hC 24 ks_X12_313 dX12_readsAsked_13 ?_
    obtain ⟨v40, m41, e42, h⟩ := jcl2_some h
    refine j_vi (pc := 16) hC hR [.ref (G.2.2.2.1 24)] iy_X12_takesOf (q := (RX12, TX12, 40)) (ci := 12) rfl rfl (by decide) km_X12_50 dX12_readsAsked_16 rfl (by decide) ka0 (c_X12_takesOf hL ka0 (by decide) e42) (by decide) (Nat.le_of_ble_eq_true rfl) rfl ?_
    refine j_istore_n (pc := 19) hC 3 [(3, .int v40), (2, .int v1), (0, .ref (L.2.2 a0)), (1, .int x1)] dX12_readsAsked_19 rfl (by decide) rfl rfl ?_
    refine j_iload_n (pc := 20) hC 3 0 dX12_readsAsked_20 rfl rfl ?_
    obtain ⟨k45, e47, h⟩ := jbd_ex h
    have q46 : ∀ (t43 : Int32) (m44 : jM), k45 t43 m44 = some ((r, μ')) → jJ X G 6 L 0 0 (jQM X G L (some (.int r)) μ' 0 0) 32 [(0, .ref (L.2.2 a0)), (1, .int x1), (2, .int v1), (3, .int v40)] [.int t43] m44 := by
      intro t43 m44 h
      rw [e47] at h
      try dsimp only at h
      refine j_istore (pc := 32) hC [(4, .int t43), (0, .ref (L.2.2 a0)), (1, .int x1), (2, .int v1), (3, .int v40)] dX12_readsAsked_32 (by decide) rfl rfl ?_
      refine j_aload_n (pc := 34) hC 0 1 dX12_readsAsked_34 rfl rfl ?_
      refine j_bipush (pc := 35) hC (9 : Int32) dX12_readsAsked_35 (by decide) ?_
      refine j_iload_n (pc := 37) hC 3 4 dX12_readsAsked_37 rfl rfl ?_
      refine j_iadd (pc := 38) hC dX12_readsAsked_38 ?_
      refine j_iload_n (pc := 39) hC 2 3 dX12_readsAsked_39 rfl rfl ?_
      refine j_iload (pc := 40) hC 0 dX12_readsAsked_40 rfl ?_
      refine j_iload_n (pc := 42) hC 1 2 dX12_readsAsked_42 rfl rfl ?_
      obtain ⟨v48, m49, e50, h⟩ := jcl2_some h
      refine j_vi (pc := 43) hC hR [.int ((9 : Int32) + v40), .int v1, .int t43, .int x1] iy_X12_comes (q := (RX12, TX12, 40)) (ci := 12) rfl rfl (by decide) km_X12_301 dX12_readsAsked_43 rfl (by decide) ka0 (c_X12_comes hL ka0 e50) (by decide) (Nat.le_of_ble_eq_true rfl) rfl ?_
      refine j_pop (pc := 46) hC dX12_readsAsked_46 rfl ?_
      refine j_iload (pc := 47) hC 0 dX12_readsAsked_47 rfl ?_
      refine jmg (B := jJ X G 6 L 0 0 (jQM X G L (some (.int r)) μ' 0 0) 57 [(4, .int t43), (0, .ref (L.2.2 a0)), (1, .int x1), (2, .int v1), (3, .int v40)] [.int ((if t43 < (0 : Int32) then (0 : Int32) else (1 : Int32)))] m49) (fun hj => ?_) ?_
      · refine j_if_lt (pc := 49) hC 56 dX12_readsAsked_49 (by decide) (fun c51 => ?_) (fun c51 => ?_)
        · rw [if_pos c51] at hj
          refine j_iconst (pc := 56) hC (0 : Int32) dX12_readsAsked_56 (by decide) ?_
          exact hj
        · rw [if_neg c51] at hj
          refine j_iconst (pc := 52) hC (1 : Int32) dX12_readsAsked_52 (by decide) ?_
          refine j_goto (pc := 53) hC 57 dX12_readsAsked_53 (by decide) ?_
          exact hj
      obtain ⟨rfl, rfl⟩ := Prod.mk.inj (Option.some.inj h)
      exact j_bret (pc := 57) hC dX12_readsAsked_57 rfl (j_nz _)
    refine j_if_ge (pc := 21) hC 28 dX12_readsAsked_21 (by decide) (fun c52 => ?_) (fun c52 => ?_)
    · rw [if_pos c52] at h
      refine j_aload_n (pc := 28) hC 0 2 dX12_readsAsked_28 rfl rfl ?_
      obtain ⟨v53, m54, e55, h⟩ := jcl2_some h
      refine j_vi (pc := 29) hC hR [] iy_X12_two (q := (RX12, TX12, 40)) (ci := 12) rfl rfl (by decide) km_X12_298 dX12_readsAsked_29 rfl (by decide) ka0 (c_X12_two hL ka0 e55) (by decide) (Nat.le_of_ble_eq_true rfl) rfl ?_
      exact j_lv [2, 3, 1, 0] rfl (q46 _ _ h)
    · rw [if_neg c52] at h
      refine j_iconst (pc := 24) hC (-1 : Int32) dX12_readsAsked_24 (by decide) ?_
      refine j_goto (pc := 25) hC 32 dX12_readsAsked_25 (by decide) ?_
      exact j_lv [2, 3, 1, 0] rfl (q46 _ _ h)
