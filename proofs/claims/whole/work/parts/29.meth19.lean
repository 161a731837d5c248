theorem dX12_does_0 : decode cX12_does 0 = .ok (.iload_n 1, 1) := by decide +kernel
theorem dX12_does_1 : decode cX12_does 1 = .ok (.istore_n 3, 1) := by decide +kernel
theorem dX12_does_2 : decode cX12_does 2 = .ok (.iload_n 3, 1) := by decide +kernel
theorem dX12_does_3 : decode cX12_does 3 = .ok (.iload_n 2, 1) := by decide +kernel
theorem dX12_does_4 : decode cX12_does 4 = .ok (.if_icmp .ge 87, 3) := by decide +kernel
theorem dX12_does_7 : decode cX12_does 7 = .ok (.iload_n 3, 1) := by decide +kernel
theorem dX12_does_8 : decode cX12_does 8 = .ok (.iconst 1, 1) := by decide +kernel
theorem dX12_does_9 : decode cX12_does 9 = .ok (.iadd, 1) := by decide +kernel
theorem dX12_does_10 : decode cX12_does 10 = .ok (.istore 5, 2) := by decide +kernel
theorem dX12_does_12 : decode cX12_does 12 = .ok (.aload_n 0, 1) := by decide +kernel
theorem dX12_does_13 : decode cX12_does 13 = .ok (.getfield 81, 3) := by decide +kernel
theorem dX12_does_16 : decode cX12_does 16 = .ok (.iload_n 3, 1) := by decide +kernel
theorem dX12_does_17 : decode cX12_does 17 = .ok (.iaload, 1) := by decide +kernel
theorem dX12_does_18 : decode cX12_does 18 = .ok (.bipush 20, 2) := by decide +kernel
theorem dX12_does_20 : decode cX12_does 20 = .ok (.if_icmp .ge 43, 3) := by decide +kernel
theorem dX12_does_23 : decode cX12_does 23 = .ok (.aload_n 0, 1) := by decide +kernel
theorem dX12_does_24 : decode cX12_does 24 = .ok (.invokevirtual 170, 3) := by decide +kernel
theorem dX12_does_27 : decode cX12_does 27 = .ok (.aload_n 0, 1) := by decide +kernel
theorem dX12_does_28 : decode cX12_does 28 = .ok (.aload_n 0, 1) := by decide +kernel
theorem dX12_does_29 : decode cX12_does 29 = .ok (.iload_n 3, 1) := by decide +kernel
theorem dX12_does_30 : decode cX12_does 30 = .ok (.invokevirtual 338, 3) := by decide +kernel
theorem dX12_does_33 : decode cX12_does 33 = .ok (.invokevirtual 195, 3) := by decide +kernel
theorem dX12_does_36 : decode cX12_does 36 = .ok (.ifCond .lt 7, 3) := by decide +kernel
theorem dX12_does_39 : decode cX12_does 39 = .ok (.iconst 1, 1) := by decide +kernel
theorem dX12_does_40 : decode cX12_does 40 = .ok (.goto 4, 3) := by decide +kernel
theorem dX12_does_43 : decode cX12_does 43 = .ok (.iconst 0, 1) := by decide +kernel
theorem dX12_does_44 : decode cX12_does 44 = .ok (.istore 4, 2) := by decide +kernel
theorem dX12_does_46 : decode cX12_does 46 = .ok (.aload_n 0, 1) := by decide +kernel
theorem dX12_does_47 : decode cX12_does 47 = .ok (.dup, 1) := by decide +kernel
theorem dX12_does_48 : decode cX12_does 48 = .ok (.getfield 341, 3) := by decide +kernel
theorem dX12_does_51 : decode cX12_does 51 = .ok (.iload 4, 2) := by decide +kernel
theorem dX12_does_53 : decode cX12_does 53 = .ok (.invokestatic 34, 3) := by decide +kernel
theorem dX12_does_56 : decode cX12_does 56 = .ok (.iadd, 1) := by decide +kernel
theorem dX12_does_57 : decode cX12_does 57 = .ok (.putfield 341, 3) := by decide +kernel
theorem dX12_does_60 : decode cX12_does 60 = .ok (.goto 18, 3) := by decide +kernel
theorem dX12_does_63 : decode cX12_does 63 = .ok (.aload_n 0, 1) := by decide +kernel
theorem dX12_does_64 : decode cX12_does 64 = .ok (.iload_n 3, 1) := by decide +kernel
theorem dX12_does_65 : decode cX12_does 65 = .ok (.invokevirtual 344, 3) := by decide +kernel
theorem dX12_does_68 : decode cX12_does 68 = .ok (.istore 4, 2) := by decide +kernel
theorem dX12_does_70 : decode cX12_does 70 = .ok (.aload_n 0, 1) := by decide +kernel
theorem dX12_does_71 : decode cX12_does 71 = .ok (.getfield 93, 3) := by decide +kernel
theorem dX12_does_74 : decode cX12_does 74 = .ok (.iload_n 3, 1) := by decide +kernel
theorem dX12_does_75 : decode cX12_does 75 = .ok (.iaload, 1) := by decide +kernel
theorem dX12_does_76 : decode cX12_does 76 = .ok (.istore 5, 2) := by decide +kernel
theorem dX12_does_78 : decode cX12_does 78 = .ok (.iload 4, 2) := by decide +kernel
theorem dX12_does_80 : decode cX12_does 80 = .ok (.ifCond .ne 5, 3) := by decide +kernel
theorem dX12_does_83 : decode cX12_does 83 = .ok (.iload_n 3, 1) := by decide +kernel
theorem dX12_does_84 : decode cX12_does 84 = .ok (.ireturn, 1) := by decide +kernel
theorem dX12_does_85 : decode cX12_does 85 = .ok (.iload 5, 2) := by decide +kernel
theorem dX12_does_87 : decode cX12_does 87 = .ok (.istore_n 3, 1) := by decide +kernel
theorem dX12_does_88 : decode cX12_does 88 = .ok (.goto (-86), 3) := by decide +kernel
theorem dX12_does_91 : decode cX12_does 91 = .ok (.iconst (-1), 1) := by decide +kernel
theorem dX12_does_92 : decode cX12_does 92 = .ok (.ireturn, 1) := by decide +kernel
def f_X12_does_L2 (a0 : Nat) (x2 : Int32) (rA : Nat → Int32 → Int32 → jM → Option (Int32 × jM)) (u1 : Int32) (m2 : jM) : Option ((Int32 × jM) ⊕ ((Int32 × jM) ⊕ (jM))) :=
  (if x2 ≤ u1 then some (.inr (.inr (m2))) else jrd (m2.1 (a0 + 10)) u1 168 (fun v5 => jbd (fun (t7 : Int32) (t8 : Int32) (m9 : jM) => (if t7 = (0 : Int32) then some (.inr (.inl ((u1, m9)))) else some (.inl ((t8, m9))))) (fun k10 => (if (20 : Int32) ≤ v5 then jcl2 (fb_X12_doesBlock rA a0 u1 m2) (fun v15 m16 => jrd (m16.1 (a0 + 14)) u1 168 (fun v19 => k10 v15 v19 m16)) else jcl (f_X12_begins a0 m2) (fun m21 => jcl2 (f_X12_doesAct a0 u1 m21) (fun v23 m24 => jcl2 (f_X12_ends a0 v23 m24) (fun v26 m27 => jbd ((if v26 < (0 : Int32) then (0 : Int32) else (1 : Int32)) : Int32) (fun v30 => jbd (jsi m27 a0 25 ((m27.1 a0 25) + (f_X12_flag v30))) (fun m32 => k10 v30 (u1 + (1 : Int32)) m32)))))))))
def fb_X12_does (rA : Nat → Int32 → Int32 → jM → Option (Int32 × jM)) (a0 : Nat) (x1 : Int32) (x2 : Int32) (μ : jM) : Option (Int32 × jM) :=
  jcl (jloop (fun (s : Int32 × jM) => f_X12_does_L2 a0 x2 rA s.1 s.2) jfu ((x1, μ))) (fun w34 => match w34 with | .inl w34 => some ((w34.1, w34.2)) | .inr w34 => some (((-1 : Int32), w34)))
set_option maxHeartbeats 4000000 in
set_option maxRecDepth 100000 in
theorem cb_X12_does {l : Launch} {G : jG} {L : jL} (hL : jOKL L) {dA : Nat} (hD : 15 ≤ dA) {rA : Nat → Int32 → Int32 → jM → Option (Int32 × jM)} (hA : ∀ {b0 : Nat} {b1 : Int32} {b2 : Int32} {μ1 μ2 : jM} {r : Int32}, jK L b0 12 → rA b0 b1 b2 μ1 = some (r, μ2) → jCt l G L dA yX12_does cX12_does 6 (some .int) [.ref (L.2.2 b0), .int b1, .int b2] μ1 (some (.int r)) μ2) {a0 : Nat} {x1 : Int32} {x2 : Int32} (ka0 : jK L a0 12) {μ μ' : jM} {r : Int32} (h : fb_X12_does rA a0 x1 x2 μ = some ((r, μ'))) : jCt l G L (dA + 2) yX12_does cX12_does 6 (some .int) [.ref (L.2.2 a0), .int x1, .int x2] μ (some (.int r)) μ' := by
  refine jCt_of (by decide) (Nat.le_of_ble_eq_true rfl) (fun X hC hX hR => ?_)
  subst hX
  have hC : jC X G cX12_does 6 RX12 (some .int) := hC
  unfold fb_X12_does at h
  show jJ X G 6 L 0 0 (jQM X G L (some (.int r)) μ' 0 0) 0 [(0, .ref (L.2.2 a0)), (1, .int x1), (2, .int x2)] [] μ
  refine j_iload_n (pc := 0) hC 1 1 dX12_does_0 rfl rfl ?_
  refine j_istore_n (pc := 1) hC 3 [(3, .int x1), (0, .ref (L.2.2 a0)), (1, .int x1), (2, .int x2)] dX12_does_1 rfl (by decide) rfl rfl ?_
  obtain ⟨w34, hw35, h⟩ := jcl_some h
  refine j_lv [1, 3, 0] rfl ?_
  refine j_loop (step := (fun (s : Int32 × jM) => f_X12_does_L2 a0 x2 rA s.1 s.2)) (P := (fun (s : Int32 × jM) => jJ X G 6 L 0 0 (jQM X G L (some (.int r)) μ' 0 0) 2 [(0, .ref (L.2.2 a0)), (2, .int x2), (3, .int s.1)] [] s.2)) (R := (fun (e : (Int32 × jM) ⊕ (jM)) => match e with | .inl e => jJ X G 6 L 0 0 (jQM X G L (some (.int r)) μ' 0 0) 83 [(3, .int e.1)] [] e.2 | .inr e => jJ X G 6 L 0 0 (jQM X G L (some (.int r)) μ' 0 0) 91 [] [] e)) ?_ jfu ((x1, μ)) w34 hw35 ?_
  · intro s36 o h hk
    obtain ⟨u1, m2⟩ := s36
    change f_X12_does_L2 a0 x2 rA u1 m2 = some o at h
    unfold f_X12_does_L2 at h
    show jJ X G 6 L 0 0 (jQM X G L (some (.int r)) μ' 0 0) 2 [(0, .ref (L.2.2 a0)), (2, .int x2), (3, .int u1)] [] m2
    refine j_iload_n (pc := 2) hC 3 2 dX12_does_2 rfl rfl ?_
    refine j_iload_n (pc := 3) hC 2 1 dX12_does_3 rfl rfl ?_
    refine j_icmp_ge (pc := 4) hC 91 dX12_does_4 (by decide) (fun c3 => ?_) (fun c3 => ?_)
    · rw [if_pos c3] at h
      obtain rfl := Option.some.inj h
      have hk : jJ X G 6 L 0 0 (jQM X G L (some (.int r)) μ' 0 0) 91 [] [] m2 := hk
      exact j_lv [] rfl hk
    · rw [if_neg c3] at h
      refine j_iload_n (pc := 7) hC 3 2 dX12_does_7 rfl rfl ?_
      refine j_iconst (pc := 8) hC (1 : Int32) dX12_does_8 (by decide) ?_
      refine j_iadd (pc := 9) hC dX12_does_9 ?_
      refine j_istore (pc := 10) hC [(5, .int (u1 + (1 : Int32))), (0, .ref (L.2.2 a0)), (2, .int x2), (3, .int u1)] dX12_does_10 (by decide) rfl rfl ?_
      refine j_aload_n (pc := 12) hC 0 1 dX12_does_12 rfl rfl ?_
      refine jgr_12 (pc := 13) hC 19 (by decide) rfl kf_X12_81 dX12_does_13 ka0 (ly_12_19 hL ka0).1 ?_
      refine j_iload_n (pc := 16) hC 3 3 dX12_does_16 rfl rfl ?_
      obtain ⟨i4, v5, e6, h⟩ := jrd_some h
      refine j_iald (pc := 17) hC dX12_does_17 (ly_12_19 hL ka0).2.1 (ly_12_19 hL ka0).2.2 i4 e6 ?_
      refine j_bipush (pc := 18) hC (20 : Int32) dX12_does_18 (by decide) ?_
      obtain ⟨k10, e12, h⟩ := jbd_ex h
      have q11 : ∀ (t7 : Int32) (t8 : Int32) (m9 : jM), k10 t7 t8 m9 = some o → jJ X G 6 L 0 0 (jQM X G L (some (.int r)) μ' 0 0) 78 [(0, .ref (L.2.2 a0)), (2, .int x2), (3, .int u1), (4, .int t7), (5, .int t8)] [] m9 := by
        intro t7 t8 m9 h
        rw [e12] at h
        try dsimp only at h
        refine j_iload (pc := 78) hC 3 dX12_does_78 rfl ?_
        refine j_if_ne (pc := 80) hC 85 dX12_does_80 (by decide) (fun c13 => ?_) (fun c13 => ?_)
        · rw [if_neg c13] at h
          refine j_iload (pc := 85) hC 4 dX12_does_85 rfl ?_
          refine j_istore_n (pc := 87) hC 3 [(3, .int t8), (0, .ref (L.2.2 a0)), (2, .int x2), (4, .int t7), (5, .int t8)] dX12_does_87 rfl (by decide) rfl rfl ?_
          refine j_goto (pc := 88) hC 2 dX12_does_88 (by decide) ?_
          obtain rfl := Option.some.inj h
          have hk : jJ X G 6 L 0 0 (jQM X G L (some (.int r)) μ' 0 0) 2 [(0, .ref (L.2.2 a0)), (2, .int x2), (3, .int t8)] [] m9 := hk
          exact j_lv [1, 2, 0] rfl hk
        · rw [if_pos c13] at h
          obtain rfl := Option.some.inj h
          have hk : jJ X G 6 L 0 0 (jQM X G L (some (.int r)) μ' 0 0) 83 [(3, .int u1)] [] m9 := hk
          exact j_lv [2] rfl hk
      refine j_icmp_ge (pc := 20) hC 63 dX12_does_20 (by decide) (fun c14 => ?_) (fun c14 => ?_)
      · rw [if_pos c14] at h
        refine j_aload_n (pc := 63) hC 0 1 dX12_does_63 rfl rfl ?_
        refine j_iload_n (pc := 64) hC 3 3 dX12_does_64 rfl rfl ?_
        obtain ⟨v15, m16, e17, h⟩ := jcl2_some h
        refine j_vi (pc := 65) hC hR [.int u1] iy_X12_doesBlock (q := (RX12, TX12, 40)) (ci := 12) rfl rfl (by decide) km_X12_344 dX12_does_65 rfl (by decide) ka0 (cb_X12_doesBlock hL hD hA ka0 e17) (by omega) (Nat.le_of_ble_eq_true rfl) rfl ?_
        refine j_istore (pc := 68) hC [(4, .int v15), (5, .int (u1 + (1 : Int32))), (0, .ref (L.2.2 a0)), (2, .int x2), (3, .int u1)] dX12_does_68 (by decide) rfl rfl ?_
        refine j_aload_n (pc := 70) hC 0 2 dX12_does_70 rfl rfl ?_
        refine jgr_12 (pc := 71) hC 23 (by decide) rfl kf_X12_93 dX12_does_71 ka0 (ly_12_23 hL ka0).1 ?_
        refine j_iload_n (pc := 74) hC 3 4 dX12_does_74 rfl rfl ?_
        obtain ⟨i18, v19, e20, h⟩ := jrd_some h
        refine j_iald (pc := 75) hC dX12_does_75 (ly_12_23 hL ka0).2.1 (ly_12_23 hL ka0).2.2 i18 e20 ?_
        refine j_istore (pc := 76) hC [(5, .int v19), (4, .int v15), (0, .ref (L.2.2 a0)), (2, .int x2), (3, .int u1)] dX12_does_76 (by decide) rfl rfl ?_
        exact j_lv [2, 3, 4, 1, 0] rfl (q11 _ _ _ h)
      · rw [if_neg c14] at h
        refine j_aload_n (pc := 23) hC 0 1 dX12_does_23 rfl rfl ?_
        obtain ⟨m21, e22, h⟩ := jcl_some h
        refine j_vv (pc := 24) hC hR [] iy_X12_begins (q := (RX12, TX12, 40)) (ci := 12) rfl rfl (by decide) km_X12_170 dX12_does_24 rfl (by decide) ka0 (c_X12_begins hL ka0 e22) (by omega) (Nat.le_of_ble_eq_true rfl) rfl ?_
        refine j_aload_n (pc := 27) hC 0 1 dX12_does_27 rfl rfl ?_
        refine j_aload_n (pc := 28) hC 0 1 dX12_does_28 rfl rfl ?_
        refine j_iload_n (pc := 29) hC 3 3 dX12_does_29 rfl rfl ?_
        obtain ⟨v23, m24, e25, h⟩ := jcl2_some h
        refine j_vi (pc := 30) hC hR [.int u1] iy_X12_doesAct (q := (RX12, TX12, 40)) (ci := 12) rfl rfl (by decide) km_X12_338 dX12_does_30 rfl (by decide) ka0 (c_X12_doesAct hL ka0 e25) (by omega) (Nat.le_of_ble_eq_true rfl) rfl ?_
        obtain ⟨v26, m27, e28, h⟩ := jcl2_some h
        refine j_vi (pc := 33) hC hR [.int v23] iy_X12_ends (q := (RX12, TX12, 40)) (ci := 12) rfl rfl (by decide) km_X12_195 dX12_does_33 rfl (by decide) ka0 (c_X12_ends hL ka0 e28) (by omega) (Nat.le_of_ble_eq_true rfl) rfl ?_
        refine jmg (B := jJ X G 6 L 0 0 (jQM X G L (some (.int r)) μ' 0 0) 44 [(5, .int (u1 + (1 : Int32))), (0, .ref (L.2.2 a0)), (2, .int x2), (3, .int u1)] [.int ((if v26 < (0 : Int32) then (0 : Int32) else (1 : Int32)))] m27) (fun hj => ?_) ?_
        · refine j_if_lt (pc := 36) hC 43 dX12_does_36 (by decide) (fun c29 => ?_) (fun c29 => ?_)
          · rw [if_pos c29] at hj
            refine j_iconst (pc := 43) hC (0 : Int32) dX12_does_43 (by decide) ?_
            exact hj
          · rw [if_neg c29] at hj
            refine j_iconst (pc := 39) hC (1 : Int32) dX12_does_39 (by decide) ?_
            refine j_goto (pc := 40) hC 44 dX12_does_40 (by decide) ?_
            exact hj
        obtain ⟨v30, e31, h⟩ := jbd_ex h
        refine j_istore (pc := 44) hC [(4, .int v30), (5, .int (u1 + (1 : Int32))), (0, .ref (L.2.2 a0)), (2, .int x2), (3, .int u1)] dX12_does_44 (by decide) e31 rfl ?_
        refine j_aload_n (pc := 46) hC 0 2 dX12_does_46 rfl rfl ?_
        refine j_dup (pc := 47) hC dX12_does_47 rfl ?_
        refine jgi_12 (pc := 48) hC 25 (by decide) rfl kf_X12_341 dX12_does_48 ka0 ?_
        refine j_iload (pc := 51) hC 0 dX12_does_51 rfl ?_
        refine j_si (pc := 53) hC hR [.int v30] iy_X12_flag km_X12_34 dX12_does_53 rfl (by decide) (c_X12_flag hL  rfl) (by omega) (Nat.le_of_ble_eq_true rfl) rfl ?_
        refine j_iadd (pc := 56) hC dX12_does_56 ?_
        obtain ⟨m32, e33, h⟩ := jbd_ex h
        refine jpi_12 (pc := 57) hC 25 (by decide) rfl kf_X12_341 dX12_does_57 rfl (by decide) ka0 e33 ?_
        refine j_goto (pc := 60) hC 78 dX12_does_60 (by decide) ?_
        exact j_lv [2, 3, 4, 0, 1] rfl (q11 _ _ _ h)
  · cases w34 with
    | inl w34 =>
      try dsimp only at h
      obtain ⟨z37, m38⟩ := w34
      try dsimp only at h
      show jJ X G 6 L 0 0 (jQM X G L (some (.int r)) μ' 0 0) 83 [(3, .int z37)] [] m38
      refine j_iload_n (pc := 83) hC 3 0 dX12_does_83 rfl rfl ?_
      obtain ⟨rfl, rfl⟩ := Prod.mk.inj (Option.some.inj h)
      exact j_iret (pc := 84) hC dX12_does_84 rfl
    | inr w34 =>
      try dsimp only at h
      obtain ⟨m39, rfl⟩ : ∃ y, y = w34 := ⟨_, rfl⟩
      try dsimp only at h
      show jJ X G 6 L 0 0 (jQM X G L (some (.int r)) μ' 0 0) 91 [] [] m39
      refine j_iconst (pc := 91) hC (-1 : Int32) dX12_does_91 (by decide) ?_
      obtain ⟨rfl, rfl⟩ := Prod.mk.inj (Option.some.inj h)
      exact j_iret (pc := 92) hC dX12_does_92 rfl
def f_X12_does : Nat → Nat → Int32 → Int32 → jM → Option (Int32 × jM)
  | 0 => fun _ _ _ _ => none
  | d + 1 => fb_X12_does (f_X12_does d)
theorem c_X12_does {l : Launch} {G : jG} {L : jL} (hL : jOKL L) : ∀ (d : Nat) {b0 : Nat} {b1 : Int32} {b2 : Int32} (kb0 : jK L b0 12) {μ μ' : jM} {r : Int32} (h : f_X12_does d b0 b1 b2 μ = some (r, μ')), jCt l G L (15 + 2 * d) yX12_does cX12_does 6 (some .int) [.ref (L.2.2 b0), .int b1, .int b2] μ (some (.int r)) μ' := by
  intro d
  induction d with
  | zero => intros; rename_i h; cases h
  | succ d ih =>
    intros
    rename_i h
    exact cb_X12_does hL (dA := 15 + 2 * d) (by omega) (fun k0 h => ih k0 h) (by assumption) h
theorem dX12_saves_0 : decode cX12_saves 0 = .ok (.iconst 0, 1) := by decide +kernel
theorem dX12_saves_1 : decode cX12_saves 1 = .ok (.istore_n 2, 1) := by decide +kernel
theorem dX12_saves_2 : decode cX12_saves 2 = .ok (.iload_n 2, 1) := by decide +kernel
theorem dX12_saves_3 : decode cX12_saves 3 = .ok (.aload_n 0, 1) := by decide +kernel
theorem dX12_saves_4 : decode cX12_saves 4 = .ok (.getfield 158, 3) := by decide +kernel
theorem dX12_saves_7 : decode cX12_saves 7 = .ok (.if_icmp .gt 17, 3) := by decide +kernel
theorem dX12_saves_10 : decode cX12_saves 10 = .ok (.aload_n 0, 1) := by decide +kernel
theorem dX12_saves_11 : decode cX12_saves 11 = .ok (.iload_n 2, 1) := by decide +kernel
theorem dX12_saves_12 : decode cX12_saves 12 = .ok (.iload_n 1, 1) := by decide +kernel
theorem dX12_saves_13 : decode cX12_saves 13 = .ok (.iload_n 2, 1) := by decide +kernel
theorem dX12_saves_14 : decode cX12_saves 14 = .ok (.iadd, 1) := by decide +kernel
theorem dX12_saves_15 : decode cX12_saves 15 = .ok (.invokevirtual 154, 3) := by decide +kernel
theorem dX12_saves_18 : decode cX12_saves 18 = .ok (.iinc 2 1, 3) := by decide +kernel
theorem dX12_saves_21 : decode cX12_saves 21 = .ok (.goto (-19), 3) := by decide +kernel
theorem dX12_saves_24 : decode cX12_saves 24 = .ok (.iconst 0, 1) := by decide +kernel
theorem dX12_saves_25 : decode cX12_saves 25 = .ok (.istore_n 2, 1) := by decide +kernel
theorem dX12_saves_26 : decode cX12_saves 26 = .ok (.iload_n 2, 1) := by decide +kernel
theorem dX12_saves_27 : decode cX12_saves 27 = .ok (.aload_n 0, 1) := by decide +kernel
theorem dX12_saves_28 : decode cX12_saves 28 = .ok (.getfield 63, 3) := by decide +kernel
theorem dX12_saves_31 : decode cX12_saves 31 = .ok (.arraylength, 1) := by decide +kernel
theorem dX12_saves_32 : decode cX12_saves 32 = .ok (.if_icmp .ge 21, 3) := by decide +kernel
theorem dX12_saves_35 : decode cX12_saves 35 = .ok (.aload_n 0, 1) := by decide +kernel
theorem dX12_saves_36 : decode cX12_saves 36 = .ok (.getfield 69, 3) := by decide +kernel
theorem dX12_saves_39 : decode cX12_saves 39 = .ok (.iload_n 2, 1) := by decide +kernel
theorem dX12_saves_40 : decode cX12_saves 40 = .ok (.aload_n 0, 1) := by decide +kernel
theorem dX12_saves_41 : decode cX12_saves 41 = .ok (.getfield 63, 3) := by decide +kernel
theorem dX12_saves_44 : decode cX12_saves 44 = .ok (.iload_n 2, 1) := by decide +kernel
theorem dX12_saves_45 : decode cX12_saves 45 = .ok (.iaload, 1) := by decide +kernel
theorem dX12_saves_46 : decode cX12_saves 46 = .ok (.iastore, 1) := by decide +kernel
theorem dX12_saves_47 : decode cX12_saves 47 = .ok (.iinc 2 1, 3) := by decide +kernel
theorem dX12_saves_50 : decode cX12_saves 50 = .ok (.goto (-24), 3) := by decide +kernel
theorem dX12_saves_53 : decode cX12_saves 53 = .ok (.iconst 0, 1) := by decide +kernel
theorem dX12_saves_54 : decode cX12_saves 54 = .ok (.istore_n 2, 1) := by decide +kernel
theorem dX12_saves_55 : decode cX12_saves 55 = .ok (.iload_n 2, 1) := by decide +kernel
theorem dX12_saves_56 : decode cX12_saves 56 = .ok (.bipush 9, 2) := by decide +kernel
theorem dX12_saves_58 : decode cX12_saves 58 = .ok (.if_icmp .gt 21, 3) := by decide +kernel
theorem dX12_saves_61 : decode cX12_saves 61 = .ok (.aload_n 0, 1) := by decide +kernel
theorem dX12_saves_62 : decode cX12_saves 62 = .ok (.getfield 72, 3) := by decide +kernel
theorem dX12_saves_65 : decode cX12_saves 65 = .ok (.iload_n 2, 1) := by decide +kernel
theorem dX12_saves_66 : decode cX12_saves 66 = .ok (.aload_n 0, 1) := by decide +kernel
theorem dX12_saves_67 : decode cX12_saves 67 = .ok (.getfield 66, 3) := by decide +kernel
theorem dX12_saves_70 : decode cX12_saves 70 = .ok (.iload_n 2, 1) := by decide +kernel
theorem dX12_saves_71 : decode cX12_saves 71 = .ok (.iaload, 1) := by decide +kernel
theorem dX12_saves_72 : decode cX12_saves 72 = .ok (.iastore, 1) := by decide +kernel
theorem dX12_saves_73 : decode cX12_saves 73 = .ok (.iinc 2 1, 3) := by decide +kernel
theorem dX12_saves_76 : decode cX12_saves 76 = .ok (.goto (-21), 3) := by decide +kernel
theorem dX12_saves_79 : decode cX12_saves 79 = .ok (.aload_n 0, 1) := by decide +kernel
theorem dX12_saves_80 : decode cX12_saves 80 = .ok (.aload_n 0, 1) := by decide +kernel
theorem dX12_saves_81 : decode cX12_saves 81 = .ok (.getfield 158, 3) := by decide +kernel
theorem dX12_saves_84 : decode cX12_saves 84 = .ok (.putfield 350, 3) := by decide +kernel
theorem dX12_saves_87 : decode cX12_saves 87 = .ok (.return_, 1) := by decide +kernel
def f_X12_saves_L2 (a0 : Nat) (x1 : Int32) (u1 : Int32) (m2 : jM) : Option ((Int32 × jM) ⊕ (jM)) :=
  (if (m2.1 a0 9) < u1 then some (.inr m2) else jcl (f_X12_copies a0 u1 (x1 + u1) m2) (fun m4 => some (.inl ((u1 + (1 : Int32), m4)))))
def f_X12_saves_L26 (a0 : Nat) (u10 : Int32) (m11 : jM) : Option ((Int32 × jM) ⊕ (jM)) :=
  (if (nI 220) ≤ u10 then some (.inr m11) else jrd (m11.1 (a0 + 4)) u10 220 (fun v14 => jin u10 220 (jbd (jsi m11 (a0 + 6) u10.toNatClampNeg v14) (fun m17 => some (.inl ((u10 + (1 : Int32), m17)))))))
def f_X12_saves_L55 (a0 : Nat) (u23 : Int32) (m24 : jM) : Option ((Int32 × jM) ⊕ (jM)) :=
  (if (9 : Int32) < u23 then some (.inr m24) else jrd (m24.1 (a0 + 5)) u23 10 (fun v27 => jin u23 10 (jbd (jsi m24 (a0 + 7) u23.toNatClampNeg v27) (fun m30 => some (.inl ((u23 + (1 : Int32), m30)))))))
def f_X12_saves (a0 : Nat) (x1 : Int32) (μ : jM) : Option (jM) :=
  jcl (jloop (fun (s : Int32 × jM) => f_X12_saves_L2 a0 x1 s.1 s.2) jfu (((0 : Int32), μ))) (fun w6 => jcl (jloop (fun (s : Int32 × jM) => f_X12_saves_L26 a0 s.1 s.2) jfu (((0 : Int32), w6))) (fun w19 => jcl (jloop (fun (s : Int32 × jM) => f_X12_saves_L55 a0 s.1 s.2) jfu (((0 : Int32), w19))) (fun w32 => jbd (jsi w32 a0 14 (w32.1 a0 9)) (fun m36 => some m36))))
set_option maxHeartbeats 4000000 in
set_option maxRecDepth 100000 in
theorem c_X12_saves {l : Launch} {G : jG} {L : jL} (hL : jOKL L) {a0 : Nat} {x1 : Int32} (ka0 : jK L a0 12) {μ μ' : jM} (h : f_X12_saves a0 x1 μ = some μ') : jCt l G L 4 yX12_saves cX12_saves 3 none [.ref (L.2.2 a0), .int x1] μ none μ' := by
  refine jCt_of (by decide) (Nat.le_of_ble_eq_true rfl) (fun X hC hX hR => ?_)
  subst hX
  have hC : jC X G cX12_saves 3 RX12 none := hC
  unfold f_X12_saves at h
  show jJ X G 3 L 0 0 (jQM X G L none μ' 0 0) 0 [(0, .ref (L.2.2 a0)), (1, .int x1)] [] μ
  refine j_iconst (pc := 0) hC (0 : Int32) dX12_saves_0 (by decide) ?_
  refine j_istore_n (pc := 1) hC 2 [(2, .int (0 : Int32)), (0, .ref (L.2.2 a0)), (1, .int x1)] dX12_saves_1 rfl (by decide) rfl rfl ?_
  obtain ⟨w6, hw7, h⟩ := jcl_some h
  refine j_lv [1, 2, 0] rfl ?_
  refine j_loop (step := (fun (s : Int32 × jM) => f_X12_saves_L2 a0 x1 s.1 s.2)) (P := (fun (s : Int32 × jM) => jJ X G 3 L 0 0 (jQM X G L none μ' 0 0) 2 [(0, .ref (L.2.2 a0)), (1, .int x1), (2, .int s.1)] [] s.2)) (R := (fun (e : jM) => jJ X G 3 L 0 0 (jQM X G L none μ' 0 0) 24 [(0, .ref (L.2.2 a0))] [] e)) ?_ jfu (((0 : Int32), μ)) w6 hw7 ?_
  · intro s8 o h hk
    obtain ⟨u1, m2⟩ := s8
    change f_X12_saves_L2 a0 x1 u1 m2 = some o at h
    unfold f_X12_saves_L2 at h
    show jJ X G 3 L 0 0 (jQM X G L none μ' 0 0) 2 [(0, .ref (L.2.2 a0)), (1, .int x1), (2, .int u1)] [] m2
    refine j_iload_n (pc := 2) hC 2 2 dX12_saves_2 rfl rfl ?_
    refine j_aload_n (pc := 3) hC 0 0 dX12_saves_3 rfl rfl ?_
    refine jgi_12 (pc := 4) hC 9 (by decide) rfl kf_X12_158 dX12_saves_4 ka0 ?_
    refine j_icmp_gt (pc := 7) hC 24 dX12_saves_7 (by decide) (fun c3 => ?_) (fun c3 => ?_)
    · rw [if_pos c3] at h
      obtain rfl := Option.some.inj h
      have hk : jJ X G 3 L 0 0 (jQM X G L none μ' 0 0) 24 [(0, .ref (L.2.2 a0))] [] m2 := hk
      exact j_lv [0] rfl hk
    · rw [if_neg c3] at h
      refine j_aload_n (pc := 10) hC 0 0 dX12_saves_10 rfl rfl ?_
      refine j_iload_n (pc := 11) hC 2 2 dX12_saves_11 rfl rfl ?_
      refine j_iload_n (pc := 12) hC 1 1 dX12_saves_12 rfl rfl ?_
      refine j_iload_n (pc := 13) hC 2 2 dX12_saves_13 rfl rfl ?_
      refine j_iadd (pc := 14) hC dX12_saves_14 ?_
      obtain ⟨m4, e5, h⟩ := jcl_some h
      refine j_vv (pc := 15) hC hR [.int u1, .int (x1 + u1)] iy_X12_copies (q := (RX12, TX12, 40)) (ci := 12) rfl rfl (by decide) km_X12_154 dX12_saves_15 rfl (by decide) ka0 (c_X12_copies hL ka0 e5) (by decide) (Nat.le_of_ble_eq_true rfl) rfl ?_
      refine j_iinc (pc := 18) hC 2 (u1 + (1 : Int32)) [(2, .int (u1 + (1 : Int32))), (0, .ref (L.2.2 a0)), (1, .int x1)] dX12_saves_18 rfl rfl (by decide) rfl ?_
      refine j_goto (pc := 21) hC 2 dX12_saves_21 (by decide) ?_
      obtain rfl := Option.some.inj h
      have hk : jJ X G 3 L 0 0 (jQM X G L none μ' 0 0) 2 [(0, .ref (L.2.2 a0)), (1, .int x1), (2, .int (u1 + (1 : Int32)))] [] m4 := hk
      exact j_lv [1, 2, 0] rfl hk
  · obtain ⟨m9, rfl⟩ : ∃ y, y = w6 := ⟨_, rfl⟩
    try dsimp only at h
    show jJ X G 3 L 0 0 (jQM X G L none μ' 0 0) 24 [(0, .ref (L.2.2 a0))] [] m9
    refine j_iconst (pc := 24) hC (0 : Int32) dX12_saves_24 (by decide) ?_
    refine j_istore_n (pc := 25) hC 2 [(2, .int (0 : Int32)), (0, .ref (L.2.2 a0))] dX12_saves_25 rfl (by decide) rfl rfl ?_
    obtain ⟨w19, hw20, h⟩ := jcl_some h
    refine j_lv [1, 0] rfl ?_
    refine j_loop (step := (fun (s : Int32 × jM) => f_X12_saves_L26 a0 s.1 s.2)) (P := (fun (s : Int32 × jM) => jJ X G 3 L 0 0 (jQM X G L none μ' 0 0) 26 [(0, .ref (L.2.2 a0)), (2, .int s.1)] [] s.2)) (R := (fun (e : jM) => jJ X G 3 L 0 0 (jQM X G L none μ' 0 0) 53 [(0, .ref (L.2.2 a0))] [] e)) ?_ jfu (((0 : Int32), m9)) w19 hw20 ?_
    · intro s21 o h hk
      obtain ⟨u10, m11⟩ := s21
      change f_X12_saves_L26 a0 u10 m11 = some o at h
      unfold f_X12_saves_L26 at h
      show jJ X G 3 L 0 0 (jQM X G L none μ' 0 0) 26 [(0, .ref (L.2.2 a0)), (2, .int u10)] [] m11
      refine j_iload_n (pc := 26) hC 2 1 dX12_saves_26 rfl rfl ?_
      refine j_aload_n (pc := 27) hC 0 0 dX12_saves_27 rfl rfl ?_
      refine jgr_12 (pc := 28) hC 10 (by decide) rfl kf_X12_63 dX12_saves_28 ka0 (ly_12_10 hL ka0).1 ?_
      refine j_alen (pc := 31) hC 0 dX12_saves_31 (ly_12_10 hL ka0).2.1 rfl (by decide) (ly_12_10 hL ka0).2.2 ?_
      refine j_icmp_ge (pc := 32) hC 53 dX12_saves_32 (by decide) (fun c12 => ?_) (fun c12 => ?_)
      · rw [if_pos c12] at h
        obtain rfl := Option.some.inj h
        have hk : jJ X G 3 L 0 0 (jQM X G L none μ' 0 0) 53 [(0, .ref (L.2.2 a0))] [] m11 := hk
        exact j_lv [0] rfl hk
      · rw [if_neg c12] at h
        refine j_aload_n (pc := 35) hC 0 0 dX12_saves_35 rfl rfl ?_
        refine jgr_12 (pc := 36) hC 12 (by decide) rfl kf_X12_69 dX12_saves_36 ka0 (ly_12_12 hL ka0).1 ?_
        refine j_iload_n (pc := 39) hC 2 1 dX12_saves_39 rfl rfl ?_
        refine j_aload_n (pc := 40) hC 0 0 dX12_saves_40 rfl rfl ?_
        refine jgr_12 (pc := 41) hC 10 (by decide) rfl kf_X12_63 dX12_saves_41 ka0 (ly_12_10 hL ka0).1 ?_
        refine j_iload_n (pc := 44) hC 2 1 dX12_saves_44 rfl rfl ?_
        obtain ⟨i13, v14, e15, h⟩ := jrd_some h
        refine j_iald (pc := 45) hC dX12_saves_45 (ly_12_10 hL ka0).2.1 (ly_12_10 hL ka0).2.2 i13 e15 ?_
        obtain ⟨i16, h⟩ := jin_some h
        obtain ⟨m17, e18, h⟩ := jbd_ex h
        refine j_iast (pc := 46) hC dX12_saves_46 (ly_12_12 hL ka0).2.1 (ly_12_12 hL ka0).2.2 i16 e18 ?_
        refine j_iinc (pc := 47) hC 1 (u10 + (1 : Int32)) [(2, .int (u10 + (1 : Int32))), (0, .ref (L.2.2 a0))] dX12_saves_47 rfl rfl (by decide) rfl ?_
        refine j_goto (pc := 50) hC 26 dX12_saves_50 (by decide) ?_
        obtain rfl := Option.some.inj h
        have hk : jJ X G 3 L 0 0 (jQM X G L none μ' 0 0) 26 [(0, .ref (L.2.2 a0)), (2, .int (u10 + (1 : Int32)))] [] m17 := hk
        exact j_lv [1, 0] rfl hk
    · obtain ⟨m22, rfl⟩ : ∃ y, y = w19 := ⟨_, rfl⟩
      try dsimp only at h
      show jJ X G 3 L 0 0 (jQM X G L none μ' 0 0) 53 [(0, .ref (L.2.2 a0))] [] m22
      refine j_iconst (pc := 53) hC (0 : Int32) dX12_saves_53 (by decide) ?_
      refine j_istore_n (pc := 54) hC 2 [(2, .int (0 : Int32)), (0, .ref (L.2.2 a0))] dX12_saves_54 rfl (by decide) rfl rfl ?_
      obtain ⟨w32, hw33, h⟩ := jcl_some h
      refine j_lv [1, 0] rfl ?_
      refine j_loop (step := (fun (s : Int32 × jM) => f_X12_saves_L55 a0 s.1 s.2)) (P := (fun (s : Int32 × jM) => jJ X G 3 L 0 0 (jQM X G L none μ' 0 0) 55 [(0, .ref (L.2.2 a0)), (2, .int s.1)] [] s.2)) (R := (fun (e : jM) => jJ X G 3 L 0 0 (jQM X G L none μ' 0 0) 79 [(0, .ref (L.2.2 a0))] [] e)) ?_ jfu (((0 : Int32), m22)) w32 hw33 ?_
      · intro s34 o h hk
        obtain ⟨u23, m24⟩ := s34
        change f_X12_saves_L55 a0 u23 m24 = some o at h
        unfold f_X12_saves_L55 at h
        show jJ X G 3 L 0 0 (jQM X G L none μ' 0 0) 55 [(0, .ref (L.2.2 a0)), (2, .int u23)] [] m24
        refine j_iload_n (pc := 55) hC 2 1 dX12_saves_55 rfl rfl ?_
        refine j_bipush (pc := 56) hC (9 : Int32) dX12_saves_56 (by decide) ?_
        refine j_icmp_gt (pc := 58) hC 79 dX12_saves_58 (by decide) (fun c25 => ?_) (fun c25 => ?_)
        · rw [if_pos c25] at h
          obtain rfl := Option.some.inj h
          have hk : jJ X G 3 L 0 0 (jQM X G L none μ' 0 0) 79 [(0, .ref (L.2.2 a0))] [] m24 := hk
          exact j_lv [0] rfl hk
        · rw [if_neg c25] at h
          refine j_aload_n (pc := 61) hC 0 0 dX12_saves_61 rfl rfl ?_
          refine jgr_12 (pc := 62) hC 13 (by decide) rfl kf_X12_72 dX12_saves_62 ka0 (ly_12_13 hL ka0).1 ?_
          refine j_iload_n (pc := 65) hC 2 1 dX12_saves_65 rfl rfl ?_
          refine j_aload_n (pc := 66) hC 0 0 dX12_saves_66 rfl rfl ?_
          refine jgr_12 (pc := 67) hC 11 (by decide) rfl kf_X12_66 dX12_saves_67 ka0 (ly_12_11 hL ka0).1 ?_
          refine j_iload_n (pc := 70) hC 2 1 dX12_saves_70 rfl rfl ?_
          obtain ⟨i26, v27, e28, h⟩ := jrd_some h
          refine j_iald (pc := 71) hC dX12_saves_71 (ly_12_11 hL ka0).2.1 (ly_12_11 hL ka0).2.2 i26 e28 ?_
          obtain ⟨i29, h⟩ := jin_some h
          obtain ⟨m30, e31, h⟩ := jbd_ex h
          refine j_iast (pc := 72) hC dX12_saves_72 (ly_12_13 hL ka0).2.1 (ly_12_13 hL ka0).2.2 i29 e31 ?_
          refine j_iinc (pc := 73) hC 1 (u23 + (1 : Int32)) [(2, .int (u23 + (1 : Int32))), (0, .ref (L.2.2 a0))] dX12_saves_73 rfl rfl (by decide) rfl ?_
          refine j_goto (pc := 76) hC 55 dX12_saves_76 (by decide) ?_
          obtain rfl := Option.some.inj h
          have hk : jJ X G 3 L 0 0 (jQM X G L none μ' 0 0) 55 [(0, .ref (L.2.2 a0)), (2, .int (u23 + (1 : Int32)))] [] m30 := hk
          exact j_lv [1, 0] rfl hk
      · obtain ⟨m35, rfl⟩ : ∃ y, y = w32 := ⟨_, rfl⟩
        try dsimp only at h
        show jJ X G 3 L 0 0 (jQM X G L none μ' 0 0) 79 [(0, .ref (L.2.2 a0))] [] m35
        refine j_aload_n (pc := 79) hC 0 0 dX12_saves_79 rfl rfl ?_
        refine j_aload_n (pc := 80) hC 0 0 dX12_saves_80 rfl rfl ?_
        refine jgi_12 (pc := 81) hC 9 (by decide) rfl kf_X12_158 dX12_saves_81 ka0 ?_
        obtain ⟨m36, e37, h⟩ := jbd_ex h
        refine jpi_12 (pc := 84) hC 14 (by decide) rfl kf_X12_350 dX12_saves_84 rfl (by decide) ka0 e37 ?_
        obtain rfl := Option.some.inj h
        exact j_vret (pc := 87) hC dX12_saves_87 rfl
theorem dX12_restores_0 : decode cX12_restores 0 = .ok (.aload_n 0, 1) := by decide +kernel
theorem dX12_restores_1 : decode cX12_restores 1 = .ok (.aload_n 0, 1) := by decide +kernel
theorem dX12_restores_2 : decode cX12_restores 2 = .ok (.getfield 350, 3) := by decide +kernel
theorem dX12_restores_5 : decode cX12_restores 5 = .ok (.putfield 158, 3) := by decide +kernel
theorem dX12_restores_8 : decode cX12_restores 8 = .ok (.iconst 0, 1) := by decide +kernel
theorem dX12_restores_9 : decode cX12_restores 9 = .ok (.istore_n 2, 1) := by decide +kernel
theorem dX12_restores_10 : decode cX12_restores 10 = .ok (.iload_n 2, 1) := by decide +kernel
theorem dX12_restores_11 : decode cX12_restores 11 = .ok (.aload_n 0, 1) := by decide +kernel
theorem dX12_restores_12 : decode cX12_restores 12 = .ok (.getfield 158, 3) := by decide +kernel
theorem dX12_restores_15 : decode cX12_restores 15 = .ok (.if_icmp .gt 17, 3) := by decide +kernel
theorem dX12_restores_18 : decode cX12_restores 18 = .ok (.aload_n 0, 1) := by decide +kernel
theorem dX12_restores_19 : decode cX12_restores 19 = .ok (.iload_n 1, 1) := by decide +kernel
theorem dX12_restores_20 : decode cX12_restores 20 = .ok (.iload_n 2, 1) := by decide +kernel
theorem dX12_restores_21 : decode cX12_restores 21 = .ok (.iadd, 1) := by decide +kernel
theorem dX12_restores_22 : decode cX12_restores 22 = .ok (.iload_n 2, 1) := by decide +kernel
theorem dX12_restores_23 : decode cX12_restores 23 = .ok (.invokevirtual 154, 3) := by decide +kernel
theorem dX12_restores_26 : decode cX12_restores 26 = .ok (.iinc 2 1, 3) := by decide +kernel
theorem dX12_restores_29 : decode cX12_restores 29 = .ok (.goto (-19), 3) := by decide +kernel
theorem dX12_restores_32 : decode cX12_restores 32 = .ok (.iconst 0, 1) := by decide +kernel
theorem dX12_restores_33 : decode cX12_restores 33 = .ok (.istore_n 2, 1) := by decide +kernel
theorem dX12_restores_34 : decode cX12_restores 34 = .ok (.iload_n 2, 1) := by decide +kernel
theorem dX12_restores_35 : decode cX12_restores 35 = .ok (.aload_n 0, 1) := by decide +kernel
theorem dX12_restores_36 : decode cX12_restores 36 = .ok (.getfield 63, 3) := by decide +kernel
theorem dX12_restores_39 : decode cX12_restores 39 = .ok (.arraylength, 1) := by decide +kernel
theorem dX12_restores_40 : decode cX12_restores 40 = .ok (.if_icmp .ge 21, 3) := by decide +kernel
theorem dX12_restores_43 : decode cX12_restores 43 = .ok (.aload_n 0, 1) := by decide +kernel
theorem dX12_restores_44 : decode cX12_restores 44 = .ok (.getfield 63, 3) := by decide +kernel
theorem dX12_restores_47 : decode cX12_restores 47 = .ok (.iload_n 2, 1) := by decide +kernel
theorem dX12_restores_48 : decode cX12_restores 48 = .ok (.aload_n 0, 1) := by decide +kernel
theorem dX12_restores_49 : decode cX12_restores 49 = .ok (.getfield 69, 3) := by decide +kernel
theorem dX12_restores_52 : decode cX12_restores 52 = .ok (.iload_n 2, 1) := by decide +kernel
theorem dX12_restores_53 : decode cX12_restores 53 = .ok (.iaload, 1) := by decide +kernel
theorem dX12_restores_54 : decode cX12_restores 54 = .ok (.iastore, 1) := by decide +kernel
theorem dX12_restores_55 : decode cX12_restores 55 = .ok (.iinc 2 1, 3) := by decide +kernel
theorem dX12_restores_58 : decode cX12_restores 58 = .ok (.goto (-24), 3) := by decide +kernel
theorem dX12_restores_61 : decode cX12_restores 61 = .ok (.iconst 0, 1) := by decide +kernel
theorem dX12_restores_62 : decode cX12_restores 62 = .ok (.istore_n 2, 1) := by decide +kernel
theorem dX12_restores_63 : decode cX12_restores 63 = .ok (.iload_n 2, 1) := by decide +kernel
theorem dX12_restores_64 : decode cX12_restores 64 = .ok (.bipush 9, 2) := by decide +kernel
theorem dX12_restores_66 : decode cX12_restores 66 = .ok (.if_icmp .gt 21, 3) := by decide +kernel
theorem dX12_restores_69 : decode cX12_restores 69 = .ok (.aload_n 0, 1) := by decide +kernel
theorem dX12_restores_70 : decode cX12_restores 70 = .ok (.getfield 66, 3) := by decide +kernel
theorem dX12_restores_73 : decode cX12_restores 73 = .ok (.iload_n 2, 1) := by decide +kernel
theorem dX12_restores_74 : decode cX12_restores 74 = .ok (.aload_n 0, 1) := by decide +kernel
theorem dX12_restores_75 : decode cX12_restores 75 = .ok (.getfield 72, 3) := by decide +kernel
theorem dX12_restores_78 : decode cX12_restores 78 = .ok (.iload_n 2, 1) := by decide +kernel
theorem dX12_restores_79 : decode cX12_restores 79 = .ok (.iaload, 1) := by decide +kernel
theorem dX12_restores_80 : decode cX12_restores 80 = .ok (.iastore, 1) := by decide +kernel
theorem dX12_restores_81 : decode cX12_restores 81 = .ok (.iinc 2 1, 3) := by decide +kernel
theorem dX12_restores_84 : decode cX12_restores 84 = .ok (.goto (-21), 3) := by decide +kernel
theorem dX12_restores_87 : decode cX12_restores 87 = .ok (.return_, 1) := by decide +kernel
def f_X12_restores_L10 (a0 : Nat) (x1 : Int32) (u3 : Int32) (m4 : jM) : Option ((Int32 × jM) ⊕ (jM)) :=
  (if (m4.1 a0 9) < u3 then some (.inr m4) else jcl (f_X12_copies a0 (x1 + u3) u3 m4) (fun m6 => some (.inl ((u3 + (1 : Int32), m6)))))
def f_X12_restores_L34 (a0 : Nat) (u12 : Int32) (m13 : jM) : Option ((Int32 × jM) ⊕ (jM)) :=
  (if (nI 220) ≤ u12 then some (.inr m13) else jrd (m13.1 (a0 + 6)) u12 220 (fun v16 => jin u12 220 (jbd (jsi m13 (a0 + 4) u12.toNatClampNeg v16) (fun m19 => some (.inl ((u12 + (1 : Int32), m19)))))))
def f_X12_restores_L63 (a0 : Nat) (u25 : Int32) (m26 : jM) : Option ((Int32 × jM) ⊕ (jM)) :=
  (if (9 : Int32) < u25 then some (.inr m26) else jrd (m26.1 (a0 + 7)) u25 10 (fun v29 => jin u25 10 (jbd (jsi m26 (a0 + 5) u25.toNatClampNeg v29) (fun m32 => some (.inl ((u25 + (1 : Int32), m32)))))))
def f_X12_restores (a0 : Nat) (x1 : Int32) (μ : jM) : Option (jM) :=
  jbd (jsi μ a0 9 (μ.1 a0 14)) (fun m1 => jcl (jloop (fun (s : Int32 × jM) => f_X12_restores_L10 a0 x1 s.1 s.2) jfu (((0 : Int32), m1))) (fun w8 => jcl (jloop (fun (s : Int32 × jM) => f_X12_restores_L34 a0 s.1 s.2) jfu (((0 : Int32), w8))) (fun w21 => jcl (jloop (fun (s : Int32 × jM) => f_X12_restores_L63 a0 s.1 s.2) jfu (((0 : Int32), w21))) (fun w34 => some w34))))
set_option maxHeartbeats 4000000 in
set_option maxRecDepth 100000 in
theorem c_X12_restores {l : Launch} {G : jG} {L : jL} (hL : jOKL L) {a0 : Nat} {x1 : Int32} (ka0 : jK L a0 12) {μ μ' : jM} (h : f_X12_restores a0 x1 μ = some μ') : jCt l G L 4 yX12_restores cX12_restores 3 none [.ref (L.2.2 a0), .int x1] μ none μ' := by
  refine jCt_of (by decide) (Nat.le_of_ble_eq_true rfl) (fun X hC hX hR => ?_)
  subst hX
  have hC : jC X G cX12_restores 3 RX12 none := hC
  unfold f_X12_restores at h
  show jJ X G 3 L 0 0 (jQM X G L none μ' 0 0) 0 [(0, .ref (L.2.2 a0)), (1, .int x1)] [] μ
  refine j_aload_n (pc := 0) hC 0 0 dX12_restores_0 rfl rfl ?_
  refine j_aload_n (pc := 1) hC 0 0 dX12_restores_1 rfl rfl ?_
  refine jgi_12 (pc := 2) hC 14 (by decide) rfl kf_X12_350 dX12_restores_2 ka0 ?_
  obtain ⟨m1, e2, h⟩ := jbd_ex h
  refine jpi_12 (pc := 5) hC 9 (by decide) rfl kf_X12_158 dX12_restores_5 rfl (by decide) ka0 e2 ?_
  refine j_iconst (pc := 8) hC (0 : Int32) dX12_restores_8 (by decide) ?_
  refine j_istore_n (pc := 9) hC 2 [(2, .int (0 : Int32)), (0, .ref (L.2.2 a0)), (1, .int x1)] dX12_restores_9 rfl (by decide) rfl rfl ?_
  obtain ⟨w8, hw9, h⟩ := jcl_some h
  refine j_lv [1, 2, 0] rfl ?_
  refine j_loop (step := (fun (s : Int32 × jM) => f_X12_restores_L10 a0 x1 s.1 s.2)) (P := (fun (s : Int32 × jM) => jJ X G 3 L 0 0 (jQM X G L none μ' 0 0) 10 [(0, .ref (L.2.2 a0)), (1, .int x1), (2, .int s.1)] [] s.2)) (R := (fun (e : jM) => jJ X G 3 L 0 0 (jQM X G L none μ' 0 0) 32 [(0, .ref (L.2.2 a0))] [] e)) ?_ jfu (((0 : Int32), m1)) w8 hw9 ?_
  · intro s10 o h hk
    obtain ⟨u3, m4⟩ := s10
    change f_X12_restores_L10 a0 x1 u3 m4 = some o at h
    unfold f_X12_restores_L10 at h
    show jJ X G 3 L 0 0 (jQM X G L none μ' 0 0) 10 [(0, .ref (L.2.2 a0)), (1, .int x1), (2, .int u3)] [] m4
    refine j_iload_n (pc := 10) hC 2 2 dX12_restores_10 rfl rfl ?_
    refine j_aload_n (pc := 11) hC 0 0 dX12_restores_11 rfl rfl ?_
    refine jgi_12 (pc := 12) hC 9 (by decide) rfl kf_X12_158 dX12_restores_12 ka0 ?_
    refine j_icmp_gt (pc := 15) hC 32 dX12_restores_15 (by decide) (fun c5 => ?_) (fun c5 => ?_)
    · rw [if_pos c5] at h
      obtain rfl := Option.some.inj h
      have hk : jJ X G 3 L 0 0 (jQM X G L none μ' 0 0) 32 [(0, .ref (L.2.2 a0))] [] m4 := hk
      exact j_lv [0] rfl hk
    · rw [if_neg c5] at h
      refine j_aload_n (pc := 18) hC 0 0 dX12_restores_18 rfl rfl ?_
      refine j_iload_n (pc := 19) hC 1 1 dX12_restores_19 rfl rfl ?_
      refine j_iload_n (pc := 20) hC 2 2 dX12_restores_20 rfl rfl ?_
      refine j_iadd (pc := 21) hC dX12_restores_21 ?_
      refine j_iload_n (pc := 22) hC 2 2 dX12_restores_22 rfl rfl ?_
      obtain ⟨m6, e7, h⟩ := jcl_some h
      refine j_vv (pc := 23) hC hR [.int (x1 + u3), .int u3] iy_X12_copies (q := (RX12, TX12, 40)) (ci := 12) rfl rfl (by decide) km_X12_154 dX12_restores_23 rfl (by decide) ka0 (c_X12_copies hL ka0 e7) (by decide) (Nat.le_of_ble_eq_true rfl) rfl ?_
      refine j_iinc (pc := 26) hC 2 (u3 + (1 : Int32)) [(2, .int (u3 + (1 : Int32))), (0, .ref (L.2.2 a0)), (1, .int x1)] dX12_restores_26 rfl rfl (by decide) rfl ?_
      refine j_goto (pc := 29) hC 10 dX12_restores_29 (by decide) ?_
      obtain rfl := Option.some.inj h
      have hk : jJ X G 3 L 0 0 (jQM X G L none μ' 0 0) 10 [(0, .ref (L.2.2 a0)), (1, .int x1), (2, .int (u3 + (1 : Int32)))] [] m6 := hk
      exact j_lv [1, 2, 0] rfl hk
  · obtain ⟨m11, rfl⟩ : ∃ y, y = w8 := ⟨_, rfl⟩
    try dsimp only at h
    show jJ X G 3 L 0 0 (jQM X G L none μ' 0 0) 32 [(0, .ref (L.2.2 a0))] [] m11
    refine j_iconst (pc := 32) hC (0 : Int32) dX12_restores_32 (by decide) ?_
    refine j_istore_n (pc := 33) hC 2 [(2, .int (0 : Int32)), (0, .ref (L.2.2 a0))] dX12_restores_33 rfl (by decide) rfl rfl ?_
    obtain ⟨w21, hw22, h⟩ := jcl_some h
    refine j_lv [1, 0] rfl ?_
    refine j_loop (step := (fun (s : Int32 × jM) => f_X12_restores_L34 a0 s.1 s.2)) (P := (fun (s : Int32 × jM) => jJ X G 3 L 0 0 (jQM X G L none μ' 0 0) 34 [(0, .ref (L.2.2 a0)), (2, .int s.1)] [] s.2)) (R := (fun (e : jM) => jJ X G 3 L 0 0 (jQM X G L none μ' 0 0) 61 [(0, .ref (L.2.2 a0))] [] e)) ?_ jfu (((0 : Int32), m11)) w21 hw22 ?_
    · intro s23 o h hk
      obtain ⟨u12, m13⟩ := s23
      change f_X12_restores_L34 a0 u12 m13 = some o at h
      unfold f_X12_restores_L34 at h
      show jJ X G 3 L 0 0 (jQM X G L none μ' 0 0) 34 [(0, .ref (L.2.2 a0)), (2, .int u12)] [] m13
      refine j_iload_n (pc := 34) hC 2 1 dX12_restores_34 rfl rfl ?_
      refine j_aload_n (pc := 35) hC 0 0 dX12_restores_35 rfl rfl ?_
      refine jgr_12 (pc := 36) hC 10 (by decide) rfl kf_X12_63 dX12_restores_36 ka0 (ly_12_10 hL ka0).1 ?_
      refine j_alen (pc := 39) hC 0 dX12_restores_39 (ly_12_10 hL ka0).2.1 rfl (by decide) (ly_12_10 hL ka0).2.2 ?_
      refine j_icmp_ge (pc := 40) hC 61 dX12_restores_40 (by decide) (fun c14 => ?_) (fun c14 => ?_)
      · rw [if_pos c14] at h
        obtain rfl := Option.some.inj h
        have hk : jJ X G 3 L 0 0 (jQM X G L none μ' 0 0) 61 [(0, .ref (L.2.2 a0))] [] m13 := hk
        exact j_lv [0] rfl hk
      · rw [if_neg c14] at h
        refine j_aload_n (pc := 43) hC 0 0 dX12_restores_43 rfl rfl ?_
        refine jgr_12 (pc := 44) hC 10 (by decide) rfl kf_X12_63 dX12_restores_44 ka0 (ly_12_10 hL ka0).1 ?_
        refine j_iload_n (pc := 47) hC 2 1 dX12_restores_47 rfl rfl ?_
        refine j_aload_n (pc := 48) hC 0 0 dX12_restores_48 rfl rfl ?_
        refine jgr_12 (pc := 49) hC 12 (by decide) rfl kf_X12_69 dX12_restores_49 ka0 (ly_12_12 hL ka0).1 ?_
        refine j_iload_n (pc := 52) hC 2 1 dX12_restores_52 rfl rfl ?_
        obtain ⟨i15, v16, e17, h⟩ := jrd_some h
        refine j_iald (pc := 53) hC dX12_restores_53 (ly_12_12 hL ka0).2.1 (ly_12_12 hL ka0).2.2 i15 e17 ?_
        obtain ⟨i18, h⟩ := jin_some h
        obtain ⟨m19, e20, h⟩ := jbd_ex h
        refine j_iast (pc := 54) hC dX12_restores_54 (ly_12_10 hL ka0).2.1 (ly_12_10 hL ka0).2.2 i18 e20 ?_
        refine j_iinc (pc := 55) hC 1 (u12 + (1 : Int32)) [(2, .int (u12 + (1 : Int32))), (0, .ref (L.2.2 a0))] dX12_restores_55 rfl rfl (by decide) rfl ?_
        refine j_goto (pc := 58) hC 34 dX12_restores_58 (by decide) ?_
        obtain rfl := Option.some.inj h
        have hk : jJ X G 3 L 0 0 (jQM X G L none μ' 0 0) 34 [(0, .ref (L.2.2 a0)), (2, .int (u12 + (1 : Int32)))] [] m19 := hk
        exact j_lv [1, 0] rfl hk
    · obtain ⟨m24, rfl⟩ : ∃ y, y = w21 := ⟨_, rfl⟩
      try dsimp only at h
      show jJ X G 3 L 0 0 (jQM X G L none μ' 0 0) 61 [(0, .ref (L.2.2 a0))] [] m24
      refine j_iconst (pc := 61) hC (0 : Int32) dX12_restores_61 (by decide) ?_
      refine j_istore_n (pc := 62) hC 2 [(2, .int (0 : Int32)), (0, .ref (L.2.2 a0))] dX12_restores_62 rfl (by decide) rfl rfl ?_
      obtain ⟨w34, hw35, h⟩ := jcl_some h
      refine j_lv [1, 0] rfl ?_
      refine j_loop (step := (fun (s : Int32 × jM) => f_X12_restores_L63 a0 s.1 s.2)) (P := (fun (s : Int32 × jM) => jJ X G 3 L 0 0 (jQM X G L none μ' 0 0) 63 [(0, .ref (L.2.2 a0)), (2, .int s.1)] [] s.2)) (R := (fun (e : jM) => jJ X G 3 L 0 0 (jQM X G L none μ' 0 0) 87 [] [] e)) ?_ jfu (((0 : Int32), m24)) w34 hw35 ?_
      · intro s36 o h hk
        obtain ⟨u25, m26⟩ := s36
        change f_X12_restores_L63 a0 u25 m26 = some o at h
        unfold f_X12_restores_L63 at h
        show jJ X G 3 L 0 0 (jQM X G L none μ' 0 0) 63 [(0, .ref (L.2.2 a0)), (2, .int u25)] [] m26
        refine j_iload_n (pc := 63) hC 2 1 dX12_restores_63 rfl rfl ?_
        refine j_bipush (pc := 64) hC (9 : Int32) dX12_restores_64 (by decide) ?_
        refine j_icmp_gt (pc := 66) hC 87 dX12_restores_66 (by decide) (fun c27 => ?_) (fun c27 => ?_)
        · rw [if_pos c27] at h
          obtain rfl := Option.some.inj h
          have hk : jJ X G 3 L 0 0 (jQM X G L none μ' 0 0) 87 [] [] m26 := hk
          exact j_lv [] rfl hk
        · rw [if_neg c27] at h
          refine j_aload_n (pc := 69) hC 0 0 dX12_restores_69 rfl rfl ?_
          refine jgr_12 (pc := 70) hC 11 (by decide) rfl kf_X12_66 dX12_restores_70 ka0 (ly_12_11 hL ka0).1 ?_
          refine j_iload_n (pc := 73) hC 2 1 dX12_restores_73 rfl rfl ?_
          refine j_aload_n (pc := 74) hC 0 0 dX12_restores_74 rfl rfl ?_
          refine jgr_12 (pc := 75) hC 13 (by decide) rfl kf_X12_72 dX12_restores_75 ka0 (ly_12_13 hL ka0).1 ?_
          refine j_iload_n (pc := 78) hC 2 1 dX12_restores_78 rfl rfl ?_
          obtain ⟨i28, v29, e30, h⟩ := jrd_some h
          refine j_iald (pc := 79) hC dX12_restores_79 (ly_12_13 hL ka0).2.1 (ly_12_13 hL ka0).2.2 i28 e30 ?_
          obtain ⟨i31, h⟩ := jin_some h
          obtain ⟨m32, e33, h⟩ := jbd_ex h
          refine j_iast (pc := 80) hC dX12_restores_80 (ly_12_11 hL ka0).2.1 (ly_12_11 hL ka0).2.2 i31 e33 ?_
          refine j_iinc (pc := 81) hC 1 (u25 + (1 : Int32)) [(2, .int (u25 + (1 : Int32))), (0, .ref (L.2.2 a0))] dX12_restores_81 rfl rfl (by decide) rfl ?_
          refine j_goto (pc := 84) hC 63 dX12_restores_84 (by decide) ?_
          obtain rfl := Option.some.inj h
          have hk : jJ X G 3 L 0 0 (jQM X G L none μ' 0 0) 63 [(0, .ref (L.2.2 a0)), (2, .int (u25 + (1 : Int32)))] [] m32 := hk
          exact j_lv [1, 0] rfl hk
      · obtain ⟨m37, rfl⟩ : ∃ y, y = w34 := ⟨_, rfl⟩
        try dsimp only at h
        show jJ X G 3 L 0 0 (jQM X G L none μ' 0 0) 87 [] [] m37
        obtain rfl := Option.some.inj h
        exact j_vret (pc := 87) hC dX12_restores_87 rfl
theorem dX12_run_0 : decode cX12_run 0 = .ok (.aload_n 0, 1) := by decide +kernel
theorem dX12_run_1 : decode cX12_run 1 = .ok (.iconst 0, 1) := by decide +kernel
theorem dX12_run_2 : decode cX12_run 2 = .ok (.putfield 1, 3) := by decide +kernel
theorem dX12_run_5 : decode cX12_run 5 = .ok (.aload_n 0, 1) := by decide +kernel
theorem dX12_run_6 : decode cX12_run 6 = .ok (.invokevirtual 258, 3) := by decide +kernel
theorem dX12_run_9 : decode cX12_run 9 = .ok (.aload_n 0, 1) := by decide +kernel
theorem dX12_run_10 : decode cX12_run 10 = .ok (.iconst 0, 1) := by decide +kernel
theorem dX12_run_11 : decode cX12_run 11 = .ok (.putfield 293, 3) := by decide +kernel
theorem dX12_run_14 : decode cX12_run 14 = .ok (.aload_n 0, 1) := by decide +kernel
theorem dX12_run_15 : decode cX12_run 15 = .ok (.invokevirtual 317, 3) := by decide +kernel
theorem dX12_run_18 : decode cX12_run 18 = .ok (.ifCond .ne 10, 3) := by decide +kernel
theorem dX12_run_21 : decode cX12_run 21 = .ok (.iconst (-1), 1) := by decide +kernel
theorem dX12_run_22 : decode cX12_run 22 = .ok (.aload_n 0, 1) := by decide +kernel
theorem dX12_run_23 : decode cX12_run 23 = .ok (.getfield 28, 3) := by decide +kernel
theorem dX12_run_26 : decode cX12_run 26 = .ok (.isub, 1) := by decide +kernel
theorem dX12_run_27 : decode cX12_run 27 = .ok (.ireturn, 1) := by decide +kernel
theorem dX12_run_28 : decode cX12_run 28 = .ok (.aload_n 0, 1) := by decide +kernel
theorem dX12_run_29 : decode cX12_run 29 = .ok (.bipush 13, 2) := by decide +kernel
theorem dX12_run_31 : decode cX12_run 31 = .ok (.invokevirtual 353, 3) := by decide +kernel
theorem dX12_run_34 : decode cX12_run 34 = .ok (.aload_n 0, 1) := by decide +kernel
theorem dX12_run_35 : decode cX12_run 35 = .ok (.iconst 0, 1) := by decide +kernel
theorem dX12_run_36 : decode cX12_run 36 = .ok (.putfield 341, 3) := by decide +kernel
theorem dX12_run_39 : decode cX12_run 39 = .ok (.aload_n 0, 1) := by decide +kernel
theorem dX12_run_40 : decode cX12_run 40 = .ok (.iconst 0, 1) := by decide +kernel
theorem dX12_run_41 : decode cX12_run 41 = .ok (.aload_n 0, 1) := by decide +kernel
theorem dX12_run_42 : decode cX12_run 42 = .ok (.getfield 293, 3) := by decide +kernel
theorem dX12_run_45 : decode cX12_run 45 = .ok (.invokevirtual 347, 3) := by decide +kernel
theorem dX12_run_48 : decode cX12_run 48 = .ok (.istore_n 1, 1) := by decide +kernel
theorem dX12_run_49 : decode cX12_run 49 = .ok (.iload_n 1, 1) := by decide +kernel
theorem dX12_run_50 : decode cX12_run 50 = .ok (.ifCond .lt 19, 3) := by decide +kernel
theorem dX12_run_53 : decode cX12_run 53 = .ok (.aload_n 0, 1) := by decide +kernel
theorem dX12_run_54 : decode cX12_run 54 = .ok (.bipush 13, 2) := by decide +kernel
theorem dX12_run_56 : decode cX12_run 56 = .ok (.invokevirtual 357, 3) := by decide +kernel
theorem dX12_run_59 : decode cX12_run 59 = .ok (.bipush (-100), 2) := by decide +kernel
theorem dX12_run_61 : decode cX12_run 61 = .ok (.aload_n 0, 1) := by decide +kernel
theorem dX12_run_62 : decode cX12_run 62 = .ok (.getfield 90, 3) := by decide +kernel
theorem dX12_run_65 : decode cX12_run 65 = .ok (.iload_n 1, 1) := by decide +kernel
theorem dX12_run_66 : decode cX12_run 66 = .ok (.iaload, 1) := by decide +kernel
theorem dX12_run_67 : decode cX12_run 67 = .ok (.isub, 1) := by decide +kernel
theorem dX12_run_68 : decode cX12_run 68 = .ok (.ireturn, 1) := by decide +kernel
theorem dX12_run_69 : decode cX12_run 69 = .ok (.aload_n 0, 1) := by decide +kernel
theorem dX12_run_70 : decode cX12_run 70 = .ok (.iconst 0, 1) := by decide +kernel
theorem dX12_run_71 : decode cX12_run 71 = .ok (.putfield 11, 3) := by decide +kernel
theorem dX12_run_74 : decode cX12_run 74 = .ok (.aload_n 0, 1) := by decide +kernel
theorem dX12_run_75 : decode cX12_run 75 = .ok (.aload_n 0, 1) := by decide +kernel
theorem dX12_run_76 : decode cX12_run 76 = .ok (.bipush 13, 2) := by decide +kernel
theorem dX12_run_78 : decode cX12_run 78 = .ok (.iconst 0, 1) := by decide +kernel
theorem dX12_run_79 : decode cX12_run 79 = .ok (.invokevirtual 176, 3) := by decide +kernel
theorem dX12_run_82 : decode cX12_run 82 = .ok (.i2l, 1) := by decide +kernel
theorem dX12_run_83 : decode cX12_run 83 = .ok (.invokevirtual 146, 3) := by decide +kernel
theorem dX12_run_86 : decode cX12_run 86 = .ok (.aload_n 0, 1) := by decide +kernel
theorem dX12_run_87 : decode cX12_run 87 = .ok (.getfield 341, 3) := by decide +kernel
theorem dX12_run_90 : decode cX12_run 90 = .ok (.ireturn, 1) := by decide +kernel
def f_X12_run (a0 : Nat) (μ : jM) : Option (Int32 × jM) :=
  jbd (jsi μ a0 0 (0 : Int32)) (fun m1 => jbd (f_X12_reads a0 m1) (fun m3 => jbd (jsi m3 a0 24 (0 : Int32)) (fun m5 => jcl2 (f_X12_readsRun 8 a0 m5) (fun v7 m8 => (if v7 = (0 : Int32) then some (((-1 : Int32) - (m8.1 a0 5), m8)) else jcl (f_X12_saves a0 (13 : Int32) m8) (fun m11 => jbd (jsi m11 a0 25 (0 : Int32)) (fun m13 => jcl2 (f_X12_does 8 a0 (0 : Int32) (m13.1 a0 24) m13) (fun v15 m16 => (if v15 < (0 : Int32) then jbd (jsi m16 a0 1 (0 : Int32)) (fun m19 => jcl (f_X12_othersMany a0 (13 : Int32) (0 : Int32) m19) (fun v21 => jcl (f_X12_enters a0 v21.toInt64 m19) (fun m23 => some ((m23.1 a0 25, m23))))) else jcl (f_X12_restores a0 (13 : Int32) m16) (fun m25 => jrd (m25.1 (a0 + 13)) v15 168 (fun v28 => some (((-100 : Int32) - v28, m25)))))))))))))
set_option maxHeartbeats 4000000 in
set_option maxRecDepth 100000 in
theorem c_X12_run {l : Launch} {G : jG} {L : jL} (hL : jOKL L) {a0 : Nat} (ka0 : jK L a0 12) {μ μ' : jM} {r : Int32} (h : f_X12_run a0 μ = some ((r, μ'))) : jCt l G L 32 yX12_run cX12_run 2 (some .int) [.ref (L.2.2 a0)] μ (some (.int r)) μ' := by
  refine jCt_of (by decide) (Nat.le_of_ble_eq_true rfl) (fun X hC hX hR => ?_)
  subst hX
  have hC : jC X G cX12_run 2 RX12 (some .int) := hC
  unfold f_X12_run at h
  show jJ X G 2 L 0 0 (jQM X G L (some (.int r)) μ' 0 0) 0 [(0, .ref (L.2.2 a0))] [] μ
  refine j_aload_n (pc := 0) hC 0 0 dX12_run_0 rfl rfl ?_
  refine j_iconst (pc := 1) hC (0 : Int32) dX12_run_1 (by decide) ?_
  obtain ⟨m1, e2, h⟩ := jbd_ex h
  refine jpi_12 (pc := 2) hC 0 (by decide) rfl kf_X12_1 dX12_run_2 rfl (by decide) ka0 e2 ?_
  refine j_aload_n (pc := 5) hC 0 0 dX12_run_5 rfl rfl ?_
  obtain ⟨m3, e4, h⟩ := jbd_ex h
  refine j_vv (pc := 6) hC hR [] iy_X12_reads (q := (RX12, TX12, 40)) (ci := 12) rfl rfl (by decide) km_X12_258 dX12_run_6 rfl (by decide) ka0 (c_X12_reads hL ka0 e4.symm) (by decide) (Nat.le_of_ble_eq_true rfl) rfl ?_
  refine j_aload_n (pc := 9) hC 0 0 dX12_run_9 rfl rfl ?_
  refine j_iconst (pc := 10) hC (0 : Int32) dX12_run_10 (by decide) ?_
  obtain ⟨m5, e6, h⟩ := jbd_ex h
  refine jpi_12 (pc := 11) hC 24 (by decide) rfl kf_X12_293 dX12_run_11 rfl (by decide) ka0 e6 ?_
  refine j_aload_n (pc := 14) hC 0 0 dX12_run_14 rfl rfl ?_
  obtain ⟨v7, m8, e9, h⟩ := jcl2_some h
  refine j_vi (pc := 15) hC hR [] iy_X12_readsRun (q := (RX12, TX12, 40)) (ci := 12) rfl rfl (by decide) km_X12_317 dX12_run_15 rfl (by decide) ka0 (c_X12_readsRun hL 8 ka0 e9) (by decide) (Nat.le_of_ble_eq_true rfl) rfl ?_
  refine j_if_ne (pc := 18) hC 28 dX12_run_18 (by decide) (fun c10 => ?_) (fun c10 => ?_)
  · rw [if_neg c10] at h
    refine j_aload_n (pc := 28) hC 0 0 dX12_run_28 rfl rfl ?_
    refine j_bipush (pc := 29) hC (13 : Int32) dX12_run_29 (by decide) ?_
    obtain ⟨m11, e12, h⟩ := jcl_some h
    refine j_vv (pc := 31) hC hR [.int (13 : Int32)] iy_X12_saves (q := (RX12, TX12, 40)) (ci := 12) rfl rfl (by decide) km_X12_353 dX12_run_31 rfl (by decide) ka0 (c_X12_saves hL ka0 e12) (by decide) (Nat.le_of_ble_eq_true rfl) rfl ?_
    refine j_aload_n (pc := 34) hC 0 0 dX12_run_34 rfl rfl ?_
    refine j_iconst (pc := 35) hC (0 : Int32) dX12_run_35 (by decide) ?_
    obtain ⟨m13, e14, h⟩ := jbd_ex h
    refine jpi_12 (pc := 36) hC 25 (by decide) rfl kf_X12_341 dX12_run_36 rfl (by decide) ka0 e14 ?_
    refine j_aload_n (pc := 39) hC 0 0 dX12_run_39 rfl rfl ?_
    refine j_iconst (pc := 40) hC (0 : Int32) dX12_run_40 (by decide) ?_
    refine j_aload_n (pc := 41) hC 0 0 dX12_run_41 rfl rfl ?_
    refine jgi_12 (pc := 42) hC 24 (by decide) rfl kf_X12_293 dX12_run_42 ka0 ?_
    obtain ⟨v15, m16, e17, h⟩ := jcl2_some h
    refine j_vi (pc := 45) hC hR [.int (0 : Int32), .int (m13.1 a0 24)] iy_X12_does (q := (RX12, TX12, 40)) (ci := 12) rfl rfl (by decide) km_X12_347 dX12_run_45 rfl (by decide) ka0 (c_X12_does hL 8 ka0 e17) (by decide) (Nat.le_of_ble_eq_true rfl) rfl ?_
    refine j_istore_n (pc := 48) hC 1 [(1, .int v15), (0, .ref (L.2.2 a0))] dX12_run_48 rfl (by decide) rfl rfl ?_
    refine j_iload_n (pc := 49) hC 1 0 dX12_run_49 rfl rfl ?_
    refine j_if_lt (pc := 50) hC 69 dX12_run_50 (by decide) (fun c18 => ?_) (fun c18 => ?_)
    · rw [if_pos c18] at h
      refine j_aload_n (pc := 69) hC 0 1 dX12_run_69 rfl rfl ?_
      refine j_iconst (pc := 70) hC (0 : Int32) dX12_run_70 (by decide) ?_
      obtain ⟨m19, e20, h⟩ := jbd_ex h
      refine jpi_12 (pc := 71) hC 1 (by decide) rfl kf_X12_11 dX12_run_71 rfl (by decide) ka0 e20 ?_
      refine j_aload_n (pc := 74) hC 0 1 dX12_run_74 rfl rfl ?_
      refine j_aload_n (pc := 75) hC 0 1 dX12_run_75 rfl rfl ?_
      refine j_bipush (pc := 76) hC (13 : Int32) dX12_run_76 (by decide) ?_
      refine j_iconst (pc := 78) hC (0 : Int32) dX12_run_78 (by decide) ?_
      obtain ⟨v21, e22, h⟩ := jcl_some h
      refine j_vi (pc := 79) hC hR [.int (13 : Int32), .int (0 : Int32)] iy_X12_othersMany (q := (RX12, TX12, 40)) (ci := 12) rfl rfl (by decide) km_X12_176 dX12_run_79 rfl (by decide) ka0 (c_X12_othersMany hL ka0 e22) (by decide) (Nat.le_of_ble_eq_true rfl) rfl ?_
      refine j_i2l (pc := 82) hC dX12_run_82 ?_
      obtain ⟨m23, e24, h⟩ := jcl_some h
      refine j_vv (pc := 83) hC hR [.long v21.toInt64] iy_X12_enters (q := (RX12, TX12, 40)) (ci := 12) rfl rfl (by decide) km_X12_146 dX12_run_83 rfl (by decide) ka0 (c_X12_enters hL ka0 e24) (by decide) (Nat.le_of_ble_eq_true rfl) rfl ?_
      refine j_aload_n (pc := 86) hC 0 1 dX12_run_86 rfl rfl ?_
      refine jgi_12 (pc := 87) hC 25 (by decide) rfl kf_X12_341 dX12_run_87 ka0 ?_
      obtain ⟨rfl, rfl⟩ := Prod.mk.inj (Option.some.inj h)
      exact j_iret (pc := 90) hC dX12_run_90 rfl
    · rw [if_neg c18] at h
      refine j_aload_n (pc := 53) hC 0 1 dX12_run_53 rfl rfl ?_
      refine j_bipush (pc := 54) hC (13 : Int32) dX12_run_54 (by decide) ?_
      obtain ⟨m25, e26, h⟩ := jcl_some h
      refine j_vv (pc := 56) hC hR [.int (13 : Int32)] iy_X12_restores (q := (RX12, TX12, 40)) (ci := 12) rfl rfl (by decide) km_X12_357 dX12_run_56 rfl (by decide) ka0 (c_X12_restores hL ka0 e26) (by decide) (Nat.le_of_ble_eq_true rfl) rfl ?_
      refine j_bipush (pc := 59) hC (-100 : Int32) dX12_run_59 (by decide) ?_
      refine j_aload_n (pc := 61) hC 0 1 dX12_run_61 rfl rfl ?_
      refine jgr_12 (pc := 62) hC 22 (by decide) rfl kf_X12_90 dX12_run_62 ka0 (ly_12_22 hL ka0).1 ?_
      refine j_iload_n (pc := 65) hC 1 0 dX12_run_65 rfl rfl ?_
      obtain ⟨i27, v28, e29, h⟩ := jrd_some h
      refine j_iald (pc := 66) hC dX12_run_66 (ly_12_22 hL ka0).2.1 (ly_12_22 hL ka0).2.2 i27 e29 ?_
      refine j_isub (pc := 67) hC dX12_run_67 ?_
      obtain ⟨rfl, rfl⟩ := Prod.mk.inj (Option.some.inj h)
      exact j_iret (pc := 68) hC dX12_run_68 rfl
  · rw [if_pos c10] at h
    refine j_iconst (pc := 21) hC (-1 : Int32) dX12_run_21 (by decide) ?_
    refine j_aload_n (pc := 22) hC 0 0 dX12_run_22 rfl rfl ?_
    refine jgi_12 (pc := 23) hC 5 (by decide) rfl kf_X12_28 dX12_run_23 ka0 ?_
    refine j_isub (pc := 26) hC dX12_run_26 ?_
    obtain ⟨rfl, rfl⟩ := Prod.mk.inj (Option.some.inj h)
    exact j_iret (pc := 27) hC dX12_run_27 rfl
theorem dX12_was_0 : decode cX12_was 0 = .ok (.aload_n 0, 1) := by decide +kernel
theorem dX12_was_1 : decode cX12_was 1 = .ok (.iconst 0, 1) := by decide +kernel
theorem dX12_was_2 : decode cX12_was 2 = .ok (.putfield 1, 3) := by decide +kernel
theorem dX12_was_5 : decode cX12_was 5 = .ok (.iload_n 1, 1) := by decide +kernel
theorem dX12_was_6 : decode cX12_was 6 = .ok (.i2l, 1) := by decide +kernel
theorem dX12_was_7 : decode cX12_was 7 = .ok (.lconst 1, 1) := by decide +kernel
theorem dX12_was_8 : decode cX12_was 8 = .ok (.aload_n 0, 1) := by decide +kernel
theorem dX12_was_9 : decode cX12_was 9 = .ok (.getfield 158, 3) := by decide +kernel
theorem dX12_was_12 : decode cX12_was 12 = .ok (.i2l, 1) := by decide +kernel
theorem dX12_was_13 : decode cX12_was 13 = .ok (.invokestatic 21, 3) := by decide +kernel
theorem dX12_was_16 : decode cX12_was 16 = .ok (.ifCond .eq 10, 3) := by decide +kernel
theorem dX12_was_19 : decode cX12_was 19 = .ok (.iload_n 2, 1) := by decide +kernel
theorem dX12_was_20 : decode cX12_was 20 = .ok (.invokestatic 138, 3) := by decide +kernel
theorem dX12_was_23 : decode cX12_was 23 = .ok (.ifCond .ne 5, 3) := by decide +kernel
theorem dX12_was_26 : decode cX12_was 26 = .ok (.iconst (-1), 1) := by decide +kernel
theorem dX12_was_27 : decode cX12_was 27 = .ok (.ireturn, 1) := by decide +kernel
theorem dX12_was_28 : decode cX12_was 28 = .ok (.iload_n 2, 1) := by decide +kernel
theorem dX12_was_29 : decode cX12_was 29 = .ok (.bipush 10, 2) := by decide +kernel
theorem dX12_was_31 : decode cX12_was 31 = .ok (.if_icmp .ge 14, 3) := by decide +kernel
theorem dX12_was_34 : decode cX12_was 34 = .ok (.sipush 1000, 3) := by decide +kernel
theorem dX12_was_37 : decode cX12_was 37 = .ok (.aload_n 0, 1) := by decide +kernel
theorem dX12_was_38 : decode cX12_was 38 = .ok (.iload_n 1, 1) := by decide +kernel
theorem dX12_was_39 : decode cX12_was 39 = .ok (.iload_n 2, 1) := by decide +kernel
theorem dX12_was_40 : decode cX12_was 40 = .ok (.invokevirtual 121, 3) := by decide +kernel
theorem dX12_was_43 : decode cX12_was 43 = .ok (.iadd, 1) := by decide +kernel
theorem dX12_was_44 : decode cX12_was 44 = .ok (.ireturn, 1) := by decide +kernel
theorem dX12_was_45 : decode cX12_was 45 = .ok (.iload_n 2, 1) := by decide +kernel
theorem dX12_was_46 : decode cX12_was 46 = .ok (.bipush 20, 2) := by decide +kernel
theorem dX12_was_48 : decode cX12_was 48 = .ok (.if_icmp .ge 16, 3) := by decide +kernel
theorem dX12_was_51 : decode cX12_was 51 = .ok (.aload_n 0, 1) := by decide +kernel
theorem dX12_was_52 : decode cX12_was 52 = .ok (.iload_n 1, 1) := by decide +kernel
theorem dX12_was_53 : decode cX12_was 53 = .ok (.bipush 6, 2) := by decide +kernel
theorem dX12_was_55 : decode cX12_was 55 = .ok (.iload_n 2, 1) := by decide +kernel
theorem dX12_was_56 : decode cX12_was 56 = .ok (.iadd, 1) := by decide +kernel
theorem dX12_was_57 : decode cX12_was 57 = .ok (.bipush 10, 2) := by decide +kernel
theorem dX12_was_59 : decode cX12_was 59 = .ok (.isub, 1) := by decide +kernel
theorem dX12_was_60 : decode cX12_was 60 = .ok (.invokevirtual 121, 3) := by decide +kernel
theorem dX12_was_63 : decode cX12_was 63 = .ok (.ireturn, 1) := by decide +kernel
theorem dX12_was_64 : decode cX12_was 64 = .ok (.iload_n 2, 1) := by decide +kernel
theorem dX12_was_65 : decode cX12_was 65 = .ok (.bipush 30, 2) := by decide +kernel
theorem dX12_was_67 : decode cX12_was 67 = .ok (.if_icmp .ne 11, 3) := by decide +kernel
theorem dX12_was_70 : decode cX12_was 70 = .ok (.aload_n 0, 1) := by decide +kernel
theorem dX12_was_71 : decode cX12_was 71 = .ok (.iload_n 1, 1) := by decide +kernel
theorem dX12_was_72 : decode cX12_was 72 = .ok (.bipush 28, 2) := by decide +kernel
theorem dX12_was_74 : decode cX12_was 74 = .ok (.invokevirtual 121, 3) := by decide +kernel
theorem dX12_was_77 : decode cX12_was 77 = .ok (.ireturn, 1) := by decide +kernel
theorem dX12_was_78 : decode cX12_was 78 = .ok (.aload_n 0, 1) := by decide +kernel
theorem dX12_was_79 : decode cX12_was 79 = .ok (.iload_n 1, 1) := by decide +kernel
theorem dX12_was_80 : decode cX12_was 80 = .ok (.iload_n 2, 1) := by decide +kernel
theorem dX12_was_81 : decode cX12_was 81 = .ok (.bipush 20, 2) := by decide +kernel
theorem dX12_was_83 : decode cX12_was 83 = .ok (.isub, 1) := by decide +kernel
theorem dX12_was_84 : decode cX12_was 84 = .ok (.invokevirtual 135, 3) := by decide +kernel
theorem dX12_was_87 : decode cX12_was 87 = .ok (.istore_n 3, 1) := by decide +kernel
theorem dX12_was_88 : decode cX12_was 88 = .ok (.iload_n 3, 1) := by decide +kernel
theorem dX12_was_89 : decode cX12_was 89 = .ok (.ifCond .ge 7, 3) := by decide +kernel
theorem dX12_was_92 : decode cX12_was 92 = .ok (.iconst 0, 1) := by decide +kernel
theorem dX12_was_93 : decode cX12_was 93 = .ok (.goto 16, 3) := by decide +kernel
theorem dX12_was_96 : decode cX12_was 96 = .ok (.sipush 1000, 3) := by decide +kernel
theorem dX12_was_99 : decode cX12_was 99 = .ok (.aload_n 0, 1) := by decide +kernel
theorem dX12_was_100 : decode cX12_was 100 = .ok (.iload_n 1, 1) := by decide +kernel
theorem dX12_was_101 : decode cX12_was 101 = .ok (.bipush 20, 2) := by decide +kernel
theorem dX12_was_103 : decode cX12_was 103 = .ok (.iload_n 3, 1) := by decide +kernel
theorem dX12_was_104 : decode cX12_was 104 = .ok (.iadd, 1) := by decide +kernel
theorem dX12_was_105 : decode cX12_was 105 = .ok (.invokevirtual 121, 3) := by decide +kernel
theorem dX12_was_108 : decode cX12_was 108 = .ok (.iadd, 1) := by decide +kernel
theorem dX12_was_109 : decode cX12_was 109 = .ok (.ireturn, 1) := by decide +kernel
def f_X12_was (a0 : Nat) (x1 : Int32) (x2 : Int32) (μ : jM) : Option (Int32 × jM) :=
  jbd (jsi μ a0 0 (0 : Int32)) (fun m1 => (if (f_X12_in x1.toInt64 (1 : Int64) ((m1.1 a0 9).toInt64)) = (0 : Int32) then some (((-1 : Int32), m1)) else (if (f_X12_isThing x2) = (0 : Int32) then some (((-1 : Int32), m1)) else (if (10 : Int32) ≤ x2 then (if (20 : Int32) ≤ x2 then (if x2 = (30 : Int32) then jcl (f_X12_its a0 x1 (28 : Int32) m1) (fun v13 => some ((v13, m1))) else jcl (f_X12_placeOf a0 x1 (x2 - (20 : Int32)) m1) (fun v8 => (if (0 : Int32) ≤ v8 then jcl (f_X12_its a0 x1 ((20 : Int32) + v8) m1) (fun v11 => some (((1000 : Int32) + v11, m1))) else some (((0 : Int32), m1))))) else jcl (f_X12_its a0 x1 (((6 : Int32) + x2) - (10 : Int32)) m1) (fun v15 => some ((v15, m1)))) else jcl (f_X12_its a0 x1 x2 m1) (fun v17 => some (((1000 : Int32) + v17, m1)))))))
set_option maxHeartbeats 4000000 in
set_option maxRecDepth 100000 in
theorem c_X12_was {l : Launch} {G : jG} {L : jL} (hL : jOKL L) {a0 : Nat} {x1 : Int32} {x2 : Int32} (ka0 : jK L a0 12) {μ μ' : jM} {r : Int32} (h : f_X12_was a0 x1 x2 μ = some ((r, μ'))) : jCt l G L 5 yX12_was cX12_was 4 (some .int) [.ref (L.2.2 a0), .int x1, .int x2] μ (some (.int r)) μ' := by
  refine jCt_of (by decide) (Nat.le_of_ble_eq_true rfl) (fun X hC hX hR => ?_)
  subst hX
  have hC : jC X G cX12_was 4 RX12 (some .int) := hC
  unfold f_X12_was at h
  show jJ X G 4 L 0 0 (jQM X G L (some (.int r)) μ' 0 0) 0 [(0, .ref (L.2.2 a0)), (1, .int x1), (2, .int x2)] [] μ
  refine j_aload_n (pc := 0) hC 0 0 dX12_was_0 rfl rfl ?_
  refine j_iconst (pc := 1) hC (0 : Int32) dX12_was_1 (by decide) ?_
  obtain ⟨m1, e2, h⟩ := jbd_ex h
  refine jpi_12 (pc := 2) hC 0 (by decide) rfl kf_X12_1 dX12_was_2 rfl (by decide) ka0 e2 ?_
  refine j_iload_n (pc := 5) hC 1 1 dX12_was_5 rfl rfl ?_
  refine j_i2l (pc := 6) hC dX12_was_6 ?_
  refine j_lconst (pc := 7) hC (1 : Int64) dX12_was_7 (by decide) ?_
  refine j_aload_n (pc := 8) hC 0 0 dX12_was_8 rfl rfl ?_
  refine jgi_12 (pc := 9) hC 9 (by decide) rfl kf_X12_158 dX12_was_9 ka0 ?_
  refine j_i2l (pc := 12) hC dX12_was_12 ?_
  refine j_si (pc := 13) hC hR [.long x1.toInt64, .long (1 : Int64), .long ((m1.1 a0 9).toInt64)] iy_X12_in km_X12_21 dX12_was_13 rfl (by decide) (c_X12_in hL  rfl) (by decide) (Nat.le_of_ble_eq_true rfl) rfl ?_
  refine j_if_eq (pc := 16) hC 26 dX12_was_16 (by decide) (fun c3 => ?_) (fun c3 => ?_)
  · rw [if_pos c3] at h
    refine j_iconst (pc := 26) hC (-1 : Int32) dX12_was_26 (by decide) ?_
    obtain ⟨rfl, rfl⟩ := Prod.mk.inj (Option.some.inj h)
    exact j_iret (pc := 27) hC dX12_was_27 rfl
  · rw [if_neg c3] at h
    refine j_iload_n (pc := 19) hC 2 2 dX12_was_19 rfl rfl ?_
    refine j_si (pc := 20) hC hR [.int x2] iy_X12_isThing km_X12_138 dX12_was_20 rfl (by decide) (c_X12_isThing hL  rfl) (by decide) (Nat.le_of_ble_eq_true rfl) rfl ?_
    refine j_if_ne (pc := 23) hC 28 dX12_was_23 (by decide) (fun c4 => ?_) (fun c4 => ?_)
    · rw [if_neg c4] at h
      refine j_iload_n (pc := 28) hC 2 2 dX12_was_28 rfl rfl ?_
      refine j_bipush (pc := 29) hC (10 : Int32) dX12_was_29 (by decide) ?_
      refine j_icmp_ge (pc := 31) hC 45 dX12_was_31 (by decide) (fun c5 => ?_) (fun c5 => ?_)
      · rw [if_pos c5] at h
        refine j_iload_n (pc := 45) hC 2 2 dX12_was_45 rfl rfl ?_
        refine j_bipush (pc := 46) hC (20 : Int32) dX12_was_46 (by decide) ?_
        refine j_icmp_ge (pc := 48) hC 64 dX12_was_48 (by decide) (fun c6 => ?_) (fun c6 => ?_)
        · rw [if_pos c6] at h
          refine j_iload_n (pc := 64) hC 2 2 dX12_was_64 rfl rfl ?_
          refine j_bipush (pc := 65) hC (30 : Int32) dX12_was_65 (by decide) ?_
          refine j_icmp_ne (pc := 67) hC 78 dX12_was_67 (by decide) (fun c7 => ?_) (fun c7 => ?_)
          · rw [if_neg c7] at h
            refine j_aload_n (pc := 78) hC 0 0 dX12_was_78 rfl rfl ?_
            refine j_iload_n (pc := 79) hC 1 1 dX12_was_79 rfl rfl ?_
            refine j_iload_n (pc := 80) hC 2 2 dX12_was_80 rfl rfl ?_
            refine j_bipush (pc := 81) hC (20 : Int32) dX12_was_81 (by decide) ?_
            refine j_isub (pc := 83) hC dX12_was_83 ?_
            obtain ⟨v8, e9, h⟩ := jcl_some h
            refine j_vi (pc := 84) hC hR [.int x1, .int (x2 - (20 : Int32))] iy_X12_placeOf (q := (RX12, TX12, 40)) (ci := 12) rfl rfl (by decide) km_X12_135 dX12_was_84 rfl (by decide) ka0 (c_X12_placeOf hL ka0 e9) (by decide) (Nat.le_of_ble_eq_true rfl) rfl ?_
            refine j_istore_n (pc := 87) hC 3 [(3, .int v8), (0, .ref (L.2.2 a0)), (1, .int x1), (2, .int x2)] dX12_was_87 rfl (by decide) rfl rfl ?_
            refine j_iload_n (pc := 88) hC 3 0 dX12_was_88 rfl rfl ?_
            refine j_if_ge (pc := 89) hC 96 dX12_was_89 (by decide) (fun c10 => ?_) (fun c10 => ?_)
            · rw [if_pos c10] at h
              refine j_sipush (pc := 96) hC (1000 : Int32) dX12_was_96 (by decide) ?_
              refine j_aload_n (pc := 99) hC 0 1 dX12_was_99 rfl rfl ?_
              refine j_iload_n (pc := 100) hC 1 2 dX12_was_100 rfl rfl ?_
              refine j_bipush (pc := 101) hC (20 : Int32) dX12_was_101 (by decide) ?_
              refine j_iload_n (pc := 103) hC 3 0 dX12_was_103 rfl rfl ?_
              refine j_iadd (pc := 104) hC dX12_was_104 ?_
              obtain ⟨v11, e12, h⟩ := jcl_some h
              refine j_vi (pc := 105) hC hR [.int x1, .int ((20 : Int32) + v8)] iy_X12_its (q := (RX12, TX12, 40)) (ci := 12) rfl rfl (by decide) km_X12_121 dX12_was_105 rfl (by decide) ka0 (c_X12_its hL ka0 e12) (by decide) (Nat.le_of_ble_eq_true rfl) rfl ?_
              refine j_iadd (pc := 108) hC dX12_was_108 ?_
              obtain ⟨rfl, rfl⟩ := Prod.mk.inj (Option.some.inj h)
              exact j_iret (pc := 109) hC dX12_was_109 rfl
            · rw [if_neg c10] at h
              refine j_iconst (pc := 92) hC (0 : Int32) dX12_was_92 (by decide) ?_
              refine j_goto (pc := 93) hC 109 dX12_was_93 (by decide) ?_
              obtain ⟨rfl, rfl⟩ := Prod.mk.inj (Option.some.inj h)
              exact j_iret (pc := 109) hC dX12_was_109 rfl
          · rw [if_pos c7] at h
            refine j_aload_n (pc := 70) hC 0 0 dX12_was_70 rfl rfl ?_
            refine j_iload_n (pc := 71) hC 1 1 dX12_was_71 rfl rfl ?_
            refine j_bipush (pc := 72) hC (28 : Int32) dX12_was_72 (by decide) ?_
            obtain ⟨v13, e14, h⟩ := jcl_some h
            refine j_vi (pc := 74) hC hR [.int x1, .int (28 : Int32)] iy_X12_its (q := (RX12, TX12, 40)) (ci := 12) rfl rfl (by decide) km_X12_121 dX12_was_74 rfl (by decide) ka0 (c_X12_its hL ka0 e14) (by decide) (Nat.le_of_ble_eq_true rfl) rfl ?_
            obtain ⟨rfl, rfl⟩ := Prod.mk.inj (Option.some.inj h)
            exact j_iret (pc := 77) hC dX12_was_77 rfl
        · rw [if_neg c6] at h
          refine j_aload_n (pc := 51) hC 0 0 dX12_was_51 rfl rfl ?_
          refine j_iload_n (pc := 52) hC 1 1 dX12_was_52 rfl rfl ?_
          refine j_bipush (pc := 53) hC (6 : Int32) dX12_was_53 (by decide) ?_
          refine j_iload_n (pc := 55) hC 2 2 dX12_was_55 rfl rfl ?_
          refine j_iadd (pc := 56) hC dX12_was_56 ?_
          refine j_bipush (pc := 57) hC (10 : Int32) dX12_was_57 (by decide) ?_
          refine j_isub (pc := 59) hC dX12_was_59 ?_
          obtain ⟨v15, e16, h⟩ := jcl_some h
          refine j_vi (pc := 60) hC hR [.int x1, .int (((6 : Int32) + x2) - (10 : Int32))] iy_X12_its (q := (RX12, TX12, 40)) (ci := 12) rfl rfl (by decide) km_X12_121 dX12_was_60 rfl (by decide) ka0 (c_X12_its hL ka0 e16) (by decide) (Nat.le_of_ble_eq_true rfl) rfl ?_
          obtain ⟨rfl, rfl⟩ := Prod.mk.inj (Option.some.inj h)
          exact j_iret (pc := 63) hC dX12_was_63 rfl
      · rw [if_neg c5] at h
        refine j_sipush (pc := 34) hC (1000 : Int32) dX12_was_34 (by decide) ?_
        refine j_aload_n (pc := 37) hC 0 0 dX12_was_37 rfl rfl ?_
        refine j_iload_n (pc := 38) hC 1 1 dX12_was_38 rfl rfl ?_
        refine j_iload_n (pc := 39) hC 2 2 dX12_was_39 rfl rfl ?_
        obtain ⟨v17, e18, h⟩ := jcl_some h
        refine j_vi (pc := 40) hC hR [.int x1, .int x2] iy_X12_its (q := (RX12, TX12, 40)) (ci := 12) rfl rfl (by decide) km_X12_121 dX12_was_40 rfl (by decide) ka0 (c_X12_its hL ka0 e18) (by decide) (Nat.le_of_ble_eq_true rfl) rfl ?_
        refine j_iadd (pc := 43) hC dX12_was_43 ?_
        obtain ⟨rfl, rfl⟩ := Prod.mk.inj (Option.some.inj h)
        exact j_iret (pc := 44) hC dX12_was_44 rfl
    · rw [if_pos c4] at h
      refine j_iconst (pc := 26) hC (-1 : Int32) dX12_was_26 (by decide) ?_
      obtain ⟨rfl, rfl⟩ := Prod.mk.inj (Option.some.inj h)
      exact j_iret (pc := 27) hC dX12_was_27 rfl
theorem dX12_trail_0 : decode cX12_trail 0 = .ok (.aload_n 0, 1) := by decide +kernel
theorem dX12_trail_1 : decode cX12_trail 1 = .ok (.iconst 0, 1) := by decide +kernel
theorem dX12_trail_2 : decode cX12_trail 2 = .ok (.putfield 1, 3) := by decide +kernel
theorem dX12_trail_5 : decode cX12_trail 5 = .ok (.iload_n 1, 1) := by decide +kernel
theorem dX12_trail_6 : decode cX12_trail 6 = .ok (.i2l, 1) := by decide +kernel
theorem dX12_trail_7 : decode cX12_trail 7 = .ok (.lconst 1, 1) := by decide +kernel
theorem dX12_trail_8 : decode cX12_trail 8 = .ok (.aload_n 0, 1) := by decide +kernel
theorem dX12_trail_9 : decode cX12_trail 9 = .ok (.getfield 158, 3) := by decide +kernel
theorem dX12_trail_12 : decode cX12_trail 12 = .ok (.i2l, 1) := by decide +kernel
theorem dX12_trail_13 : decode cX12_trail 13 = .ok (.invokestatic 21, 3) := by decide +kernel
theorem dX12_trail_16 : decode cX12_trail 16 = .ok (.ifCond .ne 5, 3) := by decide +kernel
theorem dX12_trail_19 : decode cX12_trail 19 = .ok (.iconst (-1), 1) := by decide +kernel
theorem dX12_trail_20 : decode cX12_trail 20 = .ok (.ireturn, 1) := by decide +kernel
theorem dX12_trail_21 : decode cX12_trail 21 = .ok (.aload_n 0, 1) := by decide +kernel
theorem dX12_trail_22 : decode cX12_trail 22 = .ok (.iconst 0, 1) := by decide +kernel
theorem dX12_trail_23 : decode cX12_trail 23 = .ok (.putfield 11, 3) := by decide +kernel
theorem dX12_trail_26 : decode cX12_trail 26 = .ok (.iconst 0, 1) := by decide +kernel
theorem dX12_trail_27 : decode cX12_trail 27 = .ok (.istore_n 2, 1) := by decide +kernel
theorem dX12_trail_28 : decode cX12_trail 28 = .ok (.iload_n 2, 1) := by decide +kernel
theorem dX12_trail_29 : decode cX12_trail 29 = .ok (.aload_n 0, 1) := by decide +kernel
theorem dX12_trail_30 : decode cX12_trail 30 = .ok (.getfield 66, 3) := by decide +kernel
theorem dX12_trail_33 : decode cX12_trail 33 = .ok (.iload_n 1, 1) := by decide +kernel
theorem dX12_trail_34 : decode cX12_trail 34 = .ok (.iaload, 1) := by decide +kernel
theorem dX12_trail_35 : decode cX12_trail 35 = .ok (.if_icmp .ge 25, 3) := by decide +kernel
theorem dX12_trail_38 : decode cX12_trail 38 = .ok (.aload_n 0, 1) := by decide +kernel
theorem dX12_trail_39 : decode cX12_trail 39 = .ok (.aload_n 0, 1) := by decide +kernel
theorem dX12_trail_40 : decode cX12_trail 40 = .ok (.getfield 63, 3) := by decide +kernel
theorem dX12_trail_43 : decode cX12_trail 43 = .ok (.bipush 22, 2) := by decide +kernel
theorem dX12_trail_45 : decode cX12_trail 45 = .ok (.iload_n 1, 1) := by decide +kernel
theorem dX12_trail_46 : decode cX12_trail 46 = .ok (.imul, 1) := by decide +kernel
theorem dX12_trail_47 : decode cX12_trail 47 = .ok (.iload_n 2, 1) := by decide +kernel
theorem dX12_trail_48 : decode cX12_trail 48 = .ok (.iadd, 1) := by decide +kernel
theorem dX12_trail_49 : decode cX12_trail 49 = .ok (.iaload, 1) := by decide +kernel
theorem dX12_trail_50 : decode cX12_trail 50 = .ok (.i2l, 1) := by decide +kernel
theorem dX12_trail_51 : decode cX12_trail 51 = .ok (.invokevirtual 146, 3) := by decide +kernel
theorem dX12_trail_54 : decode cX12_trail 54 = .ok (.iinc 2 1, 3) := by decide +kernel
theorem dX12_trail_57 : decode cX12_trail 57 = .ok (.goto (-29), 3) := by decide +kernel
theorem dX12_trail_60 : decode cX12_trail 60 = .ok (.aload_n 0, 1) := by decide +kernel
theorem dX12_trail_61 : decode cX12_trail 61 = .ok (.getfield 11, 3) := by decide +kernel
theorem dX12_trail_64 : decode cX12_trail 64 = .ok (.ireturn, 1) := by decide +kernel
def f_X12_trail_L28 (a0 : Nat) (x1 : Int32) (u6 : Int32) (m7 : jM) : Option ((Int32 × jM) ⊕ (jM)) :=
  jrd (m7.1 (a0 + 5)) x1 10 (fun v9 => (if v9 ≤ u6 then some (.inr m7) else jrd (m7.1 (a0 + 4)) (((22 : Int32) * x1) + u6) 220 (fun v13 => jcl (f_X12_enters a0 v13.toInt64 m7) (fun m15 => some (.inl ((u6 + (1 : Int32), m15)))))))
def f_X12_trail (a0 : Nat) (x1 : Int32) (μ : jM) : Option (Int32 × jM) :=
  jbd (jsi μ a0 0 (0 : Int32)) (fun m1 => (if (f_X12_in x1.toInt64 (1 : Int64) ((m1.1 a0 9).toInt64)) = (0 : Int32) then some (((-1 : Int32), m1)) else jbd (jsi m1 a0 1 (0 : Int32)) (fun m4 => jcl (jloop (fun (s : Int32 × jM) => f_X12_trail_L28 a0 x1 s.1 s.2) jfu (((0 : Int32), m4))) (fun w17 => some ((w17.1 a0 1, w17))))))
set_option maxHeartbeats 4000000 in
set_option maxRecDepth 100000 in
theorem c_X12_trail {l : Launch} {G : jG} {L : jL} (hL : jOKL L) {a0 : Nat} {x1 : Int32} (ka0 : jK L a0 12) {μ μ' : jM} {r : Int32} (h : f_X12_trail a0 x1 μ = some ((r, μ'))) : jCt l G L 4 yX12_trail cX12_trail 3 (some .int) [.ref (L.2.2 a0), .int x1] μ (some (.int r)) μ' := by
  refine jCt_of (by decide) (Nat.le_of_ble_eq_true rfl) (fun X hC hX hR => ?_)
  subst hX
  have hC : jC X G cX12_trail 3 RX12 (some .int) := hC
  unfold f_X12_trail at h
  show jJ X G 3 L 0 0 (jQM X G L (some (.int r)) μ' 0 0) 0 [(0, .ref (L.2.2 a0)), (1, .int x1)] [] μ
  refine j_aload_n (pc := 0) hC 0 0 dX12_trail_0 rfl rfl ?_
  refine j_iconst (pc := 1) hC (0 : Int32) dX12_trail_1 (by decide) ?_
  obtain ⟨m1, e2, h⟩ := jbd_ex h
  refine jpi_12 (pc := 2) hC 0 (by decide) rfl kf_X12_1 dX12_trail_2 rfl (by decide) ka0 e2 ?_
  refine j_iload_n (pc := 5) hC 1 1 dX12_trail_5 rfl rfl ?_
  refine j_i2l (pc := 6) hC dX12_trail_6 ?_
  refine j_lconst (pc := 7) hC (1 : Int64) dX12_trail_7 (by decide) ?_
  refine j_aload_n (pc := 8) hC 0 0 dX12_trail_8 rfl rfl ?_
  refine jgi_12 (pc := 9) hC 9 (by decide) rfl kf_X12_158 dX12_trail_9 ka0 ?_
  refine j_i2l (pc := 12) hC dX12_trail_12 ?_
  refine j_si (pc := 13) hC hR [.long x1.toInt64, .long (1 : Int64), .long ((m1.1 a0 9).toInt64)] iy_X12_in km_X12_21 dX12_trail_13 rfl (by decide) (c_X12_in hL  rfl) (by decide) (Nat.le_of_ble_eq_true rfl) rfl ?_
  refine j_if_ne (pc := 16) hC 21 dX12_trail_16 (by decide) (fun c3 => ?_) (fun c3 => ?_)
  · rw [if_neg c3] at h
    refine j_aload_n (pc := 21) hC 0 0 dX12_trail_21 rfl rfl ?_
    refine j_iconst (pc := 22) hC (0 : Int32) dX12_trail_22 (by decide) ?_
    obtain ⟨m4, e5, h⟩ := jbd_ex h
    refine jpi_12 (pc := 23) hC 1 (by decide) rfl kf_X12_11 dX12_trail_23 rfl (by decide) ka0 e5 ?_
    refine j_iconst (pc := 26) hC (0 : Int32) dX12_trail_26 (by decide) ?_
    refine j_istore_n (pc := 27) hC 2 [(2, .int (0 : Int32)), (0, .ref (L.2.2 a0)), (1, .int x1)] dX12_trail_27 rfl (by decide) rfl rfl ?_
    obtain ⟨w17, hw18, h⟩ := jcl_some h
    refine j_lv [1, 2, 0] rfl ?_
    refine j_loop (step := (fun (s : Int32 × jM) => f_X12_trail_L28 a0 x1 s.1 s.2)) (P := (fun (s : Int32 × jM) => jJ X G 3 L 0 0 (jQM X G L (some (.int r)) μ' 0 0) 28 [(0, .ref (L.2.2 a0)), (1, .int x1), (2, .int s.1)] [] s.2)) (R := (fun (e : jM) => jJ X G 3 L 0 0 (jQM X G L (some (.int r)) μ' 0 0) 60 [(0, .ref (L.2.2 a0))] [] e)) ?_ jfu (((0 : Int32), m4)) w17 hw18 ?_
    · intro s19 o h hk
      obtain ⟨u6, m7⟩ := s19
      change f_X12_trail_L28 a0 x1 u6 m7 = some o at h
      unfold f_X12_trail_L28 at h
      show jJ X G 3 L 0 0 (jQM X G L (some (.int r)) μ' 0 0) 28 [(0, .ref (L.2.2 a0)), (1, .int x1), (2, .int u6)] [] m7
      refine j_iload_n (pc := 28) hC 2 2 dX12_trail_28 rfl rfl ?_
      refine j_aload_n (pc := 29) hC 0 0 dX12_trail_29 rfl rfl ?_
      refine jgr_12 (pc := 30) hC 11 (by decide) rfl kf_X12_66 dX12_trail_30 ka0 (ly_12_11 hL ka0).1 ?_
      refine j_iload_n (pc := 33) hC 1 1 dX12_trail_33 rfl rfl ?_
      obtain ⟨i8, v9, e10, h⟩ := jrd_some h
      refine j_iald (pc := 34) hC dX12_trail_34 (ly_12_11 hL ka0).2.1 (ly_12_11 hL ka0).2.2 i8 e10 ?_
      refine j_icmp_ge (pc := 35) hC 60 dX12_trail_35 (by decide) (fun c11 => ?_) (fun c11 => ?_)
      · rw [if_pos c11] at h
        obtain rfl := Option.some.inj h
        have hk : jJ X G 3 L 0 0 (jQM X G L (some (.int r)) μ' 0 0) 60 [(0, .ref (L.2.2 a0))] [] m7 := hk
        exact j_lv [0] rfl hk
      · rw [if_neg c11] at h
        refine j_aload_n (pc := 38) hC 0 0 dX12_trail_38 rfl rfl ?_
        refine j_aload_n (pc := 39) hC 0 0 dX12_trail_39 rfl rfl ?_
        refine jgr_12 (pc := 40) hC 10 (by decide) rfl kf_X12_63 dX12_trail_40 ka0 (ly_12_10 hL ka0).1 ?_
        refine j_bipush (pc := 43) hC (22 : Int32) dX12_trail_43 (by decide) ?_
        refine j_iload_n (pc := 45) hC 1 1 dX12_trail_45 rfl rfl ?_
        refine j_imul (pc := 46) hC dX12_trail_46 ?_
        refine j_iload_n (pc := 47) hC 2 2 dX12_trail_47 rfl rfl ?_
        refine j_iadd (pc := 48) hC dX12_trail_48 ?_
        obtain ⟨i12, v13, e14, h⟩ := jrd_some h
        refine j_iald (pc := 49) hC dX12_trail_49 (ly_12_10 hL ka0).2.1 (ly_12_10 hL ka0).2.2 i12 e14 ?_
        refine j_i2l (pc := 50) hC dX12_trail_50 ?_
        obtain ⟨m15, e16, h⟩ := jcl_some h
        refine j_vv (pc := 51) hC hR [.long v13.toInt64] iy_X12_enters (q := (RX12, TX12, 40)) (ci := 12) rfl rfl (by decide) km_X12_146 dX12_trail_51 rfl (by decide) ka0 (c_X12_enters hL ka0 e16) (by decide) (Nat.le_of_ble_eq_true rfl) rfl ?_
        refine j_iinc (pc := 54) hC 2 (u6 + (1 : Int32)) [(2, .int (u6 + (1 : Int32))), (0, .ref (L.2.2 a0)), (1, .int x1)] dX12_trail_54 rfl rfl (by decide) rfl ?_
        refine j_goto (pc := 57) hC 28 dX12_trail_57 (by decide) ?_
        obtain rfl := Option.some.inj h
        have hk : jJ X G 3 L 0 0 (jQM X G L (some (.int r)) μ' 0 0) 28 [(0, .ref (L.2.2 a0)), (1, .int x1), (2, .int (u6 + (1 : Int32)))] [] m15 := hk
        exact j_lv [1, 2, 0] rfl hk
    · obtain ⟨m20, rfl⟩ : ∃ y, y = w17 := ⟨_, rfl⟩
      try dsimp only at h
      show jJ X G 3 L 0 0 (jQM X G L (some (.int r)) μ' 0 0) 60 [(0, .ref (L.2.2 a0))] [] m20
      refine j_aload_n (pc := 60) hC 0 0 dX12_trail_60 rfl rfl ?_
      refine jgi_12 (pc := 61) hC 1 (by decide) rfl kf_X12_11 dX12_trail_61 ka0 ?_
      obtain ⟨rfl, rfl⟩ := Prod.mk.inj (Option.some.inj h)
      exact j_iret (pc := 64) hC dX12_trail_64 rfl
  · rw [if_pos c3] at h
    refine j_iconst (pc := 19) hC (-1 : Int32) dX12_trail_19 (by decide) ?_
    obtain ⟨rfl, rfl⟩ := Prod.mk.inj (Option.some.inj h)
    exact j_iret (pc := 20) hC dX12_trail_20 rfl
theorem dX12_since_0 : decode cX12_since 0 = .ok (.aload_n 0, 1) := by decide +kernel
theorem dX12_since_1 : decode cX12_since 1 = .ok (.iconst 0, 1) := by decide +kernel
theorem dX12_since_2 : decode cX12_since 2 = .ok (.putfield 1, 3) := by decide +kernel
theorem dX12_since_5 : decode cX12_since 5 = .ok (.iload_n 1, 1) := by decide +kernel
theorem dX12_since_6 : decode cX12_since 6 = .ok (.invokestatic 138, 3) := by decide +kernel
theorem dX12_since_9 : decode cX12_since 9 = .ok (.ifCond .ne 5, 3) := by decide +kernel
theorem dX12_since_12 : decode cX12_since 12 = .ok (.iconst (-1), 1) := by decide +kernel
theorem dX12_since_13 : decode cX12_since 13 = .ok (.ireturn, 1) := by decide +kernel
theorem dX12_since_14 : decode cX12_since 14 = .ok (.iconst 0, 1) := by decide +kernel
theorem dX12_since_15 : decode cX12_since 15 = .ok (.istore_n 2, 1) := by decide +kernel
theorem dX12_since_16 : decode cX12_since 16 = .ok (.iconst 1, 1) := by decide +kernel
theorem dX12_since_17 : decode cX12_since 17 = .ok (.istore_n 3, 1) := by decide +kernel
theorem dX12_since_18 : decode cX12_since 18 = .ok (.iload_n 3, 1) := by decide +kernel
theorem dX12_since_19 : decode cX12_since 19 = .ok (.aload_n 0, 1) := by decide +kernel
theorem dX12_since_20 : decode cX12_since 20 = .ok (.getfield 158, 3) := by decide +kernel
theorem dX12_since_23 : decode cX12_since 23 = .ok (.if_icmp .gt 28, 3) := by decide +kernel
theorem dX12_since_26 : decode cX12_since 26 = .ok (.iload_n 2, 1) := by decide +kernel
theorem dX12_since_27 : decode cX12_since 27 = .ok (.aload_n 0, 1) := by decide +kernel
theorem dX12_since_28 : decode cX12_since 28 = .ok (.iload_n 3, 1) := by decide +kernel
theorem dX12_since_29 : decode cX12_since 29 = .ok (.iload_n 1, 1) := by decide +kernel
theorem dX12_since_30 : decode cX12_since 30 = .ok (.invokevirtual 150, 3) := by decide +kernel
theorem dX12_since_33 : decode cX12_since 33 = .ok (.ifCond .eq 9, 3) := by decide +kernel
theorem dX12_since_36 : decode cX12_since 36 = .ok (.iconst 1, 1) := by decide +kernel
theorem dX12_since_37 : decode cX12_since 37 = .ok (.iload_n 3, 1) := by decide +kernel
theorem dX12_since_38 : decode cX12_since 38 = .ok (.ishl, 1) := by decide +kernel
theorem dX12_since_39 : decode cX12_since 39 = .ok (.goto 4, 3) := by decide +kernel
theorem dX12_since_42 : decode cX12_since 42 = .ok (.iconst 0, 1) := by decide +kernel
theorem dX12_since_43 : decode cX12_since 43 = .ok (.ior, 1) := by decide +kernel
theorem dX12_since_44 : decode cX12_since 44 = .ok (.istore_n 2, 1) := by decide +kernel
theorem dX12_since_45 : decode cX12_since 45 = .ok (.iinc 3 1, 3) := by decide +kernel
theorem dX12_since_48 : decode cX12_since 48 = .ok (.goto (-30), 3) := by decide +kernel
theorem dX12_since_51 : decode cX12_since 51 = .ok (.aload_n 0, 1) := by decide +kernel
theorem dX12_since_52 : decode cX12_since 52 = .ok (.iconst 0, 1) := by decide +kernel
theorem dX12_since_53 : decode cX12_since 53 = .ok (.putfield 11, 3) := by decide +kernel
theorem dX12_since_56 : decode cX12_since 56 = .ok (.aload_n 0, 1) := by decide +kernel
theorem dX12_since_57 : decode cX12_since 57 = .ok (.iload_n 2, 1) := by decide +kernel
theorem dX12_since_58 : decode cX12_since 58 = .ok (.invokestatic 211, 3) := by decide +kernel
theorem dX12_since_61 : decode cX12_since 61 = .ok (.i2l, 1) := by decide +kernel
theorem dX12_since_62 : decode cX12_since 62 = .ok (.invokevirtual 146, 3) := by decide +kernel
theorem dX12_since_65 : decode cX12_since 65 = .ok (.iload_n 2, 1) := by decide +kernel
theorem dX12_since_66 : decode cX12_since 66 = .ok (.ireturn, 1) := by decide +kernel
def f_X12_since_L18 (a0 : Nat) (x1 : Int32) (m1 : jM) (u4 : Int32) (u5 : Int32) : Option ((Int32 × Int32) ⊕ (Int32)) :=
  (if (m1.1 a0 9) < u5 then some (.inr u4) else jcl (f_X12_isOn a0 u5 x1 m1) (fun v7 => jbd (u4 ||| ((if v7 = (0 : Int32) then (0 : Int32) else (1 : Int32) <<< (u5 &&& 31))) : Int32) (fun v10 => some (.inl ((v10, u5 + (1 : Int32)))))))
def f_X12_since (a0 : Nat) (x1 : Int32) (μ : jM) : Option (Int32 × jM) :=
  jbd (jsi μ a0 0 (0 : Int32)) (fun m1 => (if (f_X12_isThing x1) = (0 : Int32) then some (((-1 : Int32), m1)) else jcl (jloop (fun (s : Int32 × Int32) => f_X12_since_L18 a0 x1 m1 s.1 s.2) jfu (((0 : Int32), (1 : Int32)))) (fun w12 => jbd (jsi m1 a0 1 (0 : Int32)) (fun m16 => jcl (f_X12_bitsOf w12) (fun v18 => jcl (f_X12_enters a0 v18.toInt64 m16) (fun m20 => some ((w12, m20))))))))
set_option maxHeartbeats 4000000 in
set_option maxRecDepth 100000 in
theorem c_X12_since {l : Launch} {G : jG} {L : jL} (hL : jOKL L) {a0 : Nat} {x1 : Int32} (ka0 : jK L a0 12) {μ μ' : jM} {r : Int32} (h : f_X12_since a0 x1 μ = some ((r, μ'))) : jCt l G L 5 yX12_since cX12_since 4 (some .int) [.ref (L.2.2 a0), .int x1] μ (some (.int r)) μ' := by
  refine jCt_of (by decide) (Nat.le_of_ble_eq_true rfl) (fun X hC hX hR => ?_)
  subst hX
  have hC : jC X G cX12_since 4 RX12 (some .int) := hC
  unfold f_X12_since at h
  show jJ X G 4 L 0 0 (jQM X G L (some (.int r)) μ' 0 0) 0 [(0, .ref (L.2.2 a0)), (1, .int x1)] [] μ
  refine j_aload_n (pc := 0) hC 0 0 dX12_since_0 rfl rfl ?_
  refine j_iconst (pc := 1) hC (0 : Int32) dX12_since_1 (by decide) ?_
  obtain ⟨m1, e2, h⟩ := jbd_ex h
  refine jpi_12 (pc := 2) hC 0 (by decide) rfl kf_X12_1 dX12_since_2 rfl (by decide) ka0 e2 ?_
  refine j_iload_n (pc := 5) hC 1 1 dX12_since_5 rfl rfl ?_
  refine j_si (pc := 6) hC hR [.int x1] iy_X12_isThing km_X12_138 dX12_since_6 rfl (by decide) (c_X12_isThing hL  rfl) (by decide) (Nat.le_of_ble_eq_true rfl) rfl ?_
  refine j_if_ne (pc := 9) hC 14 dX12_since_9 (by decide) (fun c3 => ?_) (fun c3 => ?_)
  · rw [if_neg c3] at h
    refine j_iconst (pc := 14) hC (0 : Int32) dX12_since_14 (by decide) ?_
    refine j_istore_n (pc := 15) hC 2 [(2, .int (0 : Int32)), (0, .ref (L.2.2 a0)), (1, .int x1)] dX12_since_15 rfl (by decide) rfl rfl ?_
    refine j_iconst (pc := 16) hC (1 : Int32) dX12_since_16 (by decide) ?_
    refine j_istore_n (pc := 17) hC 3 [(3, .int (1 : Int32)), (2, .int (0 : Int32)), (0, .ref (L.2.2 a0)), (1, .int x1)] dX12_since_17 rfl (by decide) rfl rfl ?_
    obtain ⟨w12, hw13, h⟩ := jcl_some h
    refine j_lv [2, 3, 1, 0] rfl ?_
    refine j_loop (step := (fun (s : Int32 × Int32) => f_X12_since_L18 a0 x1 m1 s.1 s.2)) (P := (fun (s : Int32 × Int32) => jJ X G 4 L 0 0 (jQM X G L (some (.int r)) μ' 0 0) 18 [(0, .ref (L.2.2 a0)), (1, .int x1), (2, .int s.1), (3, .int s.2)] [] m1)) (R := (fun (e : Int32) => jJ X G 4 L 0 0 (jQM X G L (some (.int r)) μ' 0 0) 51 [(0, .ref (L.2.2 a0)), (2, .int e)] [] m1)) ?_ jfu (((0 : Int32), (1 : Int32))) w12 hw13 ?_
    · intro s14 o h hk
      obtain ⟨u4, u5⟩ := s14
      change f_X12_since_L18 a0 x1 m1 u4 u5 = some o at h
      unfold f_X12_since_L18 at h
      show jJ X G 4 L 0 0 (jQM X G L (some (.int r)) μ' 0 0) 18 [(0, .ref (L.2.2 a0)), (1, .int x1), (2, .int u4), (3, .int u5)] [] m1
      refine j_iload_n (pc := 18) hC 3 3 dX12_since_18 rfl rfl ?_
      refine j_aload_n (pc := 19) hC 0 0 dX12_since_19 rfl rfl ?_
      refine jgi_12 (pc := 20) hC 9 (by decide) rfl kf_X12_158 dX12_since_20 ka0 ?_
      refine j_icmp_gt (pc := 23) hC 51 dX12_since_23 (by decide) (fun c6 => ?_) (fun c6 => ?_)
      · rw [if_pos c6] at h
        obtain rfl := Option.some.inj h
        have hk : jJ X G 4 L 0 0 (jQM X G L (some (.int r)) μ' 0 0) 51 [(0, .ref (L.2.2 a0)), (2, .int u4)] [] m1 := hk
        exact j_lv [0, 2] rfl hk
      · rw [if_neg c6] at h
        refine j_iload_n (pc := 26) hC 2 2 dX12_since_26 rfl rfl ?_
        refine j_aload_n (pc := 27) hC 0 0 dX12_since_27 rfl rfl ?_
        refine j_iload_n (pc := 28) hC 3 3 dX12_since_28 rfl rfl ?_
        refine j_iload_n (pc := 29) hC 1 1 dX12_since_29 rfl rfl ?_
        obtain ⟨v7, e8, h⟩ := jcl_some h
        refine j_vi (pc := 30) hC hR [.int u5, .int x1] iy_X12_isOn (q := (RX12, TX12, 40)) (ci := 12) rfl rfl (by decide) km_X12_150 dX12_since_30 rfl (by decide) ka0 (c_X12_isOn hL ka0 e8) (by decide) (Nat.le_of_ble_eq_true rfl) rfl ?_
        refine jmg (B := jJ X G 4 L 0 0 (jQM X G L (some (.int r)) μ' 0 0) 43 [(0, .ref (L.2.2 a0)), (1, .int x1), (2, .int u4), (3, .int u5)] [.int ((if v7 = (0 : Int32) then (0 : Int32) else (1 : Int32) <<< (u5 &&& 31))), .int u4] m1) (fun hj => ?_) ?_
        · refine j_if_eq (pc := 33) hC 42 dX12_since_33 (by decide) (fun c9 => ?_) (fun c9 => ?_)
          · rw [if_pos c9] at hj
            refine j_iconst (pc := 42) hC (0 : Int32) dX12_since_42 (by decide) ?_
            exact hj
          · rw [if_neg c9] at hj
            refine j_iconst (pc := 36) hC (1 : Int32) dX12_since_36 (by decide) ?_
            refine j_iload_n (pc := 37) hC 3 3 dX12_since_37 rfl rfl ?_
            refine j_ishl (pc := 38) hC dX12_since_38 ?_
            refine j_goto (pc := 39) hC 43 dX12_since_39 (by decide) ?_
            exact hj
        refine j_ior (pc := 43) hC dX12_since_43 ?_
        obtain ⟨v10, e11, h⟩ := jbd_ex h
        refine j_istore_n (pc := 44) hC 2 [(2, .int v10), (0, .ref (L.2.2 a0)), (1, .int x1), (3, .int u5)] dX12_since_44 rfl (by decide) e11 rfl ?_
        refine j_iinc (pc := 45) hC 3 (u5 + (1 : Int32)) [(3, .int (u5 + (1 : Int32))), (2, .int v10), (0, .ref (L.2.2 a0)), (1, .int x1)] dX12_since_45 rfl rfl (by decide) rfl ?_
        refine j_goto (pc := 48) hC 18 dX12_since_48 (by decide) ?_
        obtain rfl := Option.some.inj h
        have hk : jJ X G 4 L 0 0 (jQM X G L (some (.int r)) μ' 0 0) 18 [(0, .ref (L.2.2 a0)), (1, .int x1), (2, .int v10), (3, .int (u5 + (1 : Int32)))] [] m1 := hk
        exact j_lv [2, 3, 1, 0] rfl hk
    · obtain ⟨z15, rfl⟩ : ∃ y, y = w12 := ⟨_, rfl⟩
      try dsimp only at h
      show jJ X G 4 L 0 0 (jQM X G L (some (.int r)) μ' 0 0) 51 [(0, .ref (L.2.2 a0)), (2, .int z15)] [] m1
      refine j_aload_n (pc := 51) hC 0 0 dX12_since_51 rfl rfl ?_
      refine j_iconst (pc := 52) hC (0 : Int32) dX12_since_52 (by decide) ?_
      obtain ⟨m16, e17, h⟩ := jbd_ex h
      refine jpi_12 (pc := 53) hC 1 (by decide) rfl kf_X12_11 dX12_since_53 rfl (by decide) ka0 e17 ?_
      refine j_aload_n (pc := 56) hC 0 0 dX12_since_56 rfl rfl ?_
      refine j_iload_n (pc := 57) hC 2 1 dX12_since_57 rfl rfl ?_
      obtain ⟨v18, e19, h⟩ := jcl_some h
      refine j_si (pc := 58) hC hR [.int z15] iy_X12_bitsOf km_X12_211 dX12_since_58 rfl (by decide) (c_X12_bitsOf hL  e19) (by decide) (Nat.le_of_ble_eq_true rfl) rfl ?_
      refine j_i2l (pc := 61) hC dX12_since_61 ?_
      obtain ⟨m20, e21, h⟩ := jcl_some h
      refine j_vv (pc := 62) hC hR [.long v18.toInt64] iy_X12_enters (q := (RX12, TX12, 40)) (ci := 12) rfl rfl (by decide) km_X12_146 dX12_since_62 rfl (by decide) ka0 (c_X12_enters hL ka0 e21) (by decide) (Nat.le_of_ble_eq_true rfl) rfl ?_
      refine j_iload_n (pc := 65) hC 2 1 dX12_since_65 rfl rfl ?_
      obtain ⟨rfl, rfl⟩ := Prod.mk.inj (Option.some.inj h)
      exact j_iret (pc := 66) hC dX12_since_66 rfl
  · rw [if_pos c3] at h
    refine j_iconst (pc := 12) hC (-1 : Int32) dX12_since_12 (by decide) ?_
    obtain ⟨rfl, rfl⟩ := Prod.mk.inj (Option.some.inj h)
    exact j_iret (pc := 13) hC dX12_since_13 rfl
theorem dX12_would_0 : decode cX12_would 0 = .ok (.aload_n 0, 1) := by decide +kernel
theorem dX12_would_1 : decode cX12_would 1 = .ok (.iconst 0, 1) := by decide +kernel
theorem dX12_would_2 : decode cX12_would 2 = .ok (.putfield 1, 3) := by decide +kernel
theorem dX12_would_5 : decode cX12_would 5 = .ok (.iload_n 1, 1) := by decide +kernel
theorem dX12_would_6 : decode cX12_would 6 = .ok (.i2l, 1) := by decide +kernel
theorem dX12_would_7 : decode cX12_would 7 = .ok (.lconst 0, 1) := by decide +kernel
theorem dX12_would_8 : decode cX12_would 8 = .ok (.aload_n 0, 1) := by decide +kernel
theorem dX12_would_9 : decode cX12_would 9 = .ok (.getfield 158, 3) := by decide +kernel
theorem dX12_would_12 : decode cX12_would 12 = .ok (.i2l, 1) := by decide +kernel
theorem dX12_would_13 : decode cX12_would 13 = .ok (.invokestatic 21, 3) := by decide +kernel
theorem dX12_would_16 : decode cX12_would 16 = .ok (.ifCond .ne 5, 3) := by decide +kernel
theorem dX12_would_19 : decode cX12_would 19 = .ok (.iconst (-1), 1) := by decide +kernel
theorem dX12_would_20 : decode cX12_would 20 = .ok (.ireturn, 1) := by decide +kernel
theorem dX12_would_21 : decode cX12_would 21 = .ok (.aload_n 0, 1) := by decide +kernel
theorem dX12_would_22 : decode cX12_would 22 = .ok (.iload_n 1, 1) := by decide +kernel
theorem dX12_would_23 : decode cX12_would 23 = .ok (.aload_n 0, 1) := by decide +kernel
theorem dX12_would_24 : decode cX12_would 24 = .ok (.getfield 158, 3) := by decide +kernel
theorem dX12_would_27 : decode cX12_would 27 = .ok (.if_icmp .ne 7, 3) := by decide +kernel
theorem dX12_would_30 : decode cX12_would 30 = .ok (.iconst 0, 1) := by decide +kernel
theorem dX12_would_31 : decode cX12_would 31 = .ok (.goto 6, 3) := by decide +kernel
theorem dX12_would_34 : decode cX12_would 34 = .ok (.iload_n 1, 1) := by decide +kernel
theorem dX12_would_35 : decode cX12_would 35 = .ok (.iconst 1, 1) := by decide +kernel
theorem dX12_would_36 : decode cX12_would 36 = .ok (.iadd, 1) := by decide +kernel
theorem dX12_would_37 : decode cX12_would 37 = .ok (.iconst 0, 1) := by decide +kernel
theorem dX12_would_38 : decode cX12_would 38 = .ok (.invokevirtual 360, 3) := by decide +kernel
theorem dX12_would_41 : decode cX12_would 41 = .ok (.ireturn, 1) := by decide +kernel
def f_X12_would (a0 : Nat) (x1 : Int32) (μ : jM) : Option (Int32 × jM) :=
  jbd (jsi μ a0 0 (0 : Int32)) (fun m1 => (if (f_X12_in x1.toInt64 (0 : Int64) ((m1.1 a0 9).toInt64)) = (0 : Int32) then some (((-1 : Int32), m1)) else jcl2 (f_X12_others a0 ((if x1 = (m1.1 a0 9) then (0 : Int32) else x1 + (1 : Int32))) (0 : Int32) m1) (fun v5 m6 => some ((v5, m6)))))
set_option maxHeartbeats 4000000 in
set_option maxRecDepth 100000 in
theorem c_X12_would {l : Launch} {G : jG} {L : jL} (hL : jOKL L) {a0 : Nat} {x1 : Int32} (ka0 : jK L a0 12) {μ μ' : jM} {r : Int32} (h : f_X12_would a0 x1 μ = some ((r, μ'))) : jCt l G L 7 yX12_would cX12_would 2 (some .int) [.ref (L.2.2 a0), .int x1] μ (some (.int r)) μ' := by
  refine jCt_of (by decide) (Nat.le_of_ble_eq_true rfl) (fun X hC hX hR => ?_)
  subst hX
  have hC : jC X G cX12_would 2 RX12 (some .int) := hC
  unfold f_X12_would at h
  show jJ X G 2 L 0 0 (jQM X G L (some (.int r)) μ' 0 0) 0 [(0, .ref (L.2.2 a0)), (1, .int x1)] [] μ
  refine j_aload_n (pc := 0) hC 0 0 dX12_would_0 rfl rfl ?_
  refine j_iconst (pc := 1) hC (0 : Int32) dX12_would_1 (by decide) ?_
  obtain ⟨m1, e2, h⟩ := jbd_ex h
  refine jpi_12 (pc := 2) hC 0 (by decide) rfl kf_X12_1 dX12_would_2 rfl (by decide) ka0 e2 ?_
  refine j_iload_n (pc := 5) hC 1 1 dX12_would_5 rfl rfl ?_
  refine j_i2l (pc := 6) hC dX12_would_6 ?_
  refine j_lconst (pc := 7) hC (0 : Int64) dX12_would_7 (by decide) ?_
  refine j_aload_n (pc := 8) hC 0 0 dX12_would_8 rfl rfl ?_
  refine jgi_12 (pc := 9) hC 9 (by decide) rfl kf_X12_158 dX12_would_9 ka0 ?_
  refine j_i2l (pc := 12) hC dX12_would_12 ?_
  refine j_si (pc := 13) hC hR [.long x1.toInt64, .long (0 : Int64), .long ((m1.1 a0 9).toInt64)] iy_X12_in km_X12_21 dX12_would_13 rfl (by decide) (c_X12_in hL  rfl) (by decide) (Nat.le_of_ble_eq_true rfl) rfl ?_
  refine j_if_ne (pc := 16) hC 21 dX12_would_16 (by decide) (fun c3 => ?_) (fun c3 => ?_)
  · rw [if_neg c3] at h
    refine j_aload_n (pc := 21) hC 0 0 dX12_would_21 rfl rfl ?_
    refine j_iload_n (pc := 22) hC 1 1 dX12_would_22 rfl rfl ?_
    refine j_aload_n (pc := 23) hC 0 0 dX12_would_23 rfl rfl ?_
    refine jgi_12 (pc := 24) hC 9 (by decide) rfl kf_X12_158 dX12_would_24 ka0 ?_
    refine jmg (B := jJ X G 2 L 0 0 (jQM X G L (some (.int r)) μ' 0 0) 37 [(0, .ref (L.2.2 a0)), (1, .int x1)] [.int ((if x1 = (m1.1 a0 9) then (0 : Int32) else x1 + (1 : Int32))), .ref (L.2.2 a0)] m1) (fun hj => ?_) ?_
    · refine j_icmp_ne (pc := 27) hC 34 dX12_would_27 (by decide) (fun c4 => ?_) (fun c4 => ?_)
      · rw [if_neg c4] at hj
        refine j_iload_n (pc := 34) hC 1 1 dX12_would_34 rfl rfl ?_
        refine j_iconst (pc := 35) hC (1 : Int32) dX12_would_35 (by decide) ?_
        refine j_iadd (pc := 36) hC dX12_would_36 ?_
        exact hj
      · rw [if_pos c4] at hj
        refine j_iconst (pc := 30) hC (0 : Int32) dX12_would_30 (by decide) ?_
        refine j_goto (pc := 31) hC 37 dX12_would_31 (by decide) ?_
        exact hj
    refine j_iconst (pc := 37) hC (0 : Int32) dX12_would_37 (by decide) ?_
    obtain ⟨v5, m6, e7, h⟩ := jcl2_some h
    refine j_vi (pc := 38) hC hR [.int ((if x1 = (m1.1 a0 9) then (0 : Int32) else x1 + (1 : Int32))), .int (0 : Int32)] iy_X12_others (q := (RX12, TX12, 40)) (ci := 12) rfl rfl (by decide) km_X12_360 dX12_would_38 rfl (by decide) ka0 (c_X12_others hL ka0 e7) (by decide) (Nat.le_of_ble_eq_true rfl) rfl ?_
    obtain ⟨rfl, rfl⟩ := Prod.mk.inj (Option.some.inj h)
    exact j_iret (pc := 41) hC dX12_would_41 rfl
  · rw [if_pos c3] at h
    refine j_iconst (pc := 19) hC (-1 : Int32) dX12_would_19 (by decide) ?_
    obtain ⟨rfl, rfl⟩ := Prod.mk.inj (Option.some.inj h)
    exact j_iret (pc := 20) hC dX12_would_20 rfl
theorem dX12_between_0 : decode cX12_between 0 = .ok (.aload_n 0, 1) := by decide +kernel
theorem dX12_between_1 : decode cX12_between 1 = .ok (.iconst 0, 1) := by decide +kernel
theorem dX12_between_2 : decode cX12_between 2 = .ok (.putfield 1, 3) := by decide +kernel
theorem dX12_between_5 : decode cX12_between 5 = .ok (.iload_n 1, 1) := by decide +kernel
theorem dX12_between_6 : decode cX12_between 6 = .ok (.i2l, 1) := by decide +kernel
theorem dX12_between_7 : decode cX12_between 7 = .ok (.lconst 1, 1) := by decide +kernel
theorem dX12_between_8 : decode cX12_between 8 = .ok (.aload_n 0, 1) := by decide +kernel
theorem dX12_between_9 : decode cX12_between 9 = .ok (.getfield 158, 3) := by decide +kernel
theorem dX12_between_12 : decode cX12_between 12 = .ok (.i2l, 1) := by decide +kernel
theorem dX12_between_13 : decode cX12_between 13 = .ok (.invokestatic 21, 3) := by decide +kernel
theorem dX12_between_16 : decode cX12_between 16 = .ok (.ifCond .eq 26, 3) := by decide +kernel
theorem dX12_between_19 : decode cX12_between 19 = .ok (.iload_n 2, 1) := by decide +kernel
theorem dX12_between_20 : decode cX12_between 20 = .ok (.i2l, 1) := by decide +kernel
theorem dX12_between_21 : decode cX12_between 21 = .ok (.lconst 1, 1) := by decide +kernel
theorem dX12_between_22 : decode cX12_between 22 = .ok (.aload_n 0, 1) := by decide +kernel
theorem dX12_between_23 : decode cX12_between 23 = .ok (.getfield 158, 3) := by decide +kernel
theorem dX12_between_26 : decode cX12_between 26 = .ok (.i2l, 1) := by decide +kernel
theorem dX12_between_27 : decode cX12_between 27 = .ok (.invokestatic 21, 3) := by decide +kernel
theorem dX12_between_30 : decode cX12_between 30 = .ok (.ifCond .eq 12, 3) := by decide +kernel
theorem dX12_between_33 : decode cX12_between 33 = .ok (.aload_n 0, 1) := by decide +kernel
theorem dX12_between_34 : decode cX12_between 34 = .ok (.iload_n 1, 1) := by decide +kernel
theorem dX12_between_35 : decode cX12_between 35 = .ok (.iload_n 2, 1) := by decide +kernel
theorem dX12_between_36 : decode cX12_between 36 = .ok (.invokevirtual 360, 3) := by decide +kernel
theorem dX12_between_39 : decode cX12_between 39 = .ok (.goto 4, 3) := by decide +kernel
theorem dX12_between_42 : decode cX12_between 42 = .ok (.iconst (-1), 1) := by decide +kernel
theorem dX12_between_43 : decode cX12_between 43 = .ok (.ireturn, 1) := by decide +kernel
def f_X12_between (a0 : Nat) (x1 : Int32) (x2 : Int32) (μ : jM) : Option (Int32 × jM) :=
  jbd (jsi μ a0 0 (0 : Int32)) (fun m1 => (if (f_X12_in x1.toInt64 (1 : Int64) ((m1.1 a0 9).toInt64)) = (0 : Int32) then some (((-1 : Int32), m1)) else (if (f_X12_in x2.toInt64 (1 : Int64) ((m1.1 a0 9).toInt64)) = (0 : Int32) then some (((-1 : Int32), m1)) else jcl2 (f_X12_others a0 x1 x2 m1) (fun v5 m6 => some ((v5, m6))))))
set_option maxHeartbeats 4000000 in
set_option maxRecDepth 100000 in
theorem c_X12_between {l : Launch} {G : jG} {L : jL} (hL : jOKL L) {a0 : Nat} {x1 : Int32} {x2 : Int32} (ka0 : jK L a0 12) {μ μ' : jM} {r : Int32} (h : f_X12_between a0 x1 x2 μ = some ((r, μ'))) : jCt l G L 7 yX12_between cX12_between 3 (some .int) [.ref (L.2.2 a0), .int x1, .int x2] μ (some (.int r)) μ' := by
  refine jCt_of (by decide) (Nat.le_of_ble_eq_true rfl) (fun X hC hX hR => ?_)
  subst hX
  have hC : jC X G cX12_between 3 RX12 (some .int) := hC
  unfold f_X12_between at h
  show jJ X G 3 L 0 0 (jQM X G L (some (.int r)) μ' 0 0) 0 [(0, .ref (L.2.2 a0)), (1, .int x1), (2, .int x2)] [] μ
  refine j_aload_n (pc := 0) hC 0 0 dX12_between_0 rfl rfl ?_
  refine j_iconst (pc := 1) hC (0 : Int32) dX12_between_1 (by decide) ?_
  obtain ⟨m1, e2, h⟩ := jbd_ex h
  refine jpi_12 (pc := 2) hC 0 (by decide) rfl kf_X12_1 dX12_between_2 rfl (by decide) ka0 e2 ?_
  refine j_iload_n (pc := 5) hC 1 1 dX12_between_5 rfl rfl ?_
  refine j_i2l (pc := 6) hC dX12_between_6 ?_
  refine j_lconst (pc := 7) hC (1 : Int64) dX12_between_7 (by decide) ?_
  refine j_aload_n (pc := 8) hC 0 0 dX12_between_8 rfl rfl ?_
  refine jgi_12 (pc := 9) hC 9 (by decide) rfl kf_X12_158 dX12_between_9 ka0 ?_
  refine j_i2l (pc := 12) hC dX12_between_12 ?_
  refine j_si (pc := 13) hC hR [.long x1.toInt64, .long (1 : Int64), .long ((m1.1 a0 9).toInt64)] iy_X12_in km_X12_21 dX12_between_13 rfl (by decide) (c_X12_in hL  rfl) (by decide) (Nat.le_of_ble_eq_true rfl) rfl ?_
  refine j_if_eq (pc := 16) hC 42 dX12_between_16 (by decide) (fun c3 => ?_) (fun c3 => ?_)
  · rw [if_pos c3] at h
    refine j_iconst (pc := 42) hC (-1 : Int32) dX12_between_42 (by decide) ?_
    obtain ⟨rfl, rfl⟩ := Prod.mk.inj (Option.some.inj h)
    exact j_iret (pc := 43) hC dX12_between_43 rfl
  · rw [if_neg c3] at h
    refine j_iload_n (pc := 19) hC 2 2 dX12_between_19 rfl rfl ?_
    refine j_i2l (pc := 20) hC dX12_between_20 ?_
    refine j_lconst (pc := 21) hC (1 : Int64) dX12_between_21 (by decide) ?_
    refine j_aload_n (pc := 22) hC 0 0 dX12_between_22 rfl rfl ?_
    refine jgi_12 (pc := 23) hC 9 (by decide) rfl kf_X12_158 dX12_between_23 ka0 ?_
    refine j_i2l (pc := 26) hC dX12_between_26 ?_
    refine j_si (pc := 27) hC hR [.long x2.toInt64, .long (1 : Int64), .long ((m1.1 a0 9).toInt64)] iy_X12_in km_X12_21 dX12_between_27 rfl (by decide) (c_X12_in hL  rfl) (by decide) (Nat.le_of_ble_eq_true rfl) rfl ?_
    refine j_if_eq (pc := 30) hC 42 dX12_between_30 (by decide) (fun c4 => ?_) (fun c4 => ?_)
    · rw [if_pos c4] at h
      refine j_iconst (pc := 42) hC (-1 : Int32) dX12_between_42 (by decide) ?_
      obtain ⟨rfl, rfl⟩ := Prod.mk.inj (Option.some.inj h)
      exact j_iret (pc := 43) hC dX12_between_43 rfl
    · rw [if_neg c4] at h
      refine j_aload_n (pc := 33) hC 0 0 dX12_between_33 rfl rfl ?_
      refine j_iload_n (pc := 34) hC 1 1 dX12_between_34 rfl rfl ?_
      refine j_iload_n (pc := 35) hC 2 2 dX12_between_35 rfl rfl ?_
      obtain ⟨v5, m6, e7, h⟩ := jcl2_some h
      refine j_vi (pc := 36) hC hR [.int x1, .int x2] iy_X12_others (q := (RX12, TX12, 40)) (ci := 12) rfl rfl (by decide) km_X12_360 dX12_between_36 rfl (by decide) ka0 (c_X12_others hL ka0 e7) (by decide) (Nat.le_of_ble_eq_true rfl) rfl ?_
      refine j_goto (pc := 39) hC 43 dX12_between_39 (by decide) ?_
      obtain ⟨rfl, rfl⟩ := Prod.mk.inj (Option.some.inj h)
      exact j_iret (pc := 43) hC dX12_between_43 rfl
theorem dX12_valueOf_0 : decode cX12_valueOf 0 = .ok (.iload_n 0, 1) := by decide +kernel
theorem dX12_valueOf_1 : decode cX12_valueOf 1 = .ok (.istore_n 2, 1) := by decide +kernel
theorem dX12_valueOf_2 : decode cX12_valueOf 2 = .ok (.iconst 4, 1) := by decide +kernel
theorem dX12_valueOf_3 : decode cX12_valueOf 3 = .ok (.istore_n 3, 1) := by decide +kernel
theorem dX12_valueOf_4 : decode cX12_valueOf 4 = .ok (.iload_n 3, 1) := by decide +kernel
theorem dX12_valueOf_5 : decode cX12_valueOf 5 = .ok (.iload_n 1, 1) := by decide +kernel
theorem dX12_valueOf_6 : decode cX12_valueOf 6 = .ok (.if_icmp .le 14, 3) := by decide +kernel
theorem dX12_valueOf_9 : decode cX12_valueOf 9 = .ok (.iload_n 2, 1) := by decide +kernel
theorem dX12_valueOf_10 : decode cX12_valueOf 10 = .ok (.bipush 6, 2) := by decide +kernel
theorem dX12_valueOf_12 : decode cX12_valueOf 12 = .ok (.idiv, 1) := by decide +kernel
theorem dX12_valueOf_13 : decode cX12_valueOf 13 = .ok (.istore_n 2, 1) := by decide +kernel
theorem dX12_valueOf_14 : decode cX12_valueOf 14 = .ok (.iinc 3 (-1), 3) := by decide +kernel
theorem dX12_valueOf_17 : decode cX12_valueOf 17 = .ok (.goto (-13), 3) := by decide +kernel
theorem dX12_valueOf_20 : decode cX12_valueOf 20 = .ok (.iload_n 2, 1) := by decide +kernel
theorem dX12_valueOf_21 : decode cX12_valueOf 21 = .ok (.bipush 6, 2) := by decide +kernel
theorem dX12_valueOf_23 : decode cX12_valueOf 23 = .ok (.irem, 1) := by decide +kernel
theorem dX12_valueOf_24 : decode cX12_valueOf 24 = .ok (.ireturn, 1) := by decide +kernel
def f_X12_valueOf_L4 (x1 : Int32) (u1 : Int32) (u2 : Int32) : Option ((Int32 × Int32) ⊕ (Int32)) :=
  (if u2 ≤ x1 then some (.inr u1) else some (.inl ((u1 / (6 : Int32), u2 + (-1 : Int32)))))
def f_X12_valueOf (x0 : Int32) (x1 : Int32) : Option (Int32) :=
  jcl (jloop (fun (s : Int32 × Int32) => f_X12_valueOf_L4 x1 s.1 s.2) jfu ((x0, (4 : Int32)))) (fun w4 => some (w4 - w4 / (6 : Int32) * (6 : Int32)))
set_option maxHeartbeats 4000000 in
set_option maxRecDepth 100000 in
theorem c_X12_valueOf {l : Launch} {G : jG} {L : jL} (hL : jOKL L) {x0 : Int32} {x1 : Int32}  {μ : jM} {r : Int32} (h : f_X12_valueOf x0 x1 = some r) : jCt l G L 3 yX12_valueOf cX12_valueOf 4 (some .int) [.int x0, .int x1] μ (some (.int r)) μ := by
  refine jCt_of (by decide) (Nat.le_of_ble_eq_true rfl) (fun X hC hX hR => ?_)
  subst hX
  have hC : jC X G cX12_valueOf 4 RX12 (some .int) := hC
  unfold f_X12_valueOf at h
  show jJ X G 4 L 0 0 (jQM X G L (some (.int r)) μ 0 0) 0 [(0, .int x0), (1, .int x1)] [] μ
  refine j_iload_n (pc := 0) hC 0 0 dX12_valueOf_0 rfl rfl ?_
  refine j_istore_n (pc := 1) hC 2 [(2, .int x0), (0, .int x0), (1, .int x1)] dX12_valueOf_1 rfl (by decide) rfl rfl ?_
  refine j_iconst (pc := 2) hC (4 : Int32) dX12_valueOf_2 (by decide) ?_
  refine j_istore_n (pc := 3) hC 3 [(3, .int (4 : Int32)), (2, .int x0), (0, .int x0), (1, .int x1)] dX12_valueOf_3 rfl (by decide) rfl rfl ?_
  obtain ⟨w4, hw5, h⟩ := jcl_some h
  refine j_lv [3, 1, 0] rfl ?_
  refine j_loop (step := (fun (s : Int32 × Int32) => f_X12_valueOf_L4 x1 s.1 s.2)) (P := (fun (s : Int32 × Int32) => jJ X G 4 L 0 0 (jQM X G L (some (.int r)) μ 0 0) 4 [(1, .int x1), (2, .int s.1), (3, .int s.2)] [] μ)) (R := (fun (e : Int32) => jJ X G 4 L 0 0 (jQM X G L (some (.int r)) μ 0 0) 20 [(2, .int e)] [] μ)) ?_ jfu ((x0, (4 : Int32))) w4 hw5 ?_
  · intro s6 o h hk
    obtain ⟨u1, u2⟩ := s6
    change f_X12_valueOf_L4 x1 u1 u2 = some o at h
    unfold f_X12_valueOf_L4 at h
    show jJ X G 4 L 0 0 (jQM X G L (some (.int r)) μ 0 0) 4 [(1, .int x1), (2, .int u1), (3, .int u2)] [] μ
    refine j_iload_n (pc := 4) hC 3 2 dX12_valueOf_4 rfl rfl ?_
    refine j_iload_n (pc := 5) hC 1 0 dX12_valueOf_5 rfl rfl ?_
    refine j_icmp_le (pc := 6) hC 20 dX12_valueOf_6 (by decide) (fun c3 => ?_) (fun c3 => ?_)
    · rw [if_pos c3] at h
      obtain rfl := Option.some.inj h
      have hk : jJ X G 4 L 0 0 (jQM X G L (some (.int r)) μ 0 0) 20 [(2, .int u1)] [] μ := hk
      exact j_lv [1] rfl hk
    · rw [if_neg c3] at h
      refine j_iload_n (pc := 9) hC 2 1 dX12_valueOf_9 rfl rfl ?_
      refine j_bipush (pc := 10) hC (6 : Int32) dX12_valueOf_10 (by decide) ?_
      refine j_idiv (pc := 12) hC dX12_valueOf_12 (by decide) ?_
      refine j_istore_n (pc := 13) hC 2 [(2, .int (u1 / (6 : Int32))), (1, .int x1), (3, .int u2)] dX12_valueOf_13 rfl (by decide) rfl rfl ?_
      refine j_iinc (pc := 14) hC 2 (u2 + (-1 : Int32)) [(3, .int (u2 + (-1 : Int32))), (2, .int (u1 / (6 : Int32))), (1, .int x1)] dX12_valueOf_14 rfl rfl (by decide) rfl ?_
      refine j_goto (pc := 17) hC 4 dX12_valueOf_17 (by decide) ?_
      obtain rfl := Option.some.inj h
      have hk : jJ X G 4 L 0 0 (jQM X G L (some (.int r)) μ 0 0) 4 [(1, .int x1), (2, .int (u1 / (6 : Int32))), (3, .int (u2 + (-1 : Int32)))] [] μ := hk
      exact j_lv [2, 1, 0] rfl hk
  · obtain ⟨z7, rfl⟩ : ∃ y, y = w4 := ⟨_, rfl⟩
    try dsimp only at h
    show jJ X G 4 L 0 0 (jQM X G L (some (.int r)) μ 0 0) 20 [(2, .int z7)] [] μ
    refine j_iload_n (pc := 20) hC 2 0 dX12_valueOf_20 rfl rfl ?_
    refine j_bipush (pc := 21) hC (6 : Int32) dX12_valueOf_21 (by decide) ?_
    refine j_irem (pc := 23) hC dX12_valueOf_23 (by decide) ?_
    obtain rfl := Option.some.inj h
    exact j_iret (pc := 24) hC dX12_valueOf_24 rfl
