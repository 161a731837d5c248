def f_X12_seeks : Nat → Nat → Int32 → Int32 → jM → Option (Int32 × jM)
  | 0 => fun _ _ _ _ => none
  | d + 1 => fb_X12_seeks (f_X12_seeks d)
theorem c_X12_seeks {l : Launch} {G : jG} {L : jL} (hL : jOKL L) : ∀ (d : Nat) {b0 : Nat} {b1 : Int32} {b2 : Int32} (kb0 : jK L b0 12) {μ μ' : jM} {r : Int32} (h : f_X12_seeks d b0 b1 b2 μ = some (r, μ')), jCt l G L (13 + 1 * d) yX12_seeks cX12_seeks 6 (some .int) [.ref (L.2.2 b0), .int b1, .int b2] μ (some (.int r)) μ' := by
  intro d
  induction d with
  | zero => intros; rename_i h; cases h
  | succ d ih =>
    intros
    rename_i h
    exact cb_X12_seeks hL (dA := 13 + 1 * d) (by omega) (fun k0 h => ih k0 h) (by assumption) h
theorem dX12_search_0 : decode cX12_search 0 = .ok (.aload_n 0, 1) := by decide +kernel
theorem dX12_search_1 : decode cX12_search 1 = .ok (.iconst 0, 1) := by decide +kernel
theorem dX12_search_2 : decode cX12_search 2 = .ok (.putfield 1, 3) := by decide +kernel
theorem dX12_search_5 : decode cX12_search 5 = .ok (.iload_n 1, 1) := by decide +kernel
theorem dX12_search_6 : decode cX12_search 6 = .ok (.i2l, 1) := by decide +kernel
theorem dX12_search_7 : decode cX12_search 7 = .ok (.lconst 0, 1) := by decide +kernel
theorem dX12_search_8 : decode cX12_search 8 = .ok (.ldc2_w 403, 3) := by decide +kernel
theorem dX12_search_11 : decode cX12_search 11 = .ok (.invokestatic 21, 3) := by decide +kernel
theorem dX12_search_14 : decode cX12_search 14 = .ok (.ifCond .ne 5, 3) := by decide +kernel
theorem dX12_search_17 : decode cX12_search 17 = .ok (.iconst (-1), 1) := by decide +kernel
theorem dX12_search_18 : decode cX12_search 18 = .ok (.ireturn, 1) := by decide +kernel
theorem dX12_search_19 : decode cX12_search 19 = .ok (.aload_n 0, 1) := by decide +kernel
theorem dX12_search_20 : decode cX12_search 20 = .ok (.iconst 0, 1) := by decide +kernel
theorem dX12_search_21 : decode cX12_search 21 = .ok (.putfield 385, 3) := by decide +kernel
theorem dX12_search_24 : decode cX12_search 24 = .ok (.aload_n 0, 1) := by decide +kernel
theorem dX12_search_25 : decode cX12_search 25 = .ok (.iconst 0, 1) := by decide +kernel
theorem dX12_search_26 : decode cX12_search 26 = .ok (.putfield 394, 3) := by decide +kernel
theorem dX12_search_29 : decode cX12_search 29 = .ok (.aload_n 0, 1) := by decide +kernel
theorem dX12_search_30 : decode cX12_search 30 = .ok (.iconst 0, 1) := by decide +kernel
theorem dX12_search_31 : decode cX12_search 31 = .ok (.putfield 388, 3) := by decide +kernel
theorem dX12_search_34 : decode cX12_search 34 = .ok (.aload_n 0, 1) := by decide +kernel
theorem dX12_search_35 : decode cX12_search 35 = .ok (.iconst 0, 1) := by decide +kernel
theorem dX12_search_36 : decode cX12_search 36 = .ok (.putfield 397, 3) := by decide +kernel
theorem dX12_search_39 : decode cX12_search 39 = .ok (.aload_n 0, 1) := by decide +kernel
theorem dX12_search_40 : decode cX12_search 40 = .ok (.invokevirtual 276, 3) := by decide +kernel
theorem dX12_search_43 : decode cX12_search 43 = .ok (.iconst 0, 1) := by decide +kernel
theorem dX12_search_44 : decode cX12_search 44 = .ok (.istore_n 2, 1) := by decide +kernel
theorem dX12_search_45 : decode cX12_search 45 = .ok (.aload_n 0, 1) := by decide +kernel
theorem dX12_search_46 : decode cX12_search 46 = .ok (.aload_n 0, 1) := by decide +kernel
theorem dX12_search_47 : decode cX12_search 47 = .ok (.getfield 78, 3) := by decide +kernel
theorem dX12_search_50 : decode cX12_search 50 = .ok (.sipush 255, 3) := by decide +kernel
theorem dX12_search_53 : decode cX12_search 53 = .ok (.invokevirtual 279, 3) := by decide +kernel
theorem dX12_search_56 : decode cX12_search 56 = .ok (.ifCond .ne 11, 3) := by decide +kernel
theorem dX12_search_59 : decode cX12_search 59 = .ok (.aload_n 0, 1) := by decide +kernel
theorem dX12_search_60 : decode cX12_search 60 = .ok (.iconst 1, 1) := by decide +kernel
theorem dX12_search_61 : decode cX12_search 61 = .ok (.putfield 394, 3) := by decide +kernel
theorem dX12_search_64 : decode cX12_search 64 = .ok (.goto 58, 3) := by decide +kernel
theorem dX12_search_67 : decode cX12_search 67 = .ok (.iconst 0, 1) := by decide +kernel
theorem dX12_search_68 : decode cX12_search 68 = .ok (.istore_n 3, 1) := by decide +kernel
theorem dX12_search_69 : decode cX12_search 69 = .ok (.iload_n 3, 1) := by decide +kernel
theorem dX12_search_70 : decode cX12_search 70 = .ok (.iconst 5, 1) := by decide +kernel
theorem dX12_search_71 : decode cX12_search 71 = .ok (.if_icmp .ge 44, 3) := by decide +kernel
theorem dX12_search_74 : decode cX12_search 74 = .ok (.aload_n 0, 1) := by decide +kernel
theorem dX12_search_75 : decode cX12_search 75 = .ok (.dup, 1) := by decide +kernel
theorem dX12_search_76 : decode cX12_search 76 = .ok (.getfield 397, 3) := by decide +kernel
theorem dX12_search_79 : decode cX12_search 79 = .ok (.aload_n 0, 1) := by decide +kernel
theorem dX12_search_80 : decode cX12_search 80 = .ok (.getfield 78, 3) := by decide +kernel
theorem dX12_search_83 : decode cX12_search 83 = .ok (.iload_n 3, 1) := by decide +kernel
theorem dX12_search_84 : decode cX12_search 84 = .ok (.iaload, 1) := by decide +kernel
theorem dX12_search_85 : decode cX12_search 85 = .ok (.aload_n 0, 1) := by decide +kernel
theorem dX12_search_86 : decode cX12_search 86 = .ok (.getfield 60, 3) := by decide +kernel
theorem dX12_search_89 : decode cX12_search 89 = .ok (.bipush 6, 2) := by decide +kernel
theorem dX12_search_91 : decode cX12_search 91 = .ok (.iload_n 3, 1) := by decide +kernel
theorem dX12_search_92 : decode cX12_search 92 = .ok (.iadd, 1) := by decide +kernel
theorem dX12_search_93 : decode cX12_search 93 = .ok (.iaload, 1) := by decide +kernel
theorem dX12_search_94 : decode cX12_search 94 = .ok (.if_icmp .eq 7, 3) := by decide +kernel
theorem dX12_search_97 : decode cX12_search 97 = .ok (.iconst 1, 1) := by decide +kernel
theorem dX12_search_98 : decode cX12_search 98 = .ok (.goto 4, 3) := by decide +kernel
theorem dX12_search_101 : decode cX12_search 101 = .ok (.iconst 0, 1) := by decide +kernel
theorem dX12_search_102 : decode cX12_search 102 = .ok (.invokestatic 34, 3) := by decide +kernel
theorem dX12_search_105 : decode cX12_search 105 = .ok (.iadd, 1) := by decide +kernel
theorem dX12_search_106 : decode cX12_search 106 = .ok (.putfield 397, 3) := by decide +kernel
theorem dX12_search_109 : decode cX12_search 109 = .ok (.iinc 3 1, 3) := by decide +kernel
theorem dX12_search_112 : decode cX12_search 112 = .ok (.goto (-43), 3) := by decide +kernel
theorem dX12_search_115 : decode cX12_search 115 = .ok (.aload_n 0, 1) := by decide +kernel
theorem dX12_search_116 : decode cX12_search 116 = .ok (.iload_n 1, 1) := by decide +kernel
theorem dX12_search_117 : decode cX12_search 117 = .ok (.iconst 0, 1) := by decide +kernel
theorem dX12_search_118 : decode cX12_search 118 = .ok (.invokevirtual 400, 3) := by decide +kernel
theorem dX12_search_121 : decode cX12_search 121 = .ok (.istore_n 2, 1) := by decide +kernel
theorem dX12_search_122 : decode cX12_search 122 = .ok (.aload_n 0, 1) := by decide +kernel
theorem dX12_search_123 : decode cX12_search 123 = .ok (.iconst 0, 1) := by decide +kernel
theorem dX12_search_124 : decode cX12_search 124 = .ok (.putfield 11, 3) := by decide +kernel
theorem dX12_search_127 : decode cX12_search 127 = .ok (.aload_n 0, 1) := by decide +kernel
theorem dX12_search_128 : decode cX12_search 128 = .ok (.aload_n 0, 1) := by decide +kernel
theorem dX12_search_129 : decode cX12_search 129 = .ok (.getfield 385, 3) := by decide +kernel
theorem dX12_search_132 : decode cX12_search 132 = .ok (.i2l, 1) := by decide +kernel
theorem dX12_search_133 : decode cX12_search 133 = .ok (.invokevirtual 146, 3) := by decide +kernel
theorem dX12_search_136 : decode cX12_search 136 = .ok (.aload_n 0, 1) := by decide +kernel
theorem dX12_search_137 : decode cX12_search 137 = .ok (.aload_n 0, 1) := by decide +kernel
theorem dX12_search_138 : decode cX12_search 138 = .ok (.getfield 394, 3) := by decide +kernel
theorem dX12_search_141 : decode cX12_search 141 = .ok (.i2l, 1) := by decide +kernel
theorem dX12_search_142 : decode cX12_search 142 = .ok (.invokevirtual 146, 3) := by decide +kernel
theorem dX12_search_145 : decode cX12_search 145 = .ok (.aload_n 0, 1) := by decide +kernel
theorem dX12_search_146 : decode cX12_search 146 = .ok (.aload_n 0, 1) := by decide +kernel
theorem dX12_search_147 : decode cX12_search 147 = .ok (.getfield 388, 3) := by decide +kernel
theorem dX12_search_150 : decode cX12_search 150 = .ok (.i2l, 1) := by decide +kernel
theorem dX12_search_151 : decode cX12_search 151 = .ok (.invokevirtual 146, 3) := by decide +kernel
theorem dX12_search_154 : decode cX12_search 154 = .ok (.aload_n 0, 1) := by decide +kernel
theorem dX12_search_155 : decode cX12_search 155 = .ok (.aload_n 0, 1) := by decide +kernel
theorem dX12_search_156 : decode cX12_search 156 = .ok (.getfield 397, 3) := by decide +kernel
theorem dX12_search_159 : decode cX12_search 159 = .ok (.i2l, 1) := by decide +kernel
theorem dX12_search_160 : decode cX12_search 160 = .ok (.invokevirtual 146, 3) := by decide +kernel
theorem dX12_search_163 : decode cX12_search 163 = .ok (.iconst 0, 1) := by decide +kernel
theorem dX12_search_164 : decode cX12_search 164 = .ok (.istore_n 3, 1) := by decide +kernel
theorem dX12_search_165 : decode cX12_search 165 = .ok (.iload_n 3, 1) := by decide +kernel
theorem dX12_search_166 : decode cX12_search 166 = .ok (.iconst 5, 1) := by decide +kernel
theorem dX12_search_167 : decode cX12_search 167 = .ok (.if_icmp .ge 43, 3) := by decide +kernel
theorem dX12_search_170 : decode cX12_search 170 = .ok (.iload_n 2, 1) := by decide +kernel
theorem dX12_search_171 : decode cX12_search 171 = .ok (.iconst 1, 1) := by decide +kernel
theorem dX12_search_172 : decode cX12_search 172 = .ok (.if_icmp .ne 38, 3) := by decide +kernel
theorem dX12_search_175 : decode cX12_search 175 = .ok (.iconst 0, 1) := by decide +kernel
theorem dX12_search_176 : decode cX12_search 176 = .ok (.istore 4, 2) := by decide +kernel
theorem dX12_search_178 : decode cX12_search 178 = .ok (.aload_n 0, 1) := by decide +kernel
theorem dX12_search_179 : decode cX12_search 179 = .ok (.getfield 78, 3) := by decide +kernel
theorem dX12_search_182 : decode cX12_search 182 = .ok (.iload_n 3, 1) := by decide +kernel
theorem dX12_search_183 : decode cX12_search 183 = .ok (.iaload, 1) := by decide +kernel
theorem dX12_search_184 : decode cX12_search 184 = .ok (.iconst 1, 1) := by decide +kernel
theorem dX12_search_185 : decode cX12_search 185 = .ok (.iload 4, 2) := by decide +kernel
theorem dX12_search_187 : decode cX12_search 187 = .ok (.ishl, 1) := by decide +kernel
theorem dX12_search_188 : decode cX12_search 188 = .ok (.if_icmp .eq 9, 3) := by decide +kernel
theorem dX12_search_191 : decode cX12_search 191 = .ok (.iinc 4 1, 3) := by decide +kernel
theorem dX12_search_194 : decode cX12_search 194 = .ok (.goto (-16), 3) := by decide +kernel
theorem dX12_search_197 : decode cX12_search 197 = .ok (.aload_n 0, 1) := by decide +kernel
theorem dX12_search_198 : decode cX12_search 198 = .ok (.iload 4, 2) := by decide +kernel
theorem dX12_search_200 : decode cX12_search 200 = .ok (.i2l, 1) := by decide +kernel
theorem dX12_search_201 : decode cX12_search 201 = .ok (.invokevirtual 146, 3) := by decide +kernel
theorem dX12_search_204 : decode cX12_search 204 = .ok (.iinc 3 1, 3) := by decide +kernel
theorem dX12_search_207 : decode cX12_search 207 = .ok (.goto (-42), 3) := by decide +kernel
theorem dX12_search_210 : decode cX12_search 210 = .ok (.iload_n 2, 1) := by decide +kernel
theorem dX12_search_211 : decode cX12_search 211 = .ok (.ireturn, 1) := by decide +kernel
def f_X12_search_L178 (a0 : Nat) (u32 : Int32) (m33 : jM) (u36 : Int32) : Option ((Int32) ⊕ (Int32)) :=
  jrd (m33.1 (a0 + 9)) u32 5 (fun v38 => (if v38 = ((1 : Int32) <<< (u36 &&& 31)) then some (.inr u36) else some (.inl (u36 + (1 : Int32)))))
def f_X12_search_L165 (a0 : Nat) (t17 : Int32) (u32 : Int32) (m33 : jM) : Option ((Int32 × jM) ⊕ (jM)) :=
  (if (5 : Int32) ≤ u32 then some (.inr m33) else (if t17 = (1 : Int32) then jcl (jloop (fun (s : Int32) => f_X12_search_L178 a0 u32 m33 s) jfu (0 : Int32)) (fun w41 => jcl (f_X12_enters a0 w41.toInt64 m33) (fun m45 => some (.inl ((u32 + (1 : Int32), m45))))) else some (.inr m33)))
def f_X12_search_L69 (a0 : Nat) (u52 : Int32) (m53 : jM) : Option ((Int32 × jM) ⊕ (jM)) :=
  (if (5 : Int32) ≤ u52 then some (.inr m53) else jrd (m53.1 (a0 + 9)) u52 5 (fun v56 => jrd (m53.1 (a0 + 3)) ((6 : Int32) + u52) 2074 (fun v59 => jbd (jsi m53 a0 31 ((m53.1 a0 31) + (f_X12_flag ((if v56 = v59 then (0 : Int32) else (1 : Int32)))))) (fun m62 => some (.inl ((u52 + (1 : Int32), m62)))))))
def f_X12_search (a0 : Nat) (x1 : Int32) (μ : jM) : Option (Int32 × jM) :=
  jbd (jsi μ a0 0 (0 : Int32)) (fun m1 => (if (f_X12_in x1.toInt64 (0 : Int64) (2 : Int64)) = (0 : Int32) then some (((-1 : Int32), m1)) else jbd (jsi m1 a0 28 (0 : Int32)) (fun m4 => jbd (jsi m4 a0 29 (0 : Int32)) (fun m6 => jbd (jsi m6 a0 30 (0 : Int32)) (fun m8 => jbd (jsi m8 a0 31 (0 : Int32)) (fun m10 => jcl (f_X12_lays a0 m10) (fun m12 => jcl2 (f_X12_spreadsBy a0 (a0 + 9) (255 : Int32) m12) (fun v14 m15 => jbd (fun (t17 : Int32) (m18 : jM) => jbd (jsi m18 a0 1 (0 : Int32)) (fun m22 => jcl (f_X12_enters a0 ((m22.1 a0 28).toInt64) m22) (fun m24 => jcl (f_X12_enters a0 ((m24.1 a0 29).toInt64) m24) (fun m26 => jcl (f_X12_enters a0 ((m26.1 a0 30).toInt64) m26) (fun m28 => jcl (f_X12_enters a0 ((m28.1 a0 31).toInt64) m28) (fun m30 => jcl (jloop (fun (s : Int32 × jM) => f_X12_search_L165 a0 t17 s.1 s.2) jfu (((0 : Int32), m30))) (fun w47 => some ((t17, w47))))))))) (fun k19 => (if v14 = (0 : Int32) then jbd (jsi m15 a0 29 (1 : Int32)) (fun m71 => k19 (0 : Int32) m71) else jcl (jloop (fun (s : Int32 × jM) => f_X12_search_L69 a0 s.1 s.2) jfu (((0 : Int32), m15))) (fun w64 => jcl2 (f_X12_seeks 8 a0 x1 (0 : Int32) w64) (fun v68 m69 => k19 v68 m69))))))))))))
set_option maxHeartbeats 4000000 in
set_option maxRecDepth 100000 in
theorem c_X12_search {l : Launch} {G : jG} {L : jL} (hL : jOKL L) {a0 : Nat} {x1 : Int32} (ka0 : jK L a0 12) {μ μ' : jM} {r : Int32} (h : f_X12_search a0 x1 μ = some ((r, μ'))) : jCt l G L 22 yX12_search cX12_search 5 (some .int) [.ref (L.2.2 a0), .int x1] μ (some (.int r)) μ' := by
  refine jCt_of (by decide) (Nat.le_of_ble_eq_true rfl) (fun X hC hX hR => ?_)
  subst hX
  have hC : jC X G cX12_search 5 RX12 (some .int) := hC
  unfold f_X12_search at h
  show jJ X G 5 L 0 0 (jQM X G L (some (.int r)) μ' 0 0) 0 [(0, .ref (L.2.2 a0)), (1, .int x1)] [] μ
  refine j_aload_n (pc := 0) hC 0 0 dX12_search_0 rfl rfl ?_
  refine j_iconst (pc := 1) hC (0 : Int32) dX12_search_1 (by decide) ?_
  obtain ⟨m1, e2, h⟩ := jbd_ex h
  refine jpi_12 (pc := 2) hC 0 (by decide) rfl kf_X12_1 dX12_search_2 rfl (by decide) ka0 e2 ?_
  refine j_iload_n (pc := 5) hC 1 1 dX12_search_5 rfl rfl ?_
  refine j_i2l (pc := 6) hC dX12_search_6 ?_
  refine j_lconst (pc := 7) hC (0 : Int64) dX12_search_7 (by decide) ?_
  refine j_ldc2 (pc := 8) hC dX12_search_8 kl_X12_403 ?_
  refine j_si (pc := 11) hC hR [.long x1.toInt64, .long (0 : Int64), .long (2 : Int64)] iy_X12_in km_X12_21 dX12_search_11 rfl (by decide) (c_X12_in hL  rfl) (by decide) (Nat.le_of_ble_eq_true rfl) rfl ?_
  refine j_if_ne (pc := 14) hC 19 dX12_search_14 (by decide) (fun c3 => ?_) (fun c3 => ?_)
  · rw [if_neg c3] at h
    refine j_aload_n (pc := 19) hC 0 0 dX12_search_19 rfl rfl ?_
    refine j_iconst (pc := 20) hC (0 : Int32) dX12_search_20 (by decide) ?_
    obtain ⟨m4, e5, h⟩ := jbd_ex h
    refine jpi_12 (pc := 21) hC 28 (by decide) rfl kf_X12_385 dX12_search_21 rfl (by decide) ka0 e5 ?_
    refine j_aload_n (pc := 24) hC 0 0 dX12_search_24 rfl rfl ?_
    refine j_iconst (pc := 25) hC (0 : Int32) dX12_search_25 (by decide) ?_
    obtain ⟨m6, e7, h⟩ := jbd_ex h
    refine jpi_12 (pc := 26) hC 29 (by decide) rfl kf_X12_394 dX12_search_26 rfl (by decide) ka0 e7 ?_
    refine j_aload_n (pc := 29) hC 0 0 dX12_search_29 rfl rfl ?_
    refine j_iconst (pc := 30) hC (0 : Int32) dX12_search_30 (by decide) ?_
    obtain ⟨m8, e9, h⟩ := jbd_ex h
    refine jpi_12 (pc := 31) hC 30 (by decide) rfl kf_X12_388 dX12_search_31 rfl (by decide) ka0 e9 ?_
    refine j_aload_n (pc := 34) hC 0 0 dX12_search_34 rfl rfl ?_
    refine j_iconst (pc := 35) hC (0 : Int32) dX12_search_35 (by decide) ?_
    obtain ⟨m10, e11, h⟩ := jbd_ex h
    refine jpi_12 (pc := 36) hC 31 (by decide) rfl kf_X12_397 dX12_search_36 rfl (by decide) ka0 e11 ?_
    refine j_aload_n (pc := 39) hC 0 0 dX12_search_39 rfl rfl ?_
    obtain ⟨m12, e13, h⟩ := jcl_some h
    refine j_vv (pc := 40) hC hR [] iy_X12_lays (q := (RX12, TX12, 40)) (ci := 12) rfl rfl (by decide) km_X12_276 dX12_search_40 rfl (by decide) ka0 (c_X12_lays hL ka0 e13) (by decide) (Nat.le_of_ble_eq_true rfl) rfl ?_
    refine j_iconst (pc := 43) hC (0 : Int32) dX12_search_43 (by decide) ?_
    refine j_istore_n (pc := 44) hC 2 [(2, .int (0 : Int32)), (0, .ref (L.2.2 a0)), (1, .int x1)] dX12_search_44 rfl (by decide) rfl rfl ?_
    refine j_aload_n (pc := 45) hC 0 1 dX12_search_45 rfl rfl ?_
    refine j_aload_n (pc := 46) hC 0 1 dX12_search_46 rfl rfl ?_
    refine jgr_12 (pc := 47) hC 18 (by decide) rfl kf_X12_78 dX12_search_47 ka0 (ly_12_18 hL ka0).1 ?_
    refine j_sipush (pc := 50) hC (255 : Int32) dX12_search_50 (by decide) ?_
    obtain ⟨v14, m15, e16, h⟩ := jcl2_some h
    refine j_vi (pc := 53) hC hR [.ref (L.2.2 (a0 + 9)), .int (255 : Int32)] iy_X12_spreadsBy (q := (RX12, TX12, 40)) (ci := 12) rfl rfl (by decide) km_X12_279 dX12_search_53 rfl (by decide) ka0 (c_X12_spreadsBy hL ka0 (ly_12_18 hL ka0).2.1 e16) (by decide) (Nat.le_of_ble_eq_true rfl) rfl ?_
    obtain ⟨k19, e21, h⟩ := jbd_ex h
    have q20 : ∀ (t17 : Int32) (m18 : jM), k19 t17 m18 = some ((r, μ')) → jJ X G 5 L 0 0 (jQM X G L (some (.int r)) μ' 0 0) 122 [(0, .ref (L.2.2 a0)), (2, .int t17)] [] m18 := by
      intro t17 m18 h
      rw [e21] at h
      try dsimp only at h
      refine j_aload_n (pc := 122) hC 0 0 dX12_search_122 rfl rfl ?_
      refine j_iconst (pc := 123) hC (0 : Int32) dX12_search_123 (by decide) ?_
      obtain ⟨m22, e23, h⟩ := jbd_ex h
      refine jpi_12 (pc := 124) hC 1 (by decide) rfl kf_X12_11 dX12_search_124 rfl (by decide) ka0 e23 ?_
      refine j_aload_n (pc := 127) hC 0 0 dX12_search_127 rfl rfl ?_
      refine j_aload_n (pc := 128) hC 0 0 dX12_search_128 rfl rfl ?_
      refine jgi_12 (pc := 129) hC 28 (by decide) rfl kf_X12_385 dX12_search_129 ka0 ?_
      refine j_i2l (pc := 132) hC dX12_search_132 ?_
      obtain ⟨m24, e25, h⟩ := jcl_some h
      refine j_vv (pc := 133) hC hR [.long ((m22.1 a0 28).toInt64)] iy_X12_enters (q := (RX12, TX12, 40)) (ci := 12) rfl rfl (by decide) km_X12_146 dX12_search_133 rfl (by decide) ka0 (c_X12_enters hL ka0 e25) (by decide) (Nat.le_of_ble_eq_true rfl) rfl ?_
      refine j_aload_n (pc := 136) hC 0 0 dX12_search_136 rfl rfl ?_
      refine j_aload_n (pc := 137) hC 0 0 dX12_search_137 rfl rfl ?_
      refine jgi_12 (pc := 138) hC 29 (by decide) rfl kf_X12_394 dX12_search_138 ka0 ?_
      refine j_i2l (pc := 141) hC dX12_search_141 ?_
      obtain ⟨m26, e27, h⟩ := jcl_some h
      refine j_vv (pc := 142) hC hR [.long ((m24.1 a0 29).toInt64)] iy_X12_enters (q := (RX12, TX12, 40)) (ci := 12) rfl rfl (by decide) km_X12_146 dX12_search_142 rfl (by decide) ka0 (c_X12_enters hL ka0 e27) (by decide) (Nat.le_of_ble_eq_true rfl) rfl ?_
      refine j_aload_n (pc := 145) hC 0 0 dX12_search_145 rfl rfl ?_
      refine j_aload_n (pc := 146) hC 0 0 dX12_search_146 rfl rfl ?_
      refine jgi_12 (pc := 147) hC 30 (by decide) rfl kf_X12_388 dX12_search_147 ka0 ?_
      refine j_i2l (pc := 150) hC dX12_search_150 ?_
      obtain ⟨m28, e29, h⟩ := jcl_some h
      refine j_vv (pc := 151) hC hR [.long ((m26.1 a0 30).toInt64)] iy_X12_enters (q := (RX12, TX12, 40)) (ci := 12) rfl rfl (by decide) km_X12_146 dX12_search_151 rfl (by decide) ka0 (c_X12_enters hL ka0 e29) (by decide) (Nat.le_of_ble_eq_true rfl) rfl ?_
      refine j_aload_n (pc := 154) hC 0 0 dX12_search_154 rfl rfl ?_
      refine j_aload_n (pc := 155) hC 0 0 dX12_search_155 rfl rfl ?_
      refine jgi_12 (pc := 156) hC 31 (by decide) rfl kf_X12_397 dX12_search_156 ka0 ?_
      refine j_i2l (pc := 159) hC dX12_search_159 ?_
      obtain ⟨m30, e31, h⟩ := jcl_some h
      refine j_vv (pc := 160) hC hR [.long ((m28.1 a0 31).toInt64)] iy_X12_enters (q := (RX12, TX12, 40)) (ci := 12) rfl rfl (by decide) km_X12_146 dX12_search_160 rfl (by decide) ka0 (c_X12_enters hL ka0 e31) (by decide) (Nat.le_of_ble_eq_true rfl) rfl ?_
      refine j_iconst (pc := 163) hC (0 : Int32) dX12_search_163 (by decide) ?_
      refine j_istore_n (pc := 164) hC 3 [(3, .int (0 : Int32)), (0, .ref (L.2.2 a0)), (2, .int t17)] dX12_search_164 rfl (by decide) rfl rfl ?_
      obtain ⟨w47, hw48, h⟩ := jcl_some h
      refine j_lv [1, 2, 0] rfl ?_
      refine j_loop (step := (fun (s : Int32 × jM) => f_X12_search_L165 a0 t17 s.1 s.2)) (P := (fun (s : Int32 × jM) => jJ X G 5 L 0 0 (jQM X G L (some (.int r)) μ' 0 0) 165 [(0, .ref (L.2.2 a0)), (2, .int t17), (3, .int s.1)] [] s.2)) (R := (fun (e : jM) => jJ X G 5 L 0 0 (jQM X G L (some (.int r)) μ' 0 0) 210 [(2, .int t17)] [] e)) ?_ jfu (((0 : Int32), m30)) w47 hw48 ?_
      · intro s49 o h hk
        obtain ⟨u32, m33⟩ := s49
        change f_X12_search_L165 a0 t17 u32 m33 = some o at h
        unfold f_X12_search_L165 at h
        show jJ X G 5 L 0 0 (jQM X G L (some (.int r)) μ' 0 0) 165 [(0, .ref (L.2.2 a0)), (2, .int t17), (3, .int u32)] [] m33
        refine j_iload_n (pc := 165) hC 3 2 dX12_search_165 rfl rfl ?_
        refine j_iconst (pc := 166) hC (5 : Int32) dX12_search_166 (by decide) ?_
        refine j_icmp_ge (pc := 167) hC 210 dX12_search_167 (by decide) (fun c34 => ?_) (fun c34 => ?_)
        · rw [if_pos c34] at h
          obtain rfl := Option.some.inj h
          have hk : jJ X G 5 L 0 0 (jQM X G L (some (.int r)) μ' 0 0) 210 [(2, .int t17)] [] m33 := hk
          exact j_lv [1] rfl hk
        · rw [if_neg c34] at h
          refine j_iload_n (pc := 170) hC 2 1 dX12_search_170 rfl rfl ?_
          refine j_iconst (pc := 171) hC (1 : Int32) dX12_search_171 (by decide) ?_
          refine j_icmp_ne (pc := 172) hC 210 dX12_search_172 (by decide) (fun c35 => ?_) (fun c35 => ?_)
          · rw [if_neg c35] at h
            obtain rfl := Option.some.inj h
            have hk : jJ X G 5 L 0 0 (jQM X G L (some (.int r)) μ' 0 0) 210 [(2, .int t17)] [] m33 := hk
            exact j_lv [1] rfl hk
          · rw [if_pos c35] at h
            refine j_iconst (pc := 175) hC (0 : Int32) dX12_search_175 (by decide) ?_
            refine j_istore (pc := 176) hC [(4, .int (0 : Int32)), (0, .ref (L.2.2 a0)), (2, .int t17), (3, .int u32)] dX12_search_176 (by decide) rfl rfl ?_
            obtain ⟨w41, hw42, h⟩ := jcl_some h
            refine j_lv [1, 2, 3, 0] rfl ?_
            refine j_loop (step := (fun (s : Int32) => f_X12_search_L178 a0 u32 m33 s)) (P := (fun (s : Int32) => jJ X G 5 L 0 0 (jQM X G L (some (.int r)) μ' 0 0) 178 [(0, .ref (L.2.2 a0)), (2, .int t17), (3, .int u32), (4, .int s)] [] m33)) (R := (fun (e : Int32) => jJ X G 5 L 0 0 (jQM X G L (some (.int r)) μ' 0 0) 197 [(0, .ref (L.2.2 a0)), (2, .int t17), (3, .int u32), (4, .int e)] [] m33)) ?_ jfu (0 : Int32) w41 hw42 ?_
            · intro u36 o h hk
              change f_X12_search_L178 a0 u32 m33 u36 = some o at h
              unfold f_X12_search_L178 at h
              show jJ X G 5 L 0 0 (jQM X G L (some (.int r)) μ' 0 0) 178 [(0, .ref (L.2.2 a0)), (2, .int t17), (3, .int u32), (4, .int u36)] [] m33
              refine j_aload_n (pc := 178) hC 0 0 dX12_search_178 rfl rfl ?_
              refine jgr_12 (pc := 179) hC 18 (by decide) rfl kf_X12_78 dX12_search_179 ka0 (ly_12_18 hL ka0).1 ?_
              refine j_iload_n (pc := 182) hC 3 2 dX12_search_182 rfl rfl ?_
              obtain ⟨i37, v38, e39, h⟩ := jrd_some h
              refine j_iald (pc := 183) hC dX12_search_183 (ly_12_18 hL ka0).2.1 (ly_12_18 hL ka0).2.2 i37 e39 ?_
              refine j_iconst (pc := 184) hC (1 : Int32) dX12_search_184 (by decide) ?_
              refine j_iload (pc := 185) hC 3 dX12_search_185 rfl ?_
              refine j_ishl (pc := 187) hC dX12_search_187 ?_
              refine j_icmp_eq (pc := 188) hC 197 dX12_search_188 (by decide) (fun c40 => ?_) (fun c40 => ?_)
              · rw [if_pos c40] at h
                obtain rfl := Option.some.inj h
                have hk : jJ X G 5 L 0 0 (jQM X G L (some (.int r)) μ' 0 0) 197 [(0, .ref (L.2.2 a0)), (2, .int t17), (3, .int u32), (4, .int u36)] [] m33 := hk
                exact j_lv [0, 1, 2, 3] rfl hk
              · rw [if_neg c40] at h
                refine j_iinc (pc := 191) hC 3 (u36 + (1 : Int32)) [(4, .int (u36 + (1 : Int32))), (0, .ref (L.2.2 a0)), (2, .int t17), (3, .int u32)] dX12_search_191 rfl rfl (by decide) rfl ?_
                refine j_goto (pc := 194) hC 178 dX12_search_194 (by decide) ?_
                obtain rfl := Option.some.inj h
                have hk : jJ X G 5 L 0 0 (jQM X G L (some (.int r)) μ' 0 0) 178 [(0, .ref (L.2.2 a0)), (2, .int t17), (3, .int u32), (4, .int (u36 + (1 : Int32)))] [] m33 := hk
                exact j_lv [1, 2, 3, 0] rfl hk
            · obtain ⟨z44, rfl⟩ : ∃ y, y = w41 := ⟨_, rfl⟩
              try dsimp only at h
              show jJ X G 5 L 0 0 (jQM X G L (some (.int r)) μ' 0 0) 197 [(0, .ref (L.2.2 a0)), (2, .int t17), (3, .int u32), (4, .int z44)] [] m33
              refine j_aload_n (pc := 197) hC 0 0 dX12_search_197 rfl rfl ?_
              refine j_iload (pc := 198) hC 3 dX12_search_198 rfl ?_
              refine j_i2l (pc := 200) hC dX12_search_200 ?_
              obtain ⟨m45, e46, h⟩ := jcl_some h
              refine j_vv (pc := 201) hC hR [.long z44.toInt64] iy_X12_enters (q := (RX12, TX12, 40)) (ci := 12) rfl rfl (by decide) km_X12_146 dX12_search_201 rfl (by decide) ka0 (c_X12_enters hL ka0 e46) (by decide) (Nat.le_of_ble_eq_true rfl) rfl ?_
              refine j_iinc (pc := 204) hC 2 (u32 + (1 : Int32)) [(3, .int (u32 + (1 : Int32))), (0, .ref (L.2.2 a0)), (2, .int t17), (4, .int z44)] dX12_search_204 rfl rfl (by decide) rfl ?_
              refine j_goto (pc := 207) hC 165 dX12_search_207 (by decide) ?_
              obtain rfl := Option.some.inj h
              have hk : jJ X G 5 L 0 0 (jQM X G L (some (.int r)) μ' 0 0) 165 [(0, .ref (L.2.2 a0)), (2, .int t17), (3, .int (u32 + (1 : Int32)))] [] m45 := hk
              exact j_lv [1, 2, 0] rfl hk
      · obtain ⟨m50, rfl⟩ : ∃ y, y = w47 := ⟨_, rfl⟩
        try dsimp only at h
        show jJ X G 5 L 0 0 (jQM X G L (some (.int r)) μ' 0 0) 210 [(2, .int t17)] [] m50
        refine j_iload_n (pc := 210) hC 2 0 dX12_search_210 rfl rfl ?_
        obtain ⟨rfl, rfl⟩ := Prod.mk.inj (Option.some.inj h)
        exact j_iret (pc := 211) hC dX12_search_211 rfl
    refine j_if_ne (pc := 56) hC 67 dX12_search_56 (by decide) (fun c51 => ?_) (fun c51 => ?_)
    · rw [if_neg c51] at h
      refine j_iconst (pc := 67) hC (0 : Int32) dX12_search_67 (by decide) ?_
      refine j_istore_n (pc := 68) hC 3 [(3, .int (0 : Int32)), (2, .int (0 : Int32)), (0, .ref (L.2.2 a0)), (1, .int x1)] dX12_search_68 rfl (by decide) rfl rfl ?_
      obtain ⟨w64, hw65, h⟩ := jcl_some h
      refine j_lv [2, 3, 0] rfl ?_
      refine j_loop (step := (fun (s : Int32 × jM) => f_X12_search_L69 a0 s.1 s.2)) (P := (fun (s : Int32 × jM) => jJ X G 5 L 0 0 (jQM X G L (some (.int r)) μ' 0 0) 69 [(0, .ref (L.2.2 a0)), (1, .int x1), (3, .int s.1)] [] s.2)) (R := (fun (e : jM) => jJ X G 5 L 0 0 (jQM X G L (some (.int r)) μ' 0 0) 115 [(0, .ref (L.2.2 a0)), (1, .int x1)] [] e)) ?_ jfu (((0 : Int32), m15)) w64 hw65 ?_
      · intro s66 o h hk
        obtain ⟨u52, m53⟩ := s66
        change f_X12_search_L69 a0 u52 m53 = some o at h
        unfold f_X12_search_L69 at h
        show jJ X G 5 L 0 0 (jQM X G L (some (.int r)) μ' 0 0) 69 [(0, .ref (L.2.2 a0)), (1, .int x1), (3, .int u52)] [] m53
        refine j_iload_n (pc := 69) hC 3 2 dX12_search_69 rfl rfl ?_
        refine j_iconst (pc := 70) hC (5 : Int32) dX12_search_70 (by decide) ?_
        refine j_icmp_ge (pc := 71) hC 115 dX12_search_71 (by decide) (fun c54 => ?_) (fun c54 => ?_)
        · rw [if_pos c54] at h
          obtain rfl := Option.some.inj h
          have hk : jJ X G 5 L 0 0 (jQM X G L (some (.int r)) μ' 0 0) 115 [(0, .ref (L.2.2 a0)), (1, .int x1)] [] m53 := hk
          exact j_lv [0, 1] rfl hk
        · rw [if_neg c54] at h
          refine j_aload_n (pc := 74) hC 0 0 dX12_search_74 rfl rfl ?_
          refine j_dup (pc := 75) hC dX12_search_75 rfl ?_
          refine jgi_12 (pc := 76) hC 31 (by decide) rfl kf_X12_397 dX12_search_76 ka0 ?_
          refine j_aload_n (pc := 79) hC 0 0 dX12_search_79 rfl rfl ?_
          refine jgr_12 (pc := 80) hC 18 (by decide) rfl kf_X12_78 dX12_search_80 ka0 (ly_12_18 hL ka0).1 ?_
          refine j_iload_n (pc := 83) hC 3 2 dX12_search_83 rfl rfl ?_
          obtain ⟨i55, v56, e57, h⟩ := jrd_some h
          refine j_iald (pc := 84) hC dX12_search_84 (ly_12_18 hL ka0).2.1 (ly_12_18 hL ka0).2.2 i55 e57 ?_
          refine j_aload_n (pc := 85) hC 0 0 dX12_search_85 rfl rfl ?_
          refine jgr_12 (pc := 86) hC 8 (by decide) rfl kf_X12_60 dX12_search_86 ka0 (ly_12_8 hL ka0).1 ?_
          refine j_bipush (pc := 89) hC (6 : Int32) dX12_search_89 (by decide) ?_
          refine j_iload_n (pc := 91) hC 3 2 dX12_search_91 rfl rfl ?_
          refine j_iadd (pc := 92) hC dX12_search_92 ?_
          obtain ⟨i58, v59, e60, h⟩ := jrd_some h
          refine j_iald (pc := 93) hC dX12_search_93 (ly_12_8 hL ka0).2.1 (ly_12_8 hL ka0).2.2 i58 e60 ?_
          refine jmg (B := jJ X G 5 L 0 0 (jQM X G L (some (.int r)) μ' 0 0) 102 [(0, .ref (L.2.2 a0)), (1, .int x1), (3, .int u52)] [.int ((if v56 = v59 then (0 : Int32) else (1 : Int32))), .int (m53.1 a0 31), .ref (L.2.2 a0)] m53) (fun hj => ?_) ?_
          · refine j_icmp_eq (pc := 94) hC 101 dX12_search_94 (by decide) (fun c61 => ?_) (fun c61 => ?_)
            · rw [if_pos c61] at hj
              refine j_iconst (pc := 101) hC (0 : Int32) dX12_search_101 (by decide) ?_
              exact hj
            · rw [if_neg c61] at hj
              refine j_iconst (pc := 97) hC (1 : Int32) dX12_search_97 (by decide) ?_
              refine j_goto (pc := 98) hC 102 dX12_search_98 (by decide) ?_
              exact hj
          refine j_si (pc := 102) hC hR [.int ((if v56 = v59 then (0 : Int32) else (1 : Int32)))] iy_X12_flag km_X12_34 dX12_search_102 rfl (by decide) (c_X12_flag hL  rfl) (by decide) (Nat.le_of_ble_eq_true rfl) rfl ?_
          refine j_iadd (pc := 105) hC dX12_search_105 ?_
          obtain ⟨m62, e63, h⟩ := jbd_ex h
          refine jpi_12 (pc := 106) hC 31 (by decide) rfl kf_X12_397 dX12_search_106 rfl (by decide) ka0 e63 ?_
          refine j_iinc (pc := 109) hC 2 (u52 + (1 : Int32)) [(3, .int (u52 + (1 : Int32))), (0, .ref (L.2.2 a0)), (1, .int x1)] dX12_search_109 rfl rfl (by decide) rfl ?_
          refine j_goto (pc := 112) hC 69 dX12_search_112 (by decide) ?_
          obtain rfl := Option.some.inj h
          have hk : jJ X G 5 L 0 0 (jQM X G L (some (.int r)) μ' 0 0) 69 [(0, .ref (L.2.2 a0)), (1, .int x1), (3, .int (u52 + (1 : Int32)))] [] m62 := hk
          exact j_lv [1, 2, 0] rfl hk
      · obtain ⟨m67, rfl⟩ : ∃ y, y = w64 := ⟨_, rfl⟩
        try dsimp only at h
        show jJ X G 5 L 0 0 (jQM X G L (some (.int r)) μ' 0 0) 115 [(0, .ref (L.2.2 a0)), (1, .int x1)] [] m67
        refine j_aload_n (pc := 115) hC 0 0 dX12_search_115 rfl rfl ?_
        refine j_iload_n (pc := 116) hC 1 1 dX12_search_116 rfl rfl ?_
        refine j_iconst (pc := 117) hC (0 : Int32) dX12_search_117 (by decide) ?_
        obtain ⟨v68, m69, e70, h⟩ := jcl2_some h
        refine j_vi (pc := 118) hC hR [.int x1, .int (0 : Int32)] iy_X12_seeks (q := (RX12, TX12, 40)) (ci := 12) rfl rfl (by decide) km_X12_400 dX12_search_118 rfl (by decide) ka0 (c_X12_seeks hL 8 ka0 e70) (by decide) (Nat.le_of_ble_eq_true rfl) rfl ?_
        refine j_istore_n (pc := 121) hC 2 [(2, .int v68), (0, .ref (L.2.2 a0)), (1, .int x1)] dX12_search_121 rfl (by decide) rfl rfl ?_
        exact j_lv [1, 0] rfl (q20 _ _ h)
    · rw [if_pos c51] at h
      refine j_aload_n (pc := 59) hC 0 1 dX12_search_59 rfl rfl ?_
      refine j_iconst (pc := 60) hC (1 : Int32) dX12_search_60 (by decide) ?_
      obtain ⟨m71, e72, h⟩ := jbd_ex h
      refine jpi_12 (pc := 61) hC 29 (by decide) rfl kf_X12_394 dX12_search_61 rfl (by decide) ka0 e72 ?_
      refine j_goto (pc := 64) hC 122 dX12_search_64 (by decide) ?_
      exact j_lv [1, 0] rfl (q20 _ _ h)
  · rw [if_pos c3] at h
    refine j_iconst (pc := 17) hC (-1 : Int32) dX12_search_17 (by decide) ?_
    obtain ⟨rfl, rfl⟩ := Prod.mk.inj (Option.some.inj h)
    exact j_iret (pc := 18) hC dX12_search_18 rfl
theorem dX12_probes_0 : decode cX12_probes 0 = .ok (.aload_n 0, 1) := by decide +kernel
theorem dX12_probes_1 : decode cX12_probes 1 = .ok (.iconst 0, 1) := by decide +kernel
theorem dX12_probes_2 : decode cX12_probes 2 = .ok (.putfield 1, 3) := by decide +kernel
theorem dX12_probes_5 : decode cX12_probes 5 = .ok (.iconst 0, 1) := by decide +kernel
theorem dX12_probes_6 : decode cX12_probes 6 = .ok (.istore_n 1, 1) := by decide +kernel
theorem dX12_probes_7 : decode cX12_probes 7 = .ok (.iconst 0, 1) := by decide +kernel
theorem dX12_probes_8 : decode cX12_probes 8 = .ok (.istore_n 2, 1) := by decide +kernel
theorem dX12_probes_9 : decode cX12_probes 9 = .ok (.iload_n 2, 1) := by decide +kernel
theorem dX12_probes_10 : decode cX12_probes 10 = .ok (.bipush 30, 2) := by decide +kernel
theorem dX12_probes_12 : decode cX12_probes 12 = .ok (.if_icmp .ge 77, 3) := by decide +kernel
theorem dX12_probes_15 : decode cX12_probes 15 = .ok (.aload_n 0, 1) := by decide +kernel
theorem dX12_probes_16 : decode cX12_probes 16 = .ok (.getfield 60, 3) := by decide +kernel
theorem dX12_probes_19 : decode cX12_probes 19 = .ok (.bipush 6, 2) := by decide +kernel
theorem dX12_probes_21 : decode cX12_probes 21 = .ok (.iload_n 2, 1) := by decide +kernel
theorem dX12_probes_22 : decode cX12_probes 22 = .ok (.bipush 6, 2) := by decide +kernel
theorem dX12_probes_24 : decode cX12_probes 24 = .ok (.idiv, 1) := by decide +kernel
theorem dX12_probes_25 : decode cX12_probes 25 = .ok (.iadd, 1) := by decide +kernel
theorem dX12_probes_26 : decode cX12_probes 26 = .ok (.iaload, 1) := by decide +kernel
theorem dX12_probes_27 : decode cX12_probes 27 = .ok (.iload_n 2, 1) := by decide +kernel
theorem dX12_probes_28 : decode cX12_probes 28 = .ok (.bipush 6, 2) := by decide +kernel
theorem dX12_probes_30 : decode cX12_probes 30 = .ok (.irem, 1) := by decide +kernel
theorem dX12_probes_31 : decode cX12_probes 31 = .ok (.invokestatic 208, 3) := by decide +kernel
theorem dX12_probes_34 : decode cX12_probes 34 = .ok (.ifCond .ne 6, 3) := by decide +kernel
theorem dX12_probes_37 : decode cX12_probes 37 = .ok (.goto 46, 3) := by decide +kernel
theorem dX12_probes_40 : decode cX12_probes 40 = .ok (.aload_n 0, 1) := by decide +kernel
theorem dX12_probes_41 : decode cX12_probes 41 = .ok (.invokevirtual 276, 3) := by decide +kernel
theorem dX12_probes_44 : decode cX12_probes 44 = .ok (.aload_n 0, 1) := by decide +kernel
theorem dX12_probes_45 : decode cX12_probes 45 = .ok (.getfield 78, 3) := by decide +kernel
theorem dX12_probes_48 : decode cX12_probes 48 = .ok (.iload_n 2, 1) := by decide +kernel
theorem dX12_probes_49 : decode cX12_probes 49 = .ok (.bipush 6, 2) := by decide +kernel
theorem dX12_probes_51 : decode cX12_probes 51 = .ok (.idiv, 1) := by decide +kernel
theorem dX12_probes_52 : decode cX12_probes 52 = .ok (.iconst 1, 1) := by decide +kernel
theorem dX12_probes_53 : decode cX12_probes 53 = .ok (.iload_n 2, 1) := by decide +kernel
theorem dX12_probes_54 : decode cX12_probes 54 = .ok (.bipush 6, 2) := by decide +kernel
theorem dX12_probes_56 : decode cX12_probes 56 = .ok (.irem, 1) := by decide +kernel
theorem dX12_probes_57 : decode cX12_probes 57 = .ok (.ishl, 1) := by decide +kernel
theorem dX12_probes_58 : decode cX12_probes 58 = .ok (.iastore, 1) := by decide +kernel
theorem dX12_probes_59 : decode cX12_probes 59 = .ok (.iload_n 1, 1) := by decide +kernel
theorem dX12_probes_60 : decode cX12_probes 60 = .ok (.aload_n 0, 1) := by decide +kernel
theorem dX12_probes_61 : decode cX12_probes 61 = .ok (.aload_n 0, 1) := by decide +kernel
theorem dX12_probes_62 : decode cX12_probes 62 = .ok (.getfield 78, 3) := by decide +kernel
theorem dX12_probes_65 : decode cX12_probes 65 = .ok (.sipush 255, 3) := by decide +kernel
theorem dX12_probes_68 : decode cX12_probes 68 = .ok (.invokevirtual 279, 3) := by decide +kernel
theorem dX12_probes_71 : decode cX12_probes 71 = .ok (.ifCond .eq 7, 3) := by decide +kernel
theorem dX12_probes_74 : decode cX12_probes 74 = .ok (.iconst 0, 1) := by decide +kernel
theorem dX12_probes_75 : decode cX12_probes 75 = .ok (.goto 6, 3) := by decide +kernel
theorem dX12_probes_78 : decode cX12_probes 78 = .ok (.iconst 1, 1) := by decide +kernel
theorem dX12_probes_79 : decode cX12_probes 79 = .ok (.iload_n 2, 1) := by decide +kernel
theorem dX12_probes_80 : decode cX12_probes 80 = .ok (.ishl, 1) := by decide +kernel
theorem dX12_probes_81 : decode cX12_probes 81 = .ok (.ior, 1) := by decide +kernel
theorem dX12_probes_82 : decode cX12_probes 82 = .ok (.istore_n 1, 1) := by decide +kernel
theorem dX12_probes_83 : decode cX12_probes 83 = .ok (.iinc 2 1, 3) := by decide +kernel
theorem dX12_probes_86 : decode cX12_probes 86 = .ok (.goto (-77), 3) := by decide +kernel
theorem dX12_probes_89 : decode cX12_probes 89 = .ok (.aload_n 0, 1) := by decide +kernel
theorem dX12_probes_90 : decode cX12_probes 90 = .ok (.iconst 0, 1) := by decide +kernel
theorem dX12_probes_91 : decode cX12_probes 91 = .ok (.putfield 11, 3) := by decide +kernel
theorem dX12_probes_94 : decode cX12_probes 94 = .ok (.aload_n 0, 1) := by decide +kernel
theorem dX12_probes_95 : decode cX12_probes 95 = .ok (.iload_n 1, 1) := by decide +kernel
theorem dX12_probes_96 : decode cX12_probes 96 = .ok (.invokestatic 211, 3) := by decide +kernel
theorem dX12_probes_99 : decode cX12_probes 99 = .ok (.i2l, 1) := by decide +kernel
theorem dX12_probes_100 : decode cX12_probes 100 = .ok (.invokevirtual 146, 3) := by decide +kernel
theorem dX12_probes_103 : decode cX12_probes 103 = .ok (.iload_n 1, 1) := by decide +kernel
theorem dX12_probes_104 : decode cX12_probes 104 = .ok (.ireturn, 1) := by decide +kernel
def f_X12_probes_L9 (a0 : Nat) (u3 : Int32) (u4 : Int32) (m5 : jM) : Option ((Int32 × Int32 × jM) ⊕ (Int32 × jM)) :=
  (if (30 : Int32) ≤ u4 then some (.inr ((u3, m5))) else jrd (m5.1 (a0 + 3)) ((6 : Int32) + (u4 / (6 : Int32))) 2074 (fun v8 => (if (f_X12_has v8 (u4 - u4 / (6 : Int32) * (6 : Int32))) = (0 : Int32) then some (.inl ((u3, u4 + (1 : Int32), m5))) else jcl (f_X12_lays a0 m5) (fun m11 => jin (u4 / (6 : Int32)) 5 (jbd (jsi m11 (a0 + 9) (u4 / (6 : Int32)).toNatClampNeg ((1 : Int32) <<< ((u4 - u4 / (6 : Int32) * (6 : Int32)) &&& 31))) (fun m14 => jcl2 (f_X12_spreadsBy a0 (a0 + 9) (255 : Int32) m14) (fun v16 m17 => jbd (u3 ||| ((if v16 = (0 : Int32) then (1 : Int32) <<< (u4 &&& 31) else (0 : Int32))) : Int32) (fun v20 => some (.inl ((v20, u4 + (1 : Int32), m17)))))))))))
def f_X12_probes (a0 : Nat) (μ : jM) : Option (Int32 × jM) :=
  jbd (jsi μ a0 0 (0 : Int32)) (fun m1 => jcl (jloop (fun (s : Int32 × Int32 × jM) => f_X12_probes_L9 a0 s.1 s.2.1 s.2.2) jfu (((0 : Int32), (0 : Int32), m1))) (fun w22 => jbd (jsi w22.2 a0 1 (0 : Int32)) (fun m27 => jcl (f_X12_bitsOf w22.1) (fun v29 => jcl (f_X12_enters a0 v29.toInt64 m27) (fun m31 => some ((w22.1, m31)))))))
set_option maxHeartbeats 4000000 in
set_option maxRecDepth 100000 in
theorem c_X12_probes {l : Launch} {G : jG} {L : jL} (hL : jOKL L) {a0 : Nat} (ka0 : jK L a0 12) {μ μ' : jM} {r : Int32} (h : f_X12_probes a0 μ = some ((r, μ'))) : jCt l G L 14 yX12_probes cX12_probes 3 (some .int) [.ref (L.2.2 a0)] μ (some (.int r)) μ' := by
  refine jCt_of (by decide) (Nat.le_of_ble_eq_true rfl) (fun X hC hX hR => ?_)
  subst hX
  have hC : jC X G cX12_probes 3 RX12 (some .int) := hC
  unfold f_X12_probes at h
  show jJ X G 3 L 0 0 (jQM X G L (some (.int r)) μ' 0 0) 0 [(0, .ref (L.2.2 a0))] [] μ
  refine j_aload_n (pc := 0) hC 0 0 dX12_probes_0 rfl rfl ?_
  refine j_iconst (pc := 1) hC (0 : Int32) dX12_probes_1 (by decide) ?_
  obtain ⟨m1, e2, h⟩ := jbd_ex h
  refine jpi_12 (pc := 2) hC 0 (by decide) rfl kf_X12_1 dX12_probes_2 rfl (by decide) ka0 e2 ?_
  refine j_iconst (pc := 5) hC (0 : Int32) dX12_probes_5 (by decide) ?_
  refine j_istore_n (pc := 6) hC 1 [(1, .int (0 : Int32)), (0, .ref (L.2.2 a0))] dX12_probes_6 rfl (by decide) rfl rfl ?_
  refine j_iconst (pc := 7) hC (0 : Int32) dX12_probes_7 (by decide) ?_
  refine j_istore_n (pc := 8) hC 2 [(2, .int (0 : Int32)), (1, .int (0 : Int32)), (0, .ref (L.2.2 a0))] dX12_probes_8 rfl (by decide) rfl rfl ?_
  obtain ⟨w22, hw23, h⟩ := jcl_some h
  refine j_lv [2, 1, 0] rfl ?_
  refine j_loop (step := (fun (s : Int32 × Int32 × jM) => f_X12_probes_L9 a0 s.1 s.2.1 s.2.2)) (P := (fun (s : Int32 × Int32 × jM) => jJ X G 3 L 0 0 (jQM X G L (some (.int r)) μ' 0 0) 9 [(0, .ref (L.2.2 a0)), (1, .int s.1), (2, .int s.2.1)] [] s.2.2)) (R := (fun (e : Int32 × jM) => jJ X G 3 L 0 0 (jQM X G L (some (.int r)) μ' 0 0) 89 [(0, .ref (L.2.2 a0)), (1, .int e.1)] [] e.2)) ?_ jfu (((0 : Int32), (0 : Int32), m1)) w22 hw23 ?_
  · intro s24 o h hk
    obtain ⟨u3, u4, m5⟩ := s24
    change f_X12_probes_L9 a0 u3 u4 m5 = some o at h
    unfold f_X12_probes_L9 at h
    show jJ X G 3 L 0 0 (jQM X G L (some (.int r)) μ' 0 0) 9 [(0, .ref (L.2.2 a0)), (1, .int u3), (2, .int u4)] [] m5
    refine j_iload_n (pc := 9) hC 2 2 dX12_probes_9 rfl rfl ?_
    refine j_bipush (pc := 10) hC (30 : Int32) dX12_probes_10 (by decide) ?_
    refine j_icmp_ge (pc := 12) hC 89 dX12_probes_12 (by decide) (fun c6 => ?_) (fun c6 => ?_)
    · rw [if_pos c6] at h
      obtain rfl := Option.some.inj h
      have hk : jJ X G 3 L 0 0 (jQM X G L (some (.int r)) μ' 0 0) 89 [(0, .ref (L.2.2 a0)), (1, .int u3)] [] m5 := hk
      exact j_lv [0, 1] rfl hk
    · rw [if_neg c6] at h
      refine j_aload_n (pc := 15) hC 0 0 dX12_probes_15 rfl rfl ?_
      refine jgr_12 (pc := 16) hC 8 (by decide) rfl kf_X12_60 dX12_probes_16 ka0 (ly_12_8 hL ka0).1 ?_
      refine j_bipush (pc := 19) hC (6 : Int32) dX12_probes_19 (by decide) ?_
      refine j_iload_n (pc := 21) hC 2 2 dX12_probes_21 rfl rfl ?_
      refine j_bipush (pc := 22) hC (6 : Int32) dX12_probes_22 (by decide) ?_
      refine j_idiv (pc := 24) hC dX12_probes_24 (by decide) ?_
      refine j_iadd (pc := 25) hC dX12_probes_25 ?_
      obtain ⟨i7, v8, e9, h⟩ := jrd_some h
      refine j_iald (pc := 26) hC dX12_probes_26 (ly_12_8 hL ka0).2.1 (ly_12_8 hL ka0).2.2 i7 e9 ?_
      refine j_iload_n (pc := 27) hC 2 2 dX12_probes_27 rfl rfl ?_
      refine j_bipush (pc := 28) hC (6 : Int32) dX12_probes_28 (by decide) ?_
      refine j_irem (pc := 30) hC dX12_probes_30 (by decide) ?_
      refine j_si (pc := 31) hC hR [.int v8, .int (u4 - u4 / (6 : Int32) * (6 : Int32))] iy_X12_has km_X12_208 dX12_probes_31 rfl (by decide) (c_X12_has hL  rfl) (by decide) (Nat.le_of_ble_eq_true rfl) rfl ?_
      refine j_if_ne (pc := 34) hC 40 dX12_probes_34 (by decide) (fun c10 => ?_) (fun c10 => ?_)
      · rw [if_neg c10] at h
        refine j_aload_n (pc := 40) hC 0 0 dX12_probes_40 rfl rfl ?_
        obtain ⟨m11, e12, h⟩ := jcl_some h
        refine j_vv (pc := 41) hC hR [] iy_X12_lays (q := (RX12, TX12, 40)) (ci := 12) rfl rfl (by decide) km_X12_276 dX12_probes_41 rfl (by decide) ka0 (c_X12_lays hL ka0 e12) (by decide) (Nat.le_of_ble_eq_true rfl) rfl ?_
        refine j_aload_n (pc := 44) hC 0 0 dX12_probes_44 rfl rfl ?_
        refine jgr_12 (pc := 45) hC 18 (by decide) rfl kf_X12_78 dX12_probes_45 ka0 (ly_12_18 hL ka0).1 ?_
        refine j_iload_n (pc := 48) hC 2 2 dX12_probes_48 rfl rfl ?_
        refine j_bipush (pc := 49) hC (6 : Int32) dX12_probes_49 (by decide) ?_
        refine j_idiv (pc := 51) hC dX12_probes_51 (by decide) ?_
        refine j_iconst (pc := 52) hC (1 : Int32) dX12_probes_52 (by decide) ?_
        refine j_iload_n (pc := 53) hC 2 2 dX12_probes_53 rfl rfl ?_
        refine j_bipush (pc := 54) hC (6 : Int32) dX12_probes_54 (by decide) ?_
        refine j_irem (pc := 56) hC dX12_probes_56 (by decide) ?_
        refine j_ishl (pc := 57) hC dX12_probes_57 ?_
        obtain ⟨i13, h⟩ := jin_some h
        obtain ⟨m14, e15, h⟩ := jbd_ex h
        refine j_iast (pc := 58) hC dX12_probes_58 (ly_12_18 hL ka0).2.1 (ly_12_18 hL ka0).2.2 i13 e15 ?_
        refine j_iload_n (pc := 59) hC 1 1 dX12_probes_59 rfl rfl ?_
        refine j_aload_n (pc := 60) hC 0 0 dX12_probes_60 rfl rfl ?_
        refine j_aload_n (pc := 61) hC 0 0 dX12_probes_61 rfl rfl ?_
        refine jgr_12 (pc := 62) hC 18 (by decide) rfl kf_X12_78 dX12_probes_62 ka0 (ly_12_18 hL ka0).1 ?_
        refine j_sipush (pc := 65) hC (255 : Int32) dX12_probes_65 (by decide) ?_
        obtain ⟨v16, m17, e18, h⟩ := jcl2_some h
        refine j_vi (pc := 68) hC hR [.ref (L.2.2 (a0 + 9)), .int (255 : Int32)] iy_X12_spreadsBy (q := (RX12, TX12, 40)) (ci := 12) rfl rfl (by decide) km_X12_279 dX12_probes_68 rfl (by decide) ka0 (c_X12_spreadsBy hL ka0 (ly_12_18 hL ka0).2.1 e18) (by decide) (Nat.le_of_ble_eq_true rfl) rfl ?_
        refine jmg (B := jJ X G 3 L 0 0 (jQM X G L (some (.int r)) μ' 0 0) 81 [(0, .ref (L.2.2 a0)), (1, .int u3), (2, .int u4)] [.int ((if v16 = (0 : Int32) then (1 : Int32) <<< (u4 &&& 31) else (0 : Int32))), .int u3] m17) (fun hj => ?_) ?_
        · refine j_if_eq (pc := 71) hC 78 dX12_probes_71 (by decide) (fun c19 => ?_) (fun c19 => ?_)
          · rw [if_pos c19] at hj
            refine j_iconst (pc := 78) hC (1 : Int32) dX12_probes_78 (by decide) ?_
            refine j_iload_n (pc := 79) hC 2 2 dX12_probes_79 rfl rfl ?_
            refine j_ishl (pc := 80) hC dX12_probes_80 ?_
            exact hj
          · rw [if_neg c19] at hj
            refine j_iconst (pc := 74) hC (0 : Int32) dX12_probes_74 (by decide) ?_
            refine j_goto (pc := 75) hC 81 dX12_probes_75 (by decide) ?_
            exact hj
        refine j_ior (pc := 81) hC dX12_probes_81 ?_
        obtain ⟨v20, e21, h⟩ := jbd_ex h
        refine j_istore_n (pc := 82) hC 1 [(1, .int v20), (0, .ref (L.2.2 a0)), (2, .int u4)] dX12_probes_82 rfl (by decide) e21 rfl ?_
        refine j_iinc (pc := 83) hC 2 (u4 + (1 : Int32)) [(2, .int (u4 + (1 : Int32))), (1, .int v20), (0, .ref (L.2.2 a0))] dX12_probes_83 rfl rfl (by decide) rfl ?_
        refine j_goto (pc := 86) hC 9 dX12_probes_86 (by decide) ?_
        obtain rfl := Option.some.inj h
        have hk : jJ X G 3 L 0 0 (jQM X G L (some (.int r)) μ' 0 0) 9 [(0, .ref (L.2.2 a0)), (1, .int v20), (2, .int (u4 + (1 : Int32)))] [] m17 := hk
        exact j_lv [2, 1, 0] rfl hk
      · rw [if_pos c10] at h
        refine j_goto (pc := 37) hC 83 dX12_probes_37 (by decide) ?_
        refine j_iinc (pc := 83) hC 2 (u4 + (1 : Int32)) [(2, .int (u4 + (1 : Int32))), (0, .ref (L.2.2 a0)), (1, .int u3)] dX12_probes_83 rfl rfl (by decide) rfl ?_
        refine j_goto (pc := 86) hC 9 dX12_probes_86 (by decide) ?_
        obtain rfl := Option.some.inj h
        have hk : jJ X G 3 L 0 0 (jQM X G L (some (.int r)) μ' 0 0) 9 [(0, .ref (L.2.2 a0)), (1, .int u3), (2, .int (u4 + (1 : Int32)))] [] m5 := hk
        exact j_lv [1, 2, 0] rfl hk
  · obtain ⟨z25, m26⟩ := w22
    try dsimp only at h
    show jJ X G 3 L 0 0 (jQM X G L (some (.int r)) μ' 0 0) 89 [(0, .ref (L.2.2 a0)), (1, .int z25)] [] m26
    refine j_aload_n (pc := 89) hC 0 0 dX12_probes_89 rfl rfl ?_
    refine j_iconst (pc := 90) hC (0 : Int32) dX12_probes_90 (by decide) ?_
    obtain ⟨m27, e28, h⟩ := jbd_ex h
    refine jpi_12 (pc := 91) hC 1 (by decide) rfl kf_X12_11 dX12_probes_91 rfl (by decide) ka0 e28 ?_
    refine j_aload_n (pc := 94) hC 0 0 dX12_probes_94 rfl rfl ?_
    refine j_iload_n (pc := 95) hC 1 1 dX12_probes_95 rfl rfl ?_
    obtain ⟨v29, e30, h⟩ := jcl_some h
    refine j_si (pc := 96) hC hR [.int z25] iy_X12_bitsOf km_X12_211 dX12_probes_96 rfl (by decide) (c_X12_bitsOf hL  e30) (by decide) (Nat.le_of_ble_eq_true rfl) rfl ?_
    refine j_i2l (pc := 99) hC dX12_probes_99 ?_
    obtain ⟨m31, e32, h⟩ := jcl_some h
    refine j_vv (pc := 100) hC hR [.long v29.toInt64] iy_X12_enters (q := (RX12, TX12, 40)) (ci := 12) rfl rfl (by decide) km_X12_146 dX12_probes_100 rfl (by decide) ka0 (c_X12_enters hL ka0 e32) (by decide) (Nat.le_of_ble_eq_true rfl) rfl ?_
    refine j_iload_n (pc := 103) hC 1 1 dX12_probes_103 rfl rfl ?_
    obtain ⟨rfl, rfl⟩ := Prod.mk.inj (Option.some.inj h)
    exact j_iret (pc := 104) hC dX12_probes_104 rfl
theorem dX12_leaves_0 : decode cX12_leaves 0 = .ok (.aload_n 0, 1) := by decide +kernel
theorem dX12_leaves_1 : decode cX12_leaves 1 = .ok (.iconst 0, 1) := by decide +kernel
theorem dX12_leaves_2 : decode cX12_leaves 2 = .ok (.putfield 1, 3) := by decide +kernel
theorem dX12_leaves_5 : decode cX12_leaves 5 = .ok (.iload_n 1, 1) := by decide +kernel
theorem dX12_leaves_6 : decode cX12_leaves 6 = .ok (.invokestatic 202, 3) := by decide +kernel
theorem dX12_leaves_9 : decode cX12_leaves 9 = .ok (.ifCond .eq 10, 3) := by decide +kernel
theorem dX12_leaves_12 : decode cX12_leaves 12 = .ok (.iload_n 2, 1) := by decide +kernel
theorem dX12_leaves_13 : decode cX12_leaves 13 = .ok (.invokestatic 205, 3) := by decide +kernel
theorem dX12_leaves_16 : decode cX12_leaves 16 = .ok (.ifCond .ne 5, 3) := by decide +kernel
theorem dX12_leaves_19 : decode cX12_leaves 19 = .ok (.iconst (-1), 1) := by decide +kernel
theorem dX12_leaves_20 : decode cX12_leaves 20 = .ok (.ireturn, 1) := by decide +kernel
theorem dX12_leaves_21 : decode cX12_leaves 21 = .ok (.aload_n 0, 1) := by decide +kernel
theorem dX12_leaves_22 : decode cX12_leaves 22 = .ok (.getfield 60, 3) := by decide +kernel
theorem dX12_leaves_25 : decode cX12_leaves 25 = .ok (.bipush 6, 2) := by decide +kernel
theorem dX12_leaves_27 : decode cX12_leaves 27 = .ok (.iload_n 1, 1) := by decide +kernel
theorem dX12_leaves_28 : decode cX12_leaves 28 = .ok (.iadd, 1) := by decide +kernel
theorem dX12_leaves_29 : decode cX12_leaves 29 = .ok (.iaload, 1) := by decide +kernel
theorem dX12_leaves_30 : decode cX12_leaves 30 = .ok (.iload_n 2, 1) := by decide +kernel
theorem dX12_leaves_31 : decode cX12_leaves 31 = .ok (.invokestatic 208, 3) := by decide +kernel
theorem dX12_leaves_34 : decode cX12_leaves 34 = .ok (.ifCond .ne 6, 3) := by decide +kernel
theorem dX12_leaves_37 : decode cX12_leaves 37 = .ok (.bipush (-2), 2) := by decide +kernel
theorem dX12_leaves_39 : decode cX12_leaves 39 = .ok (.ireturn, 1) := by decide +kernel
theorem dX12_leaves_40 : decode cX12_leaves 40 = .ok (.aload_n 0, 1) := by decide +kernel
theorem dX12_leaves_41 : decode cX12_leaves 41 = .ok (.invokevirtual 276, 3) := by decide +kernel
theorem dX12_leaves_44 : decode cX12_leaves 44 = .ok (.aload_n 0, 1) := by decide +kernel
theorem dX12_leaves_45 : decode cX12_leaves 45 = .ok (.getfield 78, 3) := by decide +kernel
theorem dX12_leaves_48 : decode cX12_leaves 48 = .ok (.iload_n 1, 1) := by decide +kernel
theorem dX12_leaves_49 : decode cX12_leaves 49 = .ok (.iconst 1, 1) := by decide +kernel
theorem dX12_leaves_50 : decode cX12_leaves 50 = .ok (.iload_n 2, 1) := by decide +kernel
theorem dX12_leaves_51 : decode cX12_leaves 51 = .ok (.ishl, 1) := by decide +kernel
theorem dX12_leaves_52 : decode cX12_leaves 52 = .ok (.iastore, 1) := by decide +kernel
theorem dX12_leaves_53 : decode cX12_leaves 53 = .ok (.aload_n 0, 1) := by decide +kernel
theorem dX12_leaves_54 : decode cX12_leaves 54 = .ok (.aload_n 0, 1) := by decide +kernel
theorem dX12_leaves_55 : decode cX12_leaves 55 = .ok (.getfield 78, 3) := by decide +kernel
theorem dX12_leaves_58 : decode cX12_leaves 58 = .ok (.sipush 255, 3) := by decide +kernel
theorem dX12_leaves_61 : decode cX12_leaves 61 = .ok (.invokevirtual 279, 3) := by decide +kernel
theorem dX12_leaves_64 : decode cX12_leaves 64 = .ok (.ifCond .ne 6, 3) := by decide +kernel
theorem dX12_leaves_67 : decode cX12_leaves 67 = .ok (.bipush (-3), 2) := by decide +kernel
theorem dX12_leaves_69 : decode cX12_leaves 69 = .ok (.ireturn, 1) := by decide +kernel
theorem dX12_leaves_70 : decode cX12_leaves 70 = .ok (.aload_n 0, 1) := by decide +kernel
theorem dX12_leaves_71 : decode cX12_leaves 71 = .ok (.iconst 0, 1) := by decide +kernel
theorem dX12_leaves_72 : decode cX12_leaves 72 = .ok (.putfield 11, 3) := by decide +kernel
theorem dX12_leaves_75 : decode cX12_leaves 75 = .ok (.iconst 0, 1) := by decide +kernel
theorem dX12_leaves_76 : decode cX12_leaves 76 = .ok (.istore_n 3, 1) := by decide +kernel
theorem dX12_leaves_77 : decode cX12_leaves 77 = .ok (.iload_n 3, 1) := by decide +kernel
theorem dX12_leaves_78 : decode cX12_leaves 78 = .ok (.iconst 5, 1) := by decide +kernel
theorem dX12_leaves_79 : decode cX12_leaves 79 = .ok (.if_icmp .ge 20, 3) := by decide +kernel
theorem dX12_leaves_82 : decode cX12_leaves 82 = .ok (.aload_n 0, 1) := by decide +kernel
theorem dX12_leaves_83 : decode cX12_leaves 83 = .ok (.aload_n 0, 1) := by decide +kernel
theorem dX12_leaves_84 : decode cX12_leaves 84 = .ok (.getfield 78, 3) := by decide +kernel
theorem dX12_leaves_87 : decode cX12_leaves 87 = .ok (.iload_n 3, 1) := by decide +kernel
theorem dX12_leaves_88 : decode cX12_leaves 88 = .ok (.iaload, 1) := by decide +kernel
theorem dX12_leaves_89 : decode cX12_leaves 89 = .ok (.i2l, 1) := by decide +kernel
theorem dX12_leaves_90 : decode cX12_leaves 90 = .ok (.invokevirtual 146, 3) := by decide +kernel
theorem dX12_leaves_93 : decode cX12_leaves 93 = .ok (.iinc 3 1, 3) := by decide +kernel
theorem dX12_leaves_96 : decode cX12_leaves 96 = .ok (.goto (-19), 3) := by decide +kernel
theorem dX12_leaves_99 : decode cX12_leaves 99 = .ok (.aload_n 0, 1) := by decide +kernel
theorem dX12_leaves_100 : decode cX12_leaves 100 = .ok (.getfield 78, 3) := by decide +kernel
theorem dX12_leaves_103 : decode cX12_leaves 103 = .ok (.invokestatic 286, 3) := by decide +kernel
theorem dX12_leaves_106 : decode cX12_leaves 106 = .ok (.ireturn, 1) := by decide +kernel
def f_X12_leaves_L77 (a0 : Nat) (u20 : Int32) (m21 : jM) : Option ((Int32 × jM) ⊕ (jM)) :=
  (if (5 : Int32) ≤ u20 then some (.inr m21) else jrd (m21.1 (a0 + 9)) u20 5 (fun v24 => jcl (f_X12_enters a0 v24.toInt64 m21) (fun m26 => some (.inl ((u20 + (1 : Int32), m26))))))
def f_X12_leaves (a0 : Nat) (x1 : Int32) (x2 : Int32) (μ : jM) : Option (Int32 × jM) :=
  jbd (jsi μ a0 0 (0 : Int32)) (fun m1 => (if (f_X12_isVar x1) = (0 : Int32) then some (((-1 : Int32), m1)) else (if (f_X12_isValue x2) = (0 : Int32) then some (((-1 : Int32), m1)) else jrd (m1.1 (a0 + 3)) ((6 : Int32) + x1) 2074 (fun v6 => (if (f_X12_has v6 x2) = (0 : Int32) then some (((-2 : Int32), m1)) else jcl (f_X12_lays a0 m1) (fun m9 => jin x1 5 (jbd (jsi m9 (a0 + 9) x1.toNatClampNeg ((1 : Int32) <<< (x2 &&& 31))) (fun m12 => jcl2 (f_X12_spreadsBy a0 (a0 + 9) (255 : Int32) m12) (fun v14 m15 => (if v14 = (0 : Int32) then some (((-3 : Int32), m15)) else jbd (jsi m15 a0 1 (0 : Int32)) (fun m18 => jcl (jloop (fun (s : Int32 × jM) => f_X12_leaves_L77 a0 s.1 s.2) jfu (((0 : Int32), m18))) (fun w28 => jcl (f_X12_sumOf (a0 + 9) w28) (fun v32 => some ((v32, w28)))))))))))))))
set_option maxHeartbeats 4000000 in
set_option maxRecDepth 100000 in
theorem c_X12_leaves {l : Launch} {G : jG} {L : jL} (hL : jOKL L) {a0 : Nat} {x1 : Int32} {x2 : Int32} (ka0 : jK L a0 12) {μ μ' : jM} {r : Int32} (h : f_X12_leaves a0 x1 x2 μ = some ((r, μ'))) : jCt l G L 14 yX12_leaves cX12_leaves 4 (some .int) [.ref (L.2.2 a0), .int x1, .int x2] μ (some (.int r)) μ' := by
  refine jCt_of (by decide) (Nat.le_of_ble_eq_true rfl) (fun X hC hX hR => ?_)
  subst hX
  have hC : jC X G cX12_leaves 4 RX12 (some .int) := hC
  unfold f_X12_leaves at h
  show jJ X G 4 L 0 0 (jQM X G L (some (.int r)) μ' 0 0) 0 [(0, .ref (L.2.2 a0)), (1, .int x1), (2, .int x2)] [] μ
  refine j_aload_n (pc := 0) hC 0 0 dX12_leaves_0 rfl rfl ?_
  refine j_iconst (pc := 1) hC (0 : Int32) dX12_leaves_1 (by decide) ?_
  obtain ⟨m1, e2, h⟩ := jbd_ex h
  refine jpi_12 (pc := 2) hC 0 (by decide) rfl kf_X12_1 dX12_leaves_2 rfl (by decide) ka0 e2 ?_
  refine j_iload_n (pc := 5) hC 1 1 dX12_leaves_5 rfl rfl ?_
  refine j_si (pc := 6) hC hR [.int x1] iy_X12_isVar km_X12_202 dX12_leaves_6 rfl (by decide) (c_X12_isVar hL  rfl) (by decide) (Nat.le_of_ble_eq_true rfl) rfl ?_
  refine j_if_eq (pc := 9) hC 19 dX12_leaves_9 (by decide) (fun c3 => ?_) (fun c3 => ?_)
  · rw [if_pos c3] at h
    refine j_iconst (pc := 19) hC (-1 : Int32) dX12_leaves_19 (by decide) ?_
    obtain ⟨rfl, rfl⟩ := Prod.mk.inj (Option.some.inj h)
    exact j_iret (pc := 20) hC dX12_leaves_20 rfl
  · rw [if_neg c3] at h
    refine j_iload_n (pc := 12) hC 2 2 dX12_leaves_12 rfl rfl ?_
    refine j_si (pc := 13) hC hR [.int x2] iy_X12_isValue km_X12_205 dX12_leaves_13 rfl (by decide) (c_X12_isValue hL  rfl) (by decide) (Nat.le_of_ble_eq_true rfl) rfl ?_
    refine j_if_ne (pc := 16) hC 21 dX12_leaves_16 (by decide) (fun c4 => ?_) (fun c4 => ?_)
    · rw [if_neg c4] at h
      refine j_aload_n (pc := 21) hC 0 0 dX12_leaves_21 rfl rfl ?_
      refine jgr_12 (pc := 22) hC 8 (by decide) rfl kf_X12_60 dX12_leaves_22 ka0 (ly_12_8 hL ka0).1 ?_
      refine j_bipush (pc := 25) hC (6 : Int32) dX12_leaves_25 (by decide) ?_
      refine j_iload_n (pc := 27) hC 1 1 dX12_leaves_27 rfl rfl ?_
      refine j_iadd (pc := 28) hC dX12_leaves_28 ?_
      obtain ⟨i5, v6, e7, h⟩ := jrd_some h
      refine j_iald (pc := 29) hC dX12_leaves_29 (ly_12_8 hL ka0).2.1 (ly_12_8 hL ka0).2.2 i5 e7 ?_
      refine j_iload_n (pc := 30) hC 2 2 dX12_leaves_30 rfl rfl ?_
      refine j_si (pc := 31) hC hR [.int v6, .int x2] iy_X12_has km_X12_208 dX12_leaves_31 rfl (by decide) (c_X12_has hL  rfl) (by decide) (Nat.le_of_ble_eq_true rfl) rfl ?_
      refine j_if_ne (pc := 34) hC 40 dX12_leaves_34 (by decide) (fun c8 => ?_) (fun c8 => ?_)
      · rw [if_neg c8] at h
        refine j_aload_n (pc := 40) hC 0 0 dX12_leaves_40 rfl rfl ?_
        obtain ⟨m9, e10, h⟩ := jcl_some h
        refine j_vv (pc := 41) hC hR [] iy_X12_lays (q := (RX12, TX12, 40)) (ci := 12) rfl rfl (by decide) km_X12_276 dX12_leaves_41 rfl (by decide) ka0 (c_X12_lays hL ka0 e10) (by decide) (Nat.le_of_ble_eq_true rfl) rfl ?_
        refine j_aload_n (pc := 44) hC 0 0 dX12_leaves_44 rfl rfl ?_
        refine jgr_12 (pc := 45) hC 18 (by decide) rfl kf_X12_78 dX12_leaves_45 ka0 (ly_12_18 hL ka0).1 ?_
        refine j_iload_n (pc := 48) hC 1 1 dX12_leaves_48 rfl rfl ?_
        refine j_iconst (pc := 49) hC (1 : Int32) dX12_leaves_49 (by decide) ?_
        refine j_iload_n (pc := 50) hC 2 2 dX12_leaves_50 rfl rfl ?_
        refine j_ishl (pc := 51) hC dX12_leaves_51 ?_
        obtain ⟨i11, h⟩ := jin_some h
        obtain ⟨m12, e13, h⟩ := jbd_ex h
        refine j_iast (pc := 52) hC dX12_leaves_52 (ly_12_18 hL ka0).2.1 (ly_12_18 hL ka0).2.2 i11 e13 ?_
        refine j_aload_n (pc := 53) hC 0 0 dX12_leaves_53 rfl rfl ?_
        refine j_aload_n (pc := 54) hC 0 0 dX12_leaves_54 rfl rfl ?_
        refine jgr_12 (pc := 55) hC 18 (by decide) rfl kf_X12_78 dX12_leaves_55 ka0 (ly_12_18 hL ka0).1 ?_
        refine j_sipush (pc := 58) hC (255 : Int32) dX12_leaves_58 (by decide) ?_
        obtain ⟨v14, m15, e16, h⟩ := jcl2_some h
        refine j_vi (pc := 61) hC hR [.ref (L.2.2 (a0 + 9)), .int (255 : Int32)] iy_X12_spreadsBy (q := (RX12, TX12, 40)) (ci := 12) rfl rfl (by decide) km_X12_279 dX12_leaves_61 rfl (by decide) ka0 (c_X12_spreadsBy hL ka0 (ly_12_18 hL ka0).2.1 e16) (by decide) (Nat.le_of_ble_eq_true rfl) rfl ?_
        refine j_if_ne (pc := 64) hC 70 dX12_leaves_64 (by decide) (fun c17 => ?_) (fun c17 => ?_)
        · rw [if_neg c17] at h
          refine j_aload_n (pc := 70) hC 0 0 dX12_leaves_70 rfl rfl ?_
          refine j_iconst (pc := 71) hC (0 : Int32) dX12_leaves_71 (by decide) ?_
          obtain ⟨m18, e19, h⟩ := jbd_ex h
          refine jpi_12 (pc := 72) hC 1 (by decide) rfl kf_X12_11 dX12_leaves_72 rfl (by decide) ka0 e19 ?_
          refine j_iconst (pc := 75) hC (0 : Int32) dX12_leaves_75 (by decide) ?_
          refine j_istore_n (pc := 76) hC 3 [(3, .int (0 : Int32)), (0, .ref (L.2.2 a0)), (1, .int x1), (2, .int x2)] dX12_leaves_76 rfl (by decide) rfl rfl ?_
          obtain ⟨w28, hw29, h⟩ := jcl_some h
          refine j_lv [1, 0] rfl ?_
          refine j_loop (step := (fun (s : Int32 × jM) => f_X12_leaves_L77 a0 s.1 s.2)) (P := (fun (s : Int32 × jM) => jJ X G 4 L 0 0 (jQM X G L (some (.int r)) μ' 0 0) 77 [(0, .ref (L.2.2 a0)), (3, .int s.1)] [] s.2)) (R := (fun (e : jM) => jJ X G 4 L 0 0 (jQM X G L (some (.int r)) μ' 0 0) 99 [(0, .ref (L.2.2 a0))] [] e)) ?_ jfu (((0 : Int32), m18)) w28 hw29 ?_
          · intro s30 o h hk
            obtain ⟨u20, m21⟩ := s30
            change f_X12_leaves_L77 a0 u20 m21 = some o at h
            unfold f_X12_leaves_L77 at h
            show jJ X G 4 L 0 0 (jQM X G L (some (.int r)) μ' 0 0) 77 [(0, .ref (L.2.2 a0)), (3, .int u20)] [] m21
            refine j_iload_n (pc := 77) hC 3 1 dX12_leaves_77 rfl rfl ?_
            refine j_iconst (pc := 78) hC (5 : Int32) dX12_leaves_78 (by decide) ?_
            refine j_icmp_ge (pc := 79) hC 99 dX12_leaves_79 (by decide) (fun c22 => ?_) (fun c22 => ?_)
            · rw [if_pos c22] at h
              obtain rfl := Option.some.inj h
              have hk : jJ X G 4 L 0 0 (jQM X G L (some (.int r)) μ' 0 0) 99 [(0, .ref (L.2.2 a0))] [] m21 := hk
              exact j_lv [0] rfl hk
            · rw [if_neg c22] at h
              refine j_aload_n (pc := 82) hC 0 0 dX12_leaves_82 rfl rfl ?_
              refine j_aload_n (pc := 83) hC 0 0 dX12_leaves_83 rfl rfl ?_
              refine jgr_12 (pc := 84) hC 18 (by decide) rfl kf_X12_78 dX12_leaves_84 ka0 (ly_12_18 hL ka0).1 ?_
              refine j_iload_n (pc := 87) hC 3 1 dX12_leaves_87 rfl rfl ?_
              obtain ⟨i23, v24, e25, h⟩ := jrd_some h
              refine j_iald (pc := 88) hC dX12_leaves_88 (ly_12_18 hL ka0).2.1 (ly_12_18 hL ka0).2.2 i23 e25 ?_
              refine j_i2l (pc := 89) hC dX12_leaves_89 ?_
              obtain ⟨m26, e27, h⟩ := jcl_some h
              refine j_vv (pc := 90) hC hR [.long v24.toInt64] iy_X12_enters (q := (RX12, TX12, 40)) (ci := 12) rfl rfl (by decide) km_X12_146 dX12_leaves_90 rfl (by decide) ka0 (c_X12_enters hL ka0 e27) (by decide) (Nat.le_of_ble_eq_true rfl) rfl ?_
              refine j_iinc (pc := 93) hC 1 (u20 + (1 : Int32)) [(3, .int (u20 + (1 : Int32))), (0, .ref (L.2.2 a0))] dX12_leaves_93 rfl rfl (by decide) rfl ?_
              refine j_goto (pc := 96) hC 77 dX12_leaves_96 (by decide) ?_
              obtain rfl := Option.some.inj h
              have hk : jJ X G 4 L 0 0 (jQM X G L (some (.int r)) μ' 0 0) 77 [(0, .ref (L.2.2 a0)), (3, .int (u20 + (1 : Int32)))] [] m26 := hk
              exact j_lv [1, 0] rfl hk
          · obtain ⟨m31, rfl⟩ : ∃ y, y = w28 := ⟨_, rfl⟩
            try dsimp only at h
            show jJ X G 4 L 0 0 (jQM X G L (some (.int r)) μ' 0 0) 99 [(0, .ref (L.2.2 a0))] [] m31
            refine j_aload_n (pc := 99) hC 0 0 dX12_leaves_99 rfl rfl ?_
            refine jgr_12 (pc := 100) hC 18 (by decide) rfl kf_X12_78 dX12_leaves_100 ka0 (ly_12_18 hL ka0).1 ?_
            obtain ⟨v32, e33, h⟩ := jcl_some h
            refine j_si (pc := 103) hC hR [.ref (L.2.2 (a0 + 9))] iy_X12_sumOf km_X12_286 dX12_leaves_103 rfl (by decide) (c_X12_sumOf hL (ly_12_18 hL ka0).2.1 e33) (by decide) (Nat.le_of_ble_eq_true rfl) rfl ?_
            obtain ⟨rfl, rfl⟩ := Prod.mk.inj (Option.some.inj h)
            exact j_iret (pc := 106) hC dX12_leaves_106 rfl
        · rw [if_pos c17] at h
          refine j_bipush (pc := 67) hC (-3 : Int32) dX12_leaves_67 (by decide) ?_
          obtain ⟨rfl, rfl⟩ := Prod.mk.inj (Option.some.inj h)
          exact j_iret (pc := 69) hC dX12_leaves_69 rfl
      · rw [if_pos c8] at h
        refine j_bipush (pc := 37) hC (-2 : Int32) dX12_leaves_37 (by decide) ?_
        obtain ⟨rfl, rfl⟩ := Prod.mk.inj (Option.some.inj h)
        exact j_iret (pc := 39) hC dX12_leaves_39 rfl
    · rw [if_pos c4] at h
      refine j_iconst (pc := 19) hC (-1 : Int32) dX12_leaves_19 (by decide) ?_
      obtain ⟨rfl, rfl⟩ := Prod.mk.inj (Option.some.inj h)
      exact j_iret (pc := 20) hC dX12_leaves_20 rfl
theorem dX12_blames_0 : decode cX12_blames 0 = .ok (.aload_n 0, 1) := by decide +kernel
theorem dX12_blames_1 : decode cX12_blames 1 = .ok (.invokevirtual 276, 3) := by decide +kernel
theorem dX12_blames_4 : decode cX12_blames 4 = .ok (.aload_n 0, 1) := by decide +kernel
theorem dX12_blames_5 : decode cX12_blames 5 = .ok (.aload_n 0, 1) := by decide +kernel
theorem dX12_blames_6 : decode cX12_blames 6 = .ok (.getfield 78, 3) := by decide +kernel
theorem dX12_blames_9 : decode cX12_blames 9 = .ok (.iload_n 1, 1) := by decide +kernel
theorem dX12_blames_10 : decode cX12_blames 10 = .ok (.invokevirtual 279, 3) := by decide +kernel
theorem dX12_blames_13 : decode cX12_blames 13 = .ok (.ifCond .eq 20, 3) := by decide +kernel
theorem dX12_blames_16 : decode cX12_blames 16 = .ok (.iload_n 2, 1) := by decide +kernel
theorem dX12_blames_17 : decode cX12_blames 17 = .ok (.ifCond .lt 20, 3) := by decide +kernel
theorem dX12_blames_20 : decode cX12_blames 20 = .ok (.aload_n 0, 1) := by decide +kernel
theorem dX12_blames_21 : decode cX12_blames 21 = .ok (.getfield 78, 3) := by decide +kernel
theorem dX12_blames_24 : decode cX12_blames 24 = .ok (.iload_n 2, 1) := by decide +kernel
theorem dX12_blames_25 : decode cX12_blames 25 = .ok (.iaload, 1) := by decide +kernel
theorem dX12_blames_26 : decode cX12_blames 26 = .ok (.iload_n 3, 1) := by decide +kernel
theorem dX12_blames_27 : decode cX12_blames 27 = .ok (.invokestatic 208, 3) := by decide +kernel
theorem dX12_blames_30 : decode cX12_blames 30 = .ok (.ifCond .ne 7, 3) := by decide +kernel
theorem dX12_blames_33 : decode cX12_blames 33 = .ok (.iconst 1, 1) := by decide +kernel
theorem dX12_blames_34 : decode cX12_blames 34 = .ok (.goto 4, 3) := by decide +kernel
theorem dX12_blames_37 : decode cX12_blames 37 = .ok (.iconst 0, 1) := by decide +kernel
theorem dX12_blames_38 : decode cX12_blames 38 = .ok (.ireturn, 1) := by decide +kernel
def f_X12_blames (a0 : Nat) (x1 : Int32) (x2 : Int32) (x3 : Int32) (μ : jM) : Option (Int32 × jM) :=
  jcl (f_X12_lays a0 μ) (fun m1 => jcl2 (f_X12_spreadsBy a0 (a0 + 9) x1 m1) (fun v3 m4 => (if v3 = (0 : Int32) then some (((1 : Int32), m4)) else (if x2 < (0 : Int32) then some (((0 : Int32), m4)) else jrd (m4.1 (a0 + 9)) x2 5 (fun v9 => (if (f_X12_has v9 x3) = (0 : Int32) then some (((1 : Int32), m4)) else some (((0 : Int32), m4))))))))
set_option maxHeartbeats 4000000 in
set_option maxRecDepth 100000 in
theorem c_X12_blames {l : Launch} {G : jG} {L : jL} (hL : jOKL L) {a0 : Nat} {x1 : Int32} {x2 : Int32} {x3 : Int32} (ka0 : jK L a0 12) {μ μ' : jM} {r : Int32} (h : f_X12_blames a0 x1 x2 x3 μ = some ((r, μ'))) : jCt l G L 14 yX12_blames cX12_blames 4 (some .boolean) [.ref (L.2.2 a0), .int x1, .int x2, .int x3] μ (some (.int r)) μ' := by
  refine jCt_of (by decide) (Nat.le_of_ble_eq_true rfl) (fun X hC hX hR => ?_)
  subst hX
  have hC : jC X G cX12_blames 4 RX12 (some .boolean) := hC
  unfold f_X12_blames at h
  show jJ X G 4 L 0 0 (jQM X G L (some (.int r)) μ' 0 0) 0 [(0, .ref (L.2.2 a0)), (1, .int x1), (2, .int x2), (3, .int x3)] [] μ
  refine j_aload_n (pc := 0) hC 0 0 dX12_blames_0 rfl rfl ?_
  obtain ⟨m1, e2, h⟩ := jcl_some h
  refine j_vv (pc := 1) hC hR [] iy_X12_lays (q := (RX12, TX12, 40)) (ci := 12) rfl rfl (by decide) km_X12_276 dX12_blames_1 rfl (by decide) ka0 (c_X12_lays hL ka0 e2) (by decide) (Nat.le_of_ble_eq_true rfl) rfl ?_
  refine j_aload_n (pc := 4) hC 0 0 dX12_blames_4 rfl rfl ?_
  refine j_aload_n (pc := 5) hC 0 0 dX12_blames_5 rfl rfl ?_
  refine jgr_12 (pc := 6) hC 18 (by decide) rfl kf_X12_78 dX12_blames_6 ka0 (ly_12_18 hL ka0).1 ?_
  refine j_iload_n (pc := 9) hC 1 1 dX12_blames_9 rfl rfl ?_
  obtain ⟨v3, m4, e5, h⟩ := jcl2_some h
  refine j_vi (pc := 10) hC hR [.ref (L.2.2 (a0 + 9)), .int x1] iy_X12_spreadsBy (q := (RX12, TX12, 40)) (ci := 12) rfl rfl (by decide) km_X12_279 dX12_blames_10 rfl (by decide) ka0 (c_X12_spreadsBy hL ka0 (ly_12_18 hL ka0).2.1 e5) (by decide) (Nat.le_of_ble_eq_true rfl) rfl ?_
  refine j_if_eq (pc := 13) hC 33 dX12_blames_13 (by decide) (fun c6 => ?_) (fun c6 => ?_)
  · rw [if_pos c6] at h
    refine j_iconst (pc := 33) hC (1 : Int32) dX12_blames_33 (by decide) ?_
    refine j_goto (pc := 34) hC 38 dX12_blames_34 (by decide) ?_
    obtain ⟨rfl, rfl⟩ := Prod.mk.inj (Option.some.inj h)
    exact j_bret (pc := 38) hC dX12_blames_38 rfl rfl
  · rw [if_neg c6] at h
    refine j_iload_n (pc := 16) hC 2 2 dX12_blames_16 rfl rfl ?_
    refine j_if_lt (pc := 17) hC 37 dX12_blames_17 (by decide) (fun c7 => ?_) (fun c7 => ?_)
    · rw [if_pos c7] at h
      refine j_iconst (pc := 37) hC (0 : Int32) dX12_blames_37 (by decide) ?_
      obtain ⟨rfl, rfl⟩ := Prod.mk.inj (Option.some.inj h)
      exact j_bret (pc := 38) hC dX12_blames_38 rfl rfl
    · rw [if_neg c7] at h
      refine j_aload_n (pc := 20) hC 0 0 dX12_blames_20 rfl rfl ?_
      refine jgr_12 (pc := 21) hC 18 (by decide) rfl kf_X12_78 dX12_blames_21 ka0 (ly_12_18 hL ka0).1 ?_
      refine j_iload_n (pc := 24) hC 2 2 dX12_blames_24 rfl rfl ?_
      obtain ⟨i8, v9, e10, h⟩ := jrd_some h
      refine j_iald (pc := 25) hC dX12_blames_25 (ly_12_18 hL ka0).2.1 (ly_12_18 hL ka0).2.2 i8 e10 ?_
      refine j_iload_n (pc := 26) hC 3 3 dX12_blames_26 rfl rfl ?_
      refine j_si (pc := 27) hC hR [.int v9, .int x3] iy_X12_has km_X12_208 dX12_blames_27 rfl (by decide) (c_X12_has hL  rfl) (by decide) (Nat.le_of_ble_eq_true rfl) rfl ?_
      refine j_if_ne (pc := 30) hC 37 dX12_blames_30 (by decide) (fun c11 => ?_) (fun c11 => ?_)
      · rw [if_neg c11] at h
        refine j_iconst (pc := 37) hC (0 : Int32) dX12_blames_37 (by decide) ?_
        obtain ⟨rfl, rfl⟩ := Prod.mk.inj (Option.some.inj h)
        exact j_bret (pc := 38) hC dX12_blames_38 rfl rfl
      · rw [if_pos c11] at h
        refine j_iconst (pc := 33) hC (1 : Int32) dX12_blames_33 (by decide) ?_
        refine j_goto (pc := 34) hC 38 dX12_blames_34 (by decide) ?_
        obtain ⟨rfl, rfl⟩ := Prod.mk.inj (Option.some.inj h)
        exact j_bret (pc := 38) hC dX12_blames_38 rfl rfl
theorem dX12_fewest_0 : decode cX12_fewest 0 = .ok (.iconst 1, 1) := by decide +kernel
theorem dX12_fewest_1 : decode cX12_fewest 1 = .ok (.aload_n 0, 1) := by decide +kernel
theorem dX12_fewest_2 : decode cX12_fewest 2 = .ok (.getfield 60, 3) := by decide +kernel
theorem dX12_fewest_5 : decode cX12_fewest 5 = .ok (.bipush 28, 2) := by decide +kernel
theorem dX12_fewest_7 : decode cX12_fewest 7 = .ok (.iaload, 1) := by decide +kernel
theorem dX12_fewest_8 : decode cX12_fewest 8 = .ok (.ishl, 1) := by decide +kernel
theorem dX12_fewest_9 : decode cX12_fewest 9 = .ok (.iconst 1, 1) := by decide +kernel
theorem dX12_fewest_10 : decode cX12_fewest 10 = .ok (.isub, 1) := by decide +kernel
theorem dX12_fewest_11 : decode cX12_fewest 11 = .ok (.istore_n 3, 1) := by decide +kernel
theorem dX12_fewest_12 : decode cX12_fewest 12 = .ok (.iconst 0, 1) := by decide +kernel
theorem dX12_fewest_13 : decode cX12_fewest 13 = .ok (.istore 4, 2) := by decide +kernel
theorem dX12_fewest_15 : decode cX12_fewest 15 = .ok (.iload 4, 2) := by decide +kernel
theorem dX12_fewest_17 : decode cX12_fewest 17 = .ok (.bipush 8, 2) := by decide +kernel
theorem dX12_fewest_19 : decode cX12_fewest 19 = .ok (.if_icmp .gt 60, 3) := by decide +kernel
theorem dX12_fewest_22 : decode cX12_fewest 22 = .ok (.iconst 0, 1) := by decide +kernel
theorem dX12_fewest_23 : decode cX12_fewest 23 = .ok (.istore 5, 2) := by decide +kernel
theorem dX12_fewest_25 : decode cX12_fewest 25 = .ok (.iload 5, 2) := by decide +kernel
theorem dX12_fewest_27 : decode cX12_fewest 27 = .ok (.iload_n 3, 1) := by decide +kernel
theorem dX12_fewest_28 : decode cX12_fewest 28 = .ok (.if_icmp .gt 45, 3) := by decide +kernel
theorem dX12_fewest_31 : decode cX12_fewest 31 = .ok (.iload 5, 2) := by decide +kernel
theorem dX12_fewest_33 : decode cX12_fewest 33 = .ok (.invokestatic 211, 3) := by decide +kernel
theorem dX12_fewest_36 : decode cX12_fewest 36 = .ok (.iload 4, 2) := by decide +kernel
theorem dX12_fewest_38 : decode cX12_fewest 38 = .ok (.if_icmp .ne 29, 3) := by decide +kernel
theorem dX12_fewest_41 : decode cX12_fewest 41 = .ok (.aload_n 0, 1) := by decide +kernel
theorem dX12_fewest_42 : decode cX12_fewest 42 = .ok (.iload 5, 2) := by decide +kernel
theorem dX12_fewest_44 : decode cX12_fewest 44 = .ok (.iload_n 1, 1) := by decide +kernel
theorem dX12_fewest_45 : decode cX12_fewest 45 = .ok (.iload_n 2, 1) := by decide +kernel
theorem dX12_fewest_46 : decode cX12_fewest 46 = .ok (.invokevirtual 405, 3) := by decide +kernel
theorem dX12_fewest_49 : decode cX12_fewest 49 = .ok (.ifCond .eq 18, 3) := by decide +kernel
theorem dX12_fewest_52 : decode cX12_fewest 52 = .ok (.aload_n 0, 1) := by decide +kernel
theorem dX12_fewest_53 : decode cX12_fewest 53 = .ok (.iconst 0, 1) := by decide +kernel
theorem dX12_fewest_54 : decode cX12_fewest 54 = .ok (.putfield 11, 3) := by decide +kernel
theorem dX12_fewest_57 : decode cX12_fewest 57 = .ok (.aload_n 0, 1) := by decide +kernel
theorem dX12_fewest_58 : decode cX12_fewest 58 = .ok (.iload 4, 2) := by decide +kernel
theorem dX12_fewest_60 : decode cX12_fewest 60 = .ok (.i2l, 1) := by decide +kernel
theorem dX12_fewest_61 : decode cX12_fewest 61 = .ok (.invokevirtual 146, 3) := by decide +kernel
theorem dX12_fewest_64 : decode cX12_fewest 64 = .ok (.iload 5, 2) := by decide +kernel
theorem dX12_fewest_66 : decode cX12_fewest 66 = .ok (.ireturn, 1) := by decide +kernel
theorem dX12_fewest_67 : decode cX12_fewest 67 = .ok (.iinc 5 1, 3) := by decide +kernel
theorem dX12_fewest_70 : decode cX12_fewest 70 = .ok (.goto (-45), 3) := by decide +kernel
theorem dX12_fewest_73 : decode cX12_fewest 73 = .ok (.iinc 4 1, 3) := by decide +kernel
theorem dX12_fewest_76 : decode cX12_fewest 76 = .ok (.goto (-61), 3) := by decide +kernel
theorem dX12_fewest_79 : decode cX12_fewest 79 = .ok (.bipush (-2), 2) := by decide +kernel
theorem dX12_fewest_81 : decode cX12_fewest 81 = .ok (.ireturn, 1) := by decide +kernel
def f_X12_fewest_L25 (a0 : Nat) (x1 : Int32) (x2 : Int32) (v4 : Int32) (u6 : Int32) (u9 : Int32) (m10 : jM) : Option ((Int32 × jM) ⊕ ((Int32 × jM) ⊕ (jM))) :=
  (if v4 < u9 then some (.inr (.inr (m10))) else jcl (f_X12_bitsOf u9) (fun v12 => (if v12 = u6 then jcl2 (f_X12_blames a0 u9 x1 x2 m10) (fun v15 m16 => (if v15 = (0 : Int32) then some (.inl ((u9 + (1 : Int32), m16))) else some (.inr (.inl ((u9, m16)))))) else some (.inl ((u9 + (1 : Int32), m10))))))
def f_X12_fewest_L15 (a0 : Nat) (x1 : Int32) (x2 : Int32) (v4 : Int32) (u6 : Int32) (m7 : jM) : Option ((Int32 × jM) ⊕ ((Int32 × Int32 × jM) ⊕ (jM))) :=
  (if (8 : Int32) < u6 then some (.inr (.inr (m7))) else jcl (jloop (fun (s : Int32 × jM) => f_X12_fewest_L25 a0 x1 x2 v4 u6 s.1 s.2) jfu (((0 : Int32), m7))) (fun w19 => match w19 with | .inl w19 => some (.inr (.inl ((u6, w19.1, w19.2)))) | .inr w19 => some (.inl ((u6 + (1 : Int32), w19)))))
def f_X12_fewest (a0 : Nat) (x1 : Int32) (x2 : Int32) (μ : jM) : Option (Int32 × jM) :=
  jrd (μ.1 (a0 + 3)) (28 : Int32) 2074 (fun v2 => jbd (((1 : Int32) <<< (v2 &&& 31)) - (1 : Int32) : Int32) (fun v4 => jcl (jloop (fun (s : Int32 × jM) => f_X12_fewest_L15 a0 x1 x2 v4 s.1 s.2) jfu (((0 : Int32), μ))) (fun w25 => match w25 with | .inl w25 => jbd (jsi w25.2.2 a0 1 (0 : Int32)) (fun m31 => jcl (f_X12_enters a0 w25.1.toInt64 m31) (fun m33 => some ((w25.2.1, m33)))) | .inr w25 => some (((-2 : Int32), w25)))))
set_option maxHeartbeats 4000000 in
set_option maxRecDepth 100000 in
theorem c_X12_fewest {l : Launch} {G : jG} {L : jL} (hL : jOKL L) {a0 : Nat} {x1 : Int32} {x2 : Int32} (ka0 : jK L a0 12) {μ μ' : jM} {r : Int32} (h : f_X12_fewest a0 x1 x2 μ = some ((r, μ'))) : jCt l G L 15 yX12_fewest cX12_fewest 6 (some .int) [.ref (L.2.2 a0), .int x1, .int x2] μ (some (.int r)) μ' := by
  refine jCt_of (by decide) (Nat.le_of_ble_eq_true rfl) (fun X hC hX hR => ?_)
  subst hX
  have hC : jC X G cX12_fewest 6 RX12 (some .int) := hC
  unfold f_X12_fewest at h
  show jJ X G 6 L 0 0 (jQM X G L (some (.int r)) μ' 0 0) 0 [(0, .ref (L.2.2 a0)), (1, .int x1), (2, .int x2)] [] μ
  refine j_iconst (pc := 0) hC (1 : Int32) dX12_fewest_0 (by decide) ?_
  refine j_aload_n (pc := 1) hC 0 0 dX12_fewest_1 rfl rfl ?_
  refine jgr_12 (pc := 2) hC 8 (by decide) rfl kf_X12_60 dX12_fewest_2 ka0 (ly_12_8 hL ka0).1 ?_
  refine j_bipush (pc := 5) hC (28 : Int32) dX12_fewest_5 (by decide) ?_
  obtain ⟨i1, v2, e3, h⟩ := jrd_some h
  refine j_iald (pc := 7) hC dX12_fewest_7 (ly_12_8 hL ka0).2.1 (ly_12_8 hL ka0).2.2 i1 e3 ?_
  refine j_ishl (pc := 8) hC dX12_fewest_8 ?_
  refine j_iconst (pc := 9) hC (1 : Int32) dX12_fewest_9 (by decide) ?_
  refine j_isub (pc := 10) hC dX12_fewest_10 ?_
  obtain ⟨v4, e5, h⟩ := jbd_ex h
  refine j_istore_n (pc := 11) hC 3 [(3, .int v4), (0, .ref (L.2.2 a0)), (1, .int x1), (2, .int x2)] dX12_fewest_11 rfl (by decide) e5 rfl ?_
  refine j_iconst (pc := 12) hC (0 : Int32) dX12_fewest_12 (by decide) ?_
  refine j_istore (pc := 13) hC [(4, .int (0 : Int32)), (3, .int v4), (0, .ref (L.2.2 a0)), (1, .int x1), (2, .int x2)] dX12_fewest_13 (by decide) rfl rfl ?_
  obtain ⟨w25, hw26, h⟩ := jcl_some h
  refine j_lv [2, 3, 4, 1, 0] rfl ?_
  refine j_loop (step := (fun (s : Int32 × jM) => f_X12_fewest_L15 a0 x1 x2 v4 s.1 s.2)) (P := (fun (s : Int32 × jM) => jJ X G 6 L 0 0 (jQM X G L (some (.int r)) μ' 0 0) 15 [(0, .ref (L.2.2 a0)), (1, .int x1), (2, .int x2), (3, .int v4), (4, .int s.1)] [] s.2)) (R := (fun (e : (Int32 × Int32 × jM) ⊕ (jM)) => match e with | .inl e => jJ X G 6 L 0 0 (jQM X G L (some (.int r)) μ' 0 0) 52 [(0, .ref (L.2.2 a0)), (4, .int e.1), (5, .int e.2.1)] [] e.2.2 | .inr e => jJ X G 6 L 0 0 (jQM X G L (some (.int r)) μ' 0 0) 79 [] [] e)) ?_ jfu (((0 : Int32), μ)) w25 hw26 ?_
  · intro s27 o h hk
    obtain ⟨u6, m7⟩ := s27
    change f_X12_fewest_L15 a0 x1 x2 v4 u6 m7 = some o at h
    unfold f_X12_fewest_L15 at h
    show jJ X G 6 L 0 0 (jQM X G L (some (.int r)) μ' 0 0) 15 [(0, .ref (L.2.2 a0)), (1, .int x1), (2, .int x2), (3, .int v4), (4, .int u6)] [] m7
    refine j_iload (pc := 15) hC 4 dX12_fewest_15 rfl ?_
    refine j_bipush (pc := 17) hC (8 : Int32) dX12_fewest_17 (by decide) ?_
    refine j_icmp_gt (pc := 19) hC 79 dX12_fewest_19 (by decide) (fun c8 => ?_) (fun c8 => ?_)
    · rw [if_pos c8] at h
      obtain rfl := Option.some.inj h
      have hk : jJ X G 6 L 0 0 (jQM X G L (some (.int r)) μ' 0 0) 79 [] [] m7 := hk
      exact j_lv [] rfl hk
    · rw [if_neg c8] at h
      refine j_iconst (pc := 22) hC (0 : Int32) dX12_fewest_22 (by decide) ?_
      refine j_istore (pc := 23) hC [(5, .int (0 : Int32)), (0, .ref (L.2.2 a0)), (1, .int x1), (2, .int x2), (3, .int v4), (4, .int u6)] dX12_fewest_23 (by decide) rfl rfl ?_
      obtain ⟨w19, hw20, h⟩ := jcl_some h
      refine j_lv [1, 2, 3, 4, 5, 0] rfl ?_
      refine j_loop (step := (fun (s : Int32 × jM) => f_X12_fewest_L25 a0 x1 x2 v4 u6 s.1 s.2)) (P := (fun (s : Int32 × jM) => jJ X G 6 L 0 0 (jQM X G L (some (.int r)) μ' 0 0) 25 [(0, .ref (L.2.2 a0)), (1, .int x1), (2, .int x2), (3, .int v4), (4, .int u6), (5, .int s.1)] [] s.2)) (R := (fun (e : (Int32 × jM) ⊕ (jM)) => match e with | .inl e => jJ X G 6 L 0 0 (jQM X G L (some (.int r)) μ' 0 0) 52 [(0, .ref (L.2.2 a0)), (4, .int u6), (5, .int e.1)] [] e.2 | .inr e => jJ X G 6 L 0 0 (jQM X G L (some (.int r)) μ' 0 0) 73 [(0, .ref (L.2.2 a0)), (1, .int x1), (2, .int x2), (3, .int v4), (4, .int u6)] [] e)) ?_ jfu (((0 : Int32), m7)) w19 hw20 ?_
      · intro s21 o h hk
        obtain ⟨u9, m10⟩ := s21
        change f_X12_fewest_L25 a0 x1 x2 v4 u6 u9 m10 = some o at h
        unfold f_X12_fewest_L25 at h
        show jJ X G 6 L 0 0 (jQM X G L (some (.int r)) μ' 0 0) 25 [(0, .ref (L.2.2 a0)), (1, .int x1), (2, .int x2), (3, .int v4), (4, .int u6), (5, .int u9)] [] m10
        refine j_iload (pc := 25) hC 5 dX12_fewest_25 rfl ?_
        refine j_iload_n (pc := 27) hC 3 3 dX12_fewest_27 rfl rfl ?_
        refine j_icmp_gt (pc := 28) hC 73 dX12_fewest_28 (by decide) (fun c11 => ?_) (fun c11 => ?_)
        · rw [if_pos c11] at h
          obtain rfl := Option.some.inj h
          have hk : jJ X G 6 L 0 0 (jQM X G L (some (.int r)) μ' 0 0) 73 [(0, .ref (L.2.2 a0)), (1, .int x1), (2, .int x2), (3, .int v4), (4, .int u6)] [] m10 := hk
          exact j_lv [0, 1, 2, 3, 4] rfl hk
        · rw [if_neg c11] at h
          refine j_iload (pc := 31) hC 5 dX12_fewest_31 rfl ?_
          obtain ⟨v12, e13, h⟩ := jcl_some h
          refine j_si (pc := 33) hC hR [.int u9] iy_X12_bitsOf km_X12_211 dX12_fewest_33 rfl (by decide) (c_X12_bitsOf hL  e13) (by decide) (Nat.le_of_ble_eq_true rfl) rfl ?_
          refine j_iload (pc := 36) hC 4 dX12_fewest_36 rfl ?_
          refine j_icmp_ne (pc := 38) hC 67 dX12_fewest_38 (by decide) (fun c14 => ?_) (fun c14 => ?_)
          · rw [if_neg c14] at h
            refine j_iinc (pc := 67) hC 5 (u9 + (1 : Int32)) [(5, .int (u9 + (1 : Int32))), (0, .ref (L.2.2 a0)), (1, .int x1), (2, .int x2), (3, .int v4), (4, .int u6)] dX12_fewest_67 rfl rfl (by decide) rfl ?_
            refine j_goto (pc := 70) hC 25 dX12_fewest_70 (by decide) ?_
            obtain rfl := Option.some.inj h
            have hk : jJ X G 6 L 0 0 (jQM X G L (some (.int r)) μ' 0 0) 25 [(0, .ref (L.2.2 a0)), (1, .int x1), (2, .int x2), (3, .int v4), (4, .int u6), (5, .int (u9 + (1 : Int32)))] [] m10 := hk
            exact j_lv [1, 2, 3, 4, 5, 0] rfl hk
          · rw [if_pos c14] at h
            refine j_aload_n (pc := 41) hC 0 0 dX12_fewest_41 rfl rfl ?_
            refine j_iload (pc := 42) hC 5 dX12_fewest_42 rfl ?_
            refine j_iload_n (pc := 44) hC 1 1 dX12_fewest_44 rfl rfl ?_
            refine j_iload_n (pc := 45) hC 2 2 dX12_fewest_45 rfl rfl ?_
            obtain ⟨v15, m16, e17, h⟩ := jcl2_some h
            refine j_vi (pc := 46) hC hR [.int u9, .int x1, .int x2] iy_X12_blames (q := (RX12, TX12, 40)) (ci := 12) rfl rfl (by decide) km_X12_405 dX12_fewest_46 rfl (by decide) ka0 (c_X12_blames hL ka0 e17) (by decide) (Nat.le_of_ble_eq_true rfl) rfl ?_
            refine j_if_eq (pc := 49) hC 67 dX12_fewest_49 (by decide) (fun c18 => ?_) (fun c18 => ?_)
            · rw [if_pos c18] at h
              refine j_iinc (pc := 67) hC 5 (u9 + (1 : Int32)) [(5, .int (u9 + (1 : Int32))), (0, .ref (L.2.2 a0)), (1, .int x1), (2, .int x2), (3, .int v4), (4, .int u6)] dX12_fewest_67 rfl rfl (by decide) rfl ?_
              refine j_goto (pc := 70) hC 25 dX12_fewest_70 (by decide) ?_
              obtain rfl := Option.some.inj h
              have hk : jJ X G 6 L 0 0 (jQM X G L (some (.int r)) μ' 0 0) 25 [(0, .ref (L.2.2 a0)), (1, .int x1), (2, .int x2), (3, .int v4), (4, .int u6), (5, .int (u9 + (1 : Int32)))] [] m16 := hk
              exact j_lv [1, 2, 3, 4, 5, 0] rfl hk
            · rw [if_neg c18] at h
              obtain rfl := Option.some.inj h
              have hk : jJ X G 6 L 0 0 (jQM X G L (some (.int r)) μ' 0 0) 52 [(0, .ref (L.2.2 a0)), (4, .int u6), (5, .int u9)] [] m16 := hk
              exact j_lv [0, 4, 5] rfl hk
      · cases w19 with
        | inl w19 =>
          try dsimp only at h
          obtain ⟨z22, m23⟩ := w19
          try dsimp only at h
          show jJ X G 6 L 0 0 (jQM X G L (some (.int r)) μ' 0 0) 52 [(0, .ref (L.2.2 a0)), (4, .int u6), (5, .int z22)] [] m23
          obtain rfl := Option.some.inj h
          have hk : jJ X G 6 L 0 0 (jQM X G L (some (.int r)) μ' 0 0) 52 [(0, .ref (L.2.2 a0)), (4, .int u6), (5, .int z22)] [] m23 := hk
          exact j_lv [0, 1, 2] rfl hk
        | inr w19 =>
          try dsimp only at h
          obtain ⟨m24, rfl⟩ : ∃ y, y = w19 := ⟨_, rfl⟩
          try dsimp only at h
          show jJ X G 6 L 0 0 (jQM X G L (some (.int r)) μ' 0 0) 73 [(0, .ref (L.2.2 a0)), (1, .int x1), (2, .int x2), (3, .int v4), (4, .int u6)] [] m24
          refine j_iinc (pc := 73) hC 4 (u6 + (1 : Int32)) [(4, .int (u6 + (1 : Int32))), (0, .ref (L.2.2 a0)), (1, .int x1), (2, .int x2), (3, .int v4)] dX12_fewest_73 rfl rfl (by decide) rfl ?_
          refine j_goto (pc := 76) hC 15 dX12_fewest_76 (by decide) ?_
          obtain rfl := Option.some.inj h
          have hk : jJ X G 6 L 0 0 (jQM X G L (some (.int r)) μ' 0 0) 15 [(0, .ref (L.2.2 a0)), (1, .int x1), (2, .int x2), (3, .int v4), (4, .int (u6 + (1 : Int32)))] [] m24 := hk
          exact j_lv [1, 2, 3, 4, 0] rfl hk
  · cases w25 with
    | inl w25 =>
      try dsimp only at h
      obtain ⟨z28, z29, m30⟩ := w25
      try dsimp only at h
      show jJ X G 6 L 0 0 (jQM X G L (some (.int r)) μ' 0 0) 52 [(0, .ref (L.2.2 a0)), (4, .int z28), (5, .int z29)] [] m30
      refine j_aload_n (pc := 52) hC 0 0 dX12_fewest_52 rfl rfl ?_
      refine j_iconst (pc := 53) hC (0 : Int32) dX12_fewest_53 (by decide) ?_
      obtain ⟨m31, e32, h⟩ := jbd_ex h
      refine jpi_12 (pc := 54) hC 1 (by decide) rfl kf_X12_11 dX12_fewest_54 rfl (by decide) ka0 e32 ?_
      refine j_aload_n (pc := 57) hC 0 0 dX12_fewest_57 rfl rfl ?_
      refine j_iload (pc := 58) hC 1 dX12_fewest_58 rfl ?_
      refine j_i2l (pc := 60) hC dX12_fewest_60 ?_
      obtain ⟨m33, e34, h⟩ := jcl_some h
      refine j_vv (pc := 61) hC hR [.long z28.toInt64] iy_X12_enters (q := (RX12, TX12, 40)) (ci := 12) rfl rfl (by decide) km_X12_146 dX12_fewest_61 rfl (by decide) ka0 (c_X12_enters hL ka0 e34) (by decide) (Nat.le_of_ble_eq_true rfl) rfl ?_
      refine j_iload (pc := 64) hC 2 dX12_fewest_64 rfl ?_
      obtain ⟨rfl, rfl⟩ := Prod.mk.inj (Option.some.inj h)
      exact j_iret (pc := 66) hC dX12_fewest_66 rfl
    | inr w25 =>
      try dsimp only at h
      obtain ⟨m35, rfl⟩ : ∃ y, y = w25 := ⟨_, rfl⟩
      try dsimp only at h
      show jJ X G 6 L 0 0 (jQM X G L (some (.int r)) μ' 0 0) 79 [] [] m35
      refine j_bipush (pc := 79) hC (-2 : Int32) dX12_fewest_79 (by decide) ?_
      obtain ⟨rfl, rfl⟩ := Prod.mk.inj (Option.some.inj h)
      exact j_iret (pc := 81) hC dX12_fewest_81 rfl
theorem dX12_culprits_0 : decode cX12_culprits 0 = .ok (.aload_n 0, 1) := by decide +kernel
theorem dX12_culprits_1 : decode cX12_culprits 1 = .ok (.iconst 0, 1) := by decide +kernel
theorem dX12_culprits_2 : decode cX12_culprits 2 = .ok (.putfield 1, 3) := by decide +kernel
theorem dX12_culprits_5 : decode cX12_culprits 5 = .ok (.aload_n 0, 1) := by decide +kernel
theorem dX12_culprits_6 : decode cX12_culprits 6 = .ok (.iconst (-1), 1) := by decide +kernel
theorem dX12_culprits_7 : decode cX12_culprits 7 = .ok (.iconst 0, 1) := by decide +kernel
theorem dX12_culprits_8 : decode cX12_culprits 8 = .ok (.invokevirtual 408, 3) := by decide +kernel
theorem dX12_culprits_11 : decode cX12_culprits 11 = .ok (.ireturn, 1) := by decide +kernel
def f_X12_culprits (a0 : Nat) (μ : jM) : Option (Int32 × jM) :=
  jbd (jsi μ a0 0 (0 : Int32)) (fun m1 => jcl2 (f_X12_fewest a0 (-1 : Int32) (0 : Int32) m1) (fun v3 m4 => some ((v3, m4))))
set_option maxHeartbeats 4000000 in
set_option maxRecDepth 100000 in
theorem c_X12_culprits {l : Launch} {G : jG} {L : jL} (hL : jOKL L) {a0 : Nat} (ka0 : jK L a0 12) {μ μ' : jM} {r : Int32} (h : f_X12_culprits a0 μ = some ((r, μ'))) : jCt l G L 16 yX12_culprits cX12_culprits 1 (some .int) [.ref (L.2.2 a0)] μ (some (.int r)) μ' := by
  refine jCt_of (by decide) (Nat.le_of_ble_eq_true rfl) (fun X hC hX hR => ?_)
  subst hX
  have hC : jC X G cX12_culprits 1 RX12 (some .int) := hC
  unfold f_X12_culprits at h
  show jJ X G 1 L 0 0 (jQM X G L (some (.int r)) μ' 0 0) 0 [(0, .ref (L.2.2 a0))] [] μ
  refine j_aload_n (pc := 0) hC 0 0 dX12_culprits_0 rfl rfl ?_
  refine j_iconst (pc := 1) hC (0 : Int32) dX12_culprits_1 (by decide) ?_
  obtain ⟨m1, e2, h⟩ := jbd_ex h
  refine jpi_12 (pc := 2) hC 0 (by decide) rfl kf_X12_1 dX12_culprits_2 rfl (by decide) ka0 e2 ?_
  refine j_aload_n (pc := 5) hC 0 0 dX12_culprits_5 rfl rfl ?_
  refine j_iconst (pc := 6) hC (-1 : Int32) dX12_culprits_6 (by decide) ?_
  refine j_iconst (pc := 7) hC (0 : Int32) dX12_culprits_7 (by decide) ?_
  obtain ⟨v3, m4, e5, h⟩ := jcl2_some h
  refine j_vi (pc := 8) hC hR [.int (-1 : Int32), .int (0 : Int32)] iy_X12_fewest (q := (RX12, TX12, 40)) (ci := 12) rfl rfl (by decide) km_X12_408 dX12_culprits_8 rfl (by decide) ka0 (c_X12_fewest hL ka0 e5) (by decide) (Nat.le_of_ble_eq_true rfl) rfl ?_
  obtain ⟨rfl, rfl⟩ := Prod.mk.inj (Option.some.inj h)
  exact j_iret (pc := 11) hC dX12_culprits_11 rfl
theorem dX12_why_0 : decode cX12_why 0 = .ok (.aload_n 0, 1) := by decide +kernel
theorem dX12_why_1 : decode cX12_why 1 = .ok (.iconst 0, 1) := by decide +kernel
theorem dX12_why_2 : decode cX12_why 2 = .ok (.putfield 1, 3) := by decide +kernel
theorem dX12_why_5 : decode cX12_why 5 = .ok (.iload_n 1, 1) := by decide +kernel
theorem dX12_why_6 : decode cX12_why 6 = .ok (.invokestatic 202, 3) := by decide +kernel
theorem dX12_why_9 : decode cX12_why 9 = .ok (.ifCond .eq 10, 3) := by decide +kernel
theorem dX12_why_12 : decode cX12_why 12 = .ok (.iload_n 2, 1) := by decide +kernel
theorem dX12_why_13 : decode cX12_why 13 = .ok (.invokestatic 205, 3) := by decide +kernel
theorem dX12_why_16 : decode cX12_why 16 = .ok (.ifCond .ne 5, 3) := by decide +kernel
theorem dX12_why_19 : decode cX12_why 19 = .ok (.iconst (-1), 1) := by decide +kernel
theorem dX12_why_20 : decode cX12_why 20 = .ok (.ireturn, 1) := by decide +kernel
theorem dX12_why_21 : decode cX12_why 21 = .ok (.aload_n 0, 1) := by decide +kernel
theorem dX12_why_22 : decode cX12_why 22 = .ok (.getfield 60, 3) := by decide +kernel
theorem dX12_why_25 : decode cX12_why 25 = .ok (.bipush 6, 2) := by decide +kernel
theorem dX12_why_27 : decode cX12_why 27 = .ok (.iload_n 1, 1) := by decide +kernel
theorem dX12_why_28 : decode cX12_why 28 = .ok (.iadd, 1) := by decide +kernel
theorem dX12_why_29 : decode cX12_why 29 = .ok (.iaload, 1) := by decide +kernel
theorem dX12_why_30 : decode cX12_why 30 = .ok (.iload_n 2, 1) := by decide +kernel
theorem dX12_why_31 : decode cX12_why 31 = .ok (.invokestatic 208, 3) := by decide +kernel
theorem dX12_why_34 : decode cX12_why 34 = .ok (.ifCond .eq 12, 3) := by decide +kernel
theorem dX12_why_37 : decode cX12_why 37 = .ok (.aload_n 0, 1) := by decide +kernel
theorem dX12_why_38 : decode cX12_why 38 = .ok (.iload_n 1, 1) := by decide +kernel
theorem dX12_why_39 : decode cX12_why 39 = .ok (.iload_n 2, 1) := by decide +kernel
theorem dX12_why_40 : decode cX12_why 40 = .ok (.invokevirtual 408, 3) := by decide +kernel
theorem dX12_why_43 : decode cX12_why 43 = .ok (.goto 5, 3) := by decide +kernel
theorem dX12_why_46 : decode cX12_why 46 = .ok (.bipush (-3), 2) := by decide +kernel
theorem dX12_why_48 : decode cX12_why 48 = .ok (.ireturn, 1) := by decide +kernel
def f_X12_why (a0 : Nat) (x1 : Int32) (x2 : Int32) (μ : jM) : Option (Int32 × jM) :=
  jbd (jsi μ a0 0 (0 : Int32)) (fun m1 => (if (f_X12_isVar x1) = (0 : Int32) then some (((-1 : Int32), m1)) else (if (f_X12_isValue x2) = (0 : Int32) then some (((-1 : Int32), m1)) else jrd (m1.1 (a0 + 3)) ((6 : Int32) + x1) 2074 (fun v6 => (if (f_X12_has v6 x2) = (0 : Int32) then some (((-3 : Int32), m1)) else jcl2 (f_X12_fewest a0 x1 x2 m1) (fun v9 m10 => some ((v9, m10))))))))
set_option maxHeartbeats 4000000 in
set_option maxRecDepth 100000 in
theorem c_X12_why {l : Launch} {G : jG} {L : jL} (hL : jOKL L) {a0 : Nat} {x1 : Int32} {x2 : Int32} (ka0 : jK L a0 12) {μ μ' : jM} {r : Int32} (h : f_X12_why a0 x1 x2 μ = some ((r, μ'))) : jCt l G L 16 yX12_why cX12_why 3 (some .int) [.ref (L.2.2 a0), .int x1, .int x2] μ (some (.int r)) μ' := by
  refine jCt_of (by decide) (Nat.le_of_ble_eq_true rfl) (fun X hC hX hR => ?_)
  subst hX
  have hC : jC X G cX12_why 3 RX12 (some .int) := hC
  unfold f_X12_why at h
  show jJ X G 3 L 0 0 (jQM X G L (some (.int r)) μ' 0 0) 0 [(0, .ref (L.2.2 a0)), (1, .int x1), (2, .int x2)] [] μ
  refine j_aload_n (pc := 0) hC 0 0 dX12_why_0 rfl rfl ?_
  refine j_iconst (pc := 1) hC (0 : Int32) dX12_why_1 (by decide) ?_
  obtain ⟨m1, e2, h⟩ := jbd_ex h
  refine jpi_12 (pc := 2) hC 0 (by decide) rfl kf_X12_1 dX12_why_2 rfl (by decide) ka0 e2 ?_
  refine j_iload_n (pc := 5) hC 1 1 dX12_why_5 rfl rfl ?_
  refine j_si (pc := 6) hC hR [.int x1] iy_X12_isVar km_X12_202 dX12_why_6 rfl (by decide) (c_X12_isVar hL  rfl) (by decide) (Nat.le_of_ble_eq_true rfl) rfl ?_
  refine j_if_eq (pc := 9) hC 19 dX12_why_9 (by decide) (fun c3 => ?_) (fun c3 => ?_)
  · rw [if_pos c3] at h
    refine j_iconst (pc := 19) hC (-1 : Int32) dX12_why_19 (by decide) ?_
    obtain ⟨rfl, rfl⟩ := Prod.mk.inj (Option.some.inj h)
    exact j_iret (pc := 20) hC dX12_why_20 rfl
  · rw [if_neg c3] at h
    refine j_iload_n (pc := 12) hC 2 2 dX12_why_12 rfl rfl ?_
    refine j_si (pc := 13) hC hR [.int x2] iy_X12_isValue km_X12_205 dX12_why_13 rfl (by decide) (c_X12_isValue hL  rfl) (by decide) (Nat.le_of_ble_eq_true rfl) rfl ?_
    refine j_if_ne (pc := 16) hC 21 dX12_why_16 (by decide) (fun c4 => ?_) (fun c4 => ?_)
    · rw [if_neg c4] at h
      refine j_aload_n (pc := 21) hC 0 0 dX12_why_21 rfl rfl ?_
      refine jgr_12 (pc := 22) hC 8 (by decide) rfl kf_X12_60 dX12_why_22 ka0 (ly_12_8 hL ka0).1 ?_
      refine j_bipush (pc := 25) hC (6 : Int32) dX12_why_25 (by decide) ?_
      refine j_iload_n (pc := 27) hC 1 1 dX12_why_27 rfl rfl ?_
      refine j_iadd (pc := 28) hC dX12_why_28 ?_
      obtain ⟨i5, v6, e7, h⟩ := jrd_some h
      refine j_iald (pc := 29) hC dX12_why_29 (ly_12_8 hL ka0).2.1 (ly_12_8 hL ka0).2.2 i5 e7 ?_
      refine j_iload_n (pc := 30) hC 2 2 dX12_why_30 rfl rfl ?_
      refine j_si (pc := 31) hC hR [.int v6, .int x2] iy_X12_has km_X12_208 dX12_why_31 rfl (by decide) (c_X12_has hL  rfl) (by decide) (Nat.le_of_ble_eq_true rfl) rfl ?_
      refine j_if_eq (pc := 34) hC 46 dX12_why_34 (by decide) (fun c8 => ?_) (fun c8 => ?_)
      · rw [if_pos c8] at h
        refine j_bipush (pc := 46) hC (-3 : Int32) dX12_why_46 (by decide) ?_
        obtain ⟨rfl, rfl⟩ := Prod.mk.inj (Option.some.inj h)
        exact j_iret (pc := 48) hC dX12_why_48 rfl
      · rw [if_neg c8] at h
        refine j_aload_n (pc := 37) hC 0 0 dX12_why_37 rfl rfl ?_
        refine j_iload_n (pc := 38) hC 1 1 dX12_why_38 rfl rfl ?_
        refine j_iload_n (pc := 39) hC 2 2 dX12_why_39 rfl rfl ?_
        obtain ⟨v9, m10, e11, h⟩ := jcl2_some h
        refine j_vi (pc := 40) hC hR [.int x1, .int x2] iy_X12_fewest (q := (RX12, TX12, 40)) (ci := 12) rfl rfl (by decide) km_X12_408 dX12_why_40 rfl (by decide) ka0 (c_X12_fewest hL ka0 e11) (by decide) (Nat.le_of_ble_eq_true rfl) rfl ?_
        refine j_goto (pc := 43) hC 48 dX12_why_43 (by decide) ?_
        obtain ⟨rfl, rfl⟩ := Prod.mk.inj (Option.some.inj h)
        exact j_iret (pc := 48) hC dX12_why_48 rfl
    · rw [if_pos c4] at h
      refine j_iconst (pc := 19) hC (-1 : Int32) dX12_why_19 (by decide) ?_
      obtain ⟨rfl, rfl⟩ := Prod.mk.inj (Option.some.inj h)
      exact j_iret (pc := 20) hC dX12_why_20 rfl
theorem dX12_without_0 : decode cX12_without 0 = .ok (.iconst 0, 1) := by decide +kernel
theorem dX12_without_1 : decode cX12_without 1 = .ok (.istore_n 2, 1) := by decide +kernel
theorem dX12_without_2 : decode cX12_without 2 = .ok (.iconst 0, 1) := by decide +kernel
theorem dX12_without_3 : decode cX12_without 3 = .ok (.istore_n 3, 1) := by decide +kernel
theorem dX12_without_4 : decode cX12_without 4 = .ok (.iload_n 3, 1) := by decide +kernel
theorem dX12_without_5 : decode cX12_without 5 = .ok (.sipush 256, 3) := by decide +kernel
theorem dX12_without_8 : decode cX12_without 8 = .ok (.if_icmp .ge 30, 3) := by decide +kernel
theorem dX12_without_11 : decode cX12_without 11 = .ok (.iload_n 2, 1) := by decide +kernel
theorem dX12_without_12 : decode cX12_without 12 = .ok (.iload_n 3, 1) := by decide +kernel
theorem dX12_without_13 : decode cX12_without 13 = .ok (.iload_n 1, 1) := by decide +kernel
theorem dX12_without_14 : decode cX12_without 14 = .ok (.iconst (-1), 1) := by decide +kernel
theorem dX12_without_15 : decode cX12_without 15 = .ok (.ixor, 1) := by decide +kernel
theorem dX12_without_16 : decode cX12_without 16 = .ok (.iand, 1) := by decide +kernel
theorem dX12_without_17 : decode cX12_without 17 = .ok (.ifCond .ne 12, 3) := by decide +kernel
theorem dX12_without_20 : decode cX12_without 20 = .ok (.aload_n 0, 1) := by decide +kernel
theorem dX12_without_21 : decode cX12_without 21 = .ok (.getfield 105, 3) := by decide +kernel
theorem dX12_without_24 : decode cX12_without 24 = .ok (.iload_n 3, 1) := by decide +kernel
theorem dX12_without_25 : decode cX12_without 25 = .ok (.iaload, 1) := by decide +kernel
theorem dX12_without_26 : decode cX12_without 26 = .ok (.goto 4, 3) := by decide +kernel
theorem dX12_without_29 : decode cX12_without 29 = .ok (.iconst 0, 1) := by decide +kernel
theorem dX12_without_30 : decode cX12_without 30 = .ok (.iadd, 1) := by decide +kernel
theorem dX12_without_31 : decode cX12_without 31 = .ok (.istore_n 2, 1) := by decide +kernel
theorem dX12_without_32 : decode cX12_without 32 = .ok (.iinc 3 1, 3) := by decide +kernel
theorem dX12_without_35 : decode cX12_without 35 = .ok (.goto (-31), 3) := by decide +kernel
theorem dX12_without_38 : decode cX12_without 38 = .ok (.iload_n 2, 1) := by decide +kernel
theorem dX12_without_39 : decode cX12_without 39 = .ok (.ireturn, 1) := by decide +kernel
def f_X12_without_L4 (a0 : Nat) (x1 : Int32) (μ : jM) (u1 : Int32) (u2 : Int32) : Option ((Int32 × Int32) ⊕ (Int32)) :=
  (if (256 : Int32) ≤ u2 then some (.inr u1) else (if (u2 &&& (x1 ^^^ (-1 : Int32))) = (0 : Int32) then jrd (μ.1 (a0 + 18)) u2 256 (fun v6 => some (.inl ((u1 + v6, u2 + (1 : Int32))))) else some (.inl ((u1 + (0 : Int32), u2 + (1 : Int32))))))
def f_X12_without (a0 : Nat) (x1 : Int32) (μ : jM) : Option (Int32) :=
  jcl (jloop (fun (s : Int32 × Int32) => f_X12_without_L4 a0 x1 μ s.1 s.2) jfu (((0 : Int32), (0 : Int32)))) (fun w8 => some w8)
set_option maxHeartbeats 4000000 in
set_option maxRecDepth 100000 in
theorem c_X12_without {l : Launch} {G : jG} {L : jL} (hL : jOKL L) {a0 : Nat} {x1 : Int32} (ka0 : jK L a0 12) {μ : jM} {r : Int32} (h : f_X12_without a0 x1 μ = some r) : jCt l G L 3 yX12_without cX12_without 4 (some .int) [.ref (L.2.2 a0), .int x1] μ (some (.int r)) μ := by
  refine jCt_of (by decide) (Nat.le_of_ble_eq_true rfl) (fun X hC hX hR => ?_)
  subst hX
  have hC : jC X G cX12_without 4 RX12 (some .int) := hC
  unfold f_X12_without at h
  show jJ X G 4 L 0 0 (jQM X G L (some (.int r)) μ 0 0) 0 [(0, .ref (L.2.2 a0)), (1, .int x1)] [] μ
  refine j_iconst (pc := 0) hC (0 : Int32) dX12_without_0 (by decide) ?_
  refine j_istore_n (pc := 1) hC 2 [(2, .int (0 : Int32)), (0, .ref (L.2.2 a0)), (1, .int x1)] dX12_without_1 rfl (by decide) rfl rfl ?_
  refine j_iconst (pc := 2) hC (0 : Int32) dX12_without_2 (by decide) ?_
  refine j_istore_n (pc := 3) hC 3 [(3, .int (0 : Int32)), (2, .int (0 : Int32)), (0, .ref (L.2.2 a0)), (1, .int x1)] dX12_without_3 rfl (by decide) rfl rfl ?_
  obtain ⟨w8, hw9, h⟩ := jcl_some h
  refine j_lv [2, 3, 1, 0] rfl ?_
  refine j_loop (step := (fun (s : Int32 × Int32) => f_X12_without_L4 a0 x1 μ s.1 s.2)) (P := (fun (s : Int32 × Int32) => jJ X G 4 L 0 0 (jQM X G L (some (.int r)) μ 0 0) 4 [(0, .ref (L.2.2 a0)), (1, .int x1), (2, .int s.1), (3, .int s.2)] [] μ)) (R := (fun (e : Int32) => jJ X G 4 L 0 0 (jQM X G L (some (.int r)) μ 0 0) 38 [(2, .int e)] [] μ)) ?_ jfu (((0 : Int32), (0 : Int32))) w8 hw9 ?_
  · intro s10 o h hk
    obtain ⟨u1, u2⟩ := s10
    change f_X12_without_L4 a0 x1 μ u1 u2 = some o at h
    unfold f_X12_without_L4 at h
    show jJ X G 4 L 0 0 (jQM X G L (some (.int r)) μ 0 0) 4 [(0, .ref (L.2.2 a0)), (1, .int x1), (2, .int u1), (3, .int u2)] [] μ
    refine j_iload_n (pc := 4) hC 3 3 dX12_without_4 rfl rfl ?_
    refine j_sipush (pc := 5) hC (256 : Int32) dX12_without_5 (by decide) ?_
    refine j_icmp_ge (pc := 8) hC 38 dX12_without_8 (by decide) (fun c3 => ?_) (fun c3 => ?_)
    · rw [if_pos c3] at h
      obtain rfl := Option.some.inj h
      have hk : jJ X G 4 L 0 0 (jQM X G L (some (.int r)) μ 0 0) 38 [(2, .int u1)] [] μ := hk
      exact j_lv [2] rfl hk
    · rw [if_neg c3] at h
      refine j_iload_n (pc := 11) hC 2 2 dX12_without_11 rfl rfl ?_
      refine j_iload_n (pc := 12) hC 3 3 dX12_without_12 rfl rfl ?_
      refine j_iload_n (pc := 13) hC 1 1 dX12_without_13 rfl rfl ?_
      refine j_iconst (pc := 14) hC (-1 : Int32) dX12_without_14 (by decide) ?_
      refine j_ixor (pc := 15) hC dX12_without_15 ?_
      refine j_iand (pc := 16) hC dX12_without_16 ?_
      refine j_if_ne (pc := 17) hC 29 dX12_without_17 (by decide) (fun c4 => ?_) (fun c4 => ?_)
      · rw [if_neg c4] at h
        refine j_iconst (pc := 29) hC (0 : Int32) dX12_without_29 (by decide) ?_
        refine j_iadd (pc := 30) hC dX12_without_30 ?_
        refine j_istore_n (pc := 31) hC 2 [(2, .int (u1 + (0 : Int32))), (0, .ref (L.2.2 a0)), (1, .int x1), (3, .int u2)] dX12_without_31 rfl (by decide) rfl rfl ?_
        refine j_iinc (pc := 32) hC 3 (u2 + (1 : Int32)) [(3, .int (u2 + (1 : Int32))), (2, .int (u1 + (0 : Int32))), (0, .ref (L.2.2 a0)), (1, .int x1)] dX12_without_32 rfl rfl (by decide) rfl ?_
        refine j_goto (pc := 35) hC 4 dX12_without_35 (by decide) ?_
        obtain rfl := Option.some.inj h
        have hk : jJ X G 4 L 0 0 (jQM X G L (some (.int r)) μ 0 0) 4 [(0, .ref (L.2.2 a0)), (1, .int x1), (2, .int (u1 + (0 : Int32))), (3, .int (u2 + (1 : Int32)))] [] μ := hk
        exact j_lv [2, 3, 1, 0] rfl hk
      · rw [if_pos c4] at h
        refine j_aload_n (pc := 20) hC 0 0 dX12_without_20 rfl rfl ?_
        refine jgr_12 (pc := 21) hC 33 (by decide) rfl kf_X12_105 dX12_without_21 ka0 (ly_12_33 hL ka0).1 ?_
        refine j_iload_n (pc := 24) hC 3 3 dX12_without_24 rfl rfl ?_
        obtain ⟨i5, v6, e7, h⟩ := jrd_some h
        refine j_iald (pc := 25) hC dX12_without_25 (ly_12_33 hL ka0).2.1 (ly_12_33 hL ka0).2.2 i5 e7 ?_
        refine j_goto (pc := 26) hC 30 dX12_without_26 (by decide) ?_
        refine j_iadd (pc := 30) hC dX12_without_30 ?_
        refine j_istore_n (pc := 31) hC 2 [(2, .int (u1 + v6)), (0, .ref (L.2.2 a0)), (1, .int x1), (3, .int u2)] dX12_without_31 rfl (by decide) rfl rfl ?_
        refine j_iinc (pc := 32) hC 3 (u2 + (1 : Int32)) [(3, .int (u2 + (1 : Int32))), (2, .int (u1 + v6)), (0, .ref (L.2.2 a0)), (1, .int x1)] dX12_without_32 rfl rfl (by decide) rfl ?_
        refine j_goto (pc := 35) hC 4 dX12_without_35 (by decide) ?_
        obtain rfl := Option.some.inj h
        have hk : jJ X G 4 L 0 0 (jQM X G L (some (.int r)) μ 0 0) 4 [(0, .ref (L.2.2 a0)), (1, .int x1), (2, .int (u1 + v6)), (3, .int (u2 + (1 : Int32)))] [] μ := hk
        exact j_lv [2, 3, 1, 0] rfl hk
  · obtain ⟨z11, rfl⟩ : ∃ y, y = w8 := ⟨_, rfl⟩
    try dsimp only at h
    show jJ X G 4 L 0 0 (jQM X G L (some (.int r)) μ 0 0) 38 [(2, .int z11)] [] μ
    refine j_iload_n (pc := 38) hC 2 0 dX12_without_38 rfl rfl ?_
    obtain rfl := Option.some.inj h
    exact j_iret (pc := 39) hC dX12_without_39 rfl
theorem dX12_mends_0 : decode cX12_mends 0 = .ok (.aload_n 0, 1) := by decide +kernel
theorem dX12_mends_1 : decode cX12_mends 1 = .ok (.iconst 0, 1) := by decide +kernel
theorem dX12_mends_2 : decode cX12_mends 2 = .ok (.putfield 1, 3) := by decide +kernel
theorem dX12_mends_5 : decode cX12_mends 5 = .ok (.aload_n 0, 1) := by decide +kernel
theorem dX12_mends_6 : decode cX12_mends 6 = .ok (.invokevirtual 369, 3) := by decide +kernel
theorem dX12_mends_9 : decode cX12_mends 9 = .ok (.iconst 0, 1) := by decide +kernel
theorem dX12_mends_10 : decode cX12_mends 10 = .ok (.istore_n 1, 1) := by decide +kernel
theorem dX12_mends_11 : decode cX12_mends 11 = .ok (.iload_n 1, 1) := by decide +kernel
theorem dX12_mends_12 : decode cX12_mends 12 = .ok (.sipush 256, 3) := by decide +kernel
theorem dX12_mends_15 : decode cX12_mends 15 = .ok (.if_icmp .ge 16, 3) := by decide +kernel
theorem dX12_mends_18 : decode cX12_mends 18 = .ok (.aload_n 0, 1) := by decide +kernel
theorem dX12_mends_19 : decode cX12_mends 19 = .ok (.getfield 105, 3) := by decide +kernel
theorem dX12_mends_22 : decode cX12_mends 22 = .ok (.iload_n 1, 1) := by decide +kernel
theorem dX12_mends_23 : decode cX12_mends 23 = .ok (.iconst 0, 1) := by decide +kernel
theorem dX12_mends_24 : decode cX12_mends 24 = .ok (.iastore, 1) := by decide +kernel
theorem dX12_mends_25 : decode cX12_mends 25 = .ok (.iinc 1 1, 3) := by decide +kernel
theorem dX12_mends_28 : decode cX12_mends 28 = .ok (.goto (-17), 3) := by decide +kernel
theorem dX12_mends_31 : decode cX12_mends 31 = .ok (.iconst 0, 1) := by decide +kernel
theorem dX12_mends_32 : decode cX12_mends 32 = .ok (.istore_n 1, 1) := by decide +kernel
theorem dX12_mends_33 : decode cX12_mends 33 = .ok (.iload_n 1, 1) := by decide +kernel
theorem dX12_mends_34 : decode cX12_mends 34 = .ok (.sipush 7776, 3) := by decide +kernel
theorem dX12_mends_37 : decode cX12_mends 37 = .ok (.if_icmp .ge 33, 3) := by decide +kernel
theorem dX12_mends_40 : decode cX12_mends 40 = .ok (.aload_n 0, 1) := by decide +kernel
theorem dX12_mends_41 : decode cX12_mends 41 = .ok (.getfield 96, 3) := by decide +kernel
theorem dX12_mends_44 : decode cX12_mends 44 = .ok (.iload_n 1, 1) := by decide +kernel
theorem dX12_mends_45 : decode cX12_mends 45 = .ok (.iaload, 1) := by decide +kernel
theorem dX12_mends_46 : decode cX12_mends 46 = .ok (.ifCond .lt 18, 3) := by decide +kernel
theorem dX12_mends_49 : decode cX12_mends 49 = .ok (.aload_n 0, 1) := by decide +kernel
theorem dX12_mends_50 : decode cX12_mends 50 = .ok (.getfield 105, 3) := by decide +kernel
theorem dX12_mends_53 : decode cX12_mends 53 = .ok (.aload_n 0, 1) := by decide +kernel
theorem dX12_mends_54 : decode cX12_mends 54 = .ok (.getfield 96, 3) := by decide +kernel
theorem dX12_mends_57 : decode cX12_mends 57 = .ok (.iload_n 1, 1) := by decide +kernel
theorem dX12_mends_58 : decode cX12_mends 58 = .ok (.iaload, 1) := by decide +kernel
theorem dX12_mends_59 : decode cX12_mends 59 = .ok (.dup2, 1) := by decide +kernel
theorem dX12_mends_60 : decode cX12_mends 60 = .ok (.iaload, 1) := by decide +kernel
theorem dX12_mends_61 : decode cX12_mends 61 = .ok (.iconst 1, 1) := by decide +kernel
theorem dX12_mends_62 : decode cX12_mends 62 = .ok (.iadd, 1) := by decide +kernel
theorem dX12_mends_63 : decode cX12_mends 63 = .ok (.iastore, 1) := by decide +kernel
theorem dX12_mends_64 : decode cX12_mends 64 = .ok (.iinc 1 1, 3) := by decide +kernel
theorem dX12_mends_67 : decode cX12_mends 67 = .ok (.goto (-34), 3) := by decide +kernel
theorem dX12_mends_70 : decode cX12_mends 70 = .ok (.iconst (-1), 1) := by decide +kernel
theorem dX12_mends_71 : decode cX12_mends 71 = .ok (.istore_n 1, 1) := by decide +kernel
theorem dX12_mends_72 : decode cX12_mends 72 = .ok (.sipush 255, 3) := by decide +kernel
theorem dX12_mends_75 : decode cX12_mends 75 = .ok (.istore_n 2, 1) := by decide +kernel
theorem dX12_mends_76 : decode cX12_mends 76 = .ok (.iload_n 2, 1) := by decide +kernel
theorem dX12_mends_77 : decode cX12_mends 77 = .ok (.ifCond .lt 47, 3) := by decide +kernel
theorem dX12_mends_80 : decode cX12_mends 80 = .ok (.iload_n 2, 1) := by decide +kernel
theorem dX12_mends_81 : decode cX12_mends 81 = .ok (.iconst 1, 1) := by decide +kernel
theorem dX12_mends_82 : decode cX12_mends 82 = .ok (.aload_n 0, 1) := by decide +kernel
theorem dX12_mends_83 : decode cX12_mends 83 = .ok (.getfield 60, 3) := by decide +kernel
theorem dX12_mends_86 : decode cX12_mends 86 = .ok (.bipush 28, 2) := by decide +kernel
theorem dX12_mends_88 : decode cX12_mends 88 = .ok (.iaload, 1) := by decide +kernel
theorem dX12_mends_89 : decode cX12_mends 89 = .ok (.ishl, 1) := by decide +kernel
theorem dX12_mends_90 : decode cX12_mends 90 = .ok (.if_icmp .ge 28, 3) := by decide +kernel
theorem dX12_mends_93 : decode cX12_mends 93 = .ok (.aload_n 0, 1) := by decide +kernel
theorem dX12_mends_94 : decode cX12_mends 94 = .ok (.iload_n 2, 1) := by decide +kernel
theorem dX12_mends_95 : decode cX12_mends 95 = .ok (.invokevirtual 411, 3) := by decide +kernel
theorem dX12_mends_98 : decode cX12_mends 98 = .ok (.ifCond .le 20, 3) := by decide +kernel
theorem dX12_mends_101 : decode cX12_mends 101 = .ok (.iload_n 1, 1) := by decide +kernel
theorem dX12_mends_102 : decode cX12_mends 102 = .ok (.ifCond .lt 14, 3) := by decide +kernel
theorem dX12_mends_105 : decode cX12_mends 105 = .ok (.iload_n 2, 1) := by decide +kernel
theorem dX12_mends_106 : decode cX12_mends 106 = .ok (.invokestatic 211, 3) := by decide +kernel
theorem dX12_mends_109 : decode cX12_mends 109 = .ok (.iload_n 1, 1) := by decide +kernel
theorem dX12_mends_110 : decode cX12_mends 110 = .ok (.invokestatic 211, 3) := by decide +kernel
theorem dX12_mends_113 : decode cX12_mends 113 = .ok (.if_icmp .gt 5, 3) := by decide +kernel
theorem dX12_mends_116 : decode cX12_mends 116 = .ok (.iload_n 2, 1) := by decide +kernel
theorem dX12_mends_117 : decode cX12_mends 117 = .ok (.istore_n 1, 1) := by decide +kernel
theorem dX12_mends_118 : decode cX12_mends 118 = .ok (.iinc 2 (-1), 3) := by decide +kernel
theorem dX12_mends_121 : decode cX12_mends 121 = .ok (.goto (-45), 3) := by decide +kernel
theorem dX12_mends_124 : decode cX12_mends 124 = .ok (.aload_n 0, 1) := by decide +kernel
theorem dX12_mends_125 : decode cX12_mends 125 = .ok (.iconst 0, 1) := by decide +kernel
theorem dX12_mends_126 : decode cX12_mends 126 = .ok (.putfield 11, 3) := by decide +kernel
theorem dX12_mends_129 : decode cX12_mends 129 = .ok (.aload_n 0, 1) := by decide +kernel
theorem dX12_mends_130 : decode cX12_mends 130 = .ok (.iload_n 1, 1) := by decide +kernel
theorem dX12_mends_131 : decode cX12_mends 131 = .ok (.invokestatic 211, 3) := by decide +kernel
theorem dX12_mends_134 : decode cX12_mends 134 = .ok (.i2l, 1) := by decide +kernel
theorem dX12_mends_135 : decode cX12_mends 135 = .ok (.invokevirtual 146, 3) := by decide +kernel
theorem dX12_mends_138 : decode cX12_mends 138 = .ok (.aload_n 0, 1) := by decide +kernel
theorem dX12_mends_139 : decode cX12_mends 139 = .ok (.aload_n 0, 1) := by decide +kernel
theorem dX12_mends_140 : decode cX12_mends 140 = .ok (.iload_n 1, 1) := by decide +kernel
theorem dX12_mends_141 : decode cX12_mends 141 = .ok (.invokevirtual 411, 3) := by decide +kernel
theorem dX12_mends_144 : decode cX12_mends 144 = .ok (.i2l, 1) := by decide +kernel
theorem dX12_mends_145 : decode cX12_mends 145 = .ok (.invokevirtual 146, 3) := by decide +kernel
theorem dX12_mends_148 : decode cX12_mends 148 = .ok (.iload_n 1, 1) := by decide +kernel
theorem dX12_mends_149 : decode cX12_mends 149 = .ok (.ireturn, 1) := by decide +kernel
def f_X12_mends_L11 (a0 : Nat) (u5 : Int32) (m6 : jM) : Option ((Int32 × jM) ⊕ (jM)) :=
  (if (256 : Int32) ≤ u5 then some (.inr m6) else jin u5 256 (jbd (jsi m6 (a0 + 18) u5.toNatClampNeg (0 : Int32)) (fun m9 => some (.inl ((u5 + (1 : Int32), m9))))))
def f_X12_mends_L33 (a0 : Nat) (u15 : Int32) (m16 : jM) : Option ((Int32 × jM) ⊕ (jM)) :=
  (if (7776 : Int32) ≤ u15 then some (.inr m16) else jrd (m16.1 (a0 + 15)) u15 7776 (fun v19 => (if v19 < (0 : Int32) then some (.inl ((u15 + (1 : Int32), m16))) else jrd (m16.1 (a0 + 15)) u15 7776 (fun v23 => jrd (m16.1 (a0 + 18)) v23 256 (fun v26 => jin v23 256 (jbd (jsi m16 (a0 + 18) v23.toNatClampNeg (v26 + (1 : Int32))) (fun m29 => some (.inl ((u15 + (1 : Int32), m29))))))))))
def f_X12_mends_L76 (a0 : Nat) (m34 : jM) (u35 : Int32) (u36 : Int32) : Option ((Int32 × Int32) ⊕ (Int32)) :=
  (if u36 < (0 : Int32) then some (.inr u35) else jrd (m34.1 (a0 + 3)) (28 : Int32) 2074 (fun v39 => (if ((1 : Int32) <<< (v39 &&& 31)) ≤ u36 then some (.inl ((u35, u36 + (-1 : Int32)))) else jcl (f_X12_without a0 u36 m34) (fun v42 => (if v42 ≤ (0 : Int32) then some (.inl ((u35, u36 + (-1 : Int32)))) else (if u35 < (0 : Int32) then some (.inl ((u36, u36 + (-1 : Int32)))) else jcl (f_X12_bitsOf u36) (fun v46 => jcl (f_X12_bitsOf u35) (fun v48 => (if v48 < v46 then some (.inl ((u35, u36 + (-1 : Int32)))) else some (.inl ((u36, u36 + (-1 : Int32)))))))))))))
def f_X12_mends (a0 : Nat) (μ : jM) : Option (Int32 × jM) :=
  jbd (jsi μ a0 0 (0 : Int32)) (fun m1 => jcl (f_X12_tries a0 m1) (fun m3 => jcl (jloop (fun (s : Int32 × jM) => f_X12_mends_L11 a0 s.1 s.2) jfu (((0 : Int32), m3))) (fun w11 => jcl (jloop (fun (s : Int32 × jM) => f_X12_mends_L33 a0 s.1 s.2) jfu (((0 : Int32), w11))) (fun w31 => jcl (jloop (fun (s : Int32 × Int32) => f_X12_mends_L76 a0 w31 s.1 s.2) jfu (((-1 : Int32), (255 : Int32)))) (fun w51 => jbd (jsi w31 a0 1 (0 : Int32)) (fun m55 => jcl (f_X12_bitsOf w51) (fun v57 => jcl (f_X12_enters a0 v57.toInt64 m55) (fun m59 => jcl (f_X12_without a0 w51 m59) (fun v61 => jcl (f_X12_enters a0 v61.toInt64 m59) (fun m63 => some ((w51, m63))))))))))))
set_option maxHeartbeats 4000000 in
set_option maxRecDepth 100000 in
theorem c_X12_mends {l : Launch} {G : jG} {L : jL} (hL : jOKL L) {a0 : Nat} (ka0 : jK L a0 12) {μ μ' : jM} {r : Int32} (h : f_X12_mends a0 μ = some ((r, μ'))) : jCt l G L 6 yX12_mends cX12_mends 3 (some .int) [.ref (L.2.2 a0)] μ (some (.int r)) μ' := by
  refine jCt_of (by decide) (Nat.le_of_ble_eq_true rfl) (fun X hC hX hR => ?_)
  subst hX
  have hC : jC X G cX12_mends 3 RX12 (some .int) := hC
  unfold f_X12_mends at h
  show jJ X G 3 L 0 0 (jQM X G L (some (.int r)) μ' 0 0) 0 [(0, .ref (L.2.2 a0))] [] μ
  refine j_aload_n (pc := 0) hC 0 0 dX12_mends_0 rfl rfl ?_
  refine j_iconst (pc := 1) hC (0 : Int32) dX12_mends_1 (by decide) ?_
  obtain ⟨m1, e2, h⟩ := jbd_ex h
  refine jpi_12 (pc := 2) hC 0 (by decide) rfl kf_X12_1 dX12_mends_2 rfl (by decide) ka0 e2 ?_
  refine j_aload_n (pc := 5) hC 0 0 dX12_mends_5 rfl rfl ?_
  obtain ⟨m3, e4, h⟩ := jcl_some h
  refine j_vv (pc := 6) hC hR [] iy_X12_tries (q := (RX12, TX12, 40)) (ci := 12) rfl rfl (by decide) km_X12_369 dX12_mends_6 rfl (by decide) ka0 (c_X12_tries hL ka0 e4) (by decide) (Nat.le_of_ble_eq_true rfl) rfl ?_
  refine j_iconst (pc := 9) hC (0 : Int32) dX12_mends_9 (by decide) ?_
  refine j_istore_n (pc := 10) hC 1 [(1, .int (0 : Int32)), (0, .ref (L.2.2 a0))] dX12_mends_10 rfl (by decide) rfl rfl ?_
  obtain ⟨w11, hw12, h⟩ := jcl_some h
  refine j_lv [1, 0] rfl ?_
  refine j_loop (step := (fun (s : Int32 × jM) => f_X12_mends_L11 a0 s.1 s.2)) (P := (fun (s : Int32 × jM) => jJ X G 3 L 0 0 (jQM X G L (some (.int r)) μ' 0 0) 11 [(0, .ref (L.2.2 a0)), (1, .int s.1)] [] s.2)) (R := (fun (e : jM) => jJ X G 3 L 0 0 (jQM X G L (some (.int r)) μ' 0 0) 31 [(0, .ref (L.2.2 a0))] [] e)) ?_ jfu (((0 : Int32), m3)) w11 hw12 ?_
  · intro s13 o h hk
    obtain ⟨u5, m6⟩ := s13
    change f_X12_mends_L11 a0 u5 m6 = some o at h
    unfold f_X12_mends_L11 at h
    show jJ X G 3 L 0 0 (jQM X G L (some (.int r)) μ' 0 0) 11 [(0, .ref (L.2.2 a0)), (1, .int u5)] [] m6
    refine j_iload_n (pc := 11) hC 1 1 dX12_mends_11 rfl rfl ?_
    refine j_sipush (pc := 12) hC (256 : Int32) dX12_mends_12 (by decide) ?_
    refine j_icmp_ge (pc := 15) hC 31 dX12_mends_15 (by decide) (fun c7 => ?_) (fun c7 => ?_)
    · rw [if_pos c7] at h
      obtain rfl := Option.some.inj h
      have hk : jJ X G 3 L 0 0 (jQM X G L (some (.int r)) μ' 0 0) 31 [(0, .ref (L.2.2 a0))] [] m6 := hk
      exact j_lv [0] rfl hk
    · rw [if_neg c7] at h
      refine j_aload_n (pc := 18) hC 0 0 dX12_mends_18 rfl rfl ?_
      refine jgr_12 (pc := 19) hC 33 (by decide) rfl kf_X12_105 dX12_mends_19 ka0 (ly_12_33 hL ka0).1 ?_
      refine j_iload_n (pc := 22) hC 1 1 dX12_mends_22 rfl rfl ?_
      refine j_iconst (pc := 23) hC (0 : Int32) dX12_mends_23 (by decide) ?_
      obtain ⟨i8, h⟩ := jin_some h
      obtain ⟨m9, e10, h⟩ := jbd_ex h
      refine j_iast (pc := 24) hC dX12_mends_24 (ly_12_33 hL ka0).2.1 (ly_12_33 hL ka0).2.2 i8 e10 ?_
      refine j_iinc (pc := 25) hC 1 (u5 + (1 : Int32)) [(1, .int (u5 + (1 : Int32))), (0, .ref (L.2.2 a0))] dX12_mends_25 rfl rfl (by decide) rfl ?_
      refine j_goto (pc := 28) hC 11 dX12_mends_28 (by decide) ?_
      obtain rfl := Option.some.inj h
      have hk : jJ X G 3 L 0 0 (jQM X G L (some (.int r)) μ' 0 0) 11 [(0, .ref (L.2.2 a0)), (1, .int (u5 + (1 : Int32)))] [] m9 := hk
      exact j_lv [1, 0] rfl hk
  · obtain ⟨m14, rfl⟩ : ∃ y, y = w11 := ⟨_, rfl⟩
    try dsimp only at h
    show jJ X G 3 L 0 0 (jQM X G L (some (.int r)) μ' 0 0) 31 [(0, .ref (L.2.2 a0))] [] m14
    refine j_iconst (pc := 31) hC (0 : Int32) dX12_mends_31 (by decide) ?_
    refine j_istore_n (pc := 32) hC 1 [(1, .int (0 : Int32)), (0, .ref (L.2.2 a0))] dX12_mends_32 rfl (by decide) rfl rfl ?_
    obtain ⟨w31, hw32, h⟩ := jcl_some h
    refine j_lv [1, 0] rfl ?_
    refine j_loop (step := (fun (s : Int32 × jM) => f_X12_mends_L33 a0 s.1 s.2)) (P := (fun (s : Int32 × jM) => jJ X G 3 L 0 0 (jQM X G L (some (.int r)) μ' 0 0) 33 [(0, .ref (L.2.2 a0)), (1, .int s.1)] [] s.2)) (R := (fun (e : jM) => jJ X G 3 L 0 0 (jQM X G L (some (.int r)) μ' 0 0) 70 [(0, .ref (L.2.2 a0))] [] e)) ?_ jfu (((0 : Int32), m14)) w31 hw32 ?_
    · intro s33 o h hk
      obtain ⟨u15, m16⟩ := s33
      change f_X12_mends_L33 a0 u15 m16 = some o at h
      unfold f_X12_mends_L33 at h
      show jJ X G 3 L 0 0 (jQM X G L (some (.int r)) μ' 0 0) 33 [(0, .ref (L.2.2 a0)), (1, .int u15)] [] m16
      refine j_iload_n (pc := 33) hC 1 1 dX12_mends_33 rfl rfl ?_
      refine j_sipush (pc := 34) hC (7776 : Int32) dX12_mends_34 (by decide) ?_
      refine j_icmp_ge (pc := 37) hC 70 dX12_mends_37 (by decide) (fun c17 => ?_) (fun c17 => ?_)
      · rw [if_pos c17] at h
        obtain rfl := Option.some.inj h
        have hk : jJ X G 3 L 0 0 (jQM X G L (some (.int r)) μ' 0 0) 70 [(0, .ref (L.2.2 a0))] [] m16 := hk
        exact j_lv [0] rfl hk
      · rw [if_neg c17] at h
        refine j_aload_n (pc := 40) hC 0 0 dX12_mends_40 rfl rfl ?_
        refine jgr_12 (pc := 41) hC 26 (by decide) rfl kf_X12_96 dX12_mends_41 ka0 (ly_12_26 hL ka0).1 ?_
        refine j_iload_n (pc := 44) hC 1 1 dX12_mends_44 rfl rfl ?_
        obtain ⟨i18, v19, e20, h⟩ := jrd_some h
        refine j_iald (pc := 45) hC dX12_mends_45 (ly_12_26 hL ka0).2.1 (ly_12_26 hL ka0).2.2 i18 e20 ?_
        refine j_if_lt (pc := 46) hC 64 dX12_mends_46 (by decide) (fun c21 => ?_) (fun c21 => ?_)
        · rw [if_pos c21] at h
          refine j_iinc (pc := 64) hC 1 (u15 + (1 : Int32)) [(1, .int (u15 + (1 : Int32))), (0, .ref (L.2.2 a0))] dX12_mends_64 rfl rfl (by decide) rfl ?_
          refine j_goto (pc := 67) hC 33 dX12_mends_67 (by decide) ?_
          obtain rfl := Option.some.inj h
          have hk : jJ X G 3 L 0 0 (jQM X G L (some (.int r)) μ' 0 0) 33 [(0, .ref (L.2.2 a0)), (1, .int (u15 + (1 : Int32)))] [] m16 := hk
          exact j_lv [1, 0] rfl hk
        · rw [if_neg c21] at h
          refine j_aload_n (pc := 49) hC 0 0 dX12_mends_49 rfl rfl ?_
          refine jgr_12 (pc := 50) hC 33 (by decide) rfl kf_X12_105 dX12_mends_50 ka0 (ly_12_33 hL ka0).1 ?_
          refine j_aload_n (pc := 53) hC 0 0 dX12_mends_53 rfl rfl ?_
          refine jgr_12 (pc := 54) hC 26 (by decide) rfl kf_X12_96 dX12_mends_54 ka0 (ly_12_26 hL ka0).1 ?_
          refine j_iload_n (pc := 57) hC 1 1 dX12_mends_57 rfl rfl ?_
          obtain ⟨i22, v23, e24, h⟩ := jrd_some h
          refine j_iald (pc := 58) hC dX12_mends_58 (ly_12_26 hL ka0).2.1 (ly_12_26 hL ka0).2.2 i22 e24 ?_
          refine j_dup2 (pc := 59) hC dX12_mends_59 rfl rfl ?_
          obtain ⟨i25, v26, e27, h⟩ := jrd_some h
          refine j_iald (pc := 60) hC dX12_mends_60 (ly_12_33 hL ka0).2.1 (ly_12_33 hL ka0).2.2 i25 e27 ?_
          refine j_iconst (pc := 61) hC (1 : Int32) dX12_mends_61 (by decide) ?_
          refine j_iadd (pc := 62) hC dX12_mends_62 ?_
          obtain ⟨i28, h⟩ := jin_some h
          obtain ⟨m29, e30, h⟩ := jbd_ex h
          refine j_iast (pc := 63) hC dX12_mends_63 (ly_12_33 hL ka0).2.1 (ly_12_33 hL ka0).2.2 i28 e30 ?_
          refine j_iinc (pc := 64) hC 1 (u15 + (1 : Int32)) [(1, .int (u15 + (1 : Int32))), (0, .ref (L.2.2 a0))] dX12_mends_64 rfl rfl (by decide) rfl ?_
          refine j_goto (pc := 67) hC 33 dX12_mends_67 (by decide) ?_
          obtain rfl := Option.some.inj h
          have hk : jJ X G 3 L 0 0 (jQM X G L (some (.int r)) μ' 0 0) 33 [(0, .ref (L.2.2 a0)), (1, .int (u15 + (1 : Int32)))] [] m29 := hk
          exact j_lv [1, 0] rfl hk
    · obtain ⟨m34, rfl⟩ : ∃ y, y = w31 := ⟨_, rfl⟩
      try dsimp only at h
      show jJ X G 3 L 0 0 (jQM X G L (some (.int r)) μ' 0 0) 70 [(0, .ref (L.2.2 a0))] [] m34
      refine j_iconst (pc := 70) hC (-1 : Int32) dX12_mends_70 (by decide) ?_
      refine j_istore_n (pc := 71) hC 1 [(1, .int (-1 : Int32)), (0, .ref (L.2.2 a0))] dX12_mends_71 rfl (by decide) rfl rfl ?_
      refine j_sipush (pc := 72) hC (255 : Int32) dX12_mends_72 (by decide) ?_
      refine j_istore_n (pc := 75) hC 2 [(2, .int (255 : Int32)), (1, .int (-1 : Int32)), (0, .ref (L.2.2 a0))] dX12_mends_75 rfl (by decide) rfl rfl ?_
      obtain ⟨w51, hw52, h⟩ := jcl_some h
      refine j_lv [2, 1, 0] rfl ?_
      refine j_loop (step := (fun (s : Int32 × Int32) => f_X12_mends_L76 a0 m34 s.1 s.2)) (P := (fun (s : Int32 × Int32) => jJ X G 3 L 0 0 (jQM X G L (some (.int r)) μ' 0 0) 76 [(0, .ref (L.2.2 a0)), (1, .int s.1), (2, .int s.2)] [] m34)) (R := (fun (e : Int32) => jJ X G 3 L 0 0 (jQM X G L (some (.int r)) μ' 0 0) 124 [(0, .ref (L.2.2 a0)), (1, .int e)] [] m34)) ?_ jfu (((-1 : Int32), (255 : Int32))) w51 hw52 ?_
      · intro s53 o h hk
        obtain ⟨u35, u36⟩ := s53
        change f_X12_mends_L76 a0 m34 u35 u36 = some o at h
        unfold f_X12_mends_L76 at h
        show jJ X G 3 L 0 0 (jQM X G L (some (.int r)) μ' 0 0) 76 [(0, .ref (L.2.2 a0)), (1, .int u35), (2, .int u36)] [] m34
        refine j_iload_n (pc := 76) hC 2 2 dX12_mends_76 rfl rfl ?_
        refine j_if_lt (pc := 77) hC 124 dX12_mends_77 (by decide) (fun c37 => ?_) (fun c37 => ?_)
        · rw [if_pos c37] at h
          obtain rfl := Option.some.inj h
          have hk : jJ X G 3 L 0 0 (jQM X G L (some (.int r)) μ' 0 0) 124 [(0, .ref (L.2.2 a0)), (1, .int u35)] [] m34 := hk
          exact j_lv [0, 1] rfl hk
        · rw [if_neg c37] at h
          refine j_iload_n (pc := 80) hC 2 2 dX12_mends_80 rfl rfl ?_
          refine j_iconst (pc := 81) hC (1 : Int32) dX12_mends_81 (by decide) ?_
          refine j_aload_n (pc := 82) hC 0 0 dX12_mends_82 rfl rfl ?_
          refine jgr_12 (pc := 83) hC 8 (by decide) rfl kf_X12_60 dX12_mends_83 ka0 (ly_12_8 hL ka0).1 ?_
          refine j_bipush (pc := 86) hC (28 : Int32) dX12_mends_86 (by decide) ?_
          obtain ⟨i38, v39, e40, h⟩ := jrd_some h
          refine j_iald (pc := 88) hC dX12_mends_88 (ly_12_8 hL ka0).2.1 (ly_12_8 hL ka0).2.2 i38 e40 ?_
          refine j_ishl (pc := 89) hC dX12_mends_89 ?_
          refine j_icmp_ge (pc := 90) hC 118 dX12_mends_90 (by decide) (fun c41 => ?_) (fun c41 => ?_)
          · rw [if_pos c41] at h
            refine j_iinc (pc := 118) hC 2 (u36 + (-1 : Int32)) [(2, .int (u36 + (-1 : Int32))), (0, .ref (L.2.2 a0)), (1, .int u35)] dX12_mends_118 rfl rfl (by decide) rfl ?_
            refine j_goto (pc := 121) hC 76 dX12_mends_121 (by decide) ?_
            obtain rfl := Option.some.inj h
            have hk : jJ X G 3 L 0 0 (jQM X G L (some (.int r)) μ' 0 0) 76 [(0, .ref (L.2.2 a0)), (1, .int u35), (2, .int (u36 + (-1 : Int32)))] [] m34 := hk
            exact j_lv [1, 2, 0] rfl hk
          · rw [if_neg c41] at h
            refine j_aload_n (pc := 93) hC 0 0 dX12_mends_93 rfl rfl ?_
            refine j_iload_n (pc := 94) hC 2 2 dX12_mends_94 rfl rfl ?_
            obtain ⟨v42, e43, h⟩ := jcl_some h
            refine j_vi (pc := 95) hC hR [.int u36] iy_X12_without (q := (RX12, TX12, 40)) (ci := 12) rfl rfl (by decide) km_X12_411 dX12_mends_95 rfl (by decide) ka0 (c_X12_without hL ka0 e43) (by decide) (Nat.le_of_ble_eq_true rfl) rfl ?_
            refine j_if_le (pc := 98) hC 118 dX12_mends_98 (by decide) (fun c44 => ?_) (fun c44 => ?_)
            · rw [if_pos c44] at h
              refine j_iinc (pc := 118) hC 2 (u36 + (-1 : Int32)) [(2, .int (u36 + (-1 : Int32))), (0, .ref (L.2.2 a0)), (1, .int u35)] dX12_mends_118 rfl rfl (by decide) rfl ?_
              refine j_goto (pc := 121) hC 76 dX12_mends_121 (by decide) ?_
              obtain rfl := Option.some.inj h
              have hk : jJ X G 3 L 0 0 (jQM X G L (some (.int r)) μ' 0 0) 76 [(0, .ref (L.2.2 a0)), (1, .int u35), (2, .int (u36 + (-1 : Int32)))] [] m34 := hk
              exact j_lv [1, 2, 0] rfl hk
            · rw [if_neg c44] at h
              refine j_iload_n (pc := 101) hC 1 1 dX12_mends_101 rfl rfl ?_
              refine j_if_lt (pc := 102) hC 116 dX12_mends_102 (by decide) (fun c45 => ?_) (fun c45 => ?_)
              · rw [if_pos c45] at h
                refine j_iload_n (pc := 116) hC 2 2 dX12_mends_116 rfl rfl ?_
                refine j_istore_n (pc := 117) hC 1 [(1, .int u36), (0, .ref (L.2.2 a0)), (2, .int u36)] dX12_mends_117 rfl (by decide) rfl rfl ?_
                refine j_iinc (pc := 118) hC 2 (u36 + (-1 : Int32)) [(2, .int (u36 + (-1 : Int32))), (1, .int u36), (0, .ref (L.2.2 a0))] dX12_mends_118 rfl rfl (by decide) rfl ?_
                refine j_goto (pc := 121) hC 76 dX12_mends_121 (by decide) ?_
                obtain rfl := Option.some.inj h
                have hk : jJ X G 3 L 0 0 (jQM X G L (some (.int r)) μ' 0 0) 76 [(0, .ref (L.2.2 a0)), (1, .int u36), (2, .int (u36 + (-1 : Int32)))] [] m34 := hk
                exact j_lv [2, 1, 0] rfl hk
              · rw [if_neg c45] at h
                refine j_iload_n (pc := 105) hC 2 2 dX12_mends_105 rfl rfl ?_
                obtain ⟨v46, e47, h⟩ := jcl_some h
                refine j_si (pc := 106) hC hR [.int u36] iy_X12_bitsOf km_X12_211 dX12_mends_106 rfl (by decide) (c_X12_bitsOf hL  e47) (by decide) (Nat.le_of_ble_eq_true rfl) rfl ?_
                refine j_iload_n (pc := 109) hC 1 1 dX12_mends_109 rfl rfl ?_
                obtain ⟨v48, e49, h⟩ := jcl_some h
                refine j_si (pc := 110) hC hR [.int u35] iy_X12_bitsOf km_X12_211 dX12_mends_110 rfl (by decide) (c_X12_bitsOf hL  e49) (by decide) (Nat.le_of_ble_eq_true rfl) rfl ?_
                refine j_icmp_gt (pc := 113) hC 118 dX12_mends_113 (by decide) (fun c50 => ?_) (fun c50 => ?_)
                · rw [if_pos c50] at h
                  refine j_iinc (pc := 118) hC 2 (u36 + (-1 : Int32)) [(2, .int (u36 + (-1 : Int32))), (0, .ref (L.2.2 a0)), (1, .int u35)] dX12_mends_118 rfl rfl (by decide) rfl ?_
                  refine j_goto (pc := 121) hC 76 dX12_mends_121 (by decide) ?_
                  obtain rfl := Option.some.inj h
                  have hk : jJ X G 3 L 0 0 (jQM X G L (some (.int r)) μ' 0 0) 76 [(0, .ref (L.2.2 a0)), (1, .int u35), (2, .int (u36 + (-1 : Int32)))] [] m34 := hk
                  exact j_lv [1, 2, 0] rfl hk
                · rw [if_neg c50] at h
                  refine j_iload_n (pc := 116) hC 2 2 dX12_mends_116 rfl rfl ?_
                  refine j_istore_n (pc := 117) hC 1 [(1, .int u36), (0, .ref (L.2.2 a0)), (2, .int u36)] dX12_mends_117 rfl (by decide) rfl rfl ?_
                  refine j_iinc (pc := 118) hC 2 (u36 + (-1 : Int32)) [(2, .int (u36 + (-1 : Int32))), (1, .int u36), (0, .ref (L.2.2 a0))] dX12_mends_118 rfl rfl (by decide) rfl ?_
                  refine j_goto (pc := 121) hC 76 dX12_mends_121 (by decide) ?_
                  obtain rfl := Option.some.inj h
                  have hk : jJ X G 3 L 0 0 (jQM X G L (some (.int r)) μ' 0 0) 76 [(0, .ref (L.2.2 a0)), (1, .int u36), (2, .int (u36 + (-1 : Int32)))] [] m34 := hk
                  exact j_lv [2, 1, 0] rfl hk
      · obtain ⟨z54, rfl⟩ : ∃ y, y = w51 := ⟨_, rfl⟩
        try dsimp only at h
        show jJ X G 3 L 0 0 (jQM X G L (some (.int r)) μ' 0 0) 124 [(0, .ref (L.2.2 a0)), (1, .int z54)] [] m34
        refine j_aload_n (pc := 124) hC 0 0 dX12_mends_124 rfl rfl ?_
        refine j_iconst (pc := 125) hC (0 : Int32) dX12_mends_125 (by decide) ?_
        obtain ⟨m55, e56, h⟩ := jbd_ex h
        refine jpi_12 (pc := 126) hC 1 (by decide) rfl kf_X12_11 dX12_mends_126 rfl (by decide) ka0 e56 ?_
        refine j_aload_n (pc := 129) hC 0 0 dX12_mends_129 rfl rfl ?_
        refine j_iload_n (pc := 130) hC 1 1 dX12_mends_130 rfl rfl ?_
        obtain ⟨v57, e58, h⟩ := jcl_some h
        refine j_si (pc := 131) hC hR [.int z54] iy_X12_bitsOf km_X12_211 dX12_mends_131 rfl (by decide) (c_X12_bitsOf hL  e58) (by decide) (Nat.le_of_ble_eq_true rfl) rfl ?_
        refine j_i2l (pc := 134) hC dX12_mends_134 ?_
        obtain ⟨m59, e60, h⟩ := jcl_some h
        refine j_vv (pc := 135) hC hR [.long v57.toInt64] iy_X12_enters (q := (RX12, TX12, 40)) (ci := 12) rfl rfl (by decide) km_X12_146 dX12_mends_135 rfl (by decide) ka0 (c_X12_enters hL ka0 e60) (by decide) (Nat.le_of_ble_eq_true rfl) rfl ?_
        refine j_aload_n (pc := 138) hC 0 0 dX12_mends_138 rfl rfl ?_
        refine j_aload_n (pc := 139) hC 0 0 dX12_mends_139 rfl rfl ?_
        refine j_iload_n (pc := 140) hC 1 1 dX12_mends_140 rfl rfl ?_
        obtain ⟨v61, e62, h⟩ := jcl_some h
        refine j_vi (pc := 141) hC hR [.int z54] iy_X12_without (q := (RX12, TX12, 40)) (ci := 12) rfl rfl (by decide) km_X12_411 dX12_mends_141 rfl (by decide) ka0 (c_X12_without hL ka0 e62) (by decide) (Nat.le_of_ble_eq_true rfl) rfl ?_
        refine j_i2l (pc := 144) hC dX12_mends_144 ?_
        obtain ⟨m63, e64, h⟩ := jcl_some h
        refine j_vv (pc := 145) hC hR [.long v61.toInt64] iy_X12_enters (q := (RX12, TX12, 40)) (ci := 12) rfl rfl (by decide) km_X12_146 dX12_mends_145 rfl (by decide) ka0 (c_X12_enters hL ka0 e64) (by decide) (Nat.le_of_ble_eq_true rfl) rfl ?_
        refine j_iload_n (pc := 148) hC 1 1 dX12_mends_148 rfl rfl ?_
        obtain ⟨rfl, rfl⟩ := Prod.mk.inj (Option.some.inj h)
        exact j_iret (pc := 149) hC dX12_mends_149 rfl
