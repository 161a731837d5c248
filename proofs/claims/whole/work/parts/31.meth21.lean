theorem dX12_shadows_0 : decode cX12_shadows 0 = .ok (.aload_n 0, 1) := by decide +kernel
theorem dX12_shadows_1 : decode cX12_shadows 1 = .ok (.iconst 0, 1) := by decide +kernel
theorem dX12_shadows_2 : decode cX12_shadows 2 = .ok (.putfield 1, 3) := by decide +kernel
theorem dX12_shadows_5 : decode cX12_shadows 5 = .ok (.iload_n 1, 1) := by decide +kernel
theorem dX12_shadows_6 : decode cX12_shadows 6 = .ok (.i2l, 1) := by decide +kernel
theorem dX12_shadows_7 : decode cX12_shadows 7 = .ok (.lconst 1, 1) := by decide +kernel
theorem dX12_shadows_8 : decode cX12_shadows 8 = .ok (.ldc2_w 375, 3) := by decide +kernel
theorem dX12_shadows_11 : decode cX12_shadows 11 = .ok (.invokestatic 21, 3) := by decide +kernel
theorem dX12_shadows_14 : decode cX12_shadows 14 = .ok (.ifCond .eq 11, 3) := by decide +kernel
theorem dX12_shadows_17 : decode cX12_shadows 17 = .ok (.iload_n 1, 1) := by decide +kernel
theorem dX12_shadows_18 : decode cX12_shadows 18 = .ok (.invokestatic 211, 3) := by decide +kernel
theorem dX12_shadows_21 : decode cX12_shadows 21 = .ok (.iconst 3, 1) := by decide +kernel
theorem dX12_shadows_22 : decode cX12_shadows 22 = .ok (.if_icmp .le 5, 3) := by decide +kernel
theorem dX12_shadows_25 : decode cX12_shadows 25 = .ok (.iconst (-1), 1) := by decide +kernel
theorem dX12_shadows_26 : decode cX12_shadows 26 = .ok (.ireturn, 1) := by decide +kernel
theorem dX12_shadows_27 : decode cX12_shadows 27 = .ok (.aload_n 0, 1) := by decide +kernel
theorem dX12_shadows_28 : decode cX12_shadows 28 = .ok (.invokevirtual 369, 3) := by decide +kernel
theorem dX12_shadows_31 : decode cX12_shadows 31 = .ok (.iconst 0, 1) := by decide +kernel
theorem dX12_shadows_32 : decode cX12_shadows 32 = .ok (.istore_n 2, 1) := by decide +kernel
theorem dX12_shadows_33 : decode cX12_shadows 33 = .ok (.iload_n 2, 1) := by decide +kernel
theorem dX12_shadows_34 : decode cX12_shadows 34 = .ok (.sipush 216, 3) := by decide +kernel
theorem dX12_shadows_37 : decode cX12_shadows 37 = .ok (.if_icmp .ge 16, 3) := by decide +kernel
theorem dX12_shadows_40 : decode cX12_shadows 40 = .ok (.aload_n 0, 1) := by decide +kernel
theorem dX12_shadows_41 : decode cX12_shadows 41 = .ok (.getfield 99, 3) := by decide +kernel
theorem dX12_shadows_44 : decode cX12_shadows 44 = .ok (.iload_n 2, 1) := by decide +kernel
theorem dX12_shadows_45 : decode cX12_shadows 45 = .ok (.iconst 0, 1) := by decide +kernel
theorem dX12_shadows_46 : decode cX12_shadows 46 = .ok (.iastore, 1) := by decide +kernel
theorem dX12_shadows_47 : decode cX12_shadows 47 = .ok (.iinc 2 1, 3) := by decide +kernel
theorem dX12_shadows_50 : decode cX12_shadows 50 = .ok (.goto (-17), 3) := by decide +kernel
theorem dX12_shadows_53 : decode cX12_shadows 53 = .ok (.iconst 0, 1) := by decide +kernel
theorem dX12_shadows_54 : decode cX12_shadows 54 = .ok (.istore_n 2, 1) := by decide +kernel
theorem dX12_shadows_55 : decode cX12_shadows 55 = .ok (.iload_n 2, 1) := by decide +kernel
theorem dX12_shadows_56 : decode cX12_shadows 56 = .ok (.sipush 7776, 3) := by decide +kernel
theorem dX12_shadows_59 : decode cX12_shadows 59 = .ok (.if_icmp .ge 77, 3) := by decide +kernel
theorem dX12_shadows_62 : decode cX12_shadows 62 = .ok (.iconst 0, 1) := by decide +kernel
theorem dX12_shadows_63 : decode cX12_shadows 63 = .ok (.istore_n 3, 1) := by decide +kernel
theorem dX12_shadows_64 : decode cX12_shadows 64 = .ok (.iconst 0, 1) := by decide +kernel
theorem dX12_shadows_65 : decode cX12_shadows 65 = .ok (.istore 4, 2) := by decide +kernel
theorem dX12_shadows_67 : decode cX12_shadows 67 = .ok (.iload 4, 2) := by decide +kernel
theorem dX12_shadows_69 : decode cX12_shadows 69 = .ok (.iconst 5, 1) := by decide +kernel
theorem dX12_shadows_70 : decode cX12_shadows 70 = .ok (.if_icmp .ge 34, 3) := by decide +kernel
theorem dX12_shadows_73 : decode cX12_shadows 73 = .ok (.iload_n 1, 1) := by decide +kernel
theorem dX12_shadows_74 : decode cX12_shadows 74 = .ok (.iload 4, 2) := by decide +kernel
theorem dX12_shadows_76 : decode cX12_shadows 76 = .ok (.invokestatic 208, 3) := by decide +kernel
theorem dX12_shadows_79 : decode cX12_shadows 79 = .ok (.ifCond .eq 17, 3) := by decide +kernel
theorem dX12_shadows_82 : decode cX12_shadows 82 = .ok (.bipush 6, 2) := by decide +kernel
theorem dX12_shadows_84 : decode cX12_shadows 84 = .ok (.iload_n 3, 1) := by decide +kernel
theorem dX12_shadows_85 : decode cX12_shadows 85 = .ok (.imul, 1) := by decide +kernel
theorem dX12_shadows_86 : decode cX12_shadows 86 = .ok (.iload_n 2, 1) := by decide +kernel
theorem dX12_shadows_87 : decode cX12_shadows 87 = .ok (.iload 4, 2) := by decide +kernel
theorem dX12_shadows_89 : decode cX12_shadows 89 = .ok (.invokestatic 363, 3) := by decide +kernel
theorem dX12_shadows_92 : decode cX12_shadows 92 = .ok (.iadd, 1) := by decide +kernel
theorem dX12_shadows_93 : decode cX12_shadows 93 = .ok (.goto 4, 3) := by decide +kernel
theorem dX12_shadows_96 : decode cX12_shadows 96 = .ok (.iload_n 3, 1) := by decide +kernel
theorem dX12_shadows_97 : decode cX12_shadows 97 = .ok (.istore_n 3, 1) := by decide +kernel
theorem dX12_shadows_98 : decode cX12_shadows 98 = .ok (.iinc 4 1, 3) := by decide +kernel
theorem dX12_shadows_101 : decode cX12_shadows 101 = .ok (.goto (-34), 3) := by decide +kernel
theorem dX12_shadows_104 : decode cX12_shadows 104 = .ok (.aload_n 0, 1) := by decide +kernel
theorem dX12_shadows_105 : decode cX12_shadows 105 = .ok (.getfield 99, 3) := by decide +kernel
theorem dX12_shadows_108 : decode cX12_shadows 108 = .ok (.iload_n 3, 1) := by decide +kernel
theorem dX12_shadows_109 : decode cX12_shadows 109 = .ok (.dup2, 1) := by decide +kernel
theorem dX12_shadows_110 : decode cX12_shadows 110 = .ok (.iaload, 1) := by decide +kernel
theorem dX12_shadows_111 : decode cX12_shadows 111 = .ok (.aload_n 0, 1) := by decide +kernel
theorem dX12_shadows_112 : decode cX12_shadows 112 = .ok (.getfield 96, 3) := by decide +kernel
theorem dX12_shadows_115 : decode cX12_shadows 115 = .ok (.iload_n 2, 1) := by decide +kernel
theorem dX12_shadows_116 : decode cX12_shadows 116 = .ok (.iaload, 1) := by decide +kernel
theorem dX12_shadows_117 : decode cX12_shadows 117 = .ok (.ifCond .ne 7, 3) := by decide +kernel
theorem dX12_shadows_120 : decode cX12_shadows 120 = .ok (.iconst 1, 1) := by decide +kernel
theorem dX12_shadows_121 : decode cX12_shadows 121 = .ok (.goto 4, 3) := by decide +kernel
theorem dX12_shadows_124 : decode cX12_shadows 124 = .ok (.iconst 0, 1) := by decide +kernel
theorem dX12_shadows_125 : decode cX12_shadows 125 = .ok (.invokestatic 34, 3) := by decide +kernel
theorem dX12_shadows_128 : decode cX12_shadows 128 = .ok (.iadd, 1) := by decide +kernel
theorem dX12_shadows_129 : decode cX12_shadows 129 = .ok (.iastore, 1) := by decide +kernel
theorem dX12_shadows_130 : decode cX12_shadows 130 = .ok (.iinc 2 1, 3) := by decide +kernel
theorem dX12_shadows_133 : decode cX12_shadows 133 = .ok (.goto (-78), 3) := by decide +kernel
theorem dX12_shadows_136 : decode cX12_shadows 136 = .ok (.iconst 0, 1) := by decide +kernel
theorem dX12_shadows_137 : decode cX12_shadows 137 = .ok (.istore_n 2, 1) := by decide +kernel
theorem dX12_shadows_138 : decode cX12_shadows 138 = .ok (.iconst 0, 1) := by decide +kernel
theorem dX12_shadows_139 : decode cX12_shadows 139 = .ok (.istore_n 3, 1) := by decide +kernel
theorem dX12_shadows_140 : decode cX12_shadows 140 = .ok (.iconst 0, 1) := by decide +kernel
theorem dX12_shadows_141 : decode cX12_shadows 141 = .ok (.istore 4, 2) := by decide +kernel
theorem dX12_shadows_143 : decode cX12_shadows 143 = .ok (.iload 4, 2) := by decide +kernel
theorem dX12_shadows_145 : decode cX12_shadows 145 = .ok (.sipush 216, 3) := by decide +kernel
theorem dX12_shadows_148 : decode cX12_shadows 148 = .ok (.if_icmp .ge 53, 3) := by decide +kernel
theorem dX12_shadows_151 : decode cX12_shadows 151 = .ok (.iload_n 2, 1) := by decide +kernel
theorem dX12_shadows_152 : decode cX12_shadows 152 = .ok (.aload_n 0, 1) := by decide +kernel
theorem dX12_shadows_153 : decode cX12_shadows 153 = .ok (.getfield 99, 3) := by decide +kernel
theorem dX12_shadows_156 : decode cX12_shadows 156 = .ok (.iload 4, 2) := by decide +kernel
theorem dX12_shadows_158 : decode cX12_shadows 158 = .ok (.iaload, 1) := by decide +kernel
theorem dX12_shadows_159 : decode cX12_shadows 159 = .ok (.ifCond .le 7, 3) := by decide +kernel
theorem dX12_shadows_162 : decode cX12_shadows 162 = .ok (.iconst 1, 1) := by decide +kernel
theorem dX12_shadows_163 : decode cX12_shadows 163 = .ok (.goto 4, 3) := by decide +kernel
theorem dX12_shadows_166 : decode cX12_shadows 166 = .ok (.iconst 0, 1) := by decide +kernel
theorem dX12_shadows_167 : decode cX12_shadows 167 = .ok (.invokestatic 34, 3) := by decide +kernel
theorem dX12_shadows_170 : decode cX12_shadows 170 = .ok (.iadd, 1) := by decide +kernel
theorem dX12_shadows_171 : decode cX12_shadows 171 = .ok (.istore_n 2, 1) := by decide +kernel
theorem dX12_shadows_172 : decode cX12_shadows 172 = .ok (.aload_n 0, 1) := by decide +kernel
theorem dX12_shadows_173 : decode cX12_shadows 173 = .ok (.getfield 99, 3) := by decide +kernel
theorem dX12_shadows_176 : decode cX12_shadows 176 = .ok (.iload 4, 2) := by decide +kernel
theorem dX12_shadows_178 : decode cX12_shadows 178 = .ok (.iaload, 1) := by decide +kernel
theorem dX12_shadows_179 : decode cX12_shadows 179 = .ok (.aload_n 0, 1) := by decide +kernel
theorem dX12_shadows_180 : decode cX12_shadows 180 = .ok (.getfield 99, 3) := by decide +kernel
theorem dX12_shadows_183 : decode cX12_shadows 183 = .ok (.iload_n 3, 1) := by decide +kernel
theorem dX12_shadows_184 : decode cX12_shadows 184 = .ok (.iaload, 1) := by decide +kernel
theorem dX12_shadows_185 : decode cX12_shadows 185 = .ok (.if_icmp .le 8, 3) := by decide +kernel
theorem dX12_shadows_188 : decode cX12_shadows 188 = .ok (.iload 4, 2) := by decide +kernel
theorem dX12_shadows_190 : decode cX12_shadows 190 = .ok (.goto 4, 3) := by decide +kernel
theorem dX12_shadows_193 : decode cX12_shadows 193 = .ok (.iload_n 3, 1) := by decide +kernel
theorem dX12_shadows_194 : decode cX12_shadows 194 = .ok (.istore_n 3, 1) := by decide +kernel
theorem dX12_shadows_195 : decode cX12_shadows 195 = .ok (.iinc 4 1, 3) := by decide +kernel
theorem dX12_shadows_198 : decode cX12_shadows 198 = .ok (.goto (-55), 3) := by decide +kernel
theorem dX12_shadows_201 : decode cX12_shadows 201 = .ok (.aload_n 0, 1) := by decide +kernel
theorem dX12_shadows_202 : decode cX12_shadows 202 = .ok (.iconst 0, 1) := by decide +kernel
theorem dX12_shadows_203 : decode cX12_shadows 203 = .ok (.putfield 11, 3) := by decide +kernel
theorem dX12_shadows_206 : decode cX12_shadows 206 = .ok (.iload_n 2, 1) := by decide +kernel
theorem dX12_shadows_207 : decode cX12_shadows 207 = .ok (.ifCond .le 66, 3) := by decide +kernel
theorem dX12_shadows_210 : decode cX12_shadows 210 = .ok (.aload_n 0, 1) := by decide +kernel
theorem dX12_shadows_211 : decode cX12_shadows 211 = .ok (.aload_n 0, 1) := by decide +kernel
theorem dX12_shadows_212 : decode cX12_shadows 212 = .ok (.getfield 99, 3) := by decide +kernel
theorem dX12_shadows_215 : decode cX12_shadows 215 = .ok (.iload_n 3, 1) := by decide +kernel
theorem dX12_shadows_216 : decode cX12_shadows 216 = .ok (.iaload, 1) := by decide +kernel
theorem dX12_shadows_217 : decode cX12_shadows 217 = .ok (.i2l, 1) := by decide +kernel
theorem dX12_shadows_218 : decode cX12_shadows 218 = .ok (.invokevirtual 146, 3) := by decide +kernel
theorem dX12_shadows_221 : decode cX12_shadows 221 = .ok (.iload_n 1, 1) := by decide +kernel
theorem dX12_shadows_222 : decode cX12_shadows 222 = .ok (.invokestatic 211, 3) := by decide +kernel
theorem dX12_shadows_225 : decode cX12_shadows 225 = .ok (.iconst 1, 1) := by decide +kernel
theorem dX12_shadows_226 : decode cX12_shadows 226 = .ok (.isub, 1) := by decide +kernel
theorem dX12_shadows_227 : decode cX12_shadows 227 = .ok (.istore 4, 2) := by decide +kernel
theorem dX12_shadows_229 : decode cX12_shadows 229 = .ok (.iload 4, 2) := by decide +kernel
theorem dX12_shadows_231 : decode cX12_shadows 231 = .ok (.ifCond .lt 42, 3) := by decide +kernel
theorem dX12_shadows_234 : decode cX12_shadows 234 = .ok (.aload_n 0, 1) := by decide +kernel
theorem dX12_shadows_235 : decode cX12_shadows 235 = .ok (.iload_n 3, 1) := by decide +kernel
theorem dX12_shadows_236 : decode cX12_shadows 236 = .ok (.iload 4, 2) := by decide +kernel
theorem dX12_shadows_238 : decode cX12_shadows 238 = .ok (.iconst 2, 1) := by decide +kernel
theorem dX12_shadows_239 : decode cX12_shadows 239 = .ok (.if_icmp .ne 8, 3) := by decide +kernel
theorem dX12_shadows_242 : decode cX12_shadows 242 = .ok (.bipush 36, 2) := by decide +kernel
theorem dX12_shadows_244 : decode cX12_shadows 244 = .ok (.goto 15, 3) := by decide +kernel
theorem dX12_shadows_247 : decode cX12_shadows 247 = .ok (.iload 4, 2) := by decide +kernel
theorem dX12_shadows_249 : decode cX12_shadows 249 = .ok (.iconst 1, 1) := by decide +kernel
theorem dX12_shadows_250 : decode cX12_shadows 250 = .ok (.if_icmp .ne 8, 3) := by decide +kernel
theorem dX12_shadows_253 : decode cX12_shadows 253 = .ok (.bipush 6, 2) := by decide +kernel
theorem dX12_shadows_255 : decode cX12_shadows 255 = .ok (.goto 4, 3) := by decide +kernel
theorem dX12_shadows_258 : decode cX12_shadows 258 = .ok (.iconst 1, 1) := by decide +kernel
theorem dX12_shadows_259 : decode cX12_shadows 259 = .ok (.idiv, 1) := by decide +kernel
theorem dX12_shadows_260 : decode cX12_shadows 260 = .ok (.bipush 6, 2) := by decide +kernel
theorem dX12_shadows_262 : decode cX12_shadows 262 = .ok (.irem, 1) := by decide +kernel
theorem dX12_shadows_263 : decode cX12_shadows 263 = .ok (.i2l, 1) := by decide +kernel
theorem dX12_shadows_264 : decode cX12_shadows 264 = .ok (.invokevirtual 146, 3) := by decide +kernel
theorem dX12_shadows_267 : decode cX12_shadows 267 = .ok (.iinc 4 (-1), 3) := by decide +kernel
theorem dX12_shadows_270 : decode cX12_shadows 270 = .ok (.goto (-41), 3) := by decide +kernel
theorem dX12_shadows_273 : decode cX12_shadows 273 = .ok (.iload_n 2, 1) := by decide +kernel
theorem dX12_shadows_274 : decode cX12_shadows 274 = .ok (.ireturn, 1) := by decide +kernel
def f_X12_shadows_L33 (a0 : Nat) (u9 : Int32) (m10 : jM) : Option ((Int32 × jM) ⊕ (jM)) :=
  (if (216 : Int32) ≤ u9 then some (.inr m10) else jin u9 216 (jbd (jsi m10 (a0 + 16) u9.toNatClampNeg (0 : Int32)) (fun m13 => some (.inl ((u9 + (1 : Int32), m13))))))
def f_X12_shadows_L67 (x1 : Int32) (u19 : Int32) (u22 : Int32) (u23 : Int32) : Option ((Int32 × Int32) ⊕ (Int32)) :=
  (if (5 : Int32) ≤ u23 then some (.inr u22) else (if (f_X12_has x1 u23) = (0 : Int32) then some (.inl ((u22, u23 + (1 : Int32)))) else jcl (f_X12_valueOf u19 u23) (fun v26 => jbd (((6 : Int32) * u22) + v26 : Int32) (fun v28 => some (.inl ((v28, u23 + (1 : Int32))))))))
def f_X12_shadows_L55 (a0 : Nat) (x1 : Int32) (u19 : Int32) (m20 : jM) : Option ((Int32 × jM) ⊕ (jM)) :=
  (if (7776 : Int32) ≤ u19 then some (.inr m20) else jcl (jloop (fun (s : Int32 × Int32) => f_X12_shadows_L67 x1 u19 s.1 s.2) jfu (((0 : Int32), (0 : Int32)))) (fun w30 => jrd (m20.1 (a0 + 16)) w30 216 (fun v35 => jrd (m20.1 (a0 + 15)) u19 7776 (fun v38 => jin w30 216 (jbd (jsi m20 (a0 + 16) w30.toNatClampNeg (v35 + (f_X12_flag ((if v38 = (0 : Int32) then (1 : Int32) else (0 : Int32)))))) (fun m42 => some (.inl ((u19 + (1 : Int32), m42)))))))))
def f_X12_shadows_L143 (a0 : Nat) (m47 : jM) (u48 : Int32) (u49 : Int32) (u50 : Int32) : Option ((Int32 × Int32 × Int32) ⊕ (Int32 × Int32)) :=
  (if (216 : Int32) ≤ u50 then some (.inr ((u48, u49))) else jrd (m47.1 (a0 + 16)) u50 216 (fun v53 => jbd (u48 + (f_X12_flag ((if v53 ≤ (0 : Int32) then (0 : Int32) else (1 : Int32)))) : Int32) (fun v56 => jrd (m47.1 (a0 + 16)) u50 216 (fun v59 => jrd (m47.1 (a0 + 16)) u49 216 (fun v62 => jbd ((if v59 ≤ v62 then u49 else u50) : Int32) (fun v65 => some (.inl ((v56, v65, u50 + (1 : Int32))))))))))
def f_X12_shadows_L229 (a0 : Nat) (z71 : Int32) (u82 : Int32) (m83 : jM) : Option ((Int32 × jM) ⊕ (jM)) :=
  (if u82 < (0 : Int32) then some (.inr m83) else jbd (fun (t85 : Int32) => jnz t85 (jcl (f_X12_enters a0 (((z71 / t85) - (z71 / t85) / (6 : Int32) * (6 : Int32)).toInt64) m83) (fun m90 => some (.inl ((u82 + (-1 : Int32), m90)))))) (fun k86 => (if u82 = (2 : Int32) then k86 (36 : Int32) else (if u82 = (1 : Int32) then k86 (6 : Int32) else k86 (1 : Int32)))))
def f_X12_shadows (a0 : Nat) (x1 : Int32) (μ : jM) : Option (Int32 × jM) :=
  jbd (jsi μ a0 0 (0 : Int32)) (fun m1 => (if (f_X12_in x1.toInt64 (1 : Int64) (31 : Int64)) = (0 : Int32) then some (((-1 : Int32), m1)) else jcl (f_X12_bitsOf x1) (fun v4 => (if v4 ≤ (3 : Int32) then jcl (f_X12_tries a0 m1) (fun m7 => jcl (jloop (fun (s : Int32 × jM) => f_X12_shadows_L33 a0 s.1 s.2) jfu (((0 : Int32), m7))) (fun w15 => jcl (jloop (fun (s : Int32 × jM) => f_X12_shadows_L55 a0 x1 s.1 s.2) jfu (((0 : Int32), w15))) (fun w44 => jcl (jloop (fun (s : Int32 × Int32 × Int32) => f_X12_shadows_L143 a0 w44 s.1 s.2.1 s.2.2) jfu (((0 : Int32), (0 : Int32), (0 : Int32)))) (fun w67 => jbd (jsi w44 a0 1 (0 : Int32)) (fun m72 => (if w67.1 ≤ (0 : Int32) then some ((w67.1, m72)) else jrd (m72.1 (a0 + 16)) w67.2 216 (fun v76 => jcl (f_X12_enters a0 v76.toInt64 m72) (fun m78 => jcl (f_X12_bitsOf x1) (fun v80 => jcl (jloop (fun (s : Int32 × jM) => f_X12_shadows_L229 a0 w67.2 s.1 s.2) jfu ((v80 - (1 : Int32), m78))) (fun w94 => some ((w67.1, w94)))))))))))) else some (((-1 : Int32), m1))))))
set_option maxHeartbeats 4000000 in
set_option maxRecDepth 100000 in
theorem c_X12_shadows {l : Launch} {G : jG} {L : jL} (hL : jOKL L) {a0 : Nat} {x1 : Int32} (ka0 : jK L a0 12) {μ μ' : jM} {r : Int32} (h : f_X12_shadows a0 x1 μ = some ((r, μ'))) : jCt l G L 6 yX12_shadows cX12_shadows 5 (some .int) [.ref (L.2.2 a0), .int x1] μ (some (.int r)) μ' := by
  refine jCt_of (by decide) (Nat.le_of_ble_eq_true rfl) (fun X hC hX hR => ?_)
  subst hX
  have hC : jC X G cX12_shadows 5 RX12 (some .int) := hC
  unfold f_X12_shadows at h
  show jJ X G 5 L 0 0 (jQM X G L (some (.int r)) μ' 0 0) 0 [(0, .ref (L.2.2 a0)), (1, .int x1)] [] μ
  refine j_aload_n (pc := 0) hC 0 0 dX12_shadows_0 rfl rfl ?_
  refine j_iconst (pc := 1) hC (0 : Int32) dX12_shadows_1 (by decide) ?_
  obtain ⟨m1, e2, h⟩ := jbd_ex h
  refine jpi_12 (pc := 2) hC 0 (by decide) rfl kf_X12_1 dX12_shadows_2 rfl (by decide) ka0 e2 ?_
  refine j_iload_n (pc := 5) hC 1 1 dX12_shadows_5 rfl rfl ?_
  refine j_i2l (pc := 6) hC dX12_shadows_6 ?_
  refine j_lconst (pc := 7) hC (1 : Int64) dX12_shadows_7 (by decide) ?_
  refine j_ldc2 (pc := 8) hC dX12_shadows_8 kl_X12_375 ?_
  refine j_si (pc := 11) hC hR [.long x1.toInt64, .long (1 : Int64), .long (31 : Int64)] iy_X12_in km_X12_21 dX12_shadows_11 rfl (by decide) (c_X12_in hL  rfl) (by decide) (Nat.le_of_ble_eq_true rfl) rfl ?_
  refine j_if_eq (pc := 14) hC 25 dX12_shadows_14 (by decide) (fun c3 => ?_) (fun c3 => ?_)
  · rw [if_pos c3] at h
    refine j_iconst (pc := 25) hC (-1 : Int32) dX12_shadows_25 (by decide) ?_
    obtain ⟨rfl, rfl⟩ := Prod.mk.inj (Option.some.inj h)
    exact j_iret (pc := 26) hC dX12_shadows_26 rfl
  · rw [if_neg c3] at h
    refine j_iload_n (pc := 17) hC 1 1 dX12_shadows_17 rfl rfl ?_
    obtain ⟨v4, e5, h⟩ := jcl_some h
    refine j_si (pc := 18) hC hR [.int x1] iy_X12_bitsOf km_X12_211 dX12_shadows_18 rfl (by decide) (c_X12_bitsOf hL  e5) (by decide) (Nat.le_of_ble_eq_true rfl) rfl ?_
    refine j_iconst (pc := 21) hC (3 : Int32) dX12_shadows_21 (by decide) ?_
    refine j_icmp_le (pc := 22) hC 27 dX12_shadows_22 (by decide) (fun c6 => ?_) (fun c6 => ?_)
    · rw [if_pos c6] at h
      refine j_aload_n (pc := 27) hC 0 0 dX12_shadows_27 rfl rfl ?_
      obtain ⟨m7, e8, h⟩ := jcl_some h
      refine j_vv (pc := 28) hC hR [] iy_X12_tries (q := (RX12, TX12, 40)) (ci := 12) rfl rfl (by decide) km_X12_369 dX12_shadows_28 rfl (by decide) ka0 (c_X12_tries hL ka0 e8) (by decide) (Nat.le_of_ble_eq_true rfl) rfl ?_
      refine j_iconst (pc := 31) hC (0 : Int32) dX12_shadows_31 (by decide) ?_
      refine j_istore_n (pc := 32) hC 2 [(2, .int (0 : Int32)), (0, .ref (L.2.2 a0)), (1, .int x1)] dX12_shadows_32 rfl (by decide) rfl rfl ?_
      obtain ⟨w15, hw16, h⟩ := jcl_some h
      refine j_lv [1, 2, 0] rfl ?_
      refine j_loop (step := (fun (s : Int32 × jM) => f_X12_shadows_L33 a0 s.1 s.2)) (P := (fun (s : Int32 × jM) => jJ X G 5 L 0 0 (jQM X G L (some (.int r)) μ' 0 0) 33 [(0, .ref (L.2.2 a0)), (1, .int x1), (2, .int s.1)] [] s.2)) (R := (fun (e : jM) => jJ X G 5 L 0 0 (jQM X G L (some (.int r)) μ' 0 0) 53 [(0, .ref (L.2.2 a0)), (1, .int x1)] [] e)) ?_ jfu (((0 : Int32), m7)) w15 hw16 ?_
      · intro s17 o h hk
        obtain ⟨u9, m10⟩ := s17
        change f_X12_shadows_L33 a0 u9 m10 = some o at h
        unfold f_X12_shadows_L33 at h
        show jJ X G 5 L 0 0 (jQM X G L (some (.int r)) μ' 0 0) 33 [(0, .ref (L.2.2 a0)), (1, .int x1), (2, .int u9)] [] m10
        refine j_iload_n (pc := 33) hC 2 2 dX12_shadows_33 rfl rfl ?_
        refine j_sipush (pc := 34) hC (216 : Int32) dX12_shadows_34 (by decide) ?_
        refine j_icmp_ge (pc := 37) hC 53 dX12_shadows_37 (by decide) (fun c11 => ?_) (fun c11 => ?_)
        · rw [if_pos c11] at h
          obtain rfl := Option.some.inj h
          have hk : jJ X G 5 L 0 0 (jQM X G L (some (.int r)) μ' 0 0) 53 [(0, .ref (L.2.2 a0)), (1, .int x1)] [] m10 := hk
          exact j_lv [0, 1] rfl hk
        · rw [if_neg c11] at h
          refine j_aload_n (pc := 40) hC 0 0 dX12_shadows_40 rfl rfl ?_
          refine jgr_12 (pc := 41) hC 27 (by decide) rfl kf_X12_99 dX12_shadows_41 ka0 (ly_12_27 hL ka0).1 ?_
          refine j_iload_n (pc := 44) hC 2 2 dX12_shadows_44 rfl rfl ?_
          refine j_iconst (pc := 45) hC (0 : Int32) dX12_shadows_45 (by decide) ?_
          obtain ⟨i12, h⟩ := jin_some h
          obtain ⟨m13, e14, h⟩ := jbd_ex h
          refine j_iast (pc := 46) hC dX12_shadows_46 (ly_12_27 hL ka0).2.1 (ly_12_27 hL ka0).2.2 i12 e14 ?_
          refine j_iinc (pc := 47) hC 2 (u9 + (1 : Int32)) [(2, .int (u9 + (1 : Int32))), (0, .ref (L.2.2 a0)), (1, .int x1)] dX12_shadows_47 rfl rfl (by decide) rfl ?_
          refine j_goto (pc := 50) hC 33 dX12_shadows_50 (by decide) ?_
          obtain rfl := Option.some.inj h
          have hk : jJ X G 5 L 0 0 (jQM X G L (some (.int r)) μ' 0 0) 33 [(0, .ref (L.2.2 a0)), (1, .int x1), (2, .int (u9 + (1 : Int32)))] [] m13 := hk
          exact j_lv [1, 2, 0] rfl hk
      · obtain ⟨m18, rfl⟩ : ∃ y, y = w15 := ⟨_, rfl⟩
        try dsimp only at h
        show jJ X G 5 L 0 0 (jQM X G L (some (.int r)) μ' 0 0) 53 [(0, .ref (L.2.2 a0)), (1, .int x1)] [] m18
        refine j_iconst (pc := 53) hC (0 : Int32) dX12_shadows_53 (by decide) ?_
        refine j_istore_n (pc := 54) hC 2 [(2, .int (0 : Int32)), (0, .ref (L.2.2 a0)), (1, .int x1)] dX12_shadows_54 rfl (by decide) rfl rfl ?_
        obtain ⟨w44, hw45, h⟩ := jcl_some h
        refine j_lv [1, 2, 0] rfl ?_
        refine j_loop (step := (fun (s : Int32 × jM) => f_X12_shadows_L55 a0 x1 s.1 s.2)) (P := (fun (s : Int32 × jM) => jJ X G 5 L 0 0 (jQM X G L (some (.int r)) μ' 0 0) 55 [(0, .ref (L.2.2 a0)), (1, .int x1), (2, .int s.1)] [] s.2)) (R := (fun (e : jM) => jJ X G 5 L 0 0 (jQM X G L (some (.int r)) μ' 0 0) 136 [(0, .ref (L.2.2 a0)), (1, .int x1)] [] e)) ?_ jfu (((0 : Int32), m18)) w44 hw45 ?_
        · intro s46 o h hk
          obtain ⟨u19, m20⟩ := s46
          change f_X12_shadows_L55 a0 x1 u19 m20 = some o at h
          unfold f_X12_shadows_L55 at h
          show jJ X G 5 L 0 0 (jQM X G L (some (.int r)) μ' 0 0) 55 [(0, .ref (L.2.2 a0)), (1, .int x1), (2, .int u19)] [] m20
          refine j_iload_n (pc := 55) hC 2 2 dX12_shadows_55 rfl rfl ?_
          refine j_sipush (pc := 56) hC (7776 : Int32) dX12_shadows_56 (by decide) ?_
          refine j_icmp_ge (pc := 59) hC 136 dX12_shadows_59 (by decide) (fun c21 => ?_) (fun c21 => ?_)
          · rw [if_pos c21] at h
            obtain rfl := Option.some.inj h
            have hk : jJ X G 5 L 0 0 (jQM X G L (some (.int r)) μ' 0 0) 136 [(0, .ref (L.2.2 a0)), (1, .int x1)] [] m20 := hk
            exact j_lv [0, 1] rfl hk
          · rw [if_neg c21] at h
            refine j_iconst (pc := 62) hC (0 : Int32) dX12_shadows_62 (by decide) ?_
            refine j_istore_n (pc := 63) hC 3 [(3, .int (0 : Int32)), (0, .ref (L.2.2 a0)), (1, .int x1), (2, .int u19)] dX12_shadows_63 rfl (by decide) rfl rfl ?_
            refine j_iconst (pc := 64) hC (0 : Int32) dX12_shadows_64 (by decide) ?_
            refine j_istore (pc := 65) hC [(4, .int (0 : Int32)), (3, .int (0 : Int32)), (0, .ref (L.2.2 a0)), (1, .int x1), (2, .int u19)] dX12_shadows_65 (by decide) rfl rfl ?_
            obtain ⟨w30, hw31, h⟩ := jcl_some h
            refine j_lv [2, 3, 4, 1, 0] rfl ?_
            refine j_loop (step := (fun (s : Int32 × Int32) => f_X12_shadows_L67 x1 u19 s.1 s.2)) (P := (fun (s : Int32 × Int32) => jJ X G 5 L 0 0 (jQM X G L (some (.int r)) μ' 0 0) 67 [(0, .ref (L.2.2 a0)), (1, .int x1), (2, .int u19), (3, .int s.1), (4, .int s.2)] [] m20)) (R := (fun (e : Int32) => jJ X G 5 L 0 0 (jQM X G L (some (.int r)) μ' 0 0) 104 [(0, .ref (L.2.2 a0)), (1, .int x1), (2, .int u19), (3, .int e)] [] m20)) ?_ jfu (((0 : Int32), (0 : Int32))) w30 hw31 ?_
            · intro s32 o h hk
              obtain ⟨u22, u23⟩ := s32
              change f_X12_shadows_L67 x1 u19 u22 u23 = some o at h
              unfold f_X12_shadows_L67 at h
              show jJ X G 5 L 0 0 (jQM X G L (some (.int r)) μ' 0 0) 67 [(0, .ref (L.2.2 a0)), (1, .int x1), (2, .int u19), (3, .int u22), (4, .int u23)] [] m20
              refine j_iload (pc := 67) hC 4 dX12_shadows_67 rfl ?_
              refine j_iconst (pc := 69) hC (5 : Int32) dX12_shadows_69 (by decide) ?_
              refine j_icmp_ge (pc := 70) hC 104 dX12_shadows_70 (by decide) (fun c24 => ?_) (fun c24 => ?_)
              · rw [if_pos c24] at h
                obtain rfl := Option.some.inj h
                have hk : jJ X G 5 L 0 0 (jQM X G L (some (.int r)) μ' 0 0) 104 [(0, .ref (L.2.2 a0)), (1, .int x1), (2, .int u19), (3, .int u22)] [] m20 := hk
                exact j_lv [0, 1, 2, 3] rfl hk
              · rw [if_neg c24] at h
                refine j_iload_n (pc := 73) hC 1 1 dX12_shadows_73 rfl rfl ?_
                refine j_iload (pc := 74) hC 4 dX12_shadows_74 rfl ?_
                refine j_si (pc := 76) hC hR [.int x1, .int u23] iy_X12_has km_X12_208 dX12_shadows_76 rfl (by decide) (c_X12_has hL  rfl) (by decide) (Nat.le_of_ble_eq_true rfl) rfl ?_
                refine j_if_eq (pc := 79) hC 96 dX12_shadows_79 (by decide) (fun c25 => ?_) (fun c25 => ?_)
                · rw [if_pos c25] at h
                  refine j_iload_n (pc := 96) hC 3 3 dX12_shadows_96 rfl rfl ?_
                  refine j_istore_n (pc := 97) hC 3 [(3, .int u22), (0, .ref (L.2.2 a0)), (1, .int x1), (2, .int u19), (4, .int u23)] dX12_shadows_97 rfl (by decide) rfl rfl ?_
                  refine j_iinc (pc := 98) hC 4 (u23 + (1 : Int32)) [(4, .int (u23 + (1 : Int32))), (3, .int u22), (0, .ref (L.2.2 a0)), (1, .int x1), (2, .int u19)] dX12_shadows_98 rfl rfl (by decide) rfl ?_
                  refine j_goto (pc := 101) hC 67 dX12_shadows_101 (by decide) ?_
                  obtain rfl := Option.some.inj h
                  have hk : jJ X G 5 L 0 0 (jQM X G L (some (.int r)) μ' 0 0) 67 [(0, .ref (L.2.2 a0)), (1, .int x1), (2, .int u19), (3, .int u22), (4, .int (u23 + (1 : Int32)))] [] m20 := hk
                  exact j_lv [2, 3, 4, 1, 0] rfl hk
                · rw [if_neg c25] at h
                  refine j_bipush (pc := 82) hC (6 : Int32) dX12_shadows_82 (by decide) ?_
                  refine j_iload_n (pc := 84) hC 3 3 dX12_shadows_84 rfl rfl ?_
                  refine j_imul (pc := 85) hC dX12_shadows_85 ?_
                  refine j_iload_n (pc := 86) hC 2 2 dX12_shadows_86 rfl rfl ?_
                  refine j_iload (pc := 87) hC 4 dX12_shadows_87 rfl ?_
                  obtain ⟨v26, e27, h⟩ := jcl_some h
                  refine j_si (pc := 89) hC hR [.int u19, .int u23] iy_X12_valueOf km_X12_363 dX12_shadows_89 rfl (by decide) (c_X12_valueOf hL  e27) (by decide) (Nat.le_of_ble_eq_true rfl) rfl ?_
                  refine j_iadd (pc := 92) hC dX12_shadows_92 ?_
                  refine j_goto (pc := 93) hC 97 dX12_shadows_93 (by decide) ?_
                  obtain ⟨v28, e29, h⟩ := jbd_ex h
                  refine j_istore_n (pc := 97) hC 3 [(3, .int v28), (0, .ref (L.2.2 a0)), (1, .int x1), (2, .int u19), (4, .int u23)] dX12_shadows_97 rfl (by decide) e29 rfl ?_
                  refine j_iinc (pc := 98) hC 4 (u23 + (1 : Int32)) [(4, .int (u23 + (1 : Int32))), (3, .int v28), (0, .ref (L.2.2 a0)), (1, .int x1), (2, .int u19)] dX12_shadows_98 rfl rfl (by decide) rfl ?_
                  refine j_goto (pc := 101) hC 67 dX12_shadows_101 (by decide) ?_
                  obtain rfl := Option.some.inj h
                  have hk : jJ X G 5 L 0 0 (jQM X G L (some (.int r)) μ' 0 0) 67 [(0, .ref (L.2.2 a0)), (1, .int x1), (2, .int u19), (3, .int v28), (4, .int (u23 + (1 : Int32)))] [] m20 := hk
                  exact j_lv [2, 3, 4, 1, 0] rfl hk
            · obtain ⟨z33, rfl⟩ : ∃ y, y = w30 := ⟨_, rfl⟩
              try dsimp only at h
              show jJ X G 5 L 0 0 (jQM X G L (some (.int r)) μ' 0 0) 104 [(0, .ref (L.2.2 a0)), (1, .int x1), (2, .int u19), (3, .int z33)] [] m20
              refine j_aload_n (pc := 104) hC 0 0 dX12_shadows_104 rfl rfl ?_
              refine jgr_12 (pc := 105) hC 27 (by decide) rfl kf_X12_99 dX12_shadows_105 ka0 (ly_12_27 hL ka0).1 ?_
              refine j_iload_n (pc := 108) hC 3 3 dX12_shadows_108 rfl rfl ?_
              refine j_dup2 (pc := 109) hC dX12_shadows_109 rfl rfl ?_
              obtain ⟨i34, v35, e36, h⟩ := jrd_some h
              refine j_iald (pc := 110) hC dX12_shadows_110 (ly_12_27 hL ka0).2.1 (ly_12_27 hL ka0).2.2 i34 e36 ?_
              refine j_aload_n (pc := 111) hC 0 0 dX12_shadows_111 rfl rfl ?_
              refine jgr_12 (pc := 112) hC 26 (by decide) rfl kf_X12_96 dX12_shadows_112 ka0 (ly_12_26 hL ka0).1 ?_
              refine j_iload_n (pc := 115) hC 2 2 dX12_shadows_115 rfl rfl ?_
              obtain ⟨i37, v38, e39, h⟩ := jrd_some h
              refine j_iald (pc := 116) hC dX12_shadows_116 (ly_12_26 hL ka0).2.1 (ly_12_26 hL ka0).2.2 i37 e39 ?_
              refine jmg (B := jJ X G 5 L 0 0 (jQM X G L (some (.int r)) μ' 0 0) 125 [(0, .ref (L.2.2 a0)), (1, .int x1), (2, .int u19), (3, .int z33)] [.int ((if v38 = (0 : Int32) then (1 : Int32) else (0 : Int32))), .int v35, .int z33, .ref (L.2.2 (a0 + 16))] m20) (fun hj => ?_) ?_
              · refine j_if_ne (pc := 117) hC 124 dX12_shadows_117 (by decide) (fun c40 => ?_) (fun c40 => ?_)
                · rw [if_neg c40] at hj
                  refine j_iconst (pc := 124) hC (0 : Int32) dX12_shadows_124 (by decide) ?_
                  exact hj
                · rw [if_pos c40] at hj
                  refine j_iconst (pc := 120) hC (1 : Int32) dX12_shadows_120 (by decide) ?_
                  refine j_goto (pc := 121) hC 125 dX12_shadows_121 (by decide) ?_
                  exact hj
              refine j_si (pc := 125) hC hR [.int ((if v38 = (0 : Int32) then (1 : Int32) else (0 : Int32)))] iy_X12_flag km_X12_34 dX12_shadows_125 rfl (by decide) (c_X12_flag hL  rfl) (by decide) (Nat.le_of_ble_eq_true rfl) rfl ?_
              refine j_iadd (pc := 128) hC dX12_shadows_128 ?_
              obtain ⟨i41, h⟩ := jin_some h
              obtain ⟨m42, e43, h⟩ := jbd_ex h
              refine j_iast (pc := 129) hC dX12_shadows_129 (ly_12_27 hL ka0).2.1 (ly_12_27 hL ka0).2.2 i41 e43 ?_
              refine j_iinc (pc := 130) hC 2 (u19 + (1 : Int32)) [(2, .int (u19 + (1 : Int32))), (0, .ref (L.2.2 a0)), (1, .int x1), (3, .int z33)] dX12_shadows_130 rfl rfl (by decide) rfl ?_
              refine j_goto (pc := 133) hC 55 dX12_shadows_133 (by decide) ?_
              obtain rfl := Option.some.inj h
              have hk : jJ X G 5 L 0 0 (jQM X G L (some (.int r)) μ' 0 0) 55 [(0, .ref (L.2.2 a0)), (1, .int x1), (2, .int (u19 + (1 : Int32)))] [] m42 := hk
              exact j_lv [1, 2, 0] rfl hk
        · obtain ⟨m47, rfl⟩ : ∃ y, y = w44 := ⟨_, rfl⟩
          try dsimp only at h
          show jJ X G 5 L 0 0 (jQM X G L (some (.int r)) μ' 0 0) 136 [(0, .ref (L.2.2 a0)), (1, .int x1)] [] m47
          refine j_iconst (pc := 136) hC (0 : Int32) dX12_shadows_136 (by decide) ?_
          refine j_istore_n (pc := 137) hC 2 [(2, .int (0 : Int32)), (0, .ref (L.2.2 a0)), (1, .int x1)] dX12_shadows_137 rfl (by decide) rfl rfl ?_
          refine j_iconst (pc := 138) hC (0 : Int32) dX12_shadows_138 (by decide) ?_
          refine j_istore_n (pc := 139) hC 3 [(3, .int (0 : Int32)), (2, .int (0 : Int32)), (0, .ref (L.2.2 a0)), (1, .int x1)] dX12_shadows_139 rfl (by decide) rfl rfl ?_
          refine j_iconst (pc := 140) hC (0 : Int32) dX12_shadows_140 (by decide) ?_
          refine j_istore (pc := 141) hC [(4, .int (0 : Int32)), (3, .int (0 : Int32)), (2, .int (0 : Int32)), (0, .ref (L.2.2 a0)), (1, .int x1)] dX12_shadows_141 (by decide) rfl rfl ?_
          obtain ⟨w67, hw68, h⟩ := jcl_some h
          refine j_lv [3, 4, 2, 1, 0] rfl ?_
          refine j_loop (step := (fun (s : Int32 × Int32 × Int32) => f_X12_shadows_L143 a0 m47 s.1 s.2.1 s.2.2)) (P := (fun (s : Int32 × Int32 × Int32) => jJ X G 5 L 0 0 (jQM X G L (some (.int r)) μ' 0 0) 143 [(0, .ref (L.2.2 a0)), (1, .int x1), (2, .int s.1), (3, .int s.2.1), (4, .int s.2.2)] [] m47)) (R := (fun (e : Int32 × Int32) => jJ X G 5 L 0 0 (jQM X G L (some (.int r)) μ' 0 0) 201 [(0, .ref (L.2.2 a0)), (1, .int x1), (2, .int e.1), (3, .int e.2)] [] m47)) ?_ jfu (((0 : Int32), (0 : Int32), (0 : Int32))) w67 hw68 ?_
          · intro s69 o h hk
            obtain ⟨u48, u49, u50⟩ := s69
            change f_X12_shadows_L143 a0 m47 u48 u49 u50 = some o at h
            unfold f_X12_shadows_L143 at h
            show jJ X G 5 L 0 0 (jQM X G L (some (.int r)) μ' 0 0) 143 [(0, .ref (L.2.2 a0)), (1, .int x1), (2, .int u48), (3, .int u49), (4, .int u50)] [] m47
            refine j_iload (pc := 143) hC 4 dX12_shadows_143 rfl ?_
            refine j_sipush (pc := 145) hC (216 : Int32) dX12_shadows_145 (by decide) ?_
            refine j_icmp_ge (pc := 148) hC 201 dX12_shadows_148 (by decide) (fun c51 => ?_) (fun c51 => ?_)
            · rw [if_pos c51] at h
              obtain rfl := Option.some.inj h
              have hk : jJ X G 5 L 0 0 (jQM X G L (some (.int r)) μ' 0 0) 201 [(0, .ref (L.2.2 a0)), (1, .int x1), (2, .int u48), (3, .int u49)] [] m47 := hk
              exact j_lv [0, 1, 2, 3] rfl hk
            · rw [if_neg c51] at h
              refine j_iload_n (pc := 151) hC 2 2 dX12_shadows_151 rfl rfl ?_
              refine j_aload_n (pc := 152) hC 0 0 dX12_shadows_152 rfl rfl ?_
              refine jgr_12 (pc := 153) hC 27 (by decide) rfl kf_X12_99 dX12_shadows_153 ka0 (ly_12_27 hL ka0).1 ?_
              refine j_iload (pc := 156) hC 4 dX12_shadows_156 rfl ?_
              obtain ⟨i52, v53, e54, h⟩ := jrd_some h
              refine j_iald (pc := 158) hC dX12_shadows_158 (ly_12_27 hL ka0).2.1 (ly_12_27 hL ka0).2.2 i52 e54 ?_
              refine jmg (B := jJ X G 5 L 0 0 (jQM X G L (some (.int r)) μ' 0 0) 167 [(0, .ref (L.2.2 a0)), (1, .int x1), (2, .int u48), (3, .int u49), (4, .int u50)] [.int ((if v53 ≤ (0 : Int32) then (0 : Int32) else (1 : Int32))), .int u48] m47) (fun hj => ?_) ?_
              · refine j_if_le (pc := 159) hC 166 dX12_shadows_159 (by decide) (fun c55 => ?_) (fun c55 => ?_)
                · rw [if_pos c55] at hj
                  refine j_iconst (pc := 166) hC (0 : Int32) dX12_shadows_166 (by decide) ?_
                  exact hj
                · rw [if_neg c55] at hj
                  refine j_iconst (pc := 162) hC (1 : Int32) dX12_shadows_162 (by decide) ?_
                  refine j_goto (pc := 163) hC 167 dX12_shadows_163 (by decide) ?_
                  exact hj
              refine j_si (pc := 167) hC hR [.int ((if v53 ≤ (0 : Int32) then (0 : Int32) else (1 : Int32)))] iy_X12_flag km_X12_34 dX12_shadows_167 rfl (by decide) (c_X12_flag hL  rfl) (by decide) (Nat.le_of_ble_eq_true rfl) rfl ?_
              refine j_iadd (pc := 170) hC dX12_shadows_170 ?_
              obtain ⟨v56, e57, h⟩ := jbd_ex h
              refine j_istore_n (pc := 171) hC 2 [(2, .int v56), (0, .ref (L.2.2 a0)), (1, .int x1), (3, .int u49), (4, .int u50)] dX12_shadows_171 rfl (by decide) e57 rfl ?_
              refine j_aload_n (pc := 172) hC 0 1 dX12_shadows_172 rfl rfl ?_
              refine jgr_12 (pc := 173) hC 27 (by decide) rfl kf_X12_99 dX12_shadows_173 ka0 (ly_12_27 hL ka0).1 ?_
              refine j_iload (pc := 176) hC 4 dX12_shadows_176 rfl ?_
              obtain ⟨i58, v59, e60, h⟩ := jrd_some h
              refine j_iald (pc := 178) hC dX12_shadows_178 (ly_12_27 hL ka0).2.1 (ly_12_27 hL ka0).2.2 i58 e60 ?_
              refine j_aload_n (pc := 179) hC 0 1 dX12_shadows_179 rfl rfl ?_
              refine jgr_12 (pc := 180) hC 27 (by decide) rfl kf_X12_99 dX12_shadows_180 ka0 (ly_12_27 hL ka0).1 ?_
              refine j_iload_n (pc := 183) hC 3 3 dX12_shadows_183 rfl rfl ?_
              obtain ⟨i61, v62, e63, h⟩ := jrd_some h
              refine j_iald (pc := 184) hC dX12_shadows_184 (ly_12_27 hL ka0).2.1 (ly_12_27 hL ka0).2.2 i61 e63 ?_
              refine jmg (B := jJ X G 5 L 0 0 (jQM X G L (some (.int r)) μ' 0 0) 194 [(2, .int v56), (0, .ref (L.2.2 a0)), (1, .int x1), (3, .int u49), (4, .int u50)] [.int ((if v59 ≤ v62 then u49 else u50))] m47) (fun hj => ?_) ?_
              · refine j_icmp_le (pc := 185) hC 193 dX12_shadows_185 (by decide) (fun c64 => ?_) (fun c64 => ?_)
                · rw [if_pos c64] at hj
                  refine j_iload_n (pc := 193) hC 3 3 dX12_shadows_193 rfl rfl ?_
                  exact hj
                · rw [if_neg c64] at hj
                  refine j_iload (pc := 188) hC 4 dX12_shadows_188 rfl ?_
                  refine j_goto (pc := 190) hC 194 dX12_shadows_190 (by decide) ?_
                  exact hj
              obtain ⟨v65, e66, h⟩ := jbd_ex h
              refine j_istore_n (pc := 194) hC 3 [(3, .int v65), (2, .int v56), (0, .ref (L.2.2 a0)), (1, .int x1), (4, .int u50)] dX12_shadows_194 rfl (by decide) e66 rfl ?_
              refine j_iinc (pc := 195) hC 4 (u50 + (1 : Int32)) [(4, .int (u50 + (1 : Int32))), (3, .int v65), (2, .int v56), (0, .ref (L.2.2 a0)), (1, .int x1)] dX12_shadows_195 rfl rfl (by decide) rfl ?_
              refine j_goto (pc := 198) hC 143 dX12_shadows_198 (by decide) ?_
              obtain rfl := Option.some.inj h
              have hk : jJ X G 5 L 0 0 (jQM X G L (some (.int r)) μ' 0 0) 143 [(0, .ref (L.2.2 a0)), (1, .int x1), (2, .int v56), (3, .int v65), (4, .int (u50 + (1 : Int32)))] [] m47 := hk
              exact j_lv [3, 4, 2, 1, 0] rfl hk
          · obtain ⟨z70, z71⟩ := w67
            try dsimp only at h
            show jJ X G 5 L 0 0 (jQM X G L (some (.int r)) μ' 0 0) 201 [(0, .ref (L.2.2 a0)), (1, .int x1), (2, .int z70), (3, .int z71)] [] m47
            refine j_aload_n (pc := 201) hC 0 0 dX12_shadows_201 rfl rfl ?_
            refine j_iconst (pc := 202) hC (0 : Int32) dX12_shadows_202 (by decide) ?_
            obtain ⟨m72, e73, h⟩ := jbd_ex h
            refine jpi_12 (pc := 203) hC 1 (by decide) rfl kf_X12_11 dX12_shadows_203 rfl (by decide) ka0 e73 ?_
            refine j_iload_n (pc := 206) hC 2 2 dX12_shadows_206 rfl rfl ?_
            refine j_if_le (pc := 207) hC 273 dX12_shadows_207 (by decide) (fun c74 => ?_) (fun c74 => ?_)
            · rw [if_pos c74] at h
              refine j_iload_n (pc := 273) hC 2 2 dX12_shadows_273 rfl rfl ?_
              obtain ⟨rfl, rfl⟩ := Prod.mk.inj (Option.some.inj h)
              exact j_iret (pc := 274) hC dX12_shadows_274 rfl
            · rw [if_neg c74] at h
              refine j_aload_n (pc := 210) hC 0 0 dX12_shadows_210 rfl rfl ?_
              refine j_aload_n (pc := 211) hC 0 0 dX12_shadows_211 rfl rfl ?_
              refine jgr_12 (pc := 212) hC 27 (by decide) rfl kf_X12_99 dX12_shadows_212 ka0 (ly_12_27 hL ka0).1 ?_
              refine j_iload_n (pc := 215) hC 3 3 dX12_shadows_215 rfl rfl ?_
              obtain ⟨i75, v76, e77, h⟩ := jrd_some h
              refine j_iald (pc := 216) hC dX12_shadows_216 (ly_12_27 hL ka0).2.1 (ly_12_27 hL ka0).2.2 i75 e77 ?_
              refine j_i2l (pc := 217) hC dX12_shadows_217 ?_
              obtain ⟨m78, e79, h⟩ := jcl_some h
              refine j_vv (pc := 218) hC hR [.long v76.toInt64] iy_X12_enters (q := (RX12, TX12, 40)) (ci := 12) rfl rfl (by decide) km_X12_146 dX12_shadows_218 rfl (by decide) ka0 (c_X12_enters hL ka0 e79) (by decide) (Nat.le_of_ble_eq_true rfl) rfl ?_
              refine j_iload_n (pc := 221) hC 1 1 dX12_shadows_221 rfl rfl ?_
              obtain ⟨v80, e81, h⟩ := jcl_some h
              refine j_si (pc := 222) hC hR [.int x1] iy_X12_bitsOf km_X12_211 dX12_shadows_222 rfl (by decide) (c_X12_bitsOf hL  e81) (by decide) (Nat.le_of_ble_eq_true rfl) rfl ?_
              refine j_iconst (pc := 225) hC (1 : Int32) dX12_shadows_225 (by decide) ?_
              refine j_isub (pc := 226) hC dX12_shadows_226 ?_
              refine j_istore (pc := 227) hC [(4, .int (v80 - (1 : Int32))), (0, .ref (L.2.2 a0)), (1, .int x1), (2, .int z70), (3, .int z71)] dX12_shadows_227 (by decide) rfl rfl ?_
              obtain ⟨w94, hw95, h⟩ := jcl_some h
              refine j_lv [1, 3, 4, 0] rfl ?_
              refine j_loop (step := (fun (s : Int32 × jM) => f_X12_shadows_L229 a0 z71 s.1 s.2)) (P := (fun (s : Int32 × jM) => jJ X G 5 L 0 0 (jQM X G L (some (.int r)) μ' 0 0) 229 [(0, .ref (L.2.2 a0)), (2, .int z70), (3, .int z71), (4, .int s.1)] [] s.2)) (R := (fun (e : jM) => jJ X G 5 L 0 0 (jQM X G L (some (.int r)) μ' 0 0) 273 [(2, .int z70)] [] e)) ?_ jfu ((v80 - (1 : Int32), m78)) w94 hw95 ?_
              · intro s96 o h hk
                obtain ⟨u82, m83⟩ := s96
                change f_X12_shadows_L229 a0 z71 u82 m83 = some o at h
                unfold f_X12_shadows_L229 at h
                show jJ X G 5 L 0 0 (jQM X G L (some (.int r)) μ' 0 0) 229 [(0, .ref (L.2.2 a0)), (2, .int z70), (3, .int z71), (4, .int u82)] [] m83
                refine j_iload (pc := 229) hC 3 dX12_shadows_229 rfl ?_
                refine j_if_lt (pc := 231) hC 273 dX12_shadows_231 (by decide) (fun c84 => ?_) (fun c84 => ?_)
                · rw [if_pos c84] at h
                  obtain rfl := Option.some.inj h
                  have hk : jJ X G 5 L 0 0 (jQM X G L (some (.int r)) μ' 0 0) 273 [(2, .int z70)] [] m83 := hk
                  exact j_lv [1] rfl hk
                · rw [if_neg c84] at h
                  refine j_aload_n (pc := 234) hC 0 0 dX12_shadows_234 rfl rfl ?_
                  refine j_iload_n (pc := 235) hC 3 2 dX12_shadows_235 rfl rfl ?_
                  refine j_iload (pc := 236) hC 3 dX12_shadows_236 rfl ?_
                  refine j_iconst (pc := 238) hC (2 : Int32) dX12_shadows_238 (by decide) ?_
                  obtain ⟨k86, e88, h⟩ := jbd_ex h
                  have q87 : ∀ (t85 : Int32), k86 t85 = some o → jJ X G 5 L 0 0 (jQM X G L (some (.int r)) μ' 0 0) 259 [(0, .ref (L.2.2 a0)), (2, .int z70), (3, .int z71), (4, .int u82)] [.int t85, .int z71, .ref (L.2.2 a0)] m83 := by
                    intro t85 h
                    rw [e88] at h
                    try dsimp only at h
                    obtain ⟨nz89, h⟩ := jnz_some h
                    refine j_idiv (pc := 259) hC dX12_shadows_259 nz89 ?_
                    refine j_bipush (pc := 260) hC (6 : Int32) dX12_shadows_260 (by decide) ?_
                    refine j_irem (pc := 262) hC dX12_shadows_262 (by decide) ?_
                    refine j_i2l (pc := 263) hC dX12_shadows_263 ?_
                    obtain ⟨m90, e91, h⟩ := jcl_some h
                    refine j_vv (pc := 264) hC hR [.long (((z71 / t85) - (z71 / t85) / (6 : Int32) * (6 : Int32)).toInt64)] iy_X12_enters (q := (RX12, TX12, 40)) (ci := 12) rfl rfl (by decide) km_X12_146 dX12_shadows_264 rfl (by decide) ka0 (c_X12_enters hL ka0 e91) (by decide) (Nat.le_of_ble_eq_true rfl) rfl ?_
                    refine j_iinc (pc := 267) hC 3 (u82 + (-1 : Int32)) [(4, .int (u82 + (-1 : Int32))), (0, .ref (L.2.2 a0)), (2, .int z70), (3, .int z71)] dX12_shadows_267 rfl rfl (by decide) rfl ?_
                    refine j_goto (pc := 270) hC 229 dX12_shadows_270 (by decide) ?_
                    obtain rfl := Option.some.inj h
                    have hk : jJ X G 5 L 0 0 (jQM X G L (some (.int r)) μ' 0 0) 229 [(0, .ref (L.2.2 a0)), (2, .int z70), (3, .int z71), (4, .int (u82 + (-1 : Int32)))] [] m90 := hk
                    exact j_lv [1, 2, 3, 0] rfl hk
                  refine j_icmp_ne (pc := 239) hC 247 dX12_shadows_239 (by decide) (fun c92 => ?_) (fun c92 => ?_)
                  · rw [if_neg c92] at h
                    refine j_iload (pc := 247) hC 3 dX12_shadows_247 rfl ?_
                    refine j_iconst (pc := 249) hC (1 : Int32) dX12_shadows_249 (by decide) ?_
                    refine j_icmp_ne (pc := 250) hC 258 dX12_shadows_250 (by decide) (fun c93 => ?_) (fun c93 => ?_)
                    · rw [if_neg c93] at h
                      refine j_iconst (pc := 258) hC (1 : Int32) dX12_shadows_258 (by decide) ?_
                      exact j_lv [0, 1, 2, 3] rfl (q87 _ h)
                    · rw [if_pos c93] at h
                      refine j_bipush (pc := 253) hC (6 : Int32) dX12_shadows_253 (by decide) ?_
                      refine j_goto (pc := 255) hC 259 dX12_shadows_255 (by decide) ?_
                      exact j_lv [0, 1, 2, 3] rfl (q87 _ h)
                  · rw [if_pos c92] at h
                    refine j_bipush (pc := 242) hC (36 : Int32) dX12_shadows_242 (by decide) ?_
                    refine j_goto (pc := 244) hC 259 dX12_shadows_244 (by decide) ?_
                    exact j_lv [0, 1, 2, 3] rfl (q87 _ h)
              · obtain ⟨m97, rfl⟩ : ∃ y, y = w94 := ⟨_, rfl⟩
                try dsimp only at h
                show jJ X G 5 L 0 0 (jQM X G L (some (.int r)) μ' 0 0) 273 [(2, .int z70)] [] m97
                refine j_iload_n (pc := 273) hC 2 0 dX12_shadows_273 rfl rfl ?_
                obtain ⟨rfl, rfl⟩ := Prod.mk.inj (Option.some.inj h)
                exact j_iret (pc := 274) hC dX12_shadows_274 rfl
    · rw [if_neg c6] at h
      refine j_iconst (pc := 25) hC (-1 : Int32) dX12_shadows_25 (by decide) ?_
      obtain ⟨rfl, rfl⟩ := Prod.mk.inj (Option.some.inj h)
      exact j_iret (pc := 26) hC dX12_shadows_26 rfl
theorem dX12_rulesOf_0 : decode cX12_rulesOf 0 = .ok (.iconst 0, 1) := by decide +kernel
theorem dX12_rulesOf_1 : decode cX12_rulesOf 1 = .ok (.istore_n 2, 1) := by decide +kernel
theorem dX12_rulesOf_2 : decode cX12_rulesOf 2 = .ok (.iconst 0, 1) := by decide +kernel
theorem dX12_rulesOf_3 : decode cX12_rulesOf 3 = .ok (.istore_n 3, 1) := by decide +kernel
theorem dX12_rulesOf_4 : decode cX12_rulesOf 4 = .ok (.iload_n 3, 1) := by decide +kernel
theorem dX12_rulesOf_5 : decode cX12_rulesOf 5 = .ok (.aload_n 0, 1) := by decide +kernel
theorem dX12_rulesOf_6 : decode cX12_rulesOf 6 = .ok (.getfield 60, 3) := by decide +kernel
theorem dX12_rulesOf_9 : decode cX12_rulesOf 9 = .ok (.bipush 28, 2) := by decide +kernel
theorem dX12_rulesOf_11 : decode cX12_rulesOf 11 = .ok (.iaload, 1) := by decide +kernel
theorem dX12_rulesOf_12 : decode cX12_rulesOf 12 = .ok (.if_icmp .ge 93, 3) := by decide +kernel
theorem dX12_rulesOf_15 : decode cX12_rulesOf 15 = .ok (.aload_n 0, 1) := by decide +kernel
theorem dX12_rulesOf_16 : decode cX12_rulesOf 16 = .ok (.getfield 60, 3) := by decide +kernel
theorem dX12_rulesOf_19 : decode cX12_rulesOf 19 = .ok (.bipush 29, 2) := by decide +kernel
theorem dX12_rulesOf_21 : decode cX12_rulesOf 21 = .ok (.iconst 4, 1) := by decide +kernel
theorem dX12_rulesOf_22 : decode cX12_rulesOf 22 = .ok (.iload_n 3, 1) := by decide +kernel
theorem dX12_rulesOf_23 : decode cX12_rulesOf 23 = .ok (.imul, 1) := by decide +kernel
theorem dX12_rulesOf_24 : decode cX12_rulesOf 24 = .ok (.iadd, 1) := by decide +kernel
theorem dX12_rulesOf_25 : decode cX12_rulesOf 25 = .ok (.iaload, 1) := by decide +kernel
theorem dX12_rulesOf_26 : decode cX12_rulesOf 26 = .ok (.iconst 3, 1) := by decide +kernel
theorem dX12_rulesOf_27 : decode cX12_rulesOf 27 = .ok (.if_icmp .ne 23, 3) := by decide +kernel
theorem dX12_rulesOf_30 : decode cX12_rulesOf 30 = .ok (.aload_n 0, 1) := by decide +kernel
theorem dX12_rulesOf_31 : decode cX12_rulesOf 31 = .ok (.getfield 60, 3) := by decide +kernel
theorem dX12_rulesOf_34 : decode cX12_rulesOf 34 = .ok (.bipush 29, 2) := by decide +kernel
theorem dX12_rulesOf_36 : decode cX12_rulesOf 36 = .ok (.iconst 4, 1) := by decide +kernel
theorem dX12_rulesOf_37 : decode cX12_rulesOf 37 = .ok (.iload_n 3, 1) := by decide +kernel
theorem dX12_rulesOf_38 : decode cX12_rulesOf 38 = .ok (.imul, 1) := by decide +kernel
theorem dX12_rulesOf_39 : decode cX12_rulesOf 39 = .ok (.iadd, 1) := by decide +kernel
theorem dX12_rulesOf_40 : decode cX12_rulesOf 40 = .ok (.iconst 1, 1) := by decide +kernel
theorem dX12_rulesOf_41 : decode cX12_rulesOf 41 = .ok (.iadd, 1) := by decide +kernel
theorem dX12_rulesOf_42 : decode cX12_rulesOf 42 = .ok (.iaload, 1) := by decide +kernel
theorem dX12_rulesOf_43 : decode cX12_rulesOf 43 = .ok (.iload_n 1, 1) := by decide +kernel
theorem dX12_rulesOf_44 : decode cX12_rulesOf 44 = .ok (.invokestatic 208, 3) := by decide +kernel
theorem dX12_rulesOf_47 : decode cX12_rulesOf 47 = .ok (.goto 42, 3) := by decide +kernel
theorem dX12_rulesOf_50 : decode cX12_rulesOf 50 = .ok (.aload_n 0, 1) := by decide +kernel
theorem dX12_rulesOf_51 : decode cX12_rulesOf 51 = .ok (.getfield 60, 3) := by decide +kernel
theorem dX12_rulesOf_54 : decode cX12_rulesOf 54 = .ok (.bipush 29, 2) := by decide +kernel
theorem dX12_rulesOf_56 : decode cX12_rulesOf 56 = .ok (.iconst 4, 1) := by decide +kernel
theorem dX12_rulesOf_57 : decode cX12_rulesOf 57 = .ok (.iload_n 3, 1) := by decide +kernel
theorem dX12_rulesOf_58 : decode cX12_rulesOf 58 = .ok (.imul, 1) := by decide +kernel
theorem dX12_rulesOf_59 : decode cX12_rulesOf 59 = .ok (.iadd, 1) := by decide +kernel
theorem dX12_rulesOf_60 : decode cX12_rulesOf 60 = .ok (.iconst 1, 1) := by decide +kernel
theorem dX12_rulesOf_61 : decode cX12_rulesOf 61 = .ok (.iadd, 1) := by decide +kernel
theorem dX12_rulesOf_62 : decode cX12_rulesOf 62 = .ok (.iaload, 1) := by decide +kernel
theorem dX12_rulesOf_63 : decode cX12_rulesOf 63 = .ok (.iload_n 1, 1) := by decide +kernel
theorem dX12_rulesOf_64 : decode cX12_rulesOf 64 = .ok (.if_icmp .eq 20, 3) := by decide +kernel
theorem dX12_rulesOf_67 : decode cX12_rulesOf 67 = .ok (.aload_n 0, 1) := by decide +kernel
theorem dX12_rulesOf_68 : decode cX12_rulesOf 68 = .ok (.getfield 60, 3) := by decide +kernel
theorem dX12_rulesOf_71 : decode cX12_rulesOf 71 = .ok (.bipush 29, 2) := by decide +kernel
theorem dX12_rulesOf_73 : decode cX12_rulesOf 73 = .ok (.iconst 4, 1) := by decide +kernel
theorem dX12_rulesOf_74 : decode cX12_rulesOf 74 = .ok (.iload_n 3, 1) := by decide +kernel
theorem dX12_rulesOf_75 : decode cX12_rulesOf 75 = .ok (.imul, 1) := by decide +kernel
theorem dX12_rulesOf_76 : decode cX12_rulesOf 76 = .ok (.iadd, 1) := by decide +kernel
theorem dX12_rulesOf_77 : decode cX12_rulesOf 77 = .ok (.iconst 2, 1) := by decide +kernel
theorem dX12_rulesOf_78 : decode cX12_rulesOf 78 = .ok (.iadd, 1) := by decide +kernel
theorem dX12_rulesOf_79 : decode cX12_rulesOf 79 = .ok (.iaload, 1) := by decide +kernel
theorem dX12_rulesOf_80 : decode cX12_rulesOf 80 = .ok (.iload_n 1, 1) := by decide +kernel
theorem dX12_rulesOf_81 : decode cX12_rulesOf 81 = .ok (.if_icmp .ne 7, 3) := by decide +kernel
theorem dX12_rulesOf_84 : decode cX12_rulesOf 84 = .ok (.iconst 1, 1) := by decide +kernel
theorem dX12_rulesOf_85 : decode cX12_rulesOf 85 = .ok (.goto 4, 3) := by decide +kernel
theorem dX12_rulesOf_88 : decode cX12_rulesOf 88 = .ok (.iconst 0, 1) := by decide +kernel
theorem dX12_rulesOf_89 : decode cX12_rulesOf 89 = .ok (.istore 4, 2) := by decide +kernel
theorem dX12_rulesOf_91 : decode cX12_rulesOf 91 = .ok (.iload_n 2, 1) := by decide +kernel
theorem dX12_rulesOf_92 : decode cX12_rulesOf 92 = .ok (.iload 4, 2) := by decide +kernel
theorem dX12_rulesOf_94 : decode cX12_rulesOf 94 = .ok (.invokestatic 34, 3) := by decide +kernel
theorem dX12_rulesOf_97 : decode cX12_rulesOf 97 = .ok (.iadd, 1) := by decide +kernel
theorem dX12_rulesOf_98 : decode cX12_rulesOf 98 = .ok (.istore_n 2, 1) := by decide +kernel
theorem dX12_rulesOf_99 : decode cX12_rulesOf 99 = .ok (.iinc 3 1, 3) := by decide +kernel
theorem dX12_rulesOf_102 : decode cX12_rulesOf 102 = .ok (.goto (-98), 3) := by decide +kernel
theorem dX12_rulesOf_105 : decode cX12_rulesOf 105 = .ok (.iload_n 2, 1) := by decide +kernel
theorem dX12_rulesOf_106 : decode cX12_rulesOf 106 = .ok (.ireturn, 1) := by decide +kernel
def f_X12_rulesOf_L4 (a0 : Nat) (x1 : Int32) (μ : jM) (u1 : Int32) (u2 : Int32) : Option ((Int32 × Int32) ⊕ (Int32)) :=
  jrd (μ.1 (a0 + 3)) (28 : Int32) 2074 (fun v4 => (if v4 ≤ u2 then some (.inr u1) else jrd (μ.1 (a0 + 3)) ((29 : Int32) + ((4 : Int32) * u2)) 2074 (fun v8 => jbd (fun (t10 : Int32) => jbd (u1 + (f_X12_flag t10) : Int32) (fun v14 => some (.inl ((v14, u2 + (1 : Int32)))))) (fun k11 => (if v8 = (3 : Int32) then jrd (μ.1 (a0 + 3)) (((29 : Int32) + ((4 : Int32) * u2)) + (1 : Int32)) 2074 (fun v26 => k11 (f_X12_has v26 x1)) else jrd (μ.1 (a0 + 3)) (((29 : Int32) + ((4 : Int32) * u2)) + (1 : Int32)) 2074 (fun v18 => (if v18 = x1 then k11 (1 : Int32) else jrd (μ.1 (a0 + 3)) (((29 : Int32) + ((4 : Int32) * u2)) + (2 : Int32)) 2074 (fun v22 => (if v22 = x1 then k11 (1 : Int32) else k11 (0 : Int32))))))))))
def f_X12_rulesOf (a0 : Nat) (x1 : Int32) (μ : jM) : Option (Int32) :=
  jcl (jloop (fun (s : Int32 × Int32) => f_X12_rulesOf_L4 a0 x1 μ s.1 s.2) jfu (((0 : Int32), (0 : Int32)))) (fun w28 => some w28)
set_option maxHeartbeats 4000000 in
set_option maxRecDepth 100000 in
theorem c_X12_rulesOf {l : Launch} {G : jG} {L : jL} (hL : jOKL L) {a0 : Nat} {x1 : Int32} (ka0 : jK L a0 12) {μ : jM} {r : Int32} (h : f_X12_rulesOf a0 x1 μ = some r) : jCt l G L 4 yX12_rulesOf cX12_rulesOf 5 (some .int) [.ref (L.2.2 a0), .int x1] μ (some (.int r)) μ := by
  refine jCt_of (by decide) (Nat.le_of_ble_eq_true rfl) (fun X hC hX hR => ?_)
  subst hX
  have hC : jC X G cX12_rulesOf 5 RX12 (some .int) := hC
  unfold f_X12_rulesOf at h
  show jJ X G 5 L 0 0 (jQM X G L (some (.int r)) μ 0 0) 0 [(0, .ref (L.2.2 a0)), (1, .int x1)] [] μ
  refine j_iconst (pc := 0) hC (0 : Int32) dX12_rulesOf_0 (by decide) ?_
  refine j_istore_n (pc := 1) hC 2 [(2, .int (0 : Int32)), (0, .ref (L.2.2 a0)), (1, .int x1)] dX12_rulesOf_1 rfl (by decide) rfl rfl ?_
  refine j_iconst (pc := 2) hC (0 : Int32) dX12_rulesOf_2 (by decide) ?_
  refine j_istore_n (pc := 3) hC 3 [(3, .int (0 : Int32)), (2, .int (0 : Int32)), (0, .ref (L.2.2 a0)), (1, .int x1)] dX12_rulesOf_3 rfl (by decide) rfl rfl ?_
  obtain ⟨w28, hw29, h⟩ := jcl_some h
  refine j_lv [2, 3, 1, 0] rfl ?_
  refine j_loop (step := (fun (s : Int32 × Int32) => f_X12_rulesOf_L4 a0 x1 μ s.1 s.2)) (P := (fun (s : Int32 × Int32) => jJ X G 5 L 0 0 (jQM X G L (some (.int r)) μ 0 0) 4 [(0, .ref (L.2.2 a0)), (1, .int x1), (2, .int s.1), (3, .int s.2)] [] μ)) (R := (fun (e : Int32) => jJ X G 5 L 0 0 (jQM X G L (some (.int r)) μ 0 0) 105 [(2, .int e)] [] μ)) ?_ jfu (((0 : Int32), (0 : Int32))) w28 hw29 ?_
  · intro s30 o h hk
    obtain ⟨u1, u2⟩ := s30
    change f_X12_rulesOf_L4 a0 x1 μ u1 u2 = some o at h
    unfold f_X12_rulesOf_L4 at h
    show jJ X G 5 L 0 0 (jQM X G L (some (.int r)) μ 0 0) 4 [(0, .ref (L.2.2 a0)), (1, .int x1), (2, .int u1), (3, .int u2)] [] μ
    refine j_iload_n (pc := 4) hC 3 3 dX12_rulesOf_4 rfl rfl ?_
    refine j_aload_n (pc := 5) hC 0 0 dX12_rulesOf_5 rfl rfl ?_
    refine jgr_12 (pc := 6) hC 8 (by decide) rfl kf_X12_60 dX12_rulesOf_6 ka0 (ly_12_8 hL ka0).1 ?_
    refine j_bipush (pc := 9) hC (28 : Int32) dX12_rulesOf_9 (by decide) ?_
    obtain ⟨i3, v4, e5, h⟩ := jrd_some h
    refine j_iald (pc := 11) hC dX12_rulesOf_11 (ly_12_8 hL ka0).2.1 (ly_12_8 hL ka0).2.2 i3 e5 ?_
    refine j_icmp_ge (pc := 12) hC 105 dX12_rulesOf_12 (by decide) (fun c6 => ?_) (fun c6 => ?_)
    · rw [if_pos c6] at h
      obtain rfl := Option.some.inj h
      have hk : jJ X G 5 L 0 0 (jQM X G L (some (.int r)) μ 0 0) 105 [(2, .int u1)] [] μ := hk
      exact j_lv [2] rfl hk
    · rw [if_neg c6] at h
      refine j_aload_n (pc := 15) hC 0 0 dX12_rulesOf_15 rfl rfl ?_
      refine jgr_12 (pc := 16) hC 8 (by decide) rfl kf_X12_60 dX12_rulesOf_16 ka0 (ly_12_8 hL ka0).1 ?_
      refine j_bipush (pc := 19) hC (29 : Int32) dX12_rulesOf_19 (by decide) ?_
      refine j_iconst (pc := 21) hC (4 : Int32) dX12_rulesOf_21 (by decide) ?_
      refine j_iload_n (pc := 22) hC 3 3 dX12_rulesOf_22 rfl rfl ?_
      refine j_imul (pc := 23) hC dX12_rulesOf_23 ?_
      refine j_iadd (pc := 24) hC dX12_rulesOf_24 ?_
      obtain ⟨i7, v8, e9, h⟩ := jrd_some h
      refine j_iald (pc := 25) hC dX12_rulesOf_25 (ly_12_8 hL ka0).2.1 (ly_12_8 hL ka0).2.2 i7 e9 ?_
      refine j_iconst (pc := 26) hC (3 : Int32) dX12_rulesOf_26 (by decide) ?_
      obtain ⟨k11, e13, h⟩ := jbd_ex h
      have q12 : ∀ (t10 : Int32), k11 t10 = some o → jJ X G 5 L 0 0 (jQM X G L (some (.int r)) μ 0 0) 89 [(0, .ref (L.2.2 a0)), (1, .int x1), (2, .int u1), (3, .int u2)] [.int t10] μ := by
        intro t10 h
        rw [e13] at h
        try dsimp only at h
        refine j_istore (pc := 89) hC [(4, .int t10), (0, .ref (L.2.2 a0)), (1, .int x1), (2, .int u1), (3, .int u2)] dX12_rulesOf_89 (by decide) rfl rfl ?_
        refine j_iload_n (pc := 91) hC 2 3 dX12_rulesOf_91 rfl rfl ?_
        refine j_iload (pc := 92) hC 0 dX12_rulesOf_92 rfl ?_
        refine j_si (pc := 94) hC hR [.int t10] iy_X12_flag km_X12_34 dX12_rulesOf_94 rfl (by decide) (c_X12_flag hL  rfl) (by decide) (Nat.le_of_ble_eq_true rfl) rfl ?_
        refine j_iadd (pc := 97) hC dX12_rulesOf_97 ?_
        obtain ⟨v14, e15, h⟩ := jbd_ex h
        refine j_istore_n (pc := 98) hC 2 [(2, .int v14), (4, .int t10), (0, .ref (L.2.2 a0)), (1, .int x1), (3, .int u2)] dX12_rulesOf_98 rfl (by decide) e15 rfl ?_
        refine j_iinc (pc := 99) hC 4 (u2 + (1 : Int32)) [(3, .int (u2 + (1 : Int32))), (2, .int v14), (4, .int t10), (0, .ref (L.2.2 a0)), (1, .int x1)] dX12_rulesOf_99 rfl rfl (by decide) rfl ?_
        refine j_goto (pc := 102) hC 4 dX12_rulesOf_102 (by decide) ?_
        obtain rfl := Option.some.inj h
        have hk : jJ X G 5 L 0 0 (jQM X G L (some (.int r)) μ 0 0) 4 [(0, .ref (L.2.2 a0)), (1, .int x1), (2, .int v14), (3, .int (u2 + (1 : Int32)))] [] μ := hk
        exact j_lv [3, 4, 1, 0] rfl hk
      refine j_icmp_ne (pc := 27) hC 50 dX12_rulesOf_27 (by decide) (fun c16 => ?_) (fun c16 => ?_)
      · rw [if_neg c16] at h
        refine j_aload_n (pc := 50) hC 0 0 dX12_rulesOf_50 rfl rfl ?_
        refine jgr_12 (pc := 51) hC 8 (by decide) rfl kf_X12_60 dX12_rulesOf_51 ka0 (ly_12_8 hL ka0).1 ?_
        refine j_bipush (pc := 54) hC (29 : Int32) dX12_rulesOf_54 (by decide) ?_
        refine j_iconst (pc := 56) hC (4 : Int32) dX12_rulesOf_56 (by decide) ?_
        refine j_iload_n (pc := 57) hC 3 3 dX12_rulesOf_57 rfl rfl ?_
        refine j_imul (pc := 58) hC dX12_rulesOf_58 ?_
        refine j_iadd (pc := 59) hC dX12_rulesOf_59 ?_
        refine j_iconst (pc := 60) hC (1 : Int32) dX12_rulesOf_60 (by decide) ?_
        refine j_iadd (pc := 61) hC dX12_rulesOf_61 ?_
        obtain ⟨i17, v18, e19, h⟩ := jrd_some h
        refine j_iald (pc := 62) hC dX12_rulesOf_62 (ly_12_8 hL ka0).2.1 (ly_12_8 hL ka0).2.2 i17 e19 ?_
        refine j_iload_n (pc := 63) hC 1 1 dX12_rulesOf_63 rfl rfl ?_
        refine j_icmp_eq (pc := 64) hC 84 dX12_rulesOf_64 (by decide) (fun c20 => ?_) (fun c20 => ?_)
        · rw [if_pos c20] at h
          refine j_iconst (pc := 84) hC (1 : Int32) dX12_rulesOf_84 (by decide) ?_
          refine j_goto (pc := 85) hC 89 dX12_rulesOf_85 (by decide) ?_
          exact j_lv [0, 1, 2, 3] rfl (q12 _ h)
        · rw [if_neg c20] at h
          refine j_aload_n (pc := 67) hC 0 0 dX12_rulesOf_67 rfl rfl ?_
          refine jgr_12 (pc := 68) hC 8 (by decide) rfl kf_X12_60 dX12_rulesOf_68 ka0 (ly_12_8 hL ka0).1 ?_
          refine j_bipush (pc := 71) hC (29 : Int32) dX12_rulesOf_71 (by decide) ?_
          refine j_iconst (pc := 73) hC (4 : Int32) dX12_rulesOf_73 (by decide) ?_
          refine j_iload_n (pc := 74) hC 3 3 dX12_rulesOf_74 rfl rfl ?_
          refine j_imul (pc := 75) hC dX12_rulesOf_75 ?_
          refine j_iadd (pc := 76) hC dX12_rulesOf_76 ?_
          refine j_iconst (pc := 77) hC (2 : Int32) dX12_rulesOf_77 (by decide) ?_
          refine j_iadd (pc := 78) hC dX12_rulesOf_78 ?_
          obtain ⟨i21, v22, e23, h⟩ := jrd_some h
          refine j_iald (pc := 79) hC dX12_rulesOf_79 (ly_12_8 hL ka0).2.1 (ly_12_8 hL ka0).2.2 i21 e23 ?_
          refine j_iload_n (pc := 80) hC 1 1 dX12_rulesOf_80 rfl rfl ?_
          refine j_icmp_ne (pc := 81) hC 88 dX12_rulesOf_81 (by decide) (fun c24 => ?_) (fun c24 => ?_)
          · rw [if_neg c24] at h
            refine j_iconst (pc := 88) hC (0 : Int32) dX12_rulesOf_88 (by decide) ?_
            exact j_lv [0, 1, 2, 3] rfl (q12 _ h)
          · rw [if_pos c24] at h
            refine j_iconst (pc := 84) hC (1 : Int32) dX12_rulesOf_84 (by decide) ?_
            refine j_goto (pc := 85) hC 89 dX12_rulesOf_85 (by decide) ?_
            exact j_lv [0, 1, 2, 3] rfl (q12 _ h)
      · rw [if_pos c16] at h
        refine j_aload_n (pc := 30) hC 0 0 dX12_rulesOf_30 rfl rfl ?_
        refine jgr_12 (pc := 31) hC 8 (by decide) rfl kf_X12_60 dX12_rulesOf_31 ka0 (ly_12_8 hL ka0).1 ?_
        refine j_bipush (pc := 34) hC (29 : Int32) dX12_rulesOf_34 (by decide) ?_
        refine j_iconst (pc := 36) hC (4 : Int32) dX12_rulesOf_36 (by decide) ?_
        refine j_iload_n (pc := 37) hC 3 3 dX12_rulesOf_37 rfl rfl ?_
        refine j_imul (pc := 38) hC dX12_rulesOf_38 ?_
        refine j_iadd (pc := 39) hC dX12_rulesOf_39 ?_
        refine j_iconst (pc := 40) hC (1 : Int32) dX12_rulesOf_40 (by decide) ?_
        refine j_iadd (pc := 41) hC dX12_rulesOf_41 ?_
        obtain ⟨i25, v26, e27, h⟩ := jrd_some h
        refine j_iald (pc := 42) hC dX12_rulesOf_42 (ly_12_8 hL ka0).2.1 (ly_12_8 hL ka0).2.2 i25 e27 ?_
        refine j_iload_n (pc := 43) hC 1 1 dX12_rulesOf_43 rfl rfl ?_
        refine j_si (pc := 44) hC hR [.int v26, .int x1] iy_X12_has km_X12_208 dX12_rulesOf_44 rfl (by decide) (c_X12_has hL  rfl) (by decide) (Nat.le_of_ble_eq_true rfl) rfl ?_
        refine j_goto (pc := 47) hC 89 dX12_rulesOf_47 (by decide) ?_
        exact j_lv [0, 1, 2, 3] rfl (q12 _ h)
  · obtain ⟨z31, rfl⟩ : ∃ y, y = w28 := ⟨_, rfl⟩
    try dsimp only at h
    show jJ X G 5 L 0 0 (jQM X G L (some (.int r)) μ 0 0) 105 [(2, .int z31)] [] μ
    refine j_iload_n (pc := 105) hC 2 0 dX12_rulesOf_105 rfl rfl ?_
    obtain rfl := Option.some.inj h
    exact j_iret (pc := 106) hC dX12_rulesOf_106 rfl
theorem dX12_taken_0 : decode cX12_taken 0 = .ok (.iconst (-1), 1) := by decide +kernel
theorem dX12_taken_1 : decode cX12_taken 1 = .ok (.istore_n 3, 1) := by decide +kernel
theorem dX12_taken_2 : decode cX12_taken 2 = .ok (.ldc_w 377, 3) := by decide +kernel
theorem dX12_taken_5 : decode cX12_taken 5 = .ok (.istore 4, 2) := by decide +kernel
theorem dX12_taken_7 : decode cX12_taken 7 = .ok (.iconst 0, 1) := by decide +kernel
theorem dX12_taken_8 : decode cX12_taken 8 = .ok (.istore 5, 2) := by decide +kernel
theorem dX12_taken_10 : decode cX12_taken 10 = .ok (.iload 5, 2) := by decide +kernel
theorem dX12_taken_12 : decode cX12_taken 12 = .ok (.iconst 5, 1) := by decide +kernel
theorem dX12_taken_13 : decode cX12_taken 13 = .ok (.if_icmp .ge 66, 3) := by decide +kernel
theorem dX12_taken_16 : decode cX12_taken 16 = .ok (.iload_n 2, 1) := by decide +kernel
theorem dX12_taken_17 : decode cX12_taken 17 = .ok (.ifCond .ne 7, 3) := by decide +kernel
theorem dX12_taken_20 : decode cX12_taken 20 = .ok (.iconst 0, 1) := by decide +kernel
theorem dX12_taken_21 : decode cX12_taken 21 = .ok (.goto 25, 3) := by decide +kernel
theorem dX12_taken_24 : decode cX12_taken 24 = .ok (.iload_n 2, 1) := by decide +kernel
theorem dX12_taken_25 : decode cX12_taken 25 = .ok (.iconst 1, 1) := by decide +kernel
theorem dX12_taken_26 : decode cX12_taken 26 = .ok (.if_icmp .ne 13, 3) := by decide +kernel
theorem dX12_taken_29 : decode cX12_taken 29 = .ok (.aload_n 1, 1) := by decide +kernel
theorem dX12_taken_30 : decode cX12_taken 30 = .ok (.iload 5, 2) := by decide +kernel
theorem dX12_taken_32 : decode cX12_taken 32 = .ok (.iaload, 1) := by decide +kernel
theorem dX12_taken_33 : decode cX12_taken 33 = .ok (.invokestatic 211, 3) := by decide +kernel
theorem dX12_taken_36 : decode cX12_taken 36 = .ok (.goto 10, 3) := by decide +kernel
theorem dX12_taken_39 : decode cX12_taken 39 = .ok (.aload_n 0, 1) := by decide +kernel
theorem dX12_taken_40 : decode cX12_taken 40 = .ok (.iload 5, 2) := by decide +kernel
theorem dX12_taken_42 : decode cX12_taken 42 = .ok (.invokevirtual 378, 3) := by decide +kernel
theorem dX12_taken_45 : decode cX12_taken 45 = .ok (.ineg, 1) := by decide +kernel
theorem dX12_taken_46 : decode cX12_taken 46 = .ok (.istore 6, 2) := by decide +kernel
theorem dX12_taken_48 : decode cX12_taken 48 = .ok (.aload_n 1, 1) := by decide +kernel
theorem dX12_taken_49 : decode cX12_taken 49 = .ok (.iload 5, 2) := by decide +kernel
theorem dX12_taken_51 : decode cX12_taken 51 = .ok (.iaload, 1) := by decide +kernel
theorem dX12_taken_52 : decode cX12_taken 52 = .ok (.invokestatic 211, 3) := by decide +kernel
theorem dX12_taken_55 : decode cX12_taken 55 = .ok (.iconst 1, 1) := by decide +kernel
theorem dX12_taken_56 : decode cX12_taken 56 = .ok (.if_icmp .le 17, 3) := by decide +kernel
theorem dX12_taken_59 : decode cX12_taken 59 = .ok (.iload 6, 2) := by decide +kernel
theorem dX12_taken_61 : decode cX12_taken 61 = .ok (.iload 4, 2) := by decide +kernel
theorem dX12_taken_63 : decode cX12_taken 63 = .ok (.if_icmp .ge 10, 3) := by decide +kernel
theorem dX12_taken_66 : decode cX12_taken 66 = .ok (.iload 5, 2) := by decide +kernel
theorem dX12_taken_68 : decode cX12_taken 68 = .ok (.istore_n 3, 1) := by decide +kernel
theorem dX12_taken_69 : decode cX12_taken 69 = .ok (.iload 6, 2) := by decide +kernel
theorem dX12_taken_71 : decode cX12_taken 71 = .ok (.istore 4, 2) := by decide +kernel
theorem dX12_taken_73 : decode cX12_taken 73 = .ok (.iinc 5 1, 3) := by decide +kernel
theorem dX12_taken_76 : decode cX12_taken 76 = .ok (.goto (-66), 3) := by decide +kernel
theorem dX12_taken_79 : decode cX12_taken 79 = .ok (.iload_n 3, 1) := by decide +kernel
theorem dX12_taken_80 : decode cX12_taken 80 = .ok (.ireturn, 1) := by decide +kernel
def f_X12_taken_L10 (a0 : Nat) (a1 : Nat) (x2 : Int32) (μ : jM) (u1 : Int32) (u2 : Int32) (u3 : Int32) : Option ((Int32 × Int32 × Int32) ⊕ (Int32)) :=
  (if (5 : Int32) ≤ u3 then some (.inr u1) else jbd (fun (t5 : Int32) => jrd (μ.1 a1) u3 (jlen a1) (fun v10 => jcl (f_X12_bitsOf v10) (fun v12 => (if v12 ≤ (1 : Int32) then some (.inl ((u1, u2, u3 + (1 : Int32)))) else (if u2 ≤ t5 then some (.inl ((u1, u2, u3 + (1 : Int32)))) else some (.inl ((u3, t5, u3 + (1 : Int32))))))))) (fun k6 => (if x2 = (0 : Int32) then k6 (0 : Int32) else (if x2 = (1 : Int32) then jrd (μ.1 a1) u3 (jlen a1) (fun v21 => jcl (f_X12_bitsOf v21) (fun v23 => k6 v23)) else jcl (f_X12_rulesOf a0 u3 μ) (fun v18 => k6 (-v18))))))
def f_X12_taken (a0 : Nat) (a1 : Nat) (x2 : Int32) (μ : jM) : Option (Int32) :=
  jcl (jloop (fun (s : Int32 × Int32 × Int32) => f_X12_taken_L10 a0 a1 x2 μ s.1 s.2.1 s.2.2) jfu (((-1 : Int32), (1000000 : Int32), (0 : Int32)))) (fun w25 => some w25)
set_option maxHeartbeats 4000000 in
set_option maxRecDepth 100000 in
theorem c_X12_taken {l : Launch} {G : jG} {L : jL} (hL : jOKL L) {a0 : Nat} {a1 : Nat} {x2 : Int32} (ka0 : jK L a0 12) (ka1 : jK L a1 13) {μ : jM} {r : Int32} (h : f_X12_taken a0 a1 x2 μ = some r) : jCt l G L 5 yX12_taken cX12_taken 7 (some .int) [.ref (L.2.2 a0), .ref (L.2.2 a1), .int x2] μ (some (.int r)) μ := by
  refine jCt_of (by decide) (Nat.le_of_ble_eq_true rfl) (fun X hC hX hR => ?_)
  subst hX
  have hC : jC X G cX12_taken 7 RX12 (some .int) := hC
  unfold f_X12_taken at h
  show jJ X G 7 L 0 0 (jQM X G L (some (.int r)) μ 0 0) 0 [(0, .ref (L.2.2 a0)), (1, .ref (L.2.2 a1)), (2, .int x2)] [] μ
  refine j_iconst (pc := 0) hC (-1 : Int32) dX12_taken_0 (by decide) ?_
  refine j_istore_n (pc := 1) hC 3 [(3, .int (-1 : Int32)), (0, .ref (L.2.2 a0)), (1, .ref (L.2.2 a1)), (2, .int x2)] dX12_taken_1 rfl (by decide) rfl rfl ?_
  refine j_ldcw (pc := 2) hC dX12_taken_2 kc_X12_377 ?_
  refine j_istore (pc := 5) hC [(4, .int (1000000 : Int32)), (3, .int (-1 : Int32)), (0, .ref (L.2.2 a0)), (1, .ref (L.2.2 a1)), (2, .int x2)] dX12_taken_5 (by decide) rfl rfl ?_
  refine j_iconst (pc := 7) hC (0 : Int32) dX12_taken_7 (by decide) ?_
  refine j_istore (pc := 8) hC [(5, .int (0 : Int32)), (4, .int (1000000 : Int32)), (3, .int (-1 : Int32)), (0, .ref (L.2.2 a0)), (1, .ref (L.2.2 a1)), (2, .int x2)] dX12_taken_8 (by decide) rfl rfl ?_
  obtain ⟨w25, hw26, h⟩ := jcl_some h
  refine j_lv [3, 4, 5, 2, 1, 0] rfl ?_
  refine j_loop (step := (fun (s : Int32 × Int32 × Int32) => f_X12_taken_L10 a0 a1 x2 μ s.1 s.2.1 s.2.2)) (P := (fun (s : Int32 × Int32 × Int32) => jJ X G 7 L 0 0 (jQM X G L (some (.int r)) μ 0 0) 10 [(0, .ref (L.2.2 a0)), (1, .ref (L.2.2 a1)), (2, .int x2), (3, .int s.1), (4, .int s.2.1), (5, .int s.2.2)] [] μ)) (R := (fun (e : Int32) => jJ X G 7 L 0 0 (jQM X G L (some (.int r)) μ 0 0) 79 [(3, .int e)] [] μ)) ?_ jfu (((-1 : Int32), (1000000 : Int32), (0 : Int32))) w25 hw26 ?_
  · intro s27 o h hk
    obtain ⟨u1, u2, u3⟩ := s27
    change f_X12_taken_L10 a0 a1 x2 μ u1 u2 u3 = some o at h
    unfold f_X12_taken_L10 at h
    show jJ X G 7 L 0 0 (jQM X G L (some (.int r)) μ 0 0) 10 [(0, .ref (L.2.2 a0)), (1, .ref (L.2.2 a1)), (2, .int x2), (3, .int u1), (4, .int u2), (5, .int u3)] [] μ
    refine j_iload (pc := 10) hC 5 dX12_taken_10 rfl ?_
    refine j_iconst (pc := 12) hC (5 : Int32) dX12_taken_12 (by decide) ?_
    refine j_icmp_ge (pc := 13) hC 79 dX12_taken_13 (by decide) (fun c4 => ?_) (fun c4 => ?_)
    · rw [if_pos c4] at h
      obtain rfl := Option.some.inj h
      have hk : jJ X G 7 L 0 0 (jQM X G L (some (.int r)) μ 0 0) 79 [(3, .int u1)] [] μ := hk
      exact j_lv [3] rfl hk
    · rw [if_neg c4] at h
      refine j_iload_n (pc := 16) hC 2 2 dX12_taken_16 rfl rfl ?_
      obtain ⟨k6, e8, h⟩ := jbd_ex h
      have q7 : ∀ (t5 : Int32), k6 t5 = some o → jJ X G 7 L 0 0 (jQM X G L (some (.int r)) μ 0 0) 46 [(0, .ref (L.2.2 a0)), (1, .ref (L.2.2 a1)), (2, .int x2), (3, .int u1), (4, .int u2), (5, .int u3)] [.int t5] μ := by
        intro t5 h
        rw [e8] at h
        try dsimp only at h
        refine j_istore (pc := 46) hC [(6, .int t5), (0, .ref (L.2.2 a0)), (1, .ref (L.2.2 a1)), (2, .int x2), (3, .int u1), (4, .int u2), (5, .int u3)] dX12_taken_46 (by decide) rfl rfl ?_
        refine j_aload_n (pc := 48) hC 1 2 dX12_taken_48 rfl rfl ?_
        refine j_iload (pc := 49) hC 6 dX12_taken_49 rfl ?_
        obtain ⟨i9, v10, e11, h⟩ := jrd_some h
        refine j_iald (pc := 51) hC dX12_taken_51 ka1 (jlen_ok hL _) i9 e11 ?_
        obtain ⟨v12, e13, h⟩ := jcl_some h
        refine j_si (pc := 52) hC hR [.int v10] iy_X12_bitsOf km_X12_211 dX12_taken_52 rfl (by decide) (c_X12_bitsOf hL  e13) (by decide) (Nat.le_of_ble_eq_true rfl) rfl ?_
        refine j_iconst (pc := 55) hC (1 : Int32) dX12_taken_55 (by decide) ?_
        refine j_icmp_le (pc := 56) hC 73 dX12_taken_56 (by decide) (fun c14 => ?_) (fun c14 => ?_)
        · rw [if_pos c14] at h
          refine j_iinc (pc := 73) hC 6 (u3 + (1 : Int32)) [(5, .int (u3 + (1 : Int32))), (6, .int t5), (0, .ref (L.2.2 a0)), (1, .ref (L.2.2 a1)), (2, .int x2), (3, .int u1), (4, .int u2)] dX12_taken_73 rfl rfl (by decide) rfl ?_
          refine j_goto (pc := 76) hC 10 dX12_taken_76 (by decide) ?_
          obtain rfl := Option.some.inj h
          have hk : jJ X G 7 L 0 0 (jQM X G L (some (.int r)) μ 0 0) 10 [(0, .ref (L.2.2 a0)), (1, .ref (L.2.2 a1)), (2, .int x2), (3, .int u1), (4, .int u2), (5, .int (u3 + (1 : Int32)))] [] μ := hk
          exact j_lv [2, 3, 4, 5, 6, 0] rfl hk
        · rw [if_neg c14] at h
          refine j_iload (pc := 59) hC 0 dX12_taken_59 rfl ?_
          refine j_iload (pc := 61) hC 5 dX12_taken_61 rfl ?_
          refine j_icmp_ge (pc := 63) hC 73 dX12_taken_63 (by decide) (fun c15 => ?_) (fun c15 => ?_)
          · rw [if_pos c15] at h
            refine j_iinc (pc := 73) hC 6 (u3 + (1 : Int32)) [(5, .int (u3 + (1 : Int32))), (6, .int t5), (0, .ref (L.2.2 a0)), (1, .ref (L.2.2 a1)), (2, .int x2), (3, .int u1), (4, .int u2)] dX12_taken_73 rfl rfl (by decide) rfl ?_
            refine j_goto (pc := 76) hC 10 dX12_taken_76 (by decide) ?_
            obtain rfl := Option.some.inj h
            have hk : jJ X G 7 L 0 0 (jQM X G L (some (.int r)) μ 0 0) 10 [(0, .ref (L.2.2 a0)), (1, .ref (L.2.2 a1)), (2, .int x2), (3, .int u1), (4, .int u2), (5, .int (u3 + (1 : Int32)))] [] μ := hk
            exact j_lv [2, 3, 4, 5, 6, 0] rfl hk
          · rw [if_neg c15] at h
            refine j_iload (pc := 66) hC 6 dX12_taken_66 rfl ?_
            refine j_istore_n (pc := 68) hC 3 [(3, .int u3), (6, .int t5), (0, .ref (L.2.2 a0)), (1, .ref (L.2.2 a1)), (2, .int x2), (4, .int u2), (5, .int u3)] dX12_taken_68 rfl (by decide) rfl rfl ?_
            refine j_iload (pc := 69) hC 1 dX12_taken_69 rfl ?_
            refine j_istore (pc := 71) hC [(4, .int t5), (3, .int u3), (6, .int t5), (0, .ref (L.2.2 a0)), (1, .ref (L.2.2 a1)), (2, .int x2), (5, .int u3)] dX12_taken_71 (by decide) rfl rfl ?_
            refine j_iinc (pc := 73) hC 6 (u3 + (1 : Int32)) [(5, .int (u3 + (1 : Int32))), (4, .int t5), (3, .int u3), (6, .int t5), (0, .ref (L.2.2 a0)), (1, .ref (L.2.2 a1)), (2, .int x2)] dX12_taken_73 rfl rfl (by decide) rfl ?_
            refine j_goto (pc := 76) hC 10 dX12_taken_76 (by decide) ?_
            obtain rfl := Option.some.inj h
            have hk : jJ X G 7 L 0 0 (jQM X G L (some (.int r)) μ 0 0) 10 [(0, .ref (L.2.2 a0)), (1, .ref (L.2.2 a1)), (2, .int x2), (3, .int u3), (4, .int t5), (5, .int (u3 + (1 : Int32)))] [] μ := hk
            exact j_lv [4, 5, 6, 2, 1, 0] rfl hk
      refine j_if_ne (pc := 17) hC 24 dX12_taken_17 (by decide) (fun c16 => ?_) (fun c16 => ?_)
      · rw [if_neg c16] at h
        refine j_iload_n (pc := 24) hC 2 2 dX12_taken_24 rfl rfl ?_
        refine j_iconst (pc := 25) hC (1 : Int32) dX12_taken_25 (by decide) ?_
        refine j_icmp_ne (pc := 26) hC 39 dX12_taken_26 (by decide) (fun c17 => ?_) (fun c17 => ?_)
        · rw [if_neg c17] at h
          refine j_aload_n (pc := 39) hC 0 0 dX12_taken_39 rfl rfl ?_
          refine j_iload (pc := 40) hC 5 dX12_taken_40 rfl ?_
          obtain ⟨v18, e19, h⟩ := jcl_some h
          refine j_vi (pc := 42) hC hR [.int u3] iy_X12_rulesOf (q := (RX12, TX12, 40)) (ci := 12) rfl rfl (by decide) km_X12_378 dX12_taken_42 rfl (by decide) ka0 (c_X12_rulesOf hL ka0 e19) (by decide) (Nat.le_of_ble_eq_true rfl) rfl ?_
          refine j_ineg (pc := 45) hC dX12_taken_45 ?_
          exact j_lv [0, 1, 2, 3, 4, 5] rfl (q7 _ h)
        · rw [if_pos c17] at h
          refine j_aload_n (pc := 29) hC 1 1 dX12_taken_29 rfl rfl ?_
          refine j_iload (pc := 30) hC 5 dX12_taken_30 rfl ?_
          obtain ⟨i20, v21, e22, h⟩ := jrd_some h
          refine j_iald (pc := 32) hC dX12_taken_32 ka1 (jlen_ok hL _) i20 e22 ?_
          obtain ⟨v23, e24, h⟩ := jcl_some h
          refine j_si (pc := 33) hC hR [.int v21] iy_X12_bitsOf km_X12_211 dX12_taken_33 rfl (by decide) (c_X12_bitsOf hL  e24) (by decide) (Nat.le_of_ble_eq_true rfl) rfl ?_
          refine j_goto (pc := 36) hC 46 dX12_taken_36 (by decide) ?_
          exact j_lv [0, 1, 2, 3, 4, 5] rfl (q7 _ h)
      · rw [if_pos c16] at h
        refine j_iconst (pc := 20) hC (0 : Int32) dX12_taken_20 (by decide) ?_
        refine j_goto (pc := 21) hC 46 dX12_taken_21 (by decide) ?_
        exact j_lv [0, 1, 2, 3, 4, 5] rfl (q7 _ h)
  · obtain ⟨z28, rfl⟩ : ∃ y, y = w25 := ⟨_, rfl⟩
    try dsimp only at h
    show jJ X G 7 L 0 0 (jQM X G L (some (.int r)) μ 0 0) 79 [(3, .int z28)] [] μ
    refine j_iload_n (pc := 79) hC 3 0 dX12_taken_79 rfl rfl ?_
    obtain rfl := Option.some.inj h
    exact j_iret (pc := 80) hC dX12_taken_80 rfl
theorem dX12_seeks_0 : decode cX12_seeks 0 = .ok (.aload_n 0, 1) := by decide +kernel
theorem dX12_seeks_1 : decode cX12_seeks 1 = .ok (.aload_n 0, 1) := by decide +kernel
theorem dX12_seeks_2 : decode cX12_seeks 2 = .ok (.getfield 78, 3) := by decide +kernel
theorem dX12_seeks_5 : decode cX12_seeks 5 = .ok (.iload_n 1, 1) := by decide +kernel
theorem dX12_seeks_6 : decode cX12_seeks 6 = .ok (.invokevirtual 381, 3) := by decide +kernel
theorem dX12_seeks_9 : decode cX12_seeks 9 = .ok (.istore_n 3, 1) := by decide +kernel
theorem dX12_seeks_10 : decode cX12_seeks 10 = .ok (.iconst 0, 1) := by decide +kernel
theorem dX12_seeks_11 : decode cX12_seeks 11 = .ok (.istore 4, 2) := by decide +kernel
theorem dX12_seeks_13 : decode cX12_seeks 13 = .ok (.iload 4, 2) := by decide +kernel
theorem dX12_seeks_15 : decode cX12_seeks 15 = .ok (.iconst 5, 1) := by decide +kernel
theorem dX12_seeks_16 : decode cX12_seeks 16 = .ok (.if_icmp .ge 27, 3) := by decide +kernel
theorem dX12_seeks_19 : decode cX12_seeks 19 = .ok (.aload_n 0, 1) := by decide +kernel
theorem dX12_seeks_20 : decode cX12_seeks 20 = .ok (.getfield 102, 3) := by decide +kernel
theorem dX12_seeks_23 : decode cX12_seeks 23 = .ok (.iconst 5, 1) := by decide +kernel
theorem dX12_seeks_24 : decode cX12_seeks 24 = .ok (.iload_n 2, 1) := by decide +kernel
theorem dX12_seeks_25 : decode cX12_seeks 25 = .ok (.imul, 1) := by decide +kernel
theorem dX12_seeks_26 : decode cX12_seeks 26 = .ok (.iload 4, 2) := by decide +kernel
theorem dX12_seeks_28 : decode cX12_seeks 28 = .ok (.iadd, 1) := by decide +kernel
theorem dX12_seeks_29 : decode cX12_seeks 29 = .ok (.aload_n 0, 1) := by decide +kernel
theorem dX12_seeks_30 : decode cX12_seeks 30 = .ok (.getfield 78, 3) := by decide +kernel
theorem dX12_seeks_33 : decode cX12_seeks 33 = .ok (.iload 4, 2) := by decide +kernel
theorem dX12_seeks_35 : decode cX12_seeks 35 = .ok (.iaload, 1) := by decide +kernel
theorem dX12_seeks_36 : decode cX12_seeks 36 = .ok (.iastore, 1) := by decide +kernel
theorem dX12_seeks_37 : decode cX12_seeks 37 = .ok (.iinc 4 1, 3) := by decide +kernel
theorem dX12_seeks_40 : decode cX12_seeks 40 = .ok (.goto (-27), 3) := by decide +kernel
theorem dX12_seeks_43 : decode cX12_seeks 43 = .ok (.iload_n 3, 1) := by decide +kernel
theorem dX12_seeks_44 : decode cX12_seeks 44 = .ok (.ifCond .ge 5, 3) := by decide +kernel
theorem dX12_seeks_47 : decode cX12_seeks 47 = .ok (.iconst 1, 1) := by decide +kernel
theorem dX12_seeks_48 : decode cX12_seeks 48 = .ok (.ireturn, 1) := by decide +kernel
theorem dX12_seeks_49 : decode cX12_seeks 49 = .ok (.iconst 0, 1) := by decide +kernel
theorem dX12_seeks_50 : decode cX12_seeks 50 = .ok (.istore 4, 2) := by decide +kernel
theorem dX12_seeks_52 : decode cX12_seeks 52 = .ok (.iload 4, 2) := by decide +kernel
theorem dX12_seeks_54 : decode cX12_seeks 54 = .ok (.bipush 6, 2) := by decide +kernel
theorem dX12_seeks_56 : decode cX12_seeks 56 = .ok (.if_icmp .ge 220, 3) := by decide +kernel
theorem dX12_seeks_59 : decode cX12_seeks 59 = .ok (.aload_n 0, 1) := by decide +kernel
theorem dX12_seeks_60 : decode cX12_seeks 60 = .ok (.getfield 102, 3) := by decide +kernel
theorem dX12_seeks_63 : decode cX12_seeks 63 = .ok (.iconst 5, 1) := by decide +kernel
theorem dX12_seeks_64 : decode cX12_seeks 64 = .ok (.iload_n 2, 1) := by decide +kernel
theorem dX12_seeks_65 : decode cX12_seeks 65 = .ok (.imul, 1) := by decide +kernel
theorem dX12_seeks_66 : decode cX12_seeks 66 = .ok (.iload_n 3, 1) := by decide +kernel
theorem dX12_seeks_67 : decode cX12_seeks 67 = .ok (.iadd, 1) := by decide +kernel
theorem dX12_seeks_68 : decode cX12_seeks 68 = .ok (.iaload, 1) := by decide +kernel
theorem dX12_seeks_69 : decode cX12_seeks 69 = .ok (.iload 4, 2) := by decide +kernel
theorem dX12_seeks_71 : decode cX12_seeks 71 = .ok (.invokestatic 208, 3) := by decide +kernel
theorem dX12_seeks_74 : decode cX12_seeks 74 = .ok (.ifCond .ne 6, 3) := by decide +kernel
theorem dX12_seeks_77 : decode cX12_seeks 77 = .ok (.goto 193, 3) := by decide +kernel
theorem dX12_seeks_80 : decode cX12_seeks 80 = .ok (.aload_n 0, 1) := by decide +kernel
theorem dX12_seeks_81 : decode cX12_seeks 81 = .ok (.getfield 385, 3) := by decide +kernel
theorem dX12_seeks_84 : decode cX12_seeks 84 = .ok (.sipush 200, 3) := by decide +kernel
theorem dX12_seeks_87 : decode cX12_seeks 87 = .ok (.if_icmp .ne 5, 3) := by decide +kernel
theorem dX12_seeks_90 : decode cX12_seeks 90 = .ok (.iconst 2, 1) := by decide +kernel
theorem dX12_seeks_91 : decode cX12_seeks 91 = .ok (.ireturn, 1) := by decide +kernel
theorem dX12_seeks_92 : decode cX12_seeks 92 = .ok (.aload_n 0, 1) := by decide +kernel
theorem dX12_seeks_93 : decode cX12_seeks 93 = .ok (.dup, 1) := by decide +kernel
theorem dX12_seeks_94 : decode cX12_seeks 94 = .ok (.getfield 385, 3) := by decide +kernel
theorem dX12_seeks_97 : decode cX12_seeks 97 = .ok (.iconst 1, 1) := by decide +kernel
theorem dX12_seeks_98 : decode cX12_seeks 98 = .ok (.iadd, 1) := by decide +kernel
theorem dX12_seeks_99 : decode cX12_seeks 99 = .ok (.putfield 385, 3) := by decide +kernel
theorem dX12_seeks_102 : decode cX12_seeks 102 = .ok (.aload_n 0, 1) := by decide +kernel
theorem dX12_seeks_103 : decode cX12_seeks 103 = .ok (.aload_n 0, 1) := by decide +kernel
theorem dX12_seeks_104 : decode cX12_seeks 104 = .ok (.getfield 388, 3) := by decide +kernel
theorem dX12_seeks_107 : decode cX12_seeks 107 = .ok (.iload_n 2, 1) := by decide +kernel
theorem dX12_seeks_108 : decode cX12_seeks 108 = .ok (.iconst 1, 1) := by decide +kernel
theorem dX12_seeks_109 : decode cX12_seeks 109 = .ok (.iadd, 1) := by decide +kernel
theorem dX12_seeks_110 : decode cX12_seeks 110 = .ok (.invokestatic 391, 3) := by decide +kernel
theorem dX12_seeks_113 : decode cX12_seeks 113 = .ok (.putfield 388, 3) := by decide +kernel
theorem dX12_seeks_116 : decode cX12_seeks 116 = .ok (.iconst 0, 1) := by decide +kernel
theorem dX12_seeks_117 : decode cX12_seeks 117 = .ok (.istore 5, 2) := by decide +kernel
theorem dX12_seeks_119 : decode cX12_seeks 119 = .ok (.iload 5, 2) := by decide +kernel
theorem dX12_seeks_121 : decode cX12_seeks 121 = .ok (.iconst 5, 1) := by decide +kernel
theorem dX12_seeks_122 : decode cX12_seeks 122 = .ok (.if_icmp .ge 40, 3) := by decide +kernel
theorem dX12_seeks_125 : decode cX12_seeks 125 = .ok (.aload_n 0, 1) := by decide +kernel
theorem dX12_seeks_126 : decode cX12_seeks 126 = .ok (.getfield 78, 3) := by decide +kernel
theorem dX12_seeks_129 : decode cX12_seeks 129 = .ok (.iload 5, 2) := by decide +kernel
theorem dX12_seeks_131 : decode cX12_seeks 131 = .ok (.iload 5, 2) := by decide +kernel
theorem dX12_seeks_133 : decode cX12_seeks 133 = .ok (.iload_n 3, 1) := by decide +kernel
theorem dX12_seeks_134 : decode cX12_seeks 134 = .ok (.if_icmp .ne 10, 3) := by decide +kernel
theorem dX12_seeks_137 : decode cX12_seeks 137 = .ok (.iconst 1, 1) := by decide +kernel
theorem dX12_seeks_138 : decode cX12_seeks 138 = .ok (.iload 4, 2) := by decide +kernel
theorem dX12_seeks_140 : decode cX12_seeks 140 = .ok (.ishl, 1) := by decide +kernel
theorem dX12_seeks_141 : decode cX12_seeks 141 = .ok (.goto 14, 3) := by decide +kernel
theorem dX12_seeks_144 : decode cX12_seeks 144 = .ok (.aload_n 0, 1) := by decide +kernel
theorem dX12_seeks_145 : decode cX12_seeks 145 = .ok (.getfield 102, 3) := by decide +kernel
theorem dX12_seeks_148 : decode cX12_seeks 148 = .ok (.iconst 5, 1) := by decide +kernel
theorem dX12_seeks_149 : decode cX12_seeks 149 = .ok (.iload_n 2, 1) := by decide +kernel
theorem dX12_seeks_150 : decode cX12_seeks 150 = .ok (.imul, 1) := by decide +kernel
theorem dX12_seeks_151 : decode cX12_seeks 151 = .ok (.iload 5, 2) := by decide +kernel
theorem dX12_seeks_153 : decode cX12_seeks 153 = .ok (.iadd, 1) := by decide +kernel
theorem dX12_seeks_154 : decode cX12_seeks 154 = .ok (.iaload, 1) := by decide +kernel
theorem dX12_seeks_155 : decode cX12_seeks 155 = .ok (.iastore, 1) := by decide +kernel
theorem dX12_seeks_156 : decode cX12_seeks 156 = .ok (.iinc 5 1, 3) := by decide +kernel
theorem dX12_seeks_159 : decode cX12_seeks 159 = .ok (.goto (-40), 3) := by decide +kernel
theorem dX12_seeks_162 : decode cX12_seeks 162 = .ok (.aload_n 0, 1) := by decide +kernel
theorem dX12_seeks_163 : decode cX12_seeks 163 = .ok (.aload_n 0, 1) := by decide +kernel
theorem dX12_seeks_164 : decode cX12_seeks 164 = .ok (.getfield 78, 3) := by decide +kernel
theorem dX12_seeks_167 : decode cX12_seeks 167 = .ok (.sipush 255, 3) := by decide +kernel
theorem dX12_seeks_170 : decode cX12_seeks 170 = .ok (.invokevirtual 279, 3) := by decide +kernel
theorem dX12_seeks_173 : decode cX12_seeks 173 = .ok (.ifCond .ne 26, 3) := by decide +kernel
theorem dX12_seeks_176 : decode cX12_seeks 176 = .ok (.aload_n 0, 1) := by decide +kernel
theorem dX12_seeks_177 : decode cX12_seeks 177 = .ok (.dup, 1) := by decide +kernel
theorem dX12_seeks_178 : decode cX12_seeks 178 = .ok (.getfield 394, 3) := by decide +kernel
theorem dX12_seeks_181 : decode cX12_seeks 181 = .ok (.iconst 1, 1) := by decide +kernel
theorem dX12_seeks_182 : decode cX12_seeks 182 = .ok (.iadd, 1) := by decide +kernel
theorem dX12_seeks_183 : decode cX12_seeks 183 = .ok (.putfield 394, 3) := by decide +kernel
theorem dX12_seeks_186 : decode cX12_seeks 186 = .ok (.aload_n 0, 1) := by decide +kernel
theorem dX12_seeks_187 : decode cX12_seeks 187 = .ok (.dup, 1) := by decide +kernel
theorem dX12_seeks_188 : decode cX12_seeks 188 = .ok (.getfield 397, 3) := by decide +kernel
theorem dX12_seeks_191 : decode cX12_seeks 191 = .ok (.iconst 1, 1) := by decide +kernel
theorem dX12_seeks_192 : decode cX12_seeks 192 = .ok (.iadd, 1) := by decide +kernel
theorem dX12_seeks_193 : decode cX12_seeks 193 = .ok (.putfield 397, 3) := by decide +kernel
theorem dX12_seeks_196 : decode cX12_seeks 196 = .ok (.goto 74, 3) := by decide +kernel
theorem dX12_seeks_199 : decode cX12_seeks 199 = .ok (.iconst 0, 1) := by decide +kernel
theorem dX12_seeks_200 : decode cX12_seeks 200 = .ok (.istore 5, 2) := by decide +kernel
theorem dX12_seeks_202 : decode cX12_seeks 202 = .ok (.iload 5, 2) := by decide +kernel
theorem dX12_seeks_204 : decode cX12_seeks 204 = .ok (.iconst 5, 1) := by decide +kernel
theorem dX12_seeks_205 : decode cX12_seeks 205 = .ok (.if_icmp .ge 47, 3) := by decide +kernel
theorem dX12_seeks_208 : decode cX12_seeks 208 = .ok (.aload_n 0, 1) := by decide +kernel
theorem dX12_seeks_209 : decode cX12_seeks 209 = .ok (.dup, 1) := by decide +kernel
theorem dX12_seeks_210 : decode cX12_seeks 210 = .ok (.getfield 397, 3) := by decide +kernel
theorem dX12_seeks_213 : decode cX12_seeks 213 = .ok (.aload_n 0, 1) := by decide +kernel
theorem dX12_seeks_214 : decode cX12_seeks 214 = .ok (.getfield 78, 3) := by decide +kernel
theorem dX12_seeks_217 : decode cX12_seeks 217 = .ok (.iload 5, 2) := by decide +kernel
theorem dX12_seeks_219 : decode cX12_seeks 219 = .ok (.iaload, 1) := by decide +kernel
theorem dX12_seeks_220 : decode cX12_seeks 220 = .ok (.aload_n 0, 1) := by decide +kernel
theorem dX12_seeks_221 : decode cX12_seeks 221 = .ok (.getfield 102, 3) := by decide +kernel
theorem dX12_seeks_224 : decode cX12_seeks 224 = .ok (.iconst 5, 1) := by decide +kernel
theorem dX12_seeks_225 : decode cX12_seeks 225 = .ok (.iload_n 2, 1) := by decide +kernel
theorem dX12_seeks_226 : decode cX12_seeks 226 = .ok (.imul, 1) := by decide +kernel
theorem dX12_seeks_227 : decode cX12_seeks 227 = .ok (.iload 5, 2) := by decide +kernel
theorem dX12_seeks_229 : decode cX12_seeks 229 = .ok (.iadd, 1) := by decide +kernel
theorem dX12_seeks_230 : decode cX12_seeks 230 = .ok (.iaload, 1) := by decide +kernel
theorem dX12_seeks_231 : decode cX12_seeks 231 = .ok (.if_icmp .eq 7, 3) := by decide +kernel
theorem dX12_seeks_234 : decode cX12_seeks 234 = .ok (.iconst 1, 1) := by decide +kernel
theorem dX12_seeks_235 : decode cX12_seeks 235 = .ok (.goto 4, 3) := by decide +kernel
theorem dX12_seeks_238 : decode cX12_seeks 238 = .ok (.iconst 0, 1) := by decide +kernel
theorem dX12_seeks_239 : decode cX12_seeks 239 = .ok (.invokestatic 34, 3) := by decide +kernel
theorem dX12_seeks_242 : decode cX12_seeks 242 = .ok (.iadd, 1) := by decide +kernel
theorem dX12_seeks_243 : decode cX12_seeks 243 = .ok (.putfield 397, 3) := by decide +kernel
theorem dX12_seeks_246 : decode cX12_seeks 246 = .ok (.iinc 5 1, 3) := by decide +kernel
theorem dX12_seeks_249 : decode cX12_seeks 249 = .ok (.goto (-47), 3) := by decide +kernel
theorem dX12_seeks_252 : decode cX12_seeks 252 = .ok (.aload_n 0, 1) := by decide +kernel
theorem dX12_seeks_253 : decode cX12_seeks 253 = .ok (.iload_n 1, 1) := by decide +kernel
theorem dX12_seeks_254 : decode cX12_seeks 254 = .ok (.iload_n 2, 1) := by decide +kernel
theorem dX12_seeks_255 : decode cX12_seeks 255 = .ok (.iconst 1, 1) := by decide +kernel
theorem dX12_seeks_256 : decode cX12_seeks 256 = .ok (.iadd, 1) := by decide +kernel
theorem dX12_seeks_257 : decode cX12_seeks 257 = .ok (.invokevirtual 400, 3) := by decide +kernel
theorem dX12_seeks_260 : decode cX12_seeks 260 = .ok (.istore 5, 2) := by decide +kernel
theorem dX12_seeks_262 : decode cX12_seeks 262 = .ok (.iload 5, 2) := by decide +kernel
theorem dX12_seeks_264 : decode cX12_seeks 264 = .ok (.ifCond .le 6, 3) := by decide +kernel
theorem dX12_seeks_267 : decode cX12_seeks 267 = .ok (.iload 5, 2) := by decide +kernel
theorem dX12_seeks_269 : decode cX12_seeks 269 = .ok (.ireturn, 1) := by decide +kernel
theorem dX12_seeks_270 : decode cX12_seeks 270 = .ok (.iinc 4 1, 3) := by decide +kernel
theorem dX12_seeks_273 : decode cX12_seeks 273 = .ok (.goto (-221), 3) := by decide +kernel
theorem dX12_seeks_276 : decode cX12_seeks 276 = .ok (.iconst 0, 1) := by decide +kernel
theorem dX12_seeks_277 : decode cX12_seeks 277 = .ok (.ireturn, 1) := by decide +kernel
def f_X12_seeks_L13 (a0 : Nat) (x2 : Int32) (u3 : Int32) (m4 : jM) : Option ((Int32 × jM) ⊕ (jM)) :=
  (if (5 : Int32) ≤ u3 then some (.inr m4) else jrd (m4.1 (a0 + 9)) u3 5 (fun v7 => jin (((5 : Int32) * x2) + u3) 155 (jbd (jsi m4 (a0 + 17) (((5 : Int32) * x2) + u3).toNatClampNeg v7) (fun m10 => some (.inl ((u3 + (1 : Int32), m10)))))))
def f_X12_seeks_L119 (a0 : Nat) (x2 : Int32) (v1 : Int32) (u17 : Int32) (u29 : Int32) (m30 : jM) : Option ((Int32 × jM) ⊕ (jM)) :=
  (if (5 : Int32) ≤ u29 then some (.inr m30) else (if u29 = v1 then jin u29 5 (jbd (jsi m30 (a0 + 9) u29.toNatClampNeg ((1 : Int32) <<< (u17 &&& 31))) (fun m40 => some (.inl ((u29 + (1 : Int32), m40))))) else jrd (m30.1 (a0 + 17)) (((5 : Int32) * x2) + u29) 155 (fun v34 => jin u29 5 (jbd (jsi m30 (a0 + 9) u29.toNatClampNeg v34) (fun m37 => some (.inl ((u29 + (1 : Int32), m37))))))))
def f_X12_seeks_L202 (a0 : Nat) (x2 : Int32) (u50 : Int32) (m51 : jM) : Option ((Int32 × jM) ⊕ (jM)) :=
  (if (5 : Int32) ≤ u50 then some (.inr m51) else jrd (m51.1 (a0 + 9)) u50 5 (fun v54 => jrd (m51.1 (a0 + 17)) (((5 : Int32) * x2) + u50) 155 (fun v57 => jbd (jsi m51 a0 31 ((m51.1 a0 31) + (f_X12_flag ((if v54 = v57 then (0 : Int32) else (1 : Int32)))))) (fun m60 => some (.inl ((u50 + (1 : Int32), m60)))))))
def f_X12_seeks_L52 (a0 : Nat) (x1 : Int32) (x2 : Int32) (rA : Nat → Int32 → Int32 → jM → Option (Int32 × jM)) (v1 : Int32) (u17 : Int32) (m18 : jM) : Option ((Int32 × jM) ⊕ ((jM) ⊕ ((Int32 × jM) ⊕ (jM)))) :=
  (if (6 : Int32) ≤ u17 then some (.inr (.inr (.inr (m18)))) else jrd (m18.1 (a0 + 17)) (((5 : Int32) * x2) + v1) 155 (fun v21 => (if (f_X12_has v21 u17) = (0 : Int32) then some (.inl ((u17 + (1 : Int32), m18))) else (if (m18.1 a0 28) = (200 : Int32) then some (.inr (.inl m18)) else jbd (jsi m18 a0 28 ((m18.1 a0 28) + (1 : Int32))) (fun m25 => jbd (jsi m25 a0 30 (jmax (m25.1 a0 30) (x2 + (1 : Int32)))) (fun m27 => jcl (jloop (fun (s : Int32 × jM) => f_X12_seeks_L119 a0 x2 v1 u17 s.1 s.2) jfu (((0 : Int32), m27))) (fun w42 => jcl2 (f_X12_spreadsBy a0 (a0 + 9) (255 : Int32) w42) (fun v46 m47 => (if v46 = (0 : Int32) then jbd (jsi m47 a0 29 ((m47.1 a0 29) + (1 : Int32))) (fun m70 => jbd (jsi m70 a0 31 ((m70.1 a0 31) + (1 : Int32))) (fun m72 => some (.inl ((u17 + (1 : Int32), m72))))) else jcl (jloop (fun (s : Int32 × jM) => f_X12_seeks_L202 a0 x2 s.1 s.2) jfu (((0 : Int32), m47))) (fun w62 => jcl2 (rA a0 x1 (x2 + (1 : Int32)) w62) (fun v66 m67 => (if v66 ≤ (0 : Int32) then some (.inl ((u17 + (1 : Int32), m67))) else some (.inr (.inr (.inl ((v66, m67)))))))))))))))))
def fb_X12_seeks (rA : Nat → Int32 → Int32 → jM → Option (Int32 × jM)) (a0 : Nat) (x1 : Int32) (x2 : Int32) (μ : jM) : Option (Int32 × jM) :=
  jcl (f_X12_taken a0 (a0 + 9) x1 μ) (fun v1 => jcl (jloop (fun (s : Int32 × jM) => f_X12_seeks_L13 a0 x2 s.1 s.2) jfu (((0 : Int32), μ))) (fun w12 => (if (0 : Int32) ≤ v1 then jcl (jloop (fun (s : Int32 × jM) => f_X12_seeks_L52 a0 x1 x2 rA v1 s.1 s.2) jfu (((0 : Int32), w12))) (fun w74 => match w74 with | .inl w74 => some (((2 : Int32), w74)) | .inr w74 => match w74 with | .inl w74 => some ((w74.1, w74.2)) | .inr w74 => some (((0 : Int32), w74))) else some (((1 : Int32), w12)))))
set_option maxHeartbeats 4000000 in
set_option maxRecDepth 100000 in
theorem cb_X12_seeks {l : Launch} {G : jG} {L : jL} (hL : jOKL L) {dA : Nat} (hD : 13 ≤ dA) {rA : Nat → Int32 → Int32 → jM → Option (Int32 × jM)} (hA : ∀ {b0 : Nat} {b1 : Int32} {b2 : Int32} {μ1 μ2 : jM} {r : Int32}, jK L b0 12 → rA b0 b1 b2 μ1 = some (r, μ2) → jCt l G L dA yX12_seeks cX12_seeks 6 (some .int) [.ref (L.2.2 b0), .int b1, .int b2] μ1 (some (.int r)) μ2) {a0 : Nat} {x1 : Int32} {x2 : Int32} (ka0 : jK L a0 12) {μ μ' : jM} {r : Int32} (h : fb_X12_seeks rA a0 x1 x2 μ = some ((r, μ'))) : jCt l G L (dA + 1) yX12_seeks cX12_seeks 6 (some .int) [.ref (L.2.2 a0), .int x1, .int x2] μ (some (.int r)) μ' := by
  refine jCt_of (by decide) (Nat.le_of_ble_eq_true rfl) (fun X hC hX hR => ?_)
  subst hX
  have hC : jC X G cX12_seeks 6 RX12 (some .int) := hC
  unfold fb_X12_seeks at h
  show jJ X G 6 L 0 0 (jQM X G L (some (.int r)) μ' 0 0) 0 [(0, .ref (L.2.2 a0)), (1, .int x1), (2, .int x2)] [] μ
  refine j_aload_n (pc := 0) hC 0 0 dX12_seeks_0 rfl rfl ?_
  refine j_aload_n (pc := 1) hC 0 0 dX12_seeks_1 rfl rfl ?_
  refine jgr_12 (pc := 2) hC 18 (by decide) rfl kf_X12_78 dX12_seeks_2 ka0 (ly_12_18 hL ka0).1 ?_
  refine j_iload_n (pc := 5) hC 1 1 dX12_seeks_5 rfl rfl ?_
  obtain ⟨v1, e2, h⟩ := jcl_some h
  refine j_vi (pc := 6) hC hR [.ref (L.2.2 (a0 + 9)), .int x1] iy_X12_taken (q := (RX12, TX12, 40)) (ci := 12) rfl rfl (by decide) km_X12_381 dX12_seeks_6 rfl (by decide) ka0 (c_X12_taken hL ka0 (ly_12_18 hL ka0).2.1 e2) (by omega) (Nat.le_of_ble_eq_true rfl) rfl ?_
  refine j_istore_n (pc := 9) hC 3 [(3, .int v1), (0, .ref (L.2.2 a0)), (1, .int x1), (2, .int x2)] dX12_seeks_9 rfl (by decide) rfl rfl ?_
  refine j_iconst (pc := 10) hC (0 : Int32) dX12_seeks_10 (by decide) ?_
  refine j_istore (pc := 11) hC [(4, .int (0 : Int32)), (3, .int v1), (0, .ref (L.2.2 a0)), (1, .int x1), (2, .int x2)] dX12_seeks_11 (by decide) rfl rfl ?_
  obtain ⟨w12, hw13, h⟩ := jcl_some h
  refine j_lv [2, 3, 4, 1, 0] rfl ?_
  refine j_loop (step := (fun (s : Int32 × jM) => f_X12_seeks_L13 a0 x2 s.1 s.2)) (P := (fun (s : Int32 × jM) => jJ X G 6 L 0 0 (jQM X G L (some (.int r)) μ' 0 0) 13 [(0, .ref (L.2.2 a0)), (1, .int x1), (2, .int x2), (3, .int v1), (4, .int s.1)] [] s.2)) (R := (fun (e : jM) => jJ X G 6 L 0 0 (jQM X G L (some (.int r)) μ' 0 0) 43 [(0, .ref (L.2.2 a0)), (1, .int x1), (2, .int x2), (3, .int v1)] [] e)) ?_ jfu (((0 : Int32), μ)) w12 hw13 ?_
  · intro s14 o h hk
    obtain ⟨u3, m4⟩ := s14
    change f_X12_seeks_L13 a0 x2 u3 m4 = some o at h
    unfold f_X12_seeks_L13 at h
    show jJ X G 6 L 0 0 (jQM X G L (some (.int r)) μ' 0 0) 13 [(0, .ref (L.2.2 a0)), (1, .int x1), (2, .int x2), (3, .int v1), (4, .int u3)] [] m4
    refine j_iload (pc := 13) hC 4 dX12_seeks_13 rfl ?_
    refine j_iconst (pc := 15) hC (5 : Int32) dX12_seeks_15 (by decide) ?_
    refine j_icmp_ge (pc := 16) hC 43 dX12_seeks_16 (by decide) (fun c5 => ?_) (fun c5 => ?_)
    · rw [if_pos c5] at h
      obtain rfl := Option.some.inj h
      have hk : jJ X G 6 L 0 0 (jQM X G L (some (.int r)) μ' 0 0) 43 [(0, .ref (L.2.2 a0)), (1, .int x1), (2, .int x2), (3, .int v1)] [] m4 := hk
      exact j_lv [0, 1, 2, 3] rfl hk
    · rw [if_neg c5] at h
      refine j_aload_n (pc := 19) hC 0 0 dX12_seeks_19 rfl rfl ?_
      refine jgr_12 (pc := 20) hC 32 (by decide) rfl kf_X12_102 dX12_seeks_20 ka0 (ly_12_32 hL ka0).1 ?_
      refine j_iconst (pc := 23) hC (5 : Int32) dX12_seeks_23 (by decide) ?_
      refine j_iload_n (pc := 24) hC 2 2 dX12_seeks_24 rfl rfl ?_
      refine j_imul (pc := 25) hC dX12_seeks_25 ?_
      refine j_iload (pc := 26) hC 4 dX12_seeks_26 rfl ?_
      refine j_iadd (pc := 28) hC dX12_seeks_28 ?_
      refine j_aload_n (pc := 29) hC 0 0 dX12_seeks_29 rfl rfl ?_
      refine jgr_12 (pc := 30) hC 18 (by decide) rfl kf_X12_78 dX12_seeks_30 ka0 (ly_12_18 hL ka0).1 ?_
      refine j_iload (pc := 33) hC 4 dX12_seeks_33 rfl ?_
      obtain ⟨i6, v7, e8, h⟩ := jrd_some h
      refine j_iald (pc := 35) hC dX12_seeks_35 (ly_12_18 hL ka0).2.1 (ly_12_18 hL ka0).2.2 i6 e8 ?_
      obtain ⟨i9, h⟩ := jin_some h
      obtain ⟨m10, e11, h⟩ := jbd_ex h
      refine j_iast (pc := 36) hC dX12_seeks_36 (ly_12_32 hL ka0).2.1 (ly_12_32 hL ka0).2.2 i9 e11 ?_
      refine j_iinc (pc := 37) hC 4 (u3 + (1 : Int32)) [(4, .int (u3 + (1 : Int32))), (0, .ref (L.2.2 a0)), (1, .int x1), (2, .int x2), (3, .int v1)] dX12_seeks_37 rfl rfl (by decide) rfl ?_
      refine j_goto (pc := 40) hC 13 dX12_seeks_40 (by decide) ?_
      obtain rfl := Option.some.inj h
      have hk : jJ X G 6 L 0 0 (jQM X G L (some (.int r)) μ' 0 0) 13 [(0, .ref (L.2.2 a0)), (1, .int x1), (2, .int x2), (3, .int v1), (4, .int (u3 + (1 : Int32)))] [] m10 := hk
      exact j_lv [1, 2, 3, 4, 0] rfl hk
  · obtain ⟨m15, rfl⟩ : ∃ y, y = w12 := ⟨_, rfl⟩
    try dsimp only at h
    show jJ X G 6 L 0 0 (jQM X G L (some (.int r)) μ' 0 0) 43 [(0, .ref (L.2.2 a0)), (1, .int x1), (2, .int x2), (3, .int v1)] [] m15
    refine j_iload_n (pc := 43) hC 3 3 dX12_seeks_43 rfl rfl ?_
    refine j_if_ge (pc := 44) hC 49 dX12_seeks_44 (by decide) (fun c16 => ?_) (fun c16 => ?_)
    · rw [if_pos c16] at h
      refine j_iconst (pc := 49) hC (0 : Int32) dX12_seeks_49 (by decide) ?_
      refine j_istore (pc := 50) hC [(4, .int (0 : Int32)), (0, .ref (L.2.2 a0)), (1, .int x1), (2, .int x2), (3, .int v1)] dX12_seeks_50 (by decide) rfl rfl ?_
      obtain ⟨w74, hw75, h⟩ := jcl_some h
      refine j_lv [1, 2, 3, 4, 0] rfl ?_
      refine j_loop (step := (fun (s : Int32 × jM) => f_X12_seeks_L52 a0 x1 x2 rA v1 s.1 s.2)) (P := (fun (s : Int32 × jM) => jJ X G 6 L 0 0 (jQM X G L (some (.int r)) μ' 0 0) 52 [(0, .ref (L.2.2 a0)), (1, .int x1), (2, .int x2), (3, .int v1), (4, .int s.1)] [] s.2)) (R := (fun (e : (jM) ⊕ ((Int32 × jM) ⊕ (jM))) => match e with | .inl e => jJ X G 6 L 0 0 (jQM X G L (some (.int r)) μ' 0 0) 90 [] [] e | .inr e => match e with | .inl e => jJ X G 6 L 0 0 (jQM X G L (some (.int r)) μ' 0 0) 267 [(5, .int e.1)] [] e.2 | .inr e => jJ X G 6 L 0 0 (jQM X G L (some (.int r)) μ' 0 0) 276 [] [] e)) ?_ jfu (((0 : Int32), m15)) w74 hw75 ?_
      · intro s76 o h hk
        obtain ⟨u17, m18⟩ := s76
        change f_X12_seeks_L52 a0 x1 x2 rA v1 u17 m18 = some o at h
        unfold f_X12_seeks_L52 at h
        show jJ X G 6 L 0 0 (jQM X G L (some (.int r)) μ' 0 0) 52 [(0, .ref (L.2.2 a0)), (1, .int x1), (2, .int x2), (3, .int v1), (4, .int u17)] [] m18
        refine j_iload (pc := 52) hC 4 dX12_seeks_52 rfl ?_
        refine j_bipush (pc := 54) hC (6 : Int32) dX12_seeks_54 (by decide) ?_
        refine j_icmp_ge (pc := 56) hC 276 dX12_seeks_56 (by decide) (fun c19 => ?_) (fun c19 => ?_)
        · rw [if_pos c19] at h
          obtain rfl := Option.some.inj h
          have hk : jJ X G 6 L 0 0 (jQM X G L (some (.int r)) μ' 0 0) 276 [] [] m18 := hk
          exact j_lv [] rfl hk
        · rw [if_neg c19] at h
          refine j_aload_n (pc := 59) hC 0 0 dX12_seeks_59 rfl rfl ?_
          refine jgr_12 (pc := 60) hC 32 (by decide) rfl kf_X12_102 dX12_seeks_60 ka0 (ly_12_32 hL ka0).1 ?_
          refine j_iconst (pc := 63) hC (5 : Int32) dX12_seeks_63 (by decide) ?_
          refine j_iload_n (pc := 64) hC 2 2 dX12_seeks_64 rfl rfl ?_
          refine j_imul (pc := 65) hC dX12_seeks_65 ?_
          refine j_iload_n (pc := 66) hC 3 3 dX12_seeks_66 rfl rfl ?_
          refine j_iadd (pc := 67) hC dX12_seeks_67 ?_
          obtain ⟨i20, v21, e22, h⟩ := jrd_some h
          refine j_iald (pc := 68) hC dX12_seeks_68 (ly_12_32 hL ka0).2.1 (ly_12_32 hL ka0).2.2 i20 e22 ?_
          refine j_iload (pc := 69) hC 4 dX12_seeks_69 rfl ?_
          refine j_si (pc := 71) hC hR [.int v21, .int u17] iy_X12_has km_X12_208 dX12_seeks_71 rfl (by decide) (c_X12_has hL  rfl) (by omega) (Nat.le_of_ble_eq_true rfl) rfl ?_
          refine j_if_ne (pc := 74) hC 80 dX12_seeks_74 (by decide) (fun c23 => ?_) (fun c23 => ?_)
          · rw [if_neg c23] at h
            refine j_aload_n (pc := 80) hC 0 0 dX12_seeks_80 rfl rfl ?_
            refine jgi_12 (pc := 81) hC 28 (by decide) rfl kf_X12_385 dX12_seeks_81 ka0 ?_
            refine j_sipush (pc := 84) hC (200 : Int32) dX12_seeks_84 (by decide) ?_
            refine j_icmp_ne (pc := 87) hC 92 dX12_seeks_87 (by decide) (fun c24 => ?_) (fun c24 => ?_)
            · rw [if_neg c24] at h
              refine j_aload_n (pc := 92) hC 0 0 dX12_seeks_92 rfl rfl ?_
              refine j_dup (pc := 93) hC dX12_seeks_93 rfl ?_
              refine jgi_12 (pc := 94) hC 28 (by decide) rfl kf_X12_385 dX12_seeks_94 ka0 ?_
              refine j_iconst (pc := 97) hC (1 : Int32) dX12_seeks_97 (by decide) ?_
              refine j_iadd (pc := 98) hC dX12_seeks_98 ?_
              obtain ⟨m25, e26, h⟩ := jbd_ex h
              refine jpi_12 (pc := 99) hC 28 (by decide) rfl kf_X12_385 dX12_seeks_99 rfl (by decide) ka0 e26 ?_
              refine j_aload_n (pc := 102) hC 0 0 dX12_seeks_102 rfl rfl ?_
              refine j_aload_n (pc := 103) hC 0 0 dX12_seeks_103 rfl rfl ?_
              refine jgi_12 (pc := 104) hC 30 (by decide) rfl kf_X12_388 dX12_seeks_104 ka0 ?_
              refine j_iload_n (pc := 107) hC 2 2 dX12_seeks_107 rfl rfl ?_
              refine j_iconst (pc := 108) hC (1 : Int32) dX12_seeks_108 (by decide) ?_
              refine j_iadd (pc := 109) hC dX12_seeks_109 ?_
              refine j_mmax (pc := 110) hC hR kx_X12_391 dX12_seeks_110 (by omega) (Nat.le_of_ble_eq_true rfl) ?_
              obtain ⟨m27, e28, h⟩ := jbd_ex h
              refine jpi_12 (pc := 113) hC 30 (by decide) rfl kf_X12_388 dX12_seeks_113 rfl (by decide) ka0 e28 ?_
              refine j_iconst (pc := 116) hC (0 : Int32) dX12_seeks_116 (by decide) ?_
              refine j_istore (pc := 117) hC [(5, .int (0 : Int32)), (0, .ref (L.2.2 a0)), (1, .int x1), (2, .int x2), (3, .int v1), (4, .int u17)] dX12_seeks_117 (by decide) rfl rfl ?_
              obtain ⟨w42, hw43, h⟩ := jcl_some h
              refine j_lv [1, 2, 3, 4, 5, 0] rfl ?_
              refine j_loop (step := (fun (s : Int32 × jM) => f_X12_seeks_L119 a0 x2 v1 u17 s.1 s.2)) (P := (fun (s : Int32 × jM) => jJ X G 6 L 0 0 (jQM X G L (some (.int r)) μ' 0 0) 119 [(0, .ref (L.2.2 a0)), (1, .int x1), (2, .int x2), (3, .int v1), (4, .int u17), (5, .int s.1)] [] s.2)) (R := (fun (e : jM) => jJ X G 6 L 0 0 (jQM X G L (some (.int r)) μ' 0 0) 162 [(0, .ref (L.2.2 a0)), (1, .int x1), (2, .int x2), (3, .int v1), (4, .int u17)] [] e)) ?_ jfu (((0 : Int32), m27)) w42 hw43 ?_
              · intro s44 o h hk
                obtain ⟨u29, m30⟩ := s44
                change f_X12_seeks_L119 a0 x2 v1 u17 u29 m30 = some o at h
                unfold f_X12_seeks_L119 at h
                show jJ X G 6 L 0 0 (jQM X G L (some (.int r)) μ' 0 0) 119 [(0, .ref (L.2.2 a0)), (1, .int x1), (2, .int x2), (3, .int v1), (4, .int u17), (5, .int u29)] [] m30
                refine j_iload (pc := 119) hC 5 dX12_seeks_119 rfl ?_
                refine j_iconst (pc := 121) hC (5 : Int32) dX12_seeks_121 (by decide) ?_
                refine j_icmp_ge (pc := 122) hC 162 dX12_seeks_122 (by decide) (fun c31 => ?_) (fun c31 => ?_)
                · rw [if_pos c31] at h
                  obtain rfl := Option.some.inj h
                  have hk : jJ X G 6 L 0 0 (jQM X G L (some (.int r)) μ' 0 0) 162 [(0, .ref (L.2.2 a0)), (1, .int x1), (2, .int x2), (3, .int v1), (4, .int u17)] [] m30 := hk
                  exact j_lv [0, 1, 2, 3, 4] rfl hk
                · rw [if_neg c31] at h
                  refine j_aload_n (pc := 125) hC 0 0 dX12_seeks_125 rfl rfl ?_
                  refine jgr_12 (pc := 126) hC 18 (by decide) rfl kf_X12_78 dX12_seeks_126 ka0 (ly_12_18 hL ka0).1 ?_
                  refine j_iload (pc := 129) hC 5 dX12_seeks_129 rfl ?_
                  refine j_iload (pc := 131) hC 5 dX12_seeks_131 rfl ?_
                  refine j_iload_n (pc := 133) hC 3 3 dX12_seeks_133 rfl rfl ?_
                  refine j_icmp_ne (pc := 134) hC 144 dX12_seeks_134 (by decide) (fun c32 => ?_) (fun c32 => ?_)
                  · rw [if_neg c32] at h
                    refine j_aload_n (pc := 144) hC 0 0 dX12_seeks_144 rfl rfl ?_
                    refine jgr_12 (pc := 145) hC 32 (by decide) rfl kf_X12_102 dX12_seeks_145 ka0 (ly_12_32 hL ka0).1 ?_
                    refine j_iconst (pc := 148) hC (5 : Int32) dX12_seeks_148 (by decide) ?_
                    refine j_iload_n (pc := 149) hC 2 2 dX12_seeks_149 rfl rfl ?_
                    refine j_imul (pc := 150) hC dX12_seeks_150 ?_
                    refine j_iload (pc := 151) hC 5 dX12_seeks_151 rfl ?_
                    refine j_iadd (pc := 153) hC dX12_seeks_153 ?_
                    obtain ⟨i33, v34, e35, h⟩ := jrd_some h
                    refine j_iald (pc := 154) hC dX12_seeks_154 (ly_12_32 hL ka0).2.1 (ly_12_32 hL ka0).2.2 i33 e35 ?_
                    obtain ⟨i36, h⟩ := jin_some h
                    obtain ⟨m37, e38, h⟩ := jbd_ex h
                    refine j_iast (pc := 155) hC dX12_seeks_155 (ly_12_18 hL ka0).2.1 (ly_12_18 hL ka0).2.2 i36 e38 ?_
                    refine j_iinc (pc := 156) hC 5 (u29 + (1 : Int32)) [(5, .int (u29 + (1 : Int32))), (0, .ref (L.2.2 a0)), (1, .int x1), (2, .int x2), (3, .int v1), (4, .int u17)] dX12_seeks_156 rfl rfl (by decide) rfl ?_
                    refine j_goto (pc := 159) hC 119 dX12_seeks_159 (by decide) ?_
                    obtain rfl := Option.some.inj h
                    have hk : jJ X G 6 L 0 0 (jQM X G L (some (.int r)) μ' 0 0) 119 [(0, .ref (L.2.2 a0)), (1, .int x1), (2, .int x2), (3, .int v1), (4, .int u17), (5, .int (u29 + (1 : Int32)))] [] m37 := hk
                    exact j_lv [1, 2, 3, 4, 5, 0] rfl hk
                  · rw [if_pos c32] at h
                    refine j_iconst (pc := 137) hC (1 : Int32) dX12_seeks_137 (by decide) ?_
                    refine j_iload (pc := 138) hC 4 dX12_seeks_138 rfl ?_
                    refine j_ishl (pc := 140) hC dX12_seeks_140 ?_
                    refine j_goto (pc := 141) hC 155 dX12_seeks_141 (by decide) ?_
                    obtain ⟨i39, h⟩ := jin_some h
                    obtain ⟨m40, e41, h⟩ := jbd_ex h
                    refine j_iast (pc := 155) hC dX12_seeks_155 (ly_12_18 hL ka0).2.1 (ly_12_18 hL ka0).2.2 i39 e41 ?_
                    refine j_iinc (pc := 156) hC 5 (u29 + (1 : Int32)) [(5, .int (u29 + (1 : Int32))), (0, .ref (L.2.2 a0)), (1, .int x1), (2, .int x2), (3, .int v1), (4, .int u17)] dX12_seeks_156 rfl rfl (by decide) rfl ?_
                    refine j_goto (pc := 159) hC 119 dX12_seeks_159 (by decide) ?_
                    obtain rfl := Option.some.inj h
                    have hk : jJ X G 6 L 0 0 (jQM X G L (some (.int r)) μ' 0 0) 119 [(0, .ref (L.2.2 a0)), (1, .int x1), (2, .int x2), (3, .int v1), (4, .int u17), (5, .int (u29 + (1 : Int32)))] [] m40 := hk
                    exact j_lv [1, 2, 3, 4, 5, 0] rfl hk
              · obtain ⟨m45, rfl⟩ : ∃ y, y = w42 := ⟨_, rfl⟩
                try dsimp only at h
                show jJ X G 6 L 0 0 (jQM X G L (some (.int r)) μ' 0 0) 162 [(0, .ref (L.2.2 a0)), (1, .int x1), (2, .int x2), (3, .int v1), (4, .int u17)] [] m45
                refine j_aload_n (pc := 162) hC 0 0 dX12_seeks_162 rfl rfl ?_
                refine j_aload_n (pc := 163) hC 0 0 dX12_seeks_163 rfl rfl ?_
                refine jgr_12 (pc := 164) hC 18 (by decide) rfl kf_X12_78 dX12_seeks_164 ka0 (ly_12_18 hL ka0).1 ?_
                refine j_sipush (pc := 167) hC (255 : Int32) dX12_seeks_167 (by decide) ?_
                obtain ⟨v46, m47, e48, h⟩ := jcl2_some h
                refine j_vi (pc := 170) hC hR [.ref (L.2.2 (a0 + 9)), .int (255 : Int32)] iy_X12_spreadsBy (q := (RX12, TX12, 40)) (ci := 12) rfl rfl (by decide) km_X12_279 dX12_seeks_170 rfl (by decide) ka0 (c_X12_spreadsBy hL ka0 (ly_12_18 hL ka0).2.1 e48) (by omega) (Nat.le_of_ble_eq_true rfl) rfl ?_
                refine j_if_ne (pc := 173) hC 199 dX12_seeks_173 (by decide) (fun c49 => ?_) (fun c49 => ?_)
                · rw [if_neg c49] at h
                  refine j_iconst (pc := 199) hC (0 : Int32) dX12_seeks_199 (by decide) ?_
                  refine j_istore (pc := 200) hC [(5, .int (0 : Int32)), (0, .ref (L.2.2 a0)), (1, .int x1), (2, .int x2), (3, .int v1), (4, .int u17)] dX12_seeks_200 (by decide) rfl rfl ?_
                  obtain ⟨w62, hw63, h⟩ := jcl_some h
                  refine j_lv [1, 2, 3, 4, 5, 0] rfl ?_
                  refine j_loop (step := (fun (s : Int32 × jM) => f_X12_seeks_L202 a0 x2 s.1 s.2)) (P := (fun (s : Int32 × jM) => jJ X G 6 L 0 0 (jQM X G L (some (.int r)) μ' 0 0) 202 [(0, .ref (L.2.2 a0)), (1, .int x1), (2, .int x2), (3, .int v1), (4, .int u17), (5, .int s.1)] [] s.2)) (R := (fun (e : jM) => jJ X G 6 L 0 0 (jQM X G L (some (.int r)) μ' 0 0) 252 [(0, .ref (L.2.2 a0)), (1, .int x1), (2, .int x2), (3, .int v1), (4, .int u17)] [] e)) ?_ jfu (((0 : Int32), m47)) w62 hw63 ?_
                  · intro s64 o h hk
                    obtain ⟨u50, m51⟩ := s64
                    change f_X12_seeks_L202 a0 x2 u50 m51 = some o at h
                    unfold f_X12_seeks_L202 at h
                    show jJ X G 6 L 0 0 (jQM X G L (some (.int r)) μ' 0 0) 202 [(0, .ref (L.2.2 a0)), (1, .int x1), (2, .int x2), (3, .int v1), (4, .int u17), (5, .int u50)] [] m51
                    refine j_iload (pc := 202) hC 5 dX12_seeks_202 rfl ?_
                    refine j_iconst (pc := 204) hC (5 : Int32) dX12_seeks_204 (by decide) ?_
                    refine j_icmp_ge (pc := 205) hC 252 dX12_seeks_205 (by decide) (fun c52 => ?_) (fun c52 => ?_)
                    · rw [if_pos c52] at h
                      obtain rfl := Option.some.inj h
                      have hk : jJ X G 6 L 0 0 (jQM X G L (some (.int r)) μ' 0 0) 252 [(0, .ref (L.2.2 a0)), (1, .int x1), (2, .int x2), (3, .int v1), (4, .int u17)] [] m51 := hk
                      exact j_lv [0, 1, 2, 3, 4] rfl hk
                    · rw [if_neg c52] at h
                      refine j_aload_n (pc := 208) hC 0 0 dX12_seeks_208 rfl rfl ?_
                      refine j_dup (pc := 209) hC dX12_seeks_209 rfl ?_
                      refine jgi_12 (pc := 210) hC 31 (by decide) rfl kf_X12_397 dX12_seeks_210 ka0 ?_
                      refine j_aload_n (pc := 213) hC 0 0 dX12_seeks_213 rfl rfl ?_
                      refine jgr_12 (pc := 214) hC 18 (by decide) rfl kf_X12_78 dX12_seeks_214 ka0 (ly_12_18 hL ka0).1 ?_
                      refine j_iload (pc := 217) hC 5 dX12_seeks_217 rfl ?_
                      obtain ⟨i53, v54, e55, h⟩ := jrd_some h
                      refine j_iald (pc := 219) hC dX12_seeks_219 (ly_12_18 hL ka0).2.1 (ly_12_18 hL ka0).2.2 i53 e55 ?_
                      refine j_aload_n (pc := 220) hC 0 0 dX12_seeks_220 rfl rfl ?_
                      refine jgr_12 (pc := 221) hC 32 (by decide) rfl kf_X12_102 dX12_seeks_221 ka0 (ly_12_32 hL ka0).1 ?_
                      refine j_iconst (pc := 224) hC (5 : Int32) dX12_seeks_224 (by decide) ?_
                      refine j_iload_n (pc := 225) hC 2 2 dX12_seeks_225 rfl rfl ?_
                      refine j_imul (pc := 226) hC dX12_seeks_226 ?_
                      refine j_iload (pc := 227) hC 5 dX12_seeks_227 rfl ?_
                      refine j_iadd (pc := 229) hC dX12_seeks_229 ?_
                      obtain ⟨i56, v57, e58, h⟩ := jrd_some h
                      refine j_iald (pc := 230) hC dX12_seeks_230 (ly_12_32 hL ka0).2.1 (ly_12_32 hL ka0).2.2 i56 e58 ?_
                      refine jmg (B := jJ X G 6 L 0 0 (jQM X G L (some (.int r)) μ' 0 0) 239 [(0, .ref (L.2.2 a0)), (1, .int x1), (2, .int x2), (3, .int v1), (4, .int u17), (5, .int u50)] [.int ((if v54 = v57 then (0 : Int32) else (1 : Int32))), .int (m51.1 a0 31), .ref (L.2.2 a0)] m51) (fun hj => ?_) ?_
                      · refine j_icmp_eq (pc := 231) hC 238 dX12_seeks_231 (by decide) (fun c59 => ?_) (fun c59 => ?_)
                        · rw [if_pos c59] at hj
                          refine j_iconst (pc := 238) hC (0 : Int32) dX12_seeks_238 (by decide) ?_
                          exact hj
                        · rw [if_neg c59] at hj
                          refine j_iconst (pc := 234) hC (1 : Int32) dX12_seeks_234 (by decide) ?_
                          refine j_goto (pc := 235) hC 239 dX12_seeks_235 (by decide) ?_
                          exact hj
                      refine j_si (pc := 239) hC hR [.int ((if v54 = v57 then (0 : Int32) else (1 : Int32)))] iy_X12_flag km_X12_34 dX12_seeks_239 rfl (by decide) (c_X12_flag hL  rfl) (by omega) (Nat.le_of_ble_eq_true rfl) rfl ?_
                      refine j_iadd (pc := 242) hC dX12_seeks_242 ?_
                      obtain ⟨m60, e61, h⟩ := jbd_ex h
                      refine jpi_12 (pc := 243) hC 31 (by decide) rfl kf_X12_397 dX12_seeks_243 rfl (by decide) ka0 e61 ?_
                      refine j_iinc (pc := 246) hC 5 (u50 + (1 : Int32)) [(5, .int (u50 + (1 : Int32))), (0, .ref (L.2.2 a0)), (1, .int x1), (2, .int x2), (3, .int v1), (4, .int u17)] dX12_seeks_246 rfl rfl (by decide) rfl ?_
                      refine j_goto (pc := 249) hC 202 dX12_seeks_249 (by decide) ?_
                      obtain rfl := Option.some.inj h
                      have hk : jJ X G 6 L 0 0 (jQM X G L (some (.int r)) μ' 0 0) 202 [(0, .ref (L.2.2 a0)), (1, .int x1), (2, .int x2), (3, .int v1), (4, .int u17), (5, .int (u50 + (1 : Int32)))] [] m60 := hk
                      exact j_lv [1, 2, 3, 4, 5, 0] rfl hk
                  · obtain ⟨m65, rfl⟩ : ∃ y, y = w62 := ⟨_, rfl⟩
                    try dsimp only at h
                    show jJ X G 6 L 0 0 (jQM X G L (some (.int r)) μ' 0 0) 252 [(0, .ref (L.2.2 a0)), (1, .int x1), (2, .int x2), (3, .int v1), (4, .int u17)] [] m65
                    refine j_aload_n (pc := 252) hC 0 0 dX12_seeks_252 rfl rfl ?_
                    refine j_iload_n (pc := 253) hC 1 1 dX12_seeks_253 rfl rfl ?_
                    refine j_iload_n (pc := 254) hC 2 2 dX12_seeks_254 rfl rfl ?_
                    refine j_iconst (pc := 255) hC (1 : Int32) dX12_seeks_255 (by decide) ?_
                    refine j_iadd (pc := 256) hC dX12_seeks_256 ?_
                    obtain ⟨v66, m67, e68, h⟩ := jcl2_some h
                    refine j_vi (pc := 257) hC hR [.int x1, .int (x2 + (1 : Int32))] iy_X12_seeks (q := (RX12, TX12, 40)) (ci := 12) rfl rfl (by decide) km_X12_400 dX12_seeks_257 rfl (by decide) ka0 (hA ka0 e68) (by omega) (Nat.le_of_ble_eq_true rfl) rfl ?_
                    refine j_istore (pc := 260) hC [(5, .int v66), (0, .ref (L.2.2 a0)), (1, .int x1), (2, .int x2), (3, .int v1), (4, .int u17)] dX12_seeks_260 (by decide) rfl rfl ?_
                    refine j_iload (pc := 262) hC 0 dX12_seeks_262 rfl ?_
                    refine j_if_le (pc := 264) hC 270 dX12_seeks_264 (by decide) (fun c69 => ?_) (fun c69 => ?_)
                    · rw [if_pos c69] at h
                      refine j_iinc (pc := 270) hC 5 (u17 + (1 : Int32)) [(4, .int (u17 + (1 : Int32))), (5, .int v66), (0, .ref (L.2.2 a0)), (1, .int x1), (2, .int x2), (3, .int v1)] dX12_seeks_270 rfl rfl (by decide) rfl ?_
                      refine j_goto (pc := 273) hC 52 dX12_seeks_273 (by decide) ?_
                      obtain rfl := Option.some.inj h
                      have hk : jJ X G 6 L 0 0 (jQM X G L (some (.int r)) μ' 0 0) 52 [(0, .ref (L.2.2 a0)), (1, .int x1), (2, .int x2), (3, .int v1), (4, .int (u17 + (1 : Int32)))] [] m67 := hk
                      exact j_lv [2, 3, 4, 5, 0] rfl hk
                    · rw [if_neg c69] at h
                      obtain rfl := Option.some.inj h
                      have hk : jJ X G 6 L 0 0 (jQM X G L (some (.int r)) μ' 0 0) 267 [(5, .int v66)] [] m67 := hk
                      exact j_lv [0] rfl hk
                · rw [if_pos c49] at h
                  refine j_aload_n (pc := 176) hC 0 0 dX12_seeks_176 rfl rfl ?_
                  refine j_dup (pc := 177) hC dX12_seeks_177 rfl ?_
                  refine jgi_12 (pc := 178) hC 29 (by decide) rfl kf_X12_394 dX12_seeks_178 ka0 ?_
                  refine j_iconst (pc := 181) hC (1 : Int32) dX12_seeks_181 (by decide) ?_
                  refine j_iadd (pc := 182) hC dX12_seeks_182 ?_
                  obtain ⟨m70, e71, h⟩ := jbd_ex h
                  refine jpi_12 (pc := 183) hC 29 (by decide) rfl kf_X12_394 dX12_seeks_183 rfl (by decide) ka0 e71 ?_
                  refine j_aload_n (pc := 186) hC 0 0 dX12_seeks_186 rfl rfl ?_
                  refine j_dup (pc := 187) hC dX12_seeks_187 rfl ?_
                  refine jgi_12 (pc := 188) hC 31 (by decide) rfl kf_X12_397 dX12_seeks_188 ka0 ?_
                  refine j_iconst (pc := 191) hC (1 : Int32) dX12_seeks_191 (by decide) ?_
                  refine j_iadd (pc := 192) hC dX12_seeks_192 ?_
                  obtain ⟨m72, e73, h⟩ := jbd_ex h
                  refine jpi_12 (pc := 193) hC 31 (by decide) rfl kf_X12_397 dX12_seeks_193 rfl (by decide) ka0 e73 ?_
                  refine j_goto (pc := 196) hC 270 dX12_seeks_196 (by decide) ?_
                  refine j_iinc (pc := 270) hC 4 (u17 + (1 : Int32)) [(4, .int (u17 + (1 : Int32))), (0, .ref (L.2.2 a0)), (1, .int x1), (2, .int x2), (3, .int v1)] dX12_seeks_270 rfl rfl (by decide) rfl ?_
                  refine j_goto (pc := 273) hC 52 dX12_seeks_273 (by decide) ?_
                  obtain rfl := Option.some.inj h
                  have hk : jJ X G 6 L 0 0 (jQM X G L (some (.int r)) μ' 0 0) 52 [(0, .ref (L.2.2 a0)), (1, .int x1), (2, .int x2), (3, .int v1), (4, .int (u17 + (1 : Int32)))] [] m72 := hk
                  exact j_lv [1, 2, 3, 4, 0] rfl hk
            · rw [if_pos c24] at h
              obtain rfl := Option.some.inj h
              have hk : jJ X G 6 L 0 0 (jQM X G L (some (.int r)) μ' 0 0) 90 [] [] m18 := hk
              exact j_lv [] rfl hk
          · rw [if_pos c23] at h
            refine j_goto (pc := 77) hC 270 dX12_seeks_77 (by decide) ?_
            refine j_iinc (pc := 270) hC 4 (u17 + (1 : Int32)) [(4, .int (u17 + (1 : Int32))), (0, .ref (L.2.2 a0)), (1, .int x1), (2, .int x2), (3, .int v1)] dX12_seeks_270 rfl rfl (by decide) rfl ?_
            refine j_goto (pc := 273) hC 52 dX12_seeks_273 (by decide) ?_
            obtain rfl := Option.some.inj h
            have hk : jJ X G 6 L 0 0 (jQM X G L (some (.int r)) μ' 0 0) 52 [(0, .ref (L.2.2 a0)), (1, .int x1), (2, .int x2), (3, .int v1), (4, .int (u17 + (1 : Int32)))] [] m18 := hk
            exact j_lv [1, 2, 3, 4, 0] rfl hk
      · cases w74 with
        | inl w74 =>
          try dsimp only at h
          obtain ⟨m77, rfl⟩ : ∃ y, y = w74 := ⟨_, rfl⟩
          try dsimp only at h
          show jJ X G 6 L 0 0 (jQM X G L (some (.int r)) μ' 0 0) 90 [] [] m77
          refine j_iconst (pc := 90) hC (2 : Int32) dX12_seeks_90 (by decide) ?_
          obtain ⟨rfl, rfl⟩ := Prod.mk.inj (Option.some.inj h)
          exact j_iret (pc := 91) hC dX12_seeks_91 rfl
        | inr w74 =>
          try dsimp only at h
          cases w74 with
          | inl w74 =>
            try dsimp only at h
            obtain ⟨z78, m79⟩ := w74
            try dsimp only at h
            show jJ X G 6 L 0 0 (jQM X G L (some (.int r)) μ' 0 0) 267 [(5, .int z78)] [] m79
            refine j_iload (pc := 267) hC 0 dX12_seeks_267 rfl ?_
            obtain ⟨rfl, rfl⟩ := Prod.mk.inj (Option.some.inj h)
            exact j_iret (pc := 269) hC dX12_seeks_269 rfl
          | inr w74 =>
            try dsimp only at h
            obtain ⟨m80, rfl⟩ : ∃ y, y = w74 := ⟨_, rfl⟩
            try dsimp only at h
            show jJ X G 6 L 0 0 (jQM X G L (some (.int r)) μ' 0 0) 276 [] [] m80
            refine j_iconst (pc := 276) hC (0 : Int32) dX12_seeks_276 (by decide) ?_
            obtain ⟨rfl, rfl⟩ := Prod.mk.inj (Option.some.inj h)
            exact j_iret (pc := 277) hC dX12_seeks_277 rfl
    · rw [if_neg c16] at h
      refine j_iconst (pc := 47) hC (1 : Int32) dX12_seeks_47 (by decide) ?_
      obtain ⟨rfl, rfl⟩ := Prod.mk.inj (Option.some.inj h)
      exact j_iret (pc := 48) hC dX12_seeks_48 rfl
