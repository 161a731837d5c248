theorem kw_value : Cond.fieldLink RJ0 9 "java/lang/String" "value" "[B" ∈ tblG := tt_mem tt_8 (List.getElem_mem (l := tables_1_8) (n := 184) (by decide +kernel)) rfl
theorem kw_coder : Cond.fieldLink RJ0 15 "java/lang/String" "coder" "B" ∈ tblG := tt_mem tt_8 (List.getElem_mem (l := tables_1_8) (n := 185) (by decide +kernel)) rfl
theorem kw_cs : Cond.fieldLink RJ0 38 "java/lang/String" "COMPACT_STRINGS" "Z" ∈ tblG := tt_mem tt_4 (List.getElem_mem (l := tables_1_4) (n := 23) (by decide +kernel)) rfl
theorem kw_fmt : Cond.fieldLink RJ0 1053 "jdk/internal/util/Preconditions" "SIOOBE_FORMATTER" "Ljava/util/function/BiFunction;" ∈ tblG := tt_mem tt_4 (List.getElem_mem (l := tables_1_4) (n := 39) (by decide +kernel)) rfl
theorem dJ0_length_8abf5_0 : decode cJ0_length_8abf5 0 = .ok (.aload_n 0, 1) := by decide +kernel
theorem dJ0_length_8abf5_1 : decode cJ0_length_8abf5 1 = .ok (.getfield 9, 3) := by decide +kernel
theorem dJ0_length_8abf5_4 : decode cJ0_length_8abf5 4 = .ok (.arraylength, 1) := by decide +kernel
theorem dJ0_length_8abf5_5 : decode cJ0_length_8abf5 5 = .ok (.aload_n 0, 1) := by decide +kernel
theorem dJ0_length_8abf5_6 : decode cJ0_length_8abf5 6 = .ok (.invokevirtual 335, 3) := by decide +kernel
theorem dJ0_length_8abf5_9 : decode cJ0_length_8abf5 9 = .ok (.ishr, 1) := by decide +kernel
theorem dJ0_length_8abf5_10 : decode cJ0_length_8abf5 10 = .ok (.ireturn, 1) := by decide +kernel
theorem iz_J0_length_8abf5 : jMv yJ0_length_8abf5 cJ0_length_8abf5 1 (some .int) 0 := ⟨tt_mem tt_4 (List.getElem_mem (l := tables_1_4) (n := 18) (by decide +kernel)) rfl, tt_mem tt_1 (List.getElem_mem (l := tables_1_1) (n := 21) (by decide +kernel)) rfl, ⟨by decide +kernel, by decide +kernel, by decide +kernel⟩, tt_mem tt_4 (List.getElem_mem (l := tables_1_4) (n := 16) (by decide +kernel)) rfl, tt_mem tt_4 (List.getElem_mem (l := tables_1_4) (n := 17) (by decide +kernel)) rfl⟩
theorem dJ0_charAt_5068e_0 : decode cJ0_charAt_5068e 0 = .ok (.aload_n 0, 1) := by decide +kernel
theorem dJ0_charAt_5068e_1 : decode cJ0_charAt_5068e 1 = .ok (.invokevirtual 492, 3) := by decide +kernel
theorem dJ0_charAt_5068e_4 : decode cJ0_charAt_5068e 4 = .ok (.ifCond .eq 12, 3) := by decide +kernel
theorem dJ0_charAt_5068e_7 : decode cJ0_charAt_5068e 7 = .ok (.aload_n 0, 1) := by decide +kernel
theorem dJ0_charAt_5068e_8 : decode cJ0_charAt_5068e 8 = .ok (.getfield 9, 3) := by decide +kernel
theorem dJ0_charAt_5068e_11 : decode cJ0_charAt_5068e 11 = .ok (.iload_n 1, 1) := by decide +kernel
theorem dJ0_charAt_5068e_12 : decode cJ0_charAt_5068e 12 = .ok (.invokestatic 495, 3) := by decide +kernel
theorem dJ0_charAt_5068e_15 : decode cJ0_charAt_5068e 15 = .ok (.ireturn, 1) := by decide +kernel
theorem dJ0_charAt_5068e_16 : decode cJ0_charAt_5068e 16 = .ok (.aload_n 0, 1) := by decide +kernel
theorem dJ0_charAt_5068e_17 : decode cJ0_charAt_5068e 17 = .ok (.getfield 9, 3) := by decide +kernel
theorem dJ0_charAt_5068e_20 : decode cJ0_charAt_5068e 20 = .ok (.iload_n 1, 1) := by decide +kernel
theorem dJ0_charAt_5068e_21 : decode cJ0_charAt_5068e 21 = .ok (.invokestatic 498, 3) := by decide +kernel
theorem dJ0_charAt_5068e_24 : decode cJ0_charAt_5068e 24 = .ok (.ireturn, 1) := by decide +kernel
theorem iz_J0_charAt_5068e : jMv yJ0_charAt_5068e cJ0_charAt_5068e 2 (some .char) 1 := ⟨tt_mem tt_4 (List.getElem_mem (l := tables_1_4) (n := 28) (by decide +kernel)) rfl, tt_mem tt_1 (List.getElem_mem (l := tables_1_1) (n := 21) (by decide +kernel)) rfl, ⟨by decide +kernel, by decide +kernel, by decide +kernel⟩, tt_mem tt_4 (List.getElem_mem (l := tables_1_4) (n := 26) (by decide +kernel)) rfl, tt_mem tt_4 (List.getElem_mem (l := tables_1_4) (n := 27) (by decide +kernel)) rfl⟩
theorem dJ0_coder_7d493_0 : decode cJ0_coder_7d493 0 = .ok (.getstatic 38, 3) := by decide +kernel
theorem dJ0_coder_7d493_3 : decode cJ0_coder_7d493 3 = .ok (.ifCond .eq 10, 3) := by decide +kernel
theorem dJ0_coder_7d493_6 : decode cJ0_coder_7d493 6 = .ok (.aload_n 0, 1) := by decide +kernel
theorem dJ0_coder_7d493_7 : decode cJ0_coder_7d493 7 = .ok (.getfield 15, 3) := by decide +kernel
theorem dJ0_coder_7d493_10 : decode cJ0_coder_7d493 10 = .ok (.goto 4, 3) := by decide +kernel
theorem dJ0_coder_7d493_13 : decode cJ0_coder_7d493 13 = .ok (.iconst 1, 1) := by decide +kernel
theorem dJ0_coder_7d493_14 : decode cJ0_coder_7d493 14 = .ok (.ireturn, 1) := by decide +kernel
theorem iz_J0_coder_7d493 : jMv yJ0_coder_7d493 cJ0_coder_7d493 1 (some .byte) 0 := ⟨tt_mem tt_4 (List.getElem_mem (l := tables_1_4) (n := 22) (by decide +kernel)) rfl, tt_mem tt_1 (List.getElem_mem (l := tables_1_1) (n := 21) (by decide +kernel)) rfl, ⟨by decide +kernel, by decide +kernel, by decide +kernel⟩, tt_mem tt_4 (List.getElem_mem (l := tables_1_4) (n := 20) (by decide +kernel)) rfl, tt_mem tt_4 (List.getElem_mem (l := tables_1_4) (n := 21) (by decide +kernel)) rfl⟩
theorem dJ0_isLatin1_aae02_0 : decode cJ0_isLatin1_aae02 0 = .ok (.getstatic 38, 3) := by decide +kernel
theorem dJ0_isLatin1_aae02_3 : decode cJ0_isLatin1_aae02 3 = .ok (.ifCond .eq 14, 3) := by decide +kernel
theorem dJ0_isLatin1_aae02_6 : decode cJ0_isLatin1_aae02 6 = .ok (.aload_n 0, 1) := by decide +kernel
theorem dJ0_isLatin1_aae02_7 : decode cJ0_isLatin1_aae02 7 = .ok (.getfield 15, 3) := by decide +kernel
theorem dJ0_isLatin1_aae02_10 : decode cJ0_isLatin1_aae02 10 = .ok (.ifCond .ne 7, 3) := by decide +kernel
theorem dJ0_isLatin1_aae02_13 : decode cJ0_isLatin1_aae02 13 = .ok (.iconst 1, 1) := by decide +kernel
theorem dJ0_isLatin1_aae02_14 : decode cJ0_isLatin1_aae02 14 = .ok (.goto 4, 3) := by decide +kernel
theorem dJ0_isLatin1_aae02_17 : decode cJ0_isLatin1_aae02 17 = .ok (.iconst 0, 1) := by decide +kernel
theorem dJ0_isLatin1_aae02_18 : decode cJ0_isLatin1_aae02 18 = .ok (.ireturn, 1) := by decide +kernel
theorem iz_J0_isLatin1_aae02 : jMv yJ0_isLatin1_aae02 cJ0_isLatin1_aae02 1 (some .boolean) 0 := ⟨tt_mem tt_4 (List.getElem_mem (l := tables_1_4) (n := 32) (by decide +kernel)) rfl, tt_mem tt_1 (List.getElem_mem (l := tables_1_1) (n := 21) (by decide +kernel)) rfl, ⟨by decide +kernel, by decide +kernel, by decide +kernel⟩, tt_mem tt_4 (List.getElem_mem (l := tables_1_4) (n := 30) (by decide +kernel)) rfl, tt_mem tt_4 (List.getElem_mem (l := tables_1_4) (n := 31) (by decide +kernel)) rfl⟩
theorem dJ0_checkIndex_df160_0 : decode cJ0_checkIndex_df160 0 = .ok (.iload_n 0, 1) := by decide +kernel
theorem dJ0_checkIndex_df160_1 : decode cJ0_checkIndex_df160 1 = .ok (.iload_n 1, 1) := by decide +kernel
theorem dJ0_checkIndex_df160_2 : decode cJ0_checkIndex_df160 2 = .ok (.getstatic 1053, 3) := by decide +kernel
theorem dJ0_checkIndex_df160_5 : decode cJ0_checkIndex_df160 5 = .ok (.invokestatic 1059, 3) := by decide +kernel
theorem dJ0_checkIndex_df160_8 : decode cJ0_checkIndex_df160 8 = .ok (.pop, 1) := by decide +kernel
theorem dJ0_checkIndex_df160_9 : decode cJ0_checkIndex_df160 9 = .ok (.return_, 1) := by decide +kernel
theorem iz_J0_checkIndex_df160 : jMs yJ0_checkIndex_df160 cJ0_checkIndex_df160 2 none 2 := ⟨tt_mem tt_4 (List.getElem_mem (l := tables_1_4) (n := 38) (by decide +kernel)) rfl, tt_mem tt_1 (List.getElem_mem (l := tables_1_1) (n := 21) (by decide +kernel)) rfl, ⟨by decide +kernel, by decide +kernel, by decide +kernel⟩, tt_mem tt_4 (List.getElem_mem (l := tables_1_4) (n := 37) (by decide +kernel)) rfl⟩
theorem dJ1_charAt_3b067_0 : decode cJ1_charAt_3b067 0 = .ok (.iload_n 1, 1) := by decide +kernel
theorem dJ1_charAt_3b067_1 : decode cJ1_charAt_3b067 1 = .ok (.aload_n 0, 1) := by decide +kernel
theorem dJ1_charAt_3b067_2 : decode cJ1_charAt_3b067 2 = .ok (.arraylength, 1) := by decide +kernel
theorem dJ1_charAt_3b067_3 : decode cJ1_charAt_3b067 3 = .ok (.invokestatic 9, 3) := by decide +kernel
theorem dJ1_charAt_3b067_6 : decode cJ1_charAt_3b067 6 = .ok (.aload_n 0, 1) := by decide +kernel
theorem dJ1_charAt_3b067_7 : decode cJ1_charAt_3b067 7 = .ok (.iload_n 1, 1) := by decide +kernel
theorem dJ1_charAt_3b067_8 : decode cJ1_charAt_3b067 8 = .ok (.baload, 1) := by decide +kernel
theorem dJ1_charAt_3b067_9 : decode cJ1_charAt_3b067 9 = .ok (.sipush 255, 3) := by decide +kernel
theorem dJ1_charAt_3b067_12 : decode cJ1_charAt_3b067 12 = .ok (.iand, 1) := by decide +kernel
theorem dJ1_charAt_3b067_13 : decode cJ1_charAt_3b067 13 = .ok (.i2c, 1) := by decide +kernel
theorem dJ1_charAt_3b067_14 : decode cJ1_charAt_3b067 14 = .ok (.ireturn, 1) := by decide +kernel
theorem iz_J1_charAt_3b067 : jMs yJ1_charAt_3b067 cJ1_charAt_3b067 2 (some .char) 2 := ⟨tt_mem tt_4 (List.getElem_mem (l := tables_1_4) (n := 35) (by decide +kernel)) rfl, tt_mem tt_1 (List.getElem_mem (l := tables_1_1) (n := 22) (by decide +kernel)) rfl, ⟨by decide +kernel, by decide +kernel, by decide +kernel⟩, tt_mem tt_4 (List.getElem_mem (l := tables_1_4) (n := 34) (by decide +kernel)) rfl⟩
theorem dJ3_checkIndex_8e157_0 : decode cJ3_checkIndex_8e157 0 = .ok (.iload_n 0, 1) := by decide +kernel
theorem dJ3_checkIndex_8e157_1 : decode cJ3_checkIndex_8e157 1 = .ok (.ifCond .lt 8, 3) := by decide +kernel
theorem dJ3_checkIndex_8e157_4 : decode cJ3_checkIndex_8e157 4 = .ok (.iload_n 0, 1) := by decide +kernel
theorem dJ3_checkIndex_8e157_5 : decode cJ3_checkIndex_8e157 5 = .ok (.iload_n 1, 1) := by decide +kernel
theorem dJ3_checkIndex_8e157_6 : decode cJ3_checkIndex_8e157 6 = .ok (.if_icmp .lt 10, 3) := by decide +kernel
theorem dJ3_checkIndex_8e157_9 : decode cJ3_checkIndex_8e157 9 = .ok (.aload_n 2, 1) := by decide +kernel
theorem dJ3_checkIndex_8e157_10 : decode cJ3_checkIndex_8e157 10 = .ok (.iload_n 0, 1) := by decide +kernel
theorem dJ3_checkIndex_8e157_11 : decode cJ3_checkIndex_8e157 11 = .ok (.iload_n 1, 1) := by decide +kernel
theorem dJ3_checkIndex_8e157_12 : decode cJ3_checkIndex_8e157 12 = .ok (.invokestatic 95, 3) := by decide +kernel
theorem dJ3_checkIndex_8e157_15 : decode cJ3_checkIndex_8e157 15 = .ok (.athrow, 1) := by decide +kernel
theorem dJ3_checkIndex_8e157_16 : decode cJ3_checkIndex_8e157 16 = .ok (.iload_n 0, 1) := by decide +kernel
theorem dJ3_checkIndex_8e157_17 : decode cJ3_checkIndex_8e157 17 = .ok (.ireturn, 1) := by decide +kernel
theorem iz_J3_checkIndex_8e157 : jMs yJ3_checkIndex_8e157 cJ3_checkIndex_8e157 3 (some .int) 3 := ⟨tt_mem tt_4 (List.getElem_mem (l := tables_1_4) (n := 43) (by decide +kernel)) rfl, tt_mem tt_1 (List.getElem_mem (l := tables_1_1) (n := 23) (by decide +kernel)) rfl, ⟨by decide +kernel, by decide +kernel, by decide +kernel⟩, tt_mem tt_4 (List.getElem_mem (l := tables_1_4) (n := 42) (by decide +kernel)) rfl⟩
theorem kz_J0_335 : Cond.methodLink RJ0 335 yJ0_coder_7d493 ∈ tblG := tt_mem tt_4 (List.getElem_mem (l := tables_1_4) (n := 19) (by decide +kernel)) rfl
theorem kz_J0_492 : Cond.methodLink RJ0 492 yJ0_isLatin1_aae02 ∈ tblG := tt_mem tt_4 (List.getElem_mem (l := tables_1_4) (n := 29) (by decide +kernel)) rfl
theorem kz_J0_495 : Cond.methodLink RJ0 495 yJ1_charAt_3b067 ∈ tblG := tt_mem tt_4 (List.getElem_mem (l := tables_1_4) (n := 33) (by decide +kernel)) rfl
theorem kz_J0_1059 : Cond.methodLink RJ0 1059 yJ3_checkIndex_8e157 ∈ tblG := tt_mem tt_4 (List.getElem_mem (l := tables_1_4) (n := 41) (by decide +kernel)) rfl
theorem kz_J1_9 : Cond.methodLink RJ1 9 yJ0_checkIndex_df160 ∈ tblG := tt_mem tt_4 (List.getElem_mem (l := tables_1_4) (n := 36) (by decide +kernel)) rfl
theorem kw_X4_61 : Cond.methodLink RX4 61 yJ0_length_8abf5 ∈ tblG := tt_mem tt_4 (List.getElem_mem (l := tables_1_4) (n := 15) (by decide +kernel)) rfl
theorem kw_X4_73 : Cond.methodLink RX4 73 yJ0_charAt_5068e ∈ tblG := tt_mem tt_4 (List.getElem_mem (l := tables_1_4) (n := 25) (by decide +kernel)) rfl
theorem kw_X12_38 : Cond.methodLink RX12 38 yJ0_length_8abf5 ∈ tblG := tt_mem tt_7 (List.getElem_mem (l := tables_1_7) (n := 124) (by decide +kernel)) rfl
theorem kw_X12_44 : Cond.methodLink RX12 44 yJ0_charAt_5068e ∈ tblG := tt_mem tt_7 (List.getElem_mem (l := tables_1_7) (n := 125) (by decide +kernel)) rfl
theorem ks_X4_27 : (RX4, 27, "A=dd", 0) ∈ jstr := List.getElem_mem (l := jstr) (n := 0) (by decide +kernel)
theorem ks_X4_29 : (RX4, 29, "A+dd", 1) ∈ jstr := List.getElem_mem (l := jstr) (n := 1) (by decide +kernel)
theorem ks_X4_31 : (RX4, 31, "A-dd", 2) ∈ jstr := List.getElem_mem (l := jstr) (n := 2) (by decide +kernel)
theorem ks_X4_33 : (RX4, 33, "v-e", 3) ∈ jstr := List.getElem_mem (l := jstr) (n := 3) (by decide +kernel)
theorem ks_X4_35 : (RX4, 35, "v=e", 4) ∈ jstr := List.getElem_mem (l := jstr) (n := 4) (by decide +kernel)
theorem ks_X4_37 : (RX4, 37, "v<e", 5) ∈ jstr := List.getElem_mem (l := jstr) (n := 5) (by decide +kernel)
theorem ks_X4_39 : (RX4, 39, "v>e", 6) ∈ jstr := List.getElem_mem (l := jstr) (n := 6) (by decide +kernel)
theorem ks_X4_41 : (RX4, 41, "kd=dd", 7) ∈ jstr := List.getElem_mem (l := jstr) (n := 7) (by decide +kernel)
theorem ks_X4_43 : (RX4, 43, "kd-", 8) ∈ jstr := List.getElem_mem (l := jstr) (n := 8) (by decide +kernel)
theorem ks_X4_45 : (RX4, 45, "p", 9) ∈ jstr := List.getElem_mem (l := jstr) (n := 9) (by decide +kernel)
theorem ks_X4_47 : (RX4, 47, "?A<dd", 10) ∈ jstr := List.getElem_mem (l := jstr) (n := 10) (by decide +kernel)
theorem ks_X4_49 : (RX4, 49, "?A=dd", 11) ∈ jstr := List.getElem_mem (l := jstr) (n := 11) (by decide +kernel)
theorem ks_X4_51 : (RX4, 51, "?A>dd", 12) ∈ jstr := List.getElem_mem (l := jstr) (n := 12) (by decide +kernel)
theorem ks_X4_53 : (RX4, 53, "?ve", 13) ∈ jstr := List.getElem_mem (l := jstr) (n := 13) (by decide +kernel)
theorem ks_X4_55 : (RX4, 55, "?kd", 14) ∈ jstr := List.getElem_mem (l := jstr) (n := 14) (by decide +kernel)
theorem ks_X12_48 : (RX12, 48, "0123456789", 15) ∈ jstr := List.getElem_mem (l := jstr) (n := 15) (by decide +kernel)
theorem ks_X12_241 : (RX12, 241, "vwxyz", 16) ∈ jstr := List.getElem_mem (l := jstr) (n := 16) (by decide +kernel)
theorem ks_X12_254 : (RX12, 254, "<=#", 17) ∈ jstr := List.getElem_mem (l := jstr) (n := 17) (by decide +kernel)
theorem ks_X12_256 : (RX12, 256, "+-", 18) ∈ jstr := List.getElem_mem (l := jstr) (n := 18) (by decide +kernel)
theorem ks_X12_296 : (RX12, 296, "=+-", 19) ∈ jstr := List.getElem_mem (l := jstr) (n := 19) (by decide +kernel)
theorem ks_X12_305 : (RX12, 305, "-=<>", 20) ∈ jstr := List.getElem_mem (l := jstr) (n := 20) (by decide +kernel)
theorem ks_X12_307 : (RX12, 307, "012345", 21) ∈ jstr := List.getElem_mem (l := jstr) (n := 21) (by decide +kernel)
theorem ks_X12_309 : (RX12, 309, "=-", 22) ∈ jstr := List.getElem_mem (l := jstr) (n := 22) (by decide +kernel)
theorem ks_X12_311 : (RX12, 311, "ABCDEF", 23) ∈ jstr := List.getElem_mem (l := jstr) (n := 23) (by decide +kernel)
theorem ks_X12_313 : (RX12, 313, "<=>", 24) ∈ jstr := List.getElem_mem (l := jstr) (n := 24) (by decide +kernel)
theorem ks_X12_315 : (RX12, 315, "([{", 25) ∈ jstr := List.getElem_mem (l := jstr) (n := 25) (by decide +kernel)
def jsLn (i : Nat) : Int32 := nI (jsLen.getD i 0)
def jsCh (i j : Nat) : Int32 := (jsByt.getD i []).getD j 0
theorem jsCh_ok : ∀ i, i < 26 → ∀ j, j < jsLen.getD i 0 → ((jsCh i j &&& 255).toUInt32 % 65536).toInt32 = jsCh i j ∧ narrow .char (.int (jsCh i j)) = .int (jsCh i j) := by decide +kernel
theorem jsLn_ok : ∀ i, i < 26 → nI (jsLen.getD i 0) >>> ((0 : Int32) &&& 31) = jsLn i ∧ jsLen.getD i 0 < 100 := by decide +kernel
section JStr
variable {X : jX} {G : jG} {nL : Nat} {L : jL} {kc ks : Nat} {Q : State → Prop} {pc : Nat} {lv : List (Nat × Value)} {st st0 : List Value} {μ μ2 : jM} {cc : ByteArray} {own : String} {rt : Option FieldType}
theorem j_getSv (hC : jC X G cc nL own rt) {i index : Nat} (hi : i < 26) (hw : Cond.fieldLink own index "java/lang/String" "value" "[B" ∈ tblG) (hd : decode cc pc = .ok (.getfield index, 3)) (kk : jJ X G nL L kc ks Q (pc + 3) lv (.ref (G.2.2.2.2 i) :: st) μ) : jJ X G nL L kc ks Q pc lv (.ref (G.2.2.2.1 i) :: st) μ := fun H locs ls hP hD hS hl =>
  vk_getf hC.1 hC.2.1 (hC.2.2.2.2.2.2.2.2.2.2.1.1 i hi).2.2.1 hS hC.2.2.2.1 (hC.2.2.2.2.1 _ hw) (fun _ h => h) hd (kk H locs ls hP hD hS hl)
theorem j_getSc (hC : jC X G cc nL own rt) {i index : Nat} (hi : i < 26) (hw : Cond.fieldLink own index "java/lang/String" "coder" "B" ∈ tblG) (hd : decode cc pc = .ok (.getfield index, 3)) (kk : jJ X G nL L kc ks Q (pc + 3) lv (.int 0 :: st) μ) : jJ X G nL L kc ks Q pc lv (.ref (G.2.2.2.1 i) :: st) μ := fun H locs ls hP hD hS hl =>
  vk_getf hC.1 hC.2.1 (hC.2.2.2.2.2.2.2.2.2.2.1.1 i hi).2.1 hS hC.2.2.2.1 (hC.2.2.2.2.1 _ hw) (fun _ h => h) hd (kk H locs ls hP hD hS hl)
theorem j_gsCS (hC : jC X G cc nL own rt) {index : Nat} (hw : Cond.fieldLink own index "java/lang/String" "COMPACT_STRINGS" "Z" ∈ tblG) (hd : decode cc pc = .ok (.getstatic index, 3)) (kk : jJ X G nL L kc ks Q (pc + 3) lv (.int 1 :: st) μ) : jJ X G nL L kc ks Q pc lv st μ := fun H locs ls hP hD hS hl =>
  va_gets hC.1 hC.2.1 hC.2.2.2.2.2.2.2.2.2.2.2.2.1 hS hC.2.2.2.1 (hC.2.2.2.2.1 _ hw) (fun _ h => h) hd (kk H locs ls hP hD hS hl)
theorem j_gsFm (hC : jC X G cc nL own rt) {index : Nat} (hw : Cond.fieldLink own index "jdk/internal/util/Preconditions" "SIOOBE_FORMATTER" "Ljava/util/function/BiFunction;" ∈ tblG) (hd : decode cc pc = .ok (.getstatic index, 3)) (kk : ∀ v : Value, v.category = 1 → jJ X G nL L kc ks Q (pc + 3) lv (v :: st) μ) : jJ X G nL L kc ks Q pc lv st μ := fun H locs ls hP hD hS hl => by
  rcases hC.2.2.2.2.2.2.2.2.2.2.2.2.2 with hz | ⟨t, hz⟩
  · exact va_gets hC.1 hC.2.1 hz hS hC.2.2.2.1 (hC.2.2.2.2.1 _ hw) (fun _ h => h) hd (kk _ rfl H locs ls hP hD hS hl)
  · exact va_gets hC.1 hC.2.1 hz hS hC.2.2.2.1 (hC.2.2.2.2.1 _ hw) (fun _ h => h) hd (kk _ rfl H locs ls hP hD hS hl)
theorem j_blen (hC : jC X G cc nL own rt) {i : Nat} (hi : i < 26) (hd : decode cc pc = .ok (.arraylength, 1)) (kk : jJ X G nL L kc ks Q (pc + 1) lv (.int (nI (jsLen.getD i 0)) :: st) μ) : jJ X G nL L kc ks Q pc lv (.ref (G.2.2.2.2 i) :: st) μ := fun H locs ls hP hD hS hl =>
  va_tlen hC.1 hC.2.1 (hC.2.2.2.2.2.2.2.2.2.2.1.1 i hi).2.2.2 hS rfl hd (kk H locs ls hP hD hS hl)
theorem j_bald (hC : jC X G cc nL own rt) {i : Nat} {k : Int32} (hi : i < 26) (hin : vp_in k (jsLen.getD i 0)) (hd : decode cc pc = .ok (.baload, 1)) (kk : jJ X G nL L kc ks Q (pc + 1) lv (.int (jsCh i k.toNatClampNeg) :: st) μ) : jJ X G nL L kc ks Q pc lv (.int k :: .ref (G.2.2.2.2 i) :: st) μ := fun H locs ls hP hD hS hl =>
  va_tb hC.1 hC.2.1 (hC.2.2.2.2.2.2.2.2.2.2.1.1 i hi).2.2.2 hS hin rfl hd (kk H locs ls hP hD hS hl)
theorem j_i2c (hC : jC X G cc nL own rt) {x v : Int32} (hd : decode cc pc = .ok (.i2c, 1)) (hv : (x.toUInt32 % 65536).toInt32 = v) (kk : jJ X G nL L kc ks Q (pc + 1) lv (.int v :: st) μ) : jJ X G nL L kc ks Q pc lv (.int x :: st) μ := fun H locs ls hP hD hS hl => lv_i2c hC.1 hC.2.1 hd hv (kk H locs ls hP hD hS hl)
theorem j_ldcS (hC : jC X G cc nL own rt) {index : Nat} {tx : String} (i : Nat) (hw : (own, index, tx, i) ∈ jstr) (hd : decode cc pc = .ok (.ldc index, 2)) (kk : jJ X G nL L kc ks Q (pc + 2) lv (.ref (G.2.2.2.1 i) :: st) μ) : jJ X G nL L kc ks Q pc lv st μ := fun H locs ls hP hD hS hl =>
  va_ldcS hC.1 hC.2.1 hC.2.2.2.1 (hC.2.2.2.2.2.2.2.2.2.2.2.1 _ hw) hd (kk H locs ls hP hD hS hl)
theorem j_ldcSw (hC : jC X G cc nL own rt) {index : Nat} {tx : String} (i : Nat) (hw : (own, index, tx, i) ∈ jstr) (hd : decode cc pc = .ok (.ldc_w index, 3)) (kk : jJ X G nL L kc ks Q (pc + 3) lv (.ref (G.2.2.2.1 i) :: st) μ) : jJ X G nL L kc ks Q pc lv st μ := fun H locs ls hP hD hS hl => by
  intro T hT Xs
  obtain ⟨t, a1, b1⟩ := kk H locs ls hP hD hS hl T hT Xs
  have hZ := hC.2.2.2.2.2.2.2.2.2.2.2.1 _ hw
  exact ⟨t, Xs.ldcStringW hC.1 hC.2.2.2.1 (text := tx) (a := G.2.2.2.1 i) hZ.1 hZ.2 (g := F0 X.2.2.2.2.2.1 pc ls st) rfl (by rw [hC.2.1]; exact hd) t a1, b1⟩
theorem j_aretS (hC : jC X G cc nL own rt) {i : Nat} (hd : decode cc pc = .ok (.areturn, 1)) (hr : rt = some (.object "java/lang/String")) : jJ X G nL L kc ks (jQM X G L (some (.ref (G.2.2.2.1 i))) μ kc ks) pc lv [.ref (G.2.2.2.1 i)] μ := fun H locs ls hP hD hS hl =>
  W.aret hC.1 hC.2.1 (hC.2.2.2.2.2.2.2.1.trans hr) (Or.inl ⟨_, rfl⟩) (Or.inr ⟨_, rfl⟩) (fun t ht hW => ⟨rfl, jWd_end hP hD hS hC.2.2.2.2.2.1 hC.2.2.2.2.2.2.1 hC.2.2.2.2.2.2.2.2.2 ht hW, hS.F ht⟩) (fun q hq => hS.2.2 q hq) hd hC.2.2.2.2.2.2.2.2.1
/-- a call on a string -/
theorem j_vS (hC : jC X G cc nL own rt) {y : MethodName} {bytes : ByteArray} {maxL n index i dep dp : Nat} {ret2 : Option FieldType} {v : Int32} (hR : X.2.2.2.1 = jrm dp 0 0) (As : List Value) (hy : jMv y bytes maxL ret2 n) (hcl : y.cls = "java/lang/String") (hi : i < 26) (hM : jCt X.2.1 G L dep y bytes maxL ret2 (.ref (G.2.2.2.1 i) :: As) μ (some (.int v)) μ)
    (hw : Cond.methodLink own index y ∈ tblG) (hd : decode cc pc = .ok (.invokevirtual index, 3)) (hn : As.length = n) (hm : maxL ≤ 100) (hdp : dep + 1 ≤ dp) (hrm : (st.map fun v => v.category).sum ≤ 8) (hst : st0 = As.reverse ++ .ref (G.2.2.2.1 i) :: st)
    (kk : jJ X G nL L 0 0 Q (pc + 3) lv (.int v :: st) μ) : jJ X G nL L 0 0 Q pc lv st0 μ := by
  refine j_run (r := some (.int v)) (a := (Value.ref (G.2.2.2.1 i) :: As).toArray) (fun H locs ls hP hD hS hl => ?_) kk
  exact va_runV (C := y.cls) (Ts := tblG) (rest := st) (As := As) ⟨hC.1, hC.2.1, hC.2.2.1, hC.2.2.2.1, hC.2.2.2.2.1⟩ hM ⟨callB_of n hC.2.2.2.2.1 (jws_good hy.1) rfl rfl rfl (hC.2.2.2.2.1 _ hy.2.1) (hC.2.2.2.2.1 _ hw) hy.2.2.1 (j_room hR hdp hm), hC.2.2.2.2.1 _ hy.2.2.2.1, hC.2.2.2.2.1 _ hy.2.2.2.2⟩ ⟨jPc_blind, by
    rw [hcl]
    exact vk_recv hC.2.2.2.2.2.2.2.2.2.2.1 hi hS, j_pre hC hP hD hS⟩ rfl hn hl.1 hst (lv_room hrm) hd (j_room0 hR)
end JStr
theorem c_J0_coder {l : Launch} {G : jG} {L : jL} {i : Nat} (hi : i < 26) {μ : jM} : jCt l G L 3 yJ0_coder_7d493 cJ0_coder_7d493 1 (some .byte) [.ref (G.2.2.2.1 i)] μ (some (.int 0)) μ := by
  refine jCt_of (by decide) (Nat.le_of_ble_eq_true rfl) (fun X hC hX hR => ?_)
  have hC : jC X G cJ0_coder_7d493 1 RJ0 (some .byte) := hC
  show jJ X G 1 L 0 0 (jQM X G L (some (.int 0)) μ 0 0) 0 [(0, .ref (G.2.2.2.1 i))] [] μ
  refine j_gsCS (pc := 0) hC kw_cs dJ0_coder_7d493_0 ?_
  refine j_if_eq (pc := 3) hC 13 dJ0_coder_7d493_3 (by decide) (fun c => absurd c (by decide)) (fun _ => ?_)
  refine j_aload_n (pc := 6) hC 0 0 dJ0_coder_7d493_6 rfl rfl ?_
  refine j_getSc (pc := 7) hC hi kw_coder dJ0_coder_7d493_7 ?_
  refine j_goto (pc := 10) hC 14 dJ0_coder_7d493_10 (by decide) ?_
  exact j_bret (pc := 14) hC dJ0_coder_7d493_14 rfl rfl
theorem c_J0_isLatin1 {l : Launch} {G : jG} {L : jL} {i : Nat} (hi : i < 26) {μ : jM} : jCt l G L 3 yJ0_isLatin1_aae02 cJ0_isLatin1_aae02 1 (some .boolean) [.ref (G.2.2.2.1 i)] μ (some (.int 1)) μ := by
  refine jCt_of (by decide) (Nat.le_of_ble_eq_true rfl) (fun X hC hX hR => ?_)
  have hC : jC X G cJ0_isLatin1_aae02 1 RJ0 (some .boolean) := hC
  show jJ X G 1 L 0 0 (jQM X G L (some (.int 1)) μ 0 0) 0 [(0, .ref (G.2.2.2.1 i))] [] μ
  refine j_gsCS (pc := 0) hC kw_cs dJ0_isLatin1_aae02_0 ?_
  refine j_if_eq (pc := 3) hC 17 dJ0_isLatin1_aae02_3 (by decide) (fun c => absurd c (by decide)) (fun _ => ?_)
  refine j_aload_n (pc := 6) hC 0 0 dJ0_isLatin1_aae02_6 rfl rfl ?_
  refine j_getSc (pc := 7) hC hi kw_coder dJ0_isLatin1_aae02_7 ?_
  refine j_if_ne (pc := 10) hC 17 dJ0_isLatin1_aae02_10 (by decide) (fun c => absurd rfl c) (fun _ => ?_)
  refine j_iconst (pc := 13) hC 1 dJ0_isLatin1_aae02_13 (by decide) ?_
  refine j_goto (pc := 14) hC 18 dJ0_isLatin1_aae02_14 (by decide) ?_
  exact j_bret (pc := 18) hC dJ0_isLatin1_aae02_18 rfl rfl
theorem c_J0_length {l : Launch} {G : jG} {L : jL} {i : Nat} (hi : i < 26) {μ : jM} : jCt l G L 4 yJ0_length_8abf5 cJ0_length_8abf5 1 (some .int) [.ref (G.2.2.2.1 i)] μ (some (.int (jsLn i))) μ := by
  refine jCt_of (by decide) (Nat.le_of_ble_eq_true rfl) (fun X hC hX hR => ?_)
  have hC : jC X G cJ0_length_8abf5 1 RJ0 (some .int) := hC
  show jJ X G 1 L 0 0 (jQM X G L (some (.int (jsLn i))) μ 0 0) 0 [(0, .ref (G.2.2.2.1 i))] [] μ
  refine j_aload_n (pc := 0) hC 0 0 dJ0_length_8abf5_0 rfl rfl ?_
  refine j_getSv (pc := 1) hC hi kw_value dJ0_length_8abf5_1 ?_
  refine j_blen (pc := 4) hC hi dJ0_length_8abf5_4 ?_
  refine j_aload_n (pc := 5) hC 0 0 dJ0_length_8abf5_5 rfl rfl ?_
  refine j_vS (pc := 6) hC hR [] iz_J0_coder_7d493 rfl hi (c_J0_coder hi) kz_J0_335 dJ0_length_8abf5_6 rfl (by decide) (by decide) (Nat.le_of_ble_eq_true rfl) rfl ?_
  refine j_ishr (pc := 9) hC dJ0_length_8abf5_9 ?_
  rw [(jsLn_ok i hi).1]
  exact j_iret (pc := 10) hC dJ0_length_8abf5_10 rfl
theorem c_J3_check {l : Launch} {G : jG} {L : jL} {i n : Int32} {v : Value} (h0 : ¬ i < 0) (h1 : i < n) (hv : v.category = 1) {μ : jM} : jCt l G L 3 yJ3_checkIndex_8e157 cJ3_checkIndex_8e157 3 (some .int) [.int i, .int n, v] μ (some (.int i)) μ := by
  refine jCt_of (by decide) (by cases v <;> first | (exact Nat.le_of_ble_eq_true rfl) | (cases hv)) (fun X hC hX hR => ?_)
  have hC : jC X G cJ3_checkIndex_8e157 3 RJ3 (some .int) := hC
  show jJ X G 3 L 0 0 (jQM X G L (some (.int i)) μ 0 0) 0 [(0, .int i), (1, .int n), (2, v)] [] μ
  refine j_iload_n (pc := 0) hC 0 0 dJ3_checkIndex_8e157_0 rfl rfl ?_
  refine j_if_lt (pc := 1) hC 9 dJ3_checkIndex_8e157_1 (by decide) (fun c => absurd c h0) (fun _ => ?_)
  refine j_iload_n (pc := 4) hC 0 0 dJ3_checkIndex_8e157_4 rfl rfl ?_
  refine j_iload_n (pc := 5) hC 1 1 dJ3_checkIndex_8e157_5 rfl rfl ?_
  refine j_icmp_lt (pc := 6) hC 16 dJ3_checkIndex_8e157_6 (by decide) (fun _ => ?_) (fun c => absurd h1 c)
  refine j_iload_n (pc := 16) hC 0 0 dJ3_checkIndex_8e157_16 rfl rfl ?_
  exact j_iret (pc := 17) hC dJ3_checkIndex_8e157_17 rfl
theorem c_J0_checkIndex {l : Launch} {G : jG} {L : jL} {i n : Int32} (h0 : ¬ i < 0) (h1 : i < n) {μ : jM} : jCt l G L 4 yJ0_checkIndex_df160 cJ0_checkIndex_df160 2 none [.int i, .int n] μ none μ := by
  refine jCt_of (by decide) (Nat.le_of_ble_eq_true rfl) (fun X hC hX hR => ?_)
  have hC : jC X G cJ0_checkIndex_df160 2 RJ0 none := hC
  show jJ X G 2 L 0 0 (jQM X G L none μ 0 0) 0 [(0, .int i), (1, .int n)] [] μ
  refine j_iload_n (pc := 0) hC 0 0 dJ0_checkIndex_df160_0 rfl rfl ?_
  refine j_iload_n (pc := 1) hC 1 1 dJ0_checkIndex_df160_1 rfl rfl ?_
  refine j_gsFm (pc := 2) hC kw_fmt dJ0_checkIndex_df160_2 (fun v hv => ?_)
  refine j_si (pc := 5) hC hR [.int i, .int n, v] iz_J3_checkIndex_8e157 kz_J0_1059 dJ0_checkIndex_df160_5 rfl (by decide) (c_J3_check h0 h1 hv) (by decide) (Nat.le_of_ble_eq_true rfl) rfl ?_
  refine j_pop (pc := 8) hC dJ0_checkIndex_df160_8 rfl ?_
  exact j_vret (pc := 9) hC dJ0_checkIndex_df160_9 rfl
theorem c_J1_charAt {l : Launch} {G : jG} {L : jL} {i : Nat} {k : Int32} (hi : i < 26) (hin : vp_in k (jsLen.getD i 0)) {μ : jM} : jCt l G L 5 yJ1_charAt_3b067 cJ1_charAt_3b067 2 (some .char) [.ref (G.2.2.2.2 i), .int k] μ (some (.int (jsCh i k.toNatClampNeg))) μ := by
  refine jCt_of (by decide) (Nat.le_of_ble_eq_true rfl) (fun X hC hX hR => ?_)
  have hC : jC X G cJ1_charAt_3b067 2 RJ1 (some .char) := hC
  have hl := (jsLn_ok i hi).2
  obtain ⟨j, hj, rfl⟩ := vp_in_of hin (by omega)
  have hcl : (nI j).toNatClampNeg = j := nI_clamp (by omega)
  have hok := jsCh_ok i hi j hj
  show jJ X G 2 L 0 0 (jQM X G L (some (.int (jsCh i (nI j).toNatClampNeg))) μ 0 0) 0 [(0, .ref (G.2.2.2.2 i)), (1, .int (nI j))] [] μ
  refine j_iload_n (pc := 0) hC 1 1 dJ1_charAt_3b067_0 rfl rfl ?_
  refine j_aload_n (pc := 1) hC 0 0 dJ1_charAt_3b067_1 rfl rfl ?_
  refine j_blen (pc := 2) hC hi dJ1_charAt_3b067_2 ?_
  refine j_sv (pc := 3) hC hR [.int (nI j), .int (nI (jsLen.getD i 0))] iz_J0_checkIndex_df160 kz_J1_9 dJ1_charAt_3b067_3 rfl (by decide) (c_J0_checkIndex (nI_pos (by omega)) (nI_lt hj (by omega))) (by decide) (Nat.le_of_ble_eq_true rfl) rfl ?_
  refine j_aload_n (pc := 6) hC 0 0 dJ1_charAt_3b067_6 rfl rfl ?_
  refine j_iload_n (pc := 7) hC 1 1 dJ1_charAt_3b067_7 rfl rfl ?_
  refine j_bald (pc := 8) hC hi hin dJ1_charAt_3b067_8 ?_
  refine j_sipush (pc := 9) hC 255 dJ1_charAt_3b067_9 (by decide) ?_
  refine j_iand (pc := 12) hC dJ1_charAt_3b067_12 ?_
  rw [hcl]
  refine j_i2c (pc := 13) hC dJ1_charAt_3b067_13 hok.1 ?_
  exact j_bret (pc := 14) hC dJ1_charAt_3b067_14 rfl hok.2
theorem c_J0_charAt {l : Launch} {G : jG} {L : jL} {i : Nat} {k : Int32} (hi : i < 26) (hin : vp_in k (jsLen.getD i 0)) {μ : jM} : jCt l G L 6 yJ0_charAt_5068e cJ0_charAt_5068e 2 (some .char) [.ref (G.2.2.2.1 i), .int k] μ (some (.int (jsCh i k.toNatClampNeg))) μ := by
  refine jCt_of (by decide) (Nat.le_of_ble_eq_true rfl) (fun X hC hX hR => ?_)
  have hC : jC X G cJ0_charAt_5068e 2 RJ0 (some .char) := hC
  have hok := jsCh_ok i hi k.toNatClampNeg (jlt hin)
  show jJ X G 2 L 0 0 (jQM X G L (some (.int (jsCh i k.toNatClampNeg))) μ 0 0) 0 [(0, .ref (G.2.2.2.1 i)), (1, .int k)] [] μ
  refine j_aload_n (pc := 0) hC 0 0 dJ0_charAt_5068e_0 rfl rfl ?_
  refine j_vS (pc := 1) hC hR [] iz_J0_isLatin1_aae02 rfl hi (c_J0_isLatin1 hi) kz_J0_492 dJ0_charAt_5068e_1 rfl (by decide) (by decide) (Nat.le_of_ble_eq_true rfl) rfl ?_
  refine j_if_eq (pc := 4) hC 16 dJ0_charAt_5068e_4 (by decide) (fun c => absurd c (by decide)) (fun _ => ?_)
  refine j_aload_n (pc := 7) hC 0 0 dJ0_charAt_5068e_7 rfl rfl ?_
  refine j_getSv (pc := 8) hC hi kw_value dJ0_charAt_5068e_8 ?_
  refine j_iload_n (pc := 11) hC 1 1 dJ0_charAt_5068e_11 rfl rfl ?_
  refine j_si (pc := 12) hC hR [.ref (G.2.2.2.2 i), .int k] iz_J1_charAt_3b067 kz_J0_495 dJ0_charAt_5068e_12 rfl (by decide) (c_J1_charAt hi hin) (by decide) (Nat.le_of_ble_eq_true rfl) rfl ?_
  exact j_bret (pc := 15) hC dJ0_charAt_5068e_15 rfl hok.2
section JStr2
variable {X : jX} {G : jG} {nL : Nat} {L : jL} {Q : State → Prop} {pc : Nat} {lv : List (Nat × Value)} {st : List Value} {μ : jM} {cc : ByteArray} {own : String} {rt : Option FieldType}
theorem j_slen (hC : jC X G cc nL own rt) {dp i index : Nat} (hR : X.2.2.2.1 = jrm dp 0 0) (hw : Cond.methodLink own index yJ0_length_8abf5 ∈ tblG) (hd : decode cc pc = .ok (.invokevirtual index, 3)) (hi : i < 26) (hdp : 6 + 1 ≤ dp) (hs : (st.map fun v => v.category).sum ≤ 8)
    (kk : jJ X G nL L 0 0 Q (pc + 3) lv (.int (jsLn i) :: st) μ) : jJ X G nL L 0 0 Q pc lv (.ref (G.2.2.2.1 i) :: st) μ :=
  j_vS hC hR [] iz_J0_length_8abf5 rfl hi (c_J0_length hi) hw hd rfl (by decide) (by omega) hs rfl kk
theorem j_schar (hC : jC X G cc nL own rt) {dp i index : Nat} {k v : Int32} (hR : X.2.2.2.1 = jrm dp 0 0) (hw : Cond.methodLink own index yJ0_charAt_5068e ∈ tblG) (hd : decode cc pc = .ok (.invokevirtual index, 3)) (hi : i < 26) (hin : vp_in k (jsLen.getD i 0)) (hv : v = jsCh i k.toNatClampNeg) (hdp : 6 + 1 ≤ dp) (hs : (st.map fun v => v.category).sum ≤ 8)
    (kk : jJ X G nL L 0 0 Q (pc + 3) lv (.int v :: st) μ) : jJ X G nL L 0 0 Q pc lv (.int k :: .ref (G.2.2.2.1 i) :: st) μ := by
  subst hv
  exact j_vS hC hR [.int k] iz_J0_charAt_5068e rfl hi (c_J0_charAt hi hin) hw hd rfl (by decide) (by omega) hs rfl kk
end JStr2
