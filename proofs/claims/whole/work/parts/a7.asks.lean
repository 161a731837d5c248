/-! run: what is asked, by both -/
theorem ask_fin {n k p : Nat} {s : Nat → Nat} {σ : SS} (hv : VS σ) (hk : k < 15) (hk2 : 10 ≤ k) (b : Bool)
    (hc : ∀ μ, CT n s μ → RS 5 σ μ → μ.1 179 4 = nI p → f_X4_isSo 179 (nI k) μ = some (if b then 1 else 0))
    (hr : ∀ m j, j < 168 → RM σ m → m.1 211 j = nI (rop k) → m.1 212 j = aA s k p → m.1 213 j = aB s k p → f_X12_doesAct 201 (nI j) m = some ((if b then 0 else -1), m)) : AOK n s σ k p := by
  refine act_fin (fc := fun _ μ => some ((if b then 0 else -1), μ)) (one := fun m => some ((if b then 0 else -1), m)) hv hk (ok_none hv (fun _ _ _ => rfl) (fun _ _ => rfl)) (fun μ hC hS hp => ?_) hr
  have ne : ∀ i : Nat, i < 10 → ¬ nI k = nI i := fun i hi z => by
    have := (nI_eq (by omega) (by omega)).mp z
    omega
  unfold f_X4_doAct
  rw [jbd_e, if_neg (show ¬ nI k = (0 : Int32) from ne 0 (by omega)), if_neg (show ¬ nI k = (1 : Int32) from ne 1 (by omega)), if_neg (show ¬ nI k = (2 : Int32) from ne 2 (by omega)), if_neg (show ¬ nI k = (3 : Int32) from ne 3 (by omega)), if_neg (show ¬ nI k = (4 : Int32) from ne 4 (by omega)), if_neg (show ¬ nI k = (5 : Int32) from ne 5 (by omega)), if_neg (show ¬ nI k = (6 : Int32) from ne 6 (by omega)), if_neg (show ¬ nI k = (7 : Int32) from ne 7 (by omega)), if_neg (show ¬ nI k = (8 : Int32) from ne 8 (by omega)), if_neg (show ¬ nI k = (9 : Int32) from ne 9 (by omega)), jcl_e (hc μ hC hS hp)]
  show kact k (if b then 1 else 0) μ = kact k (if (if b then (0 : Int32) else -1) < 0 then 0 else 1) μ
  cases b <;> rfl
theorem b_le (x y : Int32) : ((if x ≤ y then (0 : Int32) else 1) &&& 1) = if decide (¬ x ≤ y) then 1 else 0 := by
  by_cases c : x ≤ y
  · simp [c]
  · simp [c]
theorem b_eq (x y : Int32) : ((if x = y then (1 : Int32) else 0) &&& 1) = if decide (x = y) then 1 else 0 := by
  by_cases c : x = y
  · simp [c]
  · simp [c]
/-- the class, at a cell -/
theorem c_soCell {n p k : Nat} {s : Nat → Nat} {σ : SS} {μ : jM} (hC : CT n s μ) (hS : RS 5 σ μ) (hp : μ.1 179 4 = nI p) (g1 : p + 1 < n ∧ 65 ≤ s (p + 1) ∧ s (p + 1) < 65 + 6) (F : Int32 → Option Int32)
    (h : ∀ t3 : Int32, (if nI k = (10 : Int32) then jcl (f_X8_twoDigitsAt 1 (nI p + (3 : Int32)) μ) (fun v8 => some (((if v8 ≤ t3 then (0 : Int32) else (1 : Int32))) &&& 1)) else (if nI k = (11 : Int32) then jcl (f_X8_twoDigitsAt 1 (nI p + (3 : Int32)) μ) (fun v12 => some (((if t3 = v12 then (1 : Int32) else (0 : Int32))) &&& 1)) else (if nI k = (12 : Int32) then jcl (f_X8_twoDigitsAt 1 (nI p + (3 : Int32)) μ) (fun v16 => some (((if t3 ≤ v16 then (0 : Int32) else (1 : Int32))) &&& 1)) else (if nI k = (13 : Int32) then jcl (f_X8_variableAt 1 (nI p + (1 : Int32)) μ) (fun v20 => jcl (f_X8_digitAt 1 (nI p + (2 : Int32)) μ) (fun v22 => jcl (f_X9_hasValue 6 v20 v22 μ) (fun v24 => some (v24 &&& 1)))) else (if nI k = (14 : Int32) then jcl (f_X8_digitAt 1 (nI p + (2 : Int32)) μ) (fun v27 => jcl (f_X9_placeOf 6 v27 μ) (fun v29 => some (((if v29 = (-1 : Int32) then (0 : Int32) else (1 : Int32))) &&& 1))) else some (0 : Int32)))))) = F t3) :
    f_X4_isSo 179 (nI k) μ = F (σ.2.1 0 (s (p + 1) - 65)) := by
  unfold f_X4_isSo
  rw [hp, nI_1, jcl_e (c_cellAt hC g1), jbd_e, cell_i, if_pos (show 0 ≤ (nI (s (p + 1) - 65)).toInt ∧ (nI (s (p + 1) - 65)).toInt < 6 by rw [nI_toInt (by omega)]; omega), if_neg (by decide), jrd_n (by omega) (by decide)]
  have e : μ.1 7 (s (p + 1) - 65) = σ.2.1 0 (s (p + 1) - 65) := hS.2.1.1 _ (by omega)
  rw [e]
  rw [← nI_1]
  exact h _
theorem aok_10 {n p : Nat} {s : Nat → Nat} {σ : SS} (hv : VS σ) (h : (ra n s p).2 = some 10) : AOK n s σ 10 p := by
  have M := ra_mc h
  have g1 : p + 1 < n ∧ 65 ≤ s (p + 1) ∧ s (p + 1) < 65 + 6 := cl_0 (mc_0 (M 1 (by decide)))
  have g3 := cl_d (mc_11 (M 3 (by decide)))
  have g4 := cl_d (mc_11 (M 4 (by decide)))
  refine ask_fin hv (by decide) (by decide) (decide (¬ nI (tw s (p + 3)) ≤ σ.2.1 0 (s (p + 1) - 65))) (fun μ hC hS hp => ?_) (fun m j hj hM o1 o2 o3 => ?_)
  · refine c_soCell hC hS hp g1 (fun t => some (if decide (¬ nI (tw s (p + 3)) ≤ t) then 1 else 0)) (fun t => ?_)
    rw [if_pos (by decide), jlit 3, nI_add, jcl_e (c_twoAt hC g3 g4), b_le]
  · unfold f_X12_doesAct
    refine (act_rd hj o1 o2 o3 _).trans ?_
    rw [if_neg (by decide), if_neg (by decide), if_neg (by decide), if_neg (by decide), if_neg (by decide), if_neg (by decide), if_neg (by decide), if_neg (by decide), if_neg (by decide), if_pos (by decide)]
    show jrd (m.1 204) (nI (s (p + 1) - 65)) 2074 (fun v48 => some (((if nI (tw s (p + 3)) ≤ v48 then (-1 : Int32) else (0 : Int32)), m))) = _
    rw [jrd_n (by omega) (by decide), hM.at (by omega)]
    by_cases c : nI (tw s (p + 3)) ≤ σ.2.1 0 (s (p + 1) - 65) <;> simp [c]
theorem aok_11 {n p : Nat} {s : Nat → Nat} {σ : SS} (hv : VS σ) (h : (ra n s p).2 = some 11) : AOK n s σ 11 p := by
  have M := ra_mc h
  have g1 : p + 1 < n ∧ 65 ≤ s (p + 1) ∧ s (p + 1) < 65 + 6 := cl_0 (mc_0 (M 1 (by decide)))
  have g3 := cl_d (mc_11 (M 3 (by decide)))
  have g4 := cl_d (mc_11 (M 4 (by decide)))
  refine ask_fin hv (by decide) (by decide) (decide (σ.2.1 0 (s (p + 1) - 65) = nI (tw s (p + 3)))) (fun μ hC hS hp => ?_) (fun m j hj hM o1 o2 o3 => ?_)
  · refine c_soCell hC hS hp g1 (fun t => some (if decide (t = nI (tw s (p + 3))) then 1 else 0)) (fun t => ?_)
    rw [if_neg (by decide), if_pos (by decide), jlit 3, nI_add, jcl_e (c_twoAt hC g3 g4), b_eq]
  · unfold f_X12_doesAct
    refine (act_rd hj o1 o2 o3 _).trans ?_
    rw [if_neg (by decide), if_neg (by decide), if_neg (by decide), if_neg (by decide), if_neg (by decide), if_neg (by decide), if_neg (by decide), if_neg (by decide), if_neg (by decide), if_neg (by decide), if_pos (by decide)]
    show jrd (m.1 204) (nI (s (p + 1) - 65)) 2074 (fun v48 => some (((if v48 = nI (tw s (p + 3)) then (0 : Int32) else (-1 : Int32)), m))) = _
    rw [jrd_n (by omega) (by decide), hM.at (by omega)]
    by_cases c : σ.2.1 0 (s (p + 1) - 65) = nI (tw s (p + 3)) <;> simp [c]
theorem aok_12 {n p : Nat} {s : Nat → Nat} {σ : SS} (hv : VS σ) (h : (ra n s p).2 = some 12) : AOK n s σ 12 p := by
  have M := ra_mc h
  have g1 : p + 1 < n ∧ 65 ≤ s (p + 1) ∧ s (p + 1) < 65 + 6 := cl_0 (mc_0 (M 1 (by decide)))
  have g3 := cl_d (mc_11 (M 3 (by decide)))
  have g4 := cl_d (mc_11 (M 4 (by decide)))
  refine ask_fin hv (by decide) (by decide) (decide (¬ σ.2.1 0 (s (p + 1) - 65) ≤ nI (tw s (p + 3)))) (fun μ hC hS hp => ?_) (fun m j hj hM o1 o2 o3 => ?_)
  · refine c_soCell hC hS hp g1 (fun t => some (if decide (¬ t ≤ nI (tw s (p + 3))) then 1 else 0)) (fun t => ?_)
    rw [if_neg (by decide), if_neg (by decide), if_pos (by decide), jlit 3, nI_add, jcl_e (c_twoAt hC g3 g4), b_le]
  · unfold f_X12_doesAct
    refine (act_rd hj o1 o2 o3 _).trans ?_
    rw [if_neg (by decide), if_neg (by decide), if_neg (by decide), if_neg (by decide), if_neg (by decide), if_neg (by decide), if_neg (by decide), if_neg (by decide), if_neg (by decide), if_neg (by decide), if_neg (by decide), if_pos (by decide)]
    show jrd (m.1 204) (nI (s (p + 1) - 65)) 2074 (fun v48 => some (((if v48 ≤ nI (tw s (p + 3)) then (-1 : Int32) else (0 : Int32)), m))) = _
    rw [jrd_n (by omega) (by decide), hM.at (by omega)]
    by_cases c : σ.2.1 0 (s (p + 1) - 65) ≤ nI (tw s (p + 3)) <;> simp [c]
/-- the class, at no cell -/
theorem c_soNot {n p k : Nat} {s : Nat → Nat} {μ : jM} {F : Option Int32} (hC : CT n s μ) (hp : μ.1 179 4 = nI p) (hn : p + 1 < n) (g1 : ¬ (65 ≤ s (p + 1) ∧ s (p + 1) < 65 + 6))
    (h : (if nI k = (13 : Int32) then jcl (f_X8_variableAt 1 (nI (p + 1)) μ) (fun v20 => jcl (f_X8_digitAt 1 (nI (p + 2)) μ) (fun v22 => jcl (f_X9_hasValue 6 v20 v22 μ) (fun v24 => some (v24 &&& 1)))) else (if nI k = (14 : Int32) then jcl (f_X8_digitAt 1 (nI (p + 2)) μ) (fun v27 => jcl (f_X9_placeOf 6 v27 μ) (fun v29 => some (((if v29 = (-1 : Int32) then (0 : Int32) else (1 : Int32))) &&& 1))) else some (0 : Int32))) = F) (hk : k < 15) (hk2 : 13 ≤ k) :
    f_X4_isSo 179 (nI k) μ = F := by
  have ne : ∀ i : Nat, i < 13 → ¬ nI k = nI i := fun i hi z => by
    have := (nI_eq (by omega) (by omega)).mp z
    omega
  have hs := (hC.2.2 (p + 1) (by have := hC.1; omega)).2
  have hc : f_X8_cellAt 1 (nI (p + 1)) μ = some (-1) := by
    unfold f_X8_cellAt
    rw [jcl_e (c_sgn hC (by have := hC.1; omega))]
    unfold sgn
    rw [if_pos hn, cell_i, sub_65 _ hs, if_neg (show ¬ (0 ≤ (s (p + 1) : Int) - 65 ∧ (s (p + 1) : Int) - 65 < 6) by omega), if_pos rfl]
  unfold f_X4_isSo
  rw [hp, nI_1, jlit 2, nI_add, jcl_e hc, jbd_e, if_pos (show f_X11_isCell (-1) = 0 by decide)]
  dsimp only
  rw [if_neg (show ¬ nI k = (10 : Int32) from ne 10 (by omega)), if_neg (show ¬ nI k = (11 : Int32) from ne 11 (by omega)), if_neg (show ¬ nI k = (12 : Int32) from ne 12 (by omega))]
  exact h
theorem aok_13 {n p : Nat} {s : Nat → Nat} {σ : SS} (hv : VS σ) (h : (ra n s p).2 = some 13) : AOK n s σ 13 p := by
  have M := ra_mc h
  have g1 : p + 1 < n ∧ 118 ≤ s (p + 1) ∧ s (p + 1) < 118 + 5 := cl_1 (mc_1 (M 1 (by decide)))
  have g2 := cl_10 (mc_10 (M 2 (by decide)))
  have h0 := hv.2.1 0 (Nat.zero_le _)
  obtain ⟨v, v1, v2, v3⟩ := h0.2.2.2.1 (s (p + 1) - 118) (by omega)
  refine ask_fin hv (by decide) (by decide) (v.testBit (s (p + 2) - 48)) (fun μ hC hS hp => ?_) (fun m j hj hM o1 o2 o3 => ?_)
  · refine c_soNot hC hp g1.1 (by omega) ?_ (by decide) (by decide)
    rw [if_pos (by decide), jcl_e (c_varAt hC g1), jcl_e (c_digAt hC ⟨g2.1, g2.2.1, by omega⟩), jcl_e (c_hasV (t := 6) hS.2.1 (by omega) (by omega) v2 v3)]
    cases v.testBit (s (p + 2) - 48) <;> rfl
  · unfold f_X12_doesAct
    refine (act_rd hj o1 o2 o3 _).trans ?_
    rw [if_neg (by decide), if_neg (by decide), if_neg (by decide), if_neg (by decide), if_neg (by decide), if_neg (by decide), if_neg (by decide), if_neg (by decide), if_neg (by decide), if_neg (by decide), if_neg (by decide), if_neg (by decide), if_pos (by decide)]
    show jrd (m.1 204) ((6 : Int32) + nI (s (p + 1) - 118)) 2074 (fun v63 => some (((if (f_X12_has v63 (nI (s (p + 2) - 48))) = (0 : Int32) then (-1 : Int32) else (0 : Int32)), m))) = _
    rw [jlit 6, nI_add, jrd_n (by omega) (by decide), hM.at (by omega), v3, f_has (by omega) (by omega)]
    cases v.testBit (s (p + 2) - 48) <;> rfl
theorem aok_14 {n p : Nat} {s : Nat → Nat} {σ : SS} (hv : VS σ) (h : (ra n s p).2 = some 14) : AOK n s σ 14 p := by
  have M := ra_mc h
  have g1 : cl n s (p + 1) = 2 := (Nat.eq_of_beq_eq_true (M 1 (by decide))).symm
  have gn := cl_n (s := s) (p := p + 1) (n := n) (by omega)
  have g1' : ¬ (65 ≤ s (p + 1) ∧ s (p + 1) < 65 + 6) := fun z => by
    rw [cl_b gn] at g1
    unfold clb at g1
    rw [if_pos (by omega)] at g1
    omega
  have g2 := cl_d (mc_11 (M 2 (by decide)))
  have h0 := hv.2.1 0 (Nat.zero_le _)
  refine ask_fin hv (by decide) (by decide) (plc (σ.2.1 0) (nI (s (p + 2) - 48))).isSome (fun μ hC hS hp => ?_) (fun m j hj hM o1 o2 o3 => ?_)
  · refine c_soNot hC hp gn g1' ?_ (by decide) (by decide)
    rw [if_neg (by decide), if_pos (by decide), jcl_e (c_digAt hC g2), jcl_e (c_placeOf (t := 6) hS.2.1 h0 _)]
    cases e : plc (σ.2.1 0) (nI (s (p + 2) - 48)) with
    | none => rfl
    | some i =>
      have := fnd_some e
      rw [show fndI (some i) = nI i from rfl, if_neg (nI_m1 (by have := h0.1.1; omega))]
      rfl
  · unfold f_X12_doesAct
    refine (act_rd hj o1 o2 o3 _).trans ?_
    rw [if_neg (by decide), if_neg (by decide), if_neg (by decide), if_neg (by decide), if_neg (by decide), if_neg (by decide), if_neg (by decide), if_neg (by decide), if_neg (by decide), if_neg (by decide), if_neg (by decide), if_neg (by decide), if_neg (by decide)]
    show jcl (f_X12_placeOf 201 (0 : Int32) (nI (s (p + 2) - 48)) m) (fun v66 => some (((if (0 : Int32) ≤ v66 then (0 : Int32) else (-1 : Int32)), m))) = _
    have ep : f_X12_placeOf 201 (0 : Int32) (nI (s (p + 2) - 48)) m = _ := r_placeOf (w := 0) (hM.2.1 0 (Nat.zero_le _)) (by decide) h0 _
    rw [jcl_e ep]
    cases e : plc (σ.2.1 0) (nI (s (p + 2) - 48)) with
    | none => rfl
    | some i =>
      have := fnd_some e
      rw [show fndI (some i) = nI i from rfl, if_pos (nI_pos' (by have := h0.1.1; omega))]
      rfl
theorem aok {n p k : Nat} {s : Nat → Nat} {σ : SS} (hv : VS σ) (h : (ra n s p).2 = some k) : AOK n s σ k p := by
  have hk := (ra_some h).1
  have : k = 0 ∨ k = 1 ∨ k = 2 ∨ k = 3 ∨ k = 4 ∨ k = 5 ∨ k = 6 ∨ k = 7 ∨ k = 8 ∨ k = 9 ∨ k = 10 ∨ k = 11 ∨ k = 12 ∨ k = 13 ∨ k = 14 := by omega
  rcases this with rfl | rfl | rfl | rfl | rfl | rfl | rfl | rfl | rfl | rfl | rfl | rfl | rfl | rfl | rfl
  · exact aok_0 hv h
  · exact aok_1 hv h
  · exact aok_2 hv h
  · exact aok_3 hv h
  · exact aok_4 hv h
  · exact aok_5 hv h
  · exact aok_6 hv h
  · exact aok_7 hv h
  · exact aok_8 hv h
  · exact aok_9 hv h
  · exact aok_10 hv h
  · exact aok_11 hv h
  · exact aok_12 hv h
  · exact aok_13 hv h
  · exact aok_14 hv h
