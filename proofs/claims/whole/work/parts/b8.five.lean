/-! cell, values, pair, constraint, row: none where the class throws -/
def g_cell (x : Int32) (μ : jM) : Option (Option Int32) := if f_X11_isCell x = (0 : Int32) then some none else jrd (μ.1 7) x 6 (fun v => some (some v))
def g_values (x : Int32) (μ : jM) : Option (Option Int32) := if f_X11_isVariable x = (0 : Int32) then some none else jrd (μ.1 8) x 5 (fun v => some (some v))
def g_pair (x y : Int32) (μ : jM) : Option (Option Int32) := if x < (0 : Int32) then some none else if μ.1 6 5 ≤ x then some none else if y < (0 : Int32) then some none else if y ≤ (1 : Int32) then (if y = (0 : Int32) then jrd (μ.1 9) x 8 (fun v => some (some v)) else jrd (μ.1 10) x 8 (fun v => some (some v))) else some none
def g_constraint (x y : Int32) (μ : jM) : Option (Option Int32) := if x < (0 : Int32) then some none else if μ.1 6 6 ≤ x then some none else if y < (0 : Int32) then some none else if y < (4 : Int32) then jrd (μ.1 11) ((4 : Int32) * x + y) 32 (fun v => some (some v)) else some none
def g_row (x : Int32) (μ : jM) : Option (Option Int64) := if x < (0 : Int32) then some none else if μ.1 3 1 ≤ x then some none else jrd (μ.2 4) x 22 (fun v => some (some v))
theorem rel_thr {μ : jM} {v : Int32} (h : Rel μ) : Rel (jsi μ 201 0 v) := by
  obtain ⟨⟨σ, hv, hS, hM⟩, -⟩ := id h
  exact rel_mk h hv hS jFr.rf (hM.thr (by decide)) (RC.thr (by decide))
theorem rel_out {μ : jM} {v : Int64} (h : Rel μ) : Rel (jsl μ 224 0 v) := by
  obtain ⟨⟨σ, hv, hS, hM⟩, ht, hr, hh, hk⟩ := h
  refine ⟨⟨σ, hv, hS, hM⟩, ht, ?_, hh, hk⟩
  exact hr.fr rfl (jsl_ne (by decide)) (jsl_ne (by decide)) rfl
/-- a memory that differs in the law's own row alone -/
def Ou (μ μ1 : jM) : Prop := Rel μ1 ∧ μ1.1 = μ.1 ∧ ∀ c, c ≠ 224 → μ1.2 c = μ.2 c
theorem Ou.rf {μ : jM} (h : Rel μ) : Ou μ μ := ⟨h, rfl, fun _ _ => rfl⟩
theorem Ou.out {μ : jM} (h : Rel μ) (v : Int64) : Ou μ (jsl μ 224 0 v) := ⟨rel_out h, rfl, fun c hc => jsl_ne hc⟩
def F5 {α : Type} (w : Option α) (b : α) (μ1 μ2 : jM) : Prop := Rel μ2 ∧ μ2.2 = μ1.2 ∧ (w = none ∧ μ2.1 201 0 = 1 ∨ w = some b ∧ μ2.1 201 0 = 0)
theorem fl1 : f_X12_flag (1 : Int32) = 1 := by decide
theorem fl0 : f_X12_flag (0 : Int32) = 0 := by decide
theorem sim_cell {μ : jM} (h : Rel μ) (x : Int32) : ∃ w, g_cell x μ = some w ∧ ∀ μ1, Ou μ μ1 → ∃ b μ2, f_X12_cell 201 x μ1 = some (b, μ2) ∧ F5 w b μ1 μ2 := by
  obtain ⟨⟨σ, hv, hS, hM⟩, -⟩ := id h
  have e1 : (0 : Int64).toInt = 0 := by decide
  have e2 : (5 : Int64).toInt = 5 := by decide
  unfold g_cell
  rw [cell_i]
  by_cases c : 0 ≤ x.toInt ∧ x.toInt < 6
  · obtain ⟨i, hi, rfl⟩ := nI_iof (n := 6) c (by decide)
    rw [if_pos c, if_neg (by decide), jrd_n hi (by decide)]
    refine ⟨_, rfl, fun μ1 ho => ?_⟩
    unfold f_X12_cell
    rw [in_i, e1, e2, if_pos (show 0 ≤ (nI i).toInt ∧ (nI i).toInt ≤ 5 by omega), if_neg (by decide), fl0, jbd_e, jsi_at, if_neg (by decide)]
    have er : (jsi μ1 201 0 0).1 (201 + 3) i = σ.2.1 0 i := by
      show (jsi μ1 201 0 0).1 204 i = _
      rw [jsi_ne (by decide), ho.2.1]
      exact hM.at (by omega)
    have ec : μ.1 7 i = σ.2.1 0 i := hS.2.1.1 i hi
    rw [jrd_n (by omega) (by decide), er]
    exact ⟨_, _, rfl, rel_thr ho.1, rfl, Or.inr ⟨by rw [ec], jsi_at _ _ _ _⟩⟩
  · rw [if_neg c, if_pos rfl]
    refine ⟨_, rfl, fun μ1 ho => ?_⟩
    unfold f_X12_cell
    rw [in_i, e1, e2, if_neg (show ¬ (0 ≤ x.toInt ∧ x.toInt ≤ 5) by omega), if_pos rfl, fl1, jbd_e, jsi_at, if_pos rfl]
    exact ⟨_, _, rfl, rel_thr ho.1, rfl, Or.inl ⟨rfl, jsi_at _ _ _ _⟩⟩
theorem sim_values {μ : jM} (h : Rel μ) (x : Int32) : ∃ w, g_values x μ = some w ∧ ∀ μ1, Ou μ μ1 → ∃ b μ2, f_X12_values 201 x μ1 = some (b, μ2) ∧ F5 w b μ1 μ2 := by
  obtain ⟨⟨σ, hv, hS, hM⟩, -⟩ := id h
  have e1 : (0 : Int64).toInt = 0 := by decide
  have e2 : (4 : Int64).toInt = 4 := by decide
  unfold g_values
  rw [var_i]
  by_cases c : 0 ≤ x.toInt ∧ x.toInt < 5
  · obtain ⟨i, hi, rfl⟩ := nI_iof (n := 5) c (by decide)
    rw [if_pos c, if_neg (by decide), jrd_n hi (by decide)]
    refine ⟨_, rfl, fun μ1 ho => ?_⟩
    unfold f_X12_values
    rw [in_i, e1, e2, if_pos (show 0 ≤ (nI i).toInt ∧ (nI i).toInt ≤ 4 by omega), if_neg (by decide), fl0, jbd_e, jsi_at, if_neg (by decide)]
    have er : (jsi μ1 201 0 0).1 (201 + 3) (6 + i) = σ.2.1 0 (6 + i) := by
      show (jsi μ1 201 0 0).1 204 (6 + i) = _
      rw [jsi_ne (by decide), ho.2.1]
      exact hM.at (by omega)
    have ec : μ.1 8 i = σ.2.1 0 (6 + i) := hS.2.1.2.1 i hi
    rw [jlit 6, nI_add, jrd_n (by omega) (by decide), er]
    exact ⟨_, _, rfl, rel_thr ho.1, rfl, Or.inr ⟨by rw [ec], jsi_at _ _ _ _⟩⟩
  · rw [if_neg c, if_pos rfl]
    refine ⟨_, rfl, fun μ1 ho => ?_⟩
    unfold f_X12_values
    rw [in_i, e1, e2, if_neg (show ¬ (0 ≤ x.toInt ∧ x.toInt ≤ 4) by omega), if_pos rfl, fl1, jbd_e, jsi_at, if_pos rfl]
    exact ⟨_, _, rfl, rel_thr ho.1, rfl, Or.inl ⟨rfl, jsi_at _ _ _ _⟩⟩
theorem i0 : (0 : Int32).toInt = 0 := by decide
theorem sim_pair {μ : jM} (h : Rel μ) (x y : Int32) : ∃ w, g_pair x y μ = some w ∧ ∀ μ1, Ou μ μ1 → ∃ b μ2, f_X12_pair 201 x y μ1 = some (b, μ2) ∧ F5 w b μ1 μ2 := by
  obtain ⟨⟨σ, hv, hS, hM⟩, -⟩ := id h
  have h0 := hv.2.1 0 (Nat.zero_le _)
  have hn := h0.1.1
  have e1 : (0 : Int64).toInt = 0 := by decide
  have e2 : (1 : Int64).toInt = 1 := by decide
  have i1 : (1 : Int32).toInt = 1 := by decide
  have en := nI_toInt (n := np (σ.2.1 0)) (by omega)
  have e3 : ((nI (np (σ.2.1 0)) - (1 : Int32)).toInt64).toInt = (np (σ.2.1 0) : Int) - 1 := by
    rw [Int32.toInt_toInt64]
    exact pk_sub_toInt (b := 1) (by omega) (by omega)
  have c5 : μ.1 6 5 = nI (np (σ.2.1 0)) := by rw [show μ.1 6 5 = (σ.2.1 0) 11 from hS.2.1.2.2.1]; exact h0.1.2
  have r11 : ∀ μ1, Ou μ μ1 → μ1.1 (201 + 3) 11 = nI (np (σ.2.1 0)) := fun μ1 ho => by
    show μ1.1 204 11 = _
    rw [ho.2.1, hM.at (by omega)]
    exact h0.1.2
  unfold g_pair
  rw [c5]
  by_cases c : (0 ≤ x.toInt ∧ x.toInt < np (σ.2.1 0)) ∧ (0 ≤ y.toInt ∧ y.toInt ≤ 1)
  · obtain ⟨i, hi, rfl⟩ := nI_iof (n := np (σ.2.1 0)) c.1 (by omega)
    obtain ⟨j, hj, rfl⟩ := nI_iof (n := 2) (x := y) ⟨by omega, by omega⟩ (by decide)
    rw [if_neg (nI_pos (by omega)), if_neg (nI_ge hi (by omega)), if_neg (nI_pos (by omega)), if_pos (show nI j ≤ (1 : Int32) from nI_le (b := 1) (by omega) (by decide))]
    have j01 : j = 0 ∨ j = 1 := by omega
    have ref : ∀ μ1, Ou μ μ1 → ∀ k, k = (if j = 0 then 12 else 20) + i → ∃ μ2, f_X12_pair 201 (nI i) (nI j) μ1 = some (σ.2.1 0 k, μ2) ∧ Rel μ2 ∧ μ2.2 = μ1.2 ∧ μ2.1 201 0 = 0 := fun μ1 ho k hk => by
      unfold f_X12_pair
      simp only [jbd_e]
      rw [jlit 11, jrd_n (by omega) (by decide), r11 μ1 ho, in_i, e1, e3, if_pos (show 0 ≤ (nI i).toInt ∧ (nI i).toInt ≤ (np (σ.2.1 0) : Int) - 1 by omega), if_neg (by decide), in_i, e1, e2, if_pos c.2, if_neg (by decide), fl0, jsi_at, if_neg (by decide)]
      have ek : (if nI j = (0 : Int32) then (12 : Int32) else 20) + nI i = nI k := by
        rw [hk]
        rcases j01 with rfl | rfl
        · rw [if_pos (by decide), if_pos rfl, jlit 12, nI_add]
        · rw [if_neg (by decide), if_neg (by decide), jlit 20, nI_add]
      have k61 : k < 61 := by rw [hk]; split <;> omega
      have er : (jsi μ1 201 0 0).1 (201 + 3) k = σ.2.1 0 k := by
        show (jsi μ1 201 0 0).1 204 k = _
        rw [jsi_ne (by decide), ho.2.1]
        exact hM.at k61
      rw [ek, jrd_n (by omega) (by decide), er]
      exact ⟨_, rfl, rel_thr ho.1, rfl, jsi_at _ _ _ _⟩
    rcases j01 with rfl | rfl
    · rw [if_pos (by decide), jrd_n (show i < 8 by omega) (by decide)]
      refine ⟨_, rfl, fun μ1 ho => ?_⟩
      obtain ⟨μ2, a1, a2, a3, a4⟩ := ref μ1 ho (12 + i) rfl
      exact ⟨_, μ2, a1, a2, a3, Or.inr ⟨by rw [show μ.1 9 i = σ.2.1 0 (12 + i) from hS.2.1.2.2.2.1 i (by omega)], a4⟩⟩
    · rw [if_neg (by decide), jrd_n (show i < 8 by omega) (by decide)]
      refine ⟨_, rfl, fun μ1 ho => ?_⟩
      obtain ⟨μ2, a1, a2, a3, a4⟩ := ref μ1 ho (20 + i) rfl
      exact ⟨_, μ2, a1, a2, a3, Or.inr ⟨by rw [show μ.1 10 i = σ.2.1 0 (20 + i) from hS.2.1.2.2.2.2.1 i (by omega)], a4⟩⟩
  · have hw : (if x < (0 : Int32) then some (none : Option Int32) else if nI (np (σ.2.1 0)) ≤ x then some none else if y < (0 : Int32) then some none else if y ≤ (1 : Int32) then (if y = (0 : Int32) then jrd (μ.1 9) x 8 (fun v => some (some v)) else jrd (μ.1 10) x 8 (fun v => some (some v))) else some none) = some none := by
      by_cases a : x < (0 : Int32)
      · rw [if_pos a]
      · rw [if_neg a]
        by_cases b : nI (np (σ.2.1 0)) ≤ x
        · rw [if_pos b]
        · rw [if_neg b]
          by_cases d : y < (0 : Int32)
          · rw [if_pos d]
          · rw [if_neg d]
            by_cases e : y ≤ (1 : Int32)
            · exfalso
              rw [i32_lt, i0] at a d
              rw [i32_le] at b e
              rw [i1] at e
              rw [en] at b
              exact c ⟨⟨by omega, by omega⟩, by omega, by omega⟩
            · rw [if_neg e]
    refine ⟨none, hw, fun μ1 ho => ?_⟩
    unfold f_X12_pair
    simp only [jbd_e]
    rw [jlit 11, jrd_n (by omega) (by decide), r11 μ1 ho, in_i, e1, e3, in_i, e1, e2, fl1, fl0, jsi_at, jsi_at, if_pos (show (1 : Int32) = 1 from rfl)]
    by_cases a : 0 ≤ x.toInt ∧ x.toInt ≤ (np (σ.2.1 0) : Int) - 1
    · rw [if_pos a, if_neg (by decide)]
      rw [if_neg (show ¬ (0 ≤ y.toInt ∧ y.toInt ≤ 1) from fun z => c ⟨⟨a.1, by omega⟩, z⟩), if_pos rfl]
      exact ⟨_, _, rfl, rel_thr ho.1, rfl, Or.inl ⟨rfl, jsi_at _ _ _ _⟩⟩
    · rw [if_neg a, if_pos rfl]
      exact ⟨_, _, rfl, rel_thr ho.1, rfl, Or.inl ⟨rfl, jsi_at _ _ _ _⟩⟩
theorem sim_constraint {μ : jM} (h : Rel μ) (x y : Int32) : ∃ w, g_constraint x y μ = some w ∧ ∀ μ1, Ou μ μ1 → ∃ b μ2, f_X12_constraint 201 x y μ1 = some (b, μ2) ∧ F5 w b μ1 μ2 := by
  obtain ⟨⟨σ, hv, hS, hM⟩, -⟩ := id h
  have h0 := hv.2.1 0 (Nat.zero_le _)
  have hn := h0.2.1.1
  have e1 : (0 : Int64).toInt = 0 := by decide
  have e2 : (3 : Int64).toInt = 3 := by decide
  have i4 : (4 : Int32).toInt = 4 := by decide
  have en := nI_toInt (n := nc (σ.2.1 0)) (by omega)
  have e3 : ((nI (nc (σ.2.1 0)) - (1 : Int32)).toInt64).toInt = (nc (σ.2.1 0) : Int) - 1 := by
    rw [Int32.toInt_toInt64]
    exact pk_sub_toInt (b := 1) (by omega) (by omega)
  have c6 : μ.1 6 6 = nI (nc (σ.2.1 0)) := by rw [show μ.1 6 6 = (σ.2.1 0) 28 from hS.2.1.2.2.2.2.2.1]; exact h0.2.1.2
  have r28 : ∀ μ1, Ou μ μ1 → μ1.1 (201 + 3) 28 = nI (nc (σ.2.1 0)) := fun μ1 ho => by
    show μ1.1 204 28 = _
    rw [ho.2.1, hM.at (by omega)]
    exact h0.2.1.2
  unfold g_constraint
  rw [c6]
  by_cases c : (0 ≤ x.toInt ∧ x.toInt < nc (σ.2.1 0)) ∧ (0 ≤ y.toInt ∧ y.toInt ≤ 3)
  · obtain ⟨i, hi, rfl⟩ := nI_iof (n := nc (σ.2.1 0)) c.1 (by omega)
    obtain ⟨j, hj, rfl⟩ := nI_iof (n := 4) (x := y) ⟨by omega, by omega⟩ (by decide)
    rw [if_neg (nI_pos (by omega)), if_neg (nI_ge hi (by omega)), if_neg (nI_pos (by omega)), if_pos (show nI j < (4 : Int32) from nI_lt (b := 4) hj (by decide)), jlit 4, nI_mulx, nI_add, jrd_n (show 4 * i + j < 32 by omega) (by decide)]
    refine ⟨_, rfl, fun μ1 ho => ?_⟩
    unfold f_X12_constraint
    simp only [jbd_e]
    rw [jlit 28, jrd_n (by omega) (by decide), r28 μ1 ho, in_i, e1, e3, if_pos (show 0 ≤ (nI i).toInt ∧ (nI i).toInt ≤ (nc (σ.2.1 0) : Int) - 1 by omega), if_neg (by decide), in_i, e1, e2, if_pos c.2, if_neg (by decide), fl0, jsi_at, if_neg (by decide)]
    have er : (jsi μ1 201 0 0).1 (201 + 3) (29 + 4 * i + j) = σ.2.1 0 (29 + (4 * i + j)) := by
      show (jsi μ1 201 0 0).1 204 (29 + 4 * i + j) = _
      rw [jsi_ne (by decide), ho.2.1, show 29 + 4 * i + j = 29 + (4 * i + j) by omega]
      exact hM.at (by omega)
    rw [jlit 29, jlit 4, nI_mulx, nI_add, nI_add, jrd_n (by omega) (by decide), er]
    exact ⟨_, _, rfl, rel_thr ho.1, rfl, Or.inr ⟨by rw [show μ.1 11 (4 * i + j) = σ.2.1 0 (29 + (4 * i + j)) from hS.2.1.2.2.2.2.2.2 _ (by omega)], jsi_at _ _ _ _⟩⟩
  · have hw : (if x < (0 : Int32) then some (none : Option Int32) else if nI (nc (σ.2.1 0)) ≤ x then some none else if y < (0 : Int32) then some none else if y < (4 : Int32) then jrd (μ.1 11) ((4 : Int32) * x + y) 32 (fun v => some (some v)) else some none) = some none := by
      by_cases a : x < (0 : Int32)
      · rw [if_pos a]
      · rw [if_neg a]
        by_cases b : nI (nc (σ.2.1 0)) ≤ x
        · rw [if_pos b]
        · rw [if_neg b]
          by_cases d : y < (0 : Int32)
          · rw [if_pos d]
          · rw [if_neg d]
            by_cases e : y < (4 : Int32)
            · exfalso
              rw [i32_lt, i0] at a d
              rw [i32_le] at b
              rw [i32_lt, i4] at e
              rw [en] at b
              exact c ⟨⟨by omega, by omega⟩, by omega, by omega⟩
            · rw [if_neg e]
    refine ⟨none, hw, fun μ1 ho => ?_⟩
    unfold f_X12_constraint
    simp only [jbd_e]
    rw [jlit 28, jrd_n (by omega) (by decide), r28 μ1 ho, in_i, e1, e3, in_i, e1, e2, fl1, fl0, jsi_at, jsi_at, if_pos (show (1 : Int32) = 1 from rfl)]
    by_cases a : 0 ≤ x.toInt ∧ x.toInt ≤ (nc (σ.2.1 0) : Int) - 1
    · rw [if_pos a, if_neg (by decide)]
      rw [if_neg (show ¬ (0 ≤ y.toInt ∧ y.toInt ≤ 3) from fun z => c ⟨⟨a.1, by omega⟩, z⟩), if_pos rfl]
      exact ⟨_, _, rfl, rel_thr ho.1, rfl, Or.inl ⟨rfl, jsi_at _ _ _ _⟩⟩
    · rw [if_neg a, if_pos rfl]
      exact ⟨_, _, rfl, rel_thr ho.1, rfl, Or.inl ⟨rfl, jsi_at _ _ _ _⟩⟩
theorem sim_rowA {μ : jM} (h : Rel μ) (x : Int32) : ∃ w, g_row x μ = some w ∧ ∀ μ1, Ou μ μ1 → ∃ b μ2, f_X12_row 201 x μ1 = some (b, μ2) ∧ F5 w b μ1 μ2 := by
  obtain ⟨-, -, ⟨n, hn, r1, r2, r3⟩, -⟩ := id h
  have e1 : (0 : Int64).toInt = 0 := by decide
  have en := nI_toInt (n := n) (by omega)
  have e3 : ((nI n - (1 : Int32)).toInt64).toInt = (n : Int) - 1 := by
    rw [Int32.toInt_toInt64]
    exact pk_sub_toInt (b := 1) (by omega) (by omega)
  have e1' : ∀ μ1, Ou μ μ1 → μ1.1 201 1 = nI n := fun μ1 ho => by rw [ho.2.1]; exact r2
  unfold g_row
  rw [r1]
  by_cases c : 0 ≤ x.toInt ∧ x.toInt < n
  · obtain ⟨i, hi, rfl⟩ := nI_iof (n := n) c (by omega)
    rw [if_neg (nI_pos (by omega)), if_neg (nI_ge hi (by omega)), jrd_n (show i < 22 by omega) (by decide)]
    refine ⟨_, rfl, fun μ1 ho => ?_⟩
    unfold f_X12_row
    rw [e1' μ1 ho, in_i, e1, e3, if_pos (show 0 ≤ (nI i).toInt ∧ (nI i).toInt ≤ (n : Int) - 1 by omega), if_neg (by decide), fl0, jbd_e, jsi_at, if_neg (by decide)]
    have er : (jsi μ1 201 0 0).2 (201 + 1) i = μ.2 4 i := by
      show μ1.2 202 i = _
      rw [ho.2.2 202 (by decide)]
      exact (r3 i hi).symm
    rw [jrd_n (by omega) (by decide), er]
    exact ⟨_, _, rfl, rel_thr ho.1, rfl, Or.inr ⟨rfl, jsi_at _ _ _ _⟩⟩
  · have hw : (if x < (0 : Int32) then some (none : Option Int64) else if nI n ≤ x then some none else jrd (μ.2 4) x 22 (fun v => some (some v))) = some none := by
      by_cases a : x < (0 : Int32)
      · rw [if_pos a]
      · rw [if_neg a]
        by_cases b : nI n ≤ x
        · rw [if_pos b]
        · exfalso
          rw [i32_lt, i0] at a
          rw [i32_le, en] at b
          exact c ⟨by omega, by omega⟩
    refine ⟨none, hw, fun μ1 ho => ?_⟩
    unfold f_X12_row
    rw [e1' μ1 ho, in_i, e1, e3, if_neg (show ¬ (0 ≤ x.toInt ∧ x.toInt ≤ (n : Int) - 1) by omega), if_pos rfl, fl1, jbd_e, jsi_at, if_pos rfl]
    exact ⟨_, _, rfl, rel_thr ho.1, rfl, Or.inl ⟨rfl, jsi_at _ _ _ _⟩⟩
