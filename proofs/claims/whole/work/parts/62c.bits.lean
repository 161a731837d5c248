theorem mx_b : ∀ m, m < 64 → m ≠ 0 → ∃ j, j < 6 ∧ (31 : Int32) - f_J6_numberOfLeadingZeros_0f7a4 (nI m) = nI j ∧ m.testBit j = true ∧ ∀ w, w < 6 → m.testBit w = true → w ≤ j := by decide +kernel
theorem mn_b : ∀ m, m < 64 → m ≠ 0 → ∃ j, j < 6 ∧ f_J6_numberOfTrailingZeros_0f7a4 (nI m) = nI j ∧ m.testBit j = true ∧ ∀ w, w < 6 → m.testBit w = true → j ≤ w := by decide +kernel
theorem mn_0 : f_J6_numberOfTrailingZeros_0f7a4 (nI 0) = nI 32 := by decide +kernel
theorem one_b : ∀ m, m < 64 → pc m = 1 → ∃ j, j < 6 ∧ ∀ w, w < 6 → (m.testBit w = true ↔ w = j) := by decide +kernel
theorem two_b : ∀ m, m < 64 → m ≠ 0 → pc m ≠ 1 → ∃ j, j < 6 ∧ ∃ k, k < 6 ∧ j ≠ k ∧ m.testBit j = true ∧ m.testBit k = true := by decide +kernel
theorem pc_cnt5 : ∀ m, m < 32 → pc m = cnt (fun i => m.testBit i) 5 := by decide +kernel
theorem bel_b : ∀ j, j < 6 → ∃ q, q < 64 ∧ f_X6_below (nI j) = nI q ∧ ∀ v, v < 6 → q.testBit v = decide (v < j) := by decide +kernel
