theorem set_del : ∀ m, m < 32 → ∀ x, x < 5 → m.testBit x = true → 2 ^ x ≤ m ∧ ∀ z, z < 5 → (m - 2 ^ x).testBit z = (m.testBit z && !(z == x)) := by decide +kernel
theorem val_del : ∀ m, m < 64 → ∀ v, v < 6 → m.testBit v = true → 2 ^ v ≤ m ∧ pc (m - 2 ^ v) + 1 = pc m ∧ ∀ w, w < 6 → (m - 2 ^ v).testBit w = (m.testBit w && !(w == v)) := by decide +kernel
theorem pc_cnt : ∀ m, m < 64 → pc m = cnt (fun i => m.testBit i) 6 := by decide +kernel
theorem mask0 : ∀ m, m < 64 → m ≠ 0 → ∃ v, v < 6 ∧ m.testBit v = true := by decide +kernel
theorem mask5 : ∀ m, m < 32 → m ≠ 0 → ∃ v, v < 5 ∧ m.testBit v = true ∧ ∀ j, j < v → m.testBit j = false := by decide +kernel
