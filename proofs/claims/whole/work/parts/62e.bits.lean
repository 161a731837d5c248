theorem pc_all : ∀ n, n < 9 → ∀ s, s < 2 ^ n → pc s ≤ n ∧ (pc s = n → s = 2 ^ n - 1) := by decide +kernel
theorem pc_full : ∀ n, n < 9 → pc (2 ^ n - 1) = n ∧ 2 ^ n ≤ 256 := by decide +kernel
