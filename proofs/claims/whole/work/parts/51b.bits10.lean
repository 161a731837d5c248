theorem c_bits10 : ∀ m, m < 1024 → f_J6_bitCount_0f7a4 (nI m) = nI (pc m) := by decide +kernel
