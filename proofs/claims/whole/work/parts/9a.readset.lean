/-! posts: a rule of a set -/
/-- mask, place, was one named twice -/
def sr (n : Nat) (s : Nat → Nat) : Nat → Nat → Nat → Nat × Nat × Bool
  | 0, q, M => (M, q, true)
  | f + 1, q, M => match rg 118 5 n s q with
    | none => (M, q, false)
    | some x => if M.testBit x then (M, q, true) else sr n s f (q + 1) (M ||| 2 ^ x)
theorem sr_s (n : Nat) (s : Nat → Nat) (f q M : Nat) : sr n s (f + 1) q M = match rg 118 5 n s q with
    | none => (M, q, false)
    | some x => if M.testBit x then (M, q, true) else sr n s f (q + 1) (M ||| 2 ^ x) := rfl
theorem pc_or : ∀ M, M < 32 → ∀ x, x < 5 → M.testBit x = false → pc (M ||| 2 ^ x) = pc M + 1 ∧ M ||| 2 ^ x < 32 := by decide +kernel
theorem pc_5 : ∀ M, M < 32 → pc M ≤ 5 ∧ (pc M = 5 → ∀ x, x < 5 → M.testBit x = true) := by decide +kernel
