def CS0 : List Nat := [8, 16, 24, 32, 40, 48, 56, 64, 72, 80, 88, 96, 104, 112, 120, 128, 136, 144, 152, 160, 191, 197]
def mem0 : jM := jsi (jsi (jsi (jsi (jsi (fl CS0) 204 6 63) 204 7 63) 204 8 63) 204 9 63) 204 10 63
def Zf : List jc := LX11 0 ++ (LX12 201 ++ [(14, 1, [])])
theorem Zf_eq : Zf = jLayL := by decide +kernel
theorem Z11_len : (LX11 0).length = 201 := by decide +kernel
theorem Z12_len : (LX12 201).length = 23 := by decide +kernel
theorem Zf_ok (ad : Nat → Nat) : jOKL (jLf Zf ad) := by
  refine ⟨?_, ?_⟩
  · show Zf.length = 225
    rw [Zf_eq]
    decide +kernel
  · show yOf Zf = jLay
    rw [Zf_eq]
    rfl
theorem mem0_2 (a : Nat) : mem0.2 a = fun _ => 0 := rfl
def T0 : TT := fun k => if 6 ≤ k ∧ k < 11 then 63 else 0
theorem m0_a : mem0.1 1 1 = 0 ∧ mem0.1 201 4 = 0 ∧ mem0.1 3 1 = 0 ∧ mem0.1 201 1 = 0 ∧ mem0.1 181 3 = 0 ∧ mem0.1 201 37 = 0 ∧ mem0.1 5 2 = 0 ∧ mem0.1 201 9 = 0 ∧ mem0.1 6 5 = 0 ∧ mem0.1 6 6 = 0 := by decide +kernel
theorem m0_t : ∀ i, i < 80 → mem0.1 2 i = 0 ∧ mem0.1 203 i = 0 := by decide +kernel
theorem m0_k : ∀ i, i < 2 → mem0.1 186 i = 0 ∧ mem0.1 223 i = 0 := by decide +kernel
theorem m0_1 : ∀ k, k < 6 → mem0.1 7 k = T0 k := by decide +kernel
theorem m0_2 : ∀ k, k < 5 → mem0.1 8 k = T0 (6 + k) := by decide +kernel
theorem m0_3 : ∀ k, k < 8 → mem0.1 9 k = T0 (12 + k) := by decide +kernel
theorem m0_4 : ∀ k, k < 8 → mem0.1 10 k = T0 (20 + k) := by decide +kernel
theorem m0_5 : ∀ k, k < 32 → mem0.1 11 k = T0 (29 + k) := by decide +kernel
theorem m0_w : ∀ k, k < 61 → mem0.1 204 (61 * 0 + k) = T0 k := by decide +kernel
theorem vt_0 : VT T0 := by
  have e1 : np T0 = 0 := by decide
  have e2 : nc T0 = 0 := by decide
  unfold VT
  rw [e1, e2]
  refine ⟨⟨by decide, by decide⟩, ⟨by decide, by decide⟩, fun k hk => ?_, fun k hk => ⟨63, by decide, by decide, ?_⟩, fun k hk => absurd hk (Nat.not_lt_zero _), fun i j hi => absurd hi (Nat.not_lt_zero _), fun k hk => absurd hk (Nat.not_lt_zero _), fun i hi => absurd hi (Nat.not_lt_zero _)⟩
  · rw [show T0 k = 0 from if_neg (by omega)]
    exact ⟨by decide, by decide⟩
  · rw [show T0 (6 + k) = 63 from if_pos (by omega)]
    rfl
theorem rel_0 : Rel mem0 := by
  obtain ⟨a1, a2, a3, a4, a5, a6, a7, a8, a9, a10⟩ := m0_a
  refine ⟨⟨(0, fun _ => T0, fun _ => []), ⟨Nat.zero_le _, fun _ _ => vt_0, fun j h => absurd h (Nat.not_lt_zero _)⟩, ⟨a7, ⟨m0_1, m0_2, a9, m0_3, m0_4, a10, m0_5⟩, fun j h => absurd h (Nat.not_lt_zero _)⟩, ⟨a8, fun j h => ?_, fun j h => absurd h (Nat.not_lt_zero _)⟩⟩, ⟨0, by decide, a1, a2, fun i hi => ⟨(m0_t i hi).1.trans (m0_t i hi).2.symm, 0, by decide, (m0_t i hi).1⟩⟩, ⟨0, by decide, a3, a4, fun i hi => absurd hi (Nat.not_lt_zero _)⟩, ⟨0, by decide, a5, a6, fun i hi => absurd hi (Nat.not_lt_zero _)⟩, fun i hi => ⟨(m0_k i hi).1.trans (m0_k i hi).2.symm, Or.inl (m0_k i hi).1⟩⟩
  obtain rfl : j = 0 := Nat.le_zero.mp h
  exact m0_w
