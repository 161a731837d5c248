/-! bits counted; acts on variables -/
def pcn (m : Nat) : Nat → Nat
  | 0 => 0
  | k + 1 => pcn m k + (if m.testBit k then 1 else 0)
def pc (m : Nat) : Nat := pcn m 31
theorem pcn_s (m k : Nat) : pcn m (k + 1) = pcn m k + (if m.testBit k then 1 else 0) := rfl
theorem pcn_le (m : Nat) : ∀ k, pcn m k ≤ k
  | 0 => Nat.le_refl _
  | k + 1 => by have := pcn_le m k; unfold pcn; split <;> omega
theorem pc_le (m : Nat) : pc m ≤ 31 := pcn_le m 31
theorem pcn_sub {m m' : Nat} (h : ∀ i, m'.testBit i = true → m.testBit i = true) : ∀ k, pcn (m ^^^ m') k + pcn m' k = pcn m k
  | 0 => rfl
  | k + 1 => by
    have := pcn_sub h k
    rw [pcn_s, pcn_s, pcn_s, Nat.testBit_xor]
    have hk := h k
    cases q : m'.testBit k with
    | false => cases q2 : m.testBit k <;> simp <;> omega
    | true =>
      rw [hk q]
      simp
      omega
theorem r_bits {m : Nat} (hm : m < 2 ^ 31) : f_X12_bitsOf (nI m) = some (nI (pc m)) := by
  obtain ⟨e, he, hr⟩ := jlpN (step := fun (s : Int32 × Int32) => f_X12_bitsOf_L4 (nI m) s.1 s.2) 31 (fun k s => s = (nI (pcn m k), nI k)) (fun e => e = nI (pc m))
    (fun k s hk hs => by
      subst hs
      refine ⟨(nI (pcn m (k + 1)), nI (k + 1)), ?_, rfl⟩
      try dsimp only
      unfold f_X12_bitsOf_L4
      rw [jlit 31, if_neg (nI_ge hk (by decide)), ← jlit 31, nI_sbit hm (by omega), jbd_e, nI_1, pcn_s]
      cases m.testBit k
      · rw [if_neg (by decide), if_neg (by decide), Int32.add_zero]
        rfl
      · rw [if_pos rfl, if_pos rfl, nI_1])
    (fun s hs => by
      subst hs
      refine ⟨_, ?_, rfl⟩
      try dsimp only
      unfold f_X12_bitsOf_L4
      rw [jlit 31, if_pos (nI_le (by omega) (by omega))]
      rfl) (i := 0) (n := jfu) (s := ((0 : Int32), (0 : Int32))) (by omega) rfl (jfu_lt (by omega))
  unfold f_X12_bitsOf
  rw [jcl_e he, hr]
theorem c_bits : ∀ m, m < 256 → f_J6_bitCount_0f7a4 (nI m) = nI (pc m) := by decide +kernel
theorem sub_bits {m m' : Nat} (hm : m < 256) (h' : m' < 256) (h : ∀ i, m'.testBit i = true → m.testBit i = true) : f_J6_bitCount_0f7a4 (nI m ^^^ nI m') = nI (pc m) - nI (pc m') ∧ pc m' ≤ pc m := by
  have hx : m ^^^ m' < 256 := Nat.xor_lt_two_pow (n := 8) hm h'
  have e := pcn_sub h 31
  have e : pc (m ^^^ m') + pc m' = pc m := e
  rw [nI_xor (by omega) (by omega), c_bits _ hx, pk_sub (by omega)]
  exact ⟨by congr 1; omega, by omega⟩
theorem and_sub {m m' : Nat} (h : m' &&& m = m') : ∀ i, m'.testBit i = true → m.testBit i = true := fun i hi => by
  rw [← h, Nat.testBit_and] at hi
  simp only [Bool.and_eq_true] at hi
  exact hi.2
def limn (m lo : Nat) : Nat → Nat
  | 0 => 0
  | j + 1 => limn m lo j ||| (m &&& 2 ^ (lo + j))
theorem rem_bits : ∀ m, m < 64 → ∀ v, v < 6 → m.testBit v = true → (nI m &&& (((1 : Int32) <<< (nI v &&& 31)) ^^^ (-1 : Int32))) = nI (m - 2 ^ v) ∧ 2 ^ v ≤ m := by decide +kernel
theorem fix_bits : ∀ m, m < 64 → ∀ v, v < 6 → m.testBit v = true → f_J6_bitCount_0f7a4 (nI m ^^^ nI (2 ^ v)) = nI (pc m) - 1 := by decide +kernel
theorem lim_bits : ∀ m, m < 64 → ∀ lo, lo < 6 → ∀ hi, hi < 6 → ((nI m &&& f_X6_below (nI hi + 1)) &&& (f_X6_below (nI lo) ^^^ (-1 : Int32))) = nI (limn m lo (hi + 1 - lo)) ∧ limn m lo (hi + 1 - lo) < 64 ∧ limn m lo (hi + 1 - lo) &&& m = limn m lo (hi + 1 - lo) := by decide +kernel
theorem ren_bits : ∀ m, m < 64 → f_J6_bitCount_0f7a4 (nI m ^^^ nI 63) = (6 : Int32) - nI (pc m) := by decide +kernel
