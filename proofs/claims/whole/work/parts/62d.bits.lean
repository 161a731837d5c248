/-! all bits counted -/
theorem and_cat {a c : Nat} (A C : Nat) (ha : a < 256) (hc : c < 256) : (256 * A + a) &&& (256 * C + c) = 256 * (A &&& C) + (a &&& c) := by
  apply Nat.eq_of_testBit_eq
  intro i
  have h : ∀ X x : Nat, x < 256 → (256 * X + x).testBit i = if i < 8 then x.testBit i else X.testBit (i - 8) := fun X x hx => by
    exact Nat.testBit_two_pow_mul_add X (b := x) (i := 8) hx i
  rw [Nat.testBit_and, h A a ha, h C c hc, h _ _ (Nat.lt_of_le_of_lt Nat.and_le_left ha), Nat.testBit_and, Nat.testBit_and]
  by_cases q : i < 8
  · simp [q]
  · simp [q]
theorem pcn_cat {a : Nat} (A : Nat) (ha : a < 256) : ∀ k, pcn (256 * A + a) (8 + k) = pcn a 8 + pcn A k
  | 0 => by
    show pcn (256 * A + a) 8 = pcn a 8
    have h : ∀ i, i < 8 → (256 * A + a).testBit i = a.testBit i := fun i hi => by
      have := Nat.testBit_two_pow_mul_add A (b := a) (i := 8) ha i
      rw [if_pos hi] at this
      exact this
    show 0 + _ + _ + _ + _ + _ + _ + _ + _ = 0 + _ + _ + _ + _ + _ + _ + _ + _
    rw [h 0 (by decide), h 1 (by decide), h 2 (by decide), h 3 (by decide), h 4 (by decide), h 5 (by decide), h 6 (by decide), h 7 (by decide)]
  | k + 1 => by
    have h : (256 * A + a).testBit (8 + k) = A.testBit k := by
      have := Nat.testBit_two_pow_mul_add A (b := a) (i := 8) ha (8 + k)
      rw [if_neg (by omega), show 8 + k - 8 = k by omega] at this
      exact this
    rw [show 8 + (k + 1) = 8 + k + 1 by omega, pcn_s (256 * A + a) (8 + k), pcn_s A k, pcn_cat A ha k, h]
    omega
def bq (b : Nat) : Nat := (b / 2) &&& 85
def bp (b : Nat) : Nat := b - bq b
def bt (b : Nat) : Nat := (bp b &&& 51) + ((bp b / 4) &&& 51)
theorem bq1 : ∀ b, b < 256 → ∀ e, e < 2 → ((b / 2 + 128 * e) &&& 85) = bq b ∧ bq b ≤ b ∧ bp b < 256 := by decide +kernel
theorem bq2 : ∀ p, p < 256 → ∀ e, e < 4 → ((p / 4 + 64 * e) &&& 51) = ((p / 4) &&& 51) := by decide +kernel
theorem bq3 : ∀ b, b < 256 → bt b ≤ 68 ∧ bt b % 16 ≤ 4 ∧ (∀ e, e < 5 → ((bt b + bt b / 16 + 16 * e) &&& 15) = pcn b 8) ∧ pcn b 8 ≤ 8 ∧ (bp b &&& 51) + ((bp b / 4) &&& 51) < 256 ∧ (bp b &&& 51) < 256 ∧ (bp b / 4 &&& 51) < 256 := by decide +kernel
theorem fin64 {c0 c1 c2 c3 V : Nat} (h0 : c0 ≤ 8) (h1 : c1 ≤ 8) (h2 : c2 ≤ 8) (h3 : c3 ≤ 8) (e : V = 256 * (256 * (256 * c3 + c2) + c1) + c0) : (V + V / 256 + (V + V / 256) / 65536) % 2 ^ 6 = c0 + c1 + c2 + c3 := by
  have e1 : V / 256 = 256 * (256 * c3 + c2) + c1 := by omega
  have e2 : V + V / 256 = 65536 * (256 * c3 + (c3 + c2)) + (256 * (c2 + c1) + (c1 + c0)) := by omega
  have e3 : (V + V / 256) / 65536 = 256 * c3 + (c3 + c2) := by omega
  rw [e3, e2]
  show _ % 64 = _
  omega
theorem c_bitsAll {m : Nat} (hm : m < 2 ^ 31) : f_J6_bitCount_0f7a4 (nI m) = nI (pc m) := by
  obtain ⟨b0, b1, b2, b3, h0, h1, h2, h3, e⟩ : ∃ b0 b1 b2 b3, b0 < 256 ∧ b1 < 256 ∧ b2 < 256 ∧ b3 < 128 ∧ m = 256 * (256 * (256 * b3 + b2) + b1) + b0 := ⟨m % 256, m / 256 % 256, m / 65536 % 256, m / 16777216, by omega, by omega, by omega, by omega, by omega⟩
  obtain ⟨q0, l0, p0⟩ := bq1 b0 h0 (b1 % 2) (by omega)
  obtain ⟨q1, l1, p1⟩ := bq1 b1 h1 (b2 % 2) (by omega)
  obtain ⟨q2, l2, p2⟩ := bq1 b2 h2 (b3 % 2) (by omega)
  obtain ⟨q3, l3, p3⟩ := bq1 b3 (by omega) 0 (by omega)
  obtain ⟨t0, u0, w0, c0, x0, y0, z0⟩ := bq3 b0 h0
  obtain ⟨t1, u1, w1, c1, x1, y1, z1⟩ := bq3 b1 h1
  obtain ⟨t2, u2, w2, c2, x2, y2, z2⟩ := bq3 b2 h2
  obtain ⟨t3, u3, w3, c3, x3, y3, z3⟩ := bq3 b3 (by omega)
  have s0 : ∀ b, b < 256 → bp b = b - bq b := fun _ _ => rfl
  -- step one
  have a1 : m / 2 &&& 1431655765 = 256 * (256 * (256 * bq b3 + bq b2) + bq b1) + bq b0 := by
    have d : m / 2 = 256 * (256 * (256 * (b3 / 2 + 128 * 0) + (b2 / 2 + 128 * (b3 % 2))) + (b1 / 2 + 128 * (b2 % 2))) + (b0 / 2 + 128 * (b1 % 2)) := by omega
    rw [d, show (1431655765 : Nat) = 256 * (256 * (256 * 85 + 85) + 85) + 85 from rfl, and_cat _ _ (by omega) (by decide), and_cat _ _ (by omega) (by decide), and_cat _ _ (by omega) (by decide), q0, q1, q2, q3]
  have v1 : m - (m / 2 &&& 1431655765) = 256 * (256 * (256 * bp b3 + bp b2) + bp b1) + bp b0 := by
    rw [a1, e, s0 b0 h0, s0 b1 h1, s0 b2 h2, s0 b3 (by omega)]
    omega
  have v1le : (m / 2 &&& 1431655765) ≤ m := by rw [a1, e]; omega
  generalize hV1 : m - (m / 2 &&& 1431655765) = V1 at v1
  have V1lt : V1 < 2 ^ 31 := by omega
  have a2 : V1 &&& 858993459 = 256 * (256 * (256 * (bp b3 &&& 51) + (bp b2 &&& 51)) + (bp b1 &&& 51)) + (bp b0 &&& 51) := by
    rw [v1, show (858993459 : Nat) = 256 * (256 * (256 * 51 + 51) + 51) + 51 from rfl, and_cat _ _ p0 (by decide), and_cat _ _ p1 (by decide), and_cat _ _ p2 (by decide)]
  have a3 : V1 / 4 &&& 858993459 = 256 * (256 * (256 * (bp b3 / 4 &&& 51) + (bp b2 / 4 &&& 51)) + (bp b1 / 4 &&& 51)) + (bp b0 / 4 &&& 51) := by
    have d : V1 / 4 = 256 * (256 * (256 * (bp b3 / 4 + 64 * 0) + (bp b2 / 4 + 64 * (bp b3 % 4))) + (bp b1 / 4 + 64 * (bp b2 % 4))) + (bp b0 / 4 + 64 * (bp b1 % 4)) := by omega
    rw [d, show (858993459 : Nat) = 256 * (256 * (256 * 51 + 51) + 51) + 51 from rfl, and_cat _ _ (by omega) (by decide), and_cat _ _ (by omega) (by decide), and_cat _ _ (by omega) (by decide), bq2 _ p0 _ (by omega), bq2 _ p1 _ (by omega), bq2 _ p2 _ (by omega), bq2 _ p3 _ (by omega)]
  have et : ∀ b, bt b = (bp b &&& 51) + ((bp b / 4) &&& 51) := fun _ => rfl
  have v3 : (V1 &&& 858993459) + (V1 / 4 &&& 858993459) = 256 * (256 * (256 * bt b3 + bt b2) + bt b1) + bt b0 := by
    rw [a2, a3, et b0, et b1, et b2, et b3]
    omega
  generalize hV3 : (V1 &&& 858993459) + (V1 / 4 &&& 858993459) = V3 at v3
  have V3lt : V3 < 2 ^ 31 := by omega
  have v5 : (V3 + V3 / 16) &&& 252645135 = 256 * (256 * (256 * pcn b3 8 + pcn b2 8) + pcn b1 8) + pcn b0 8 := by
    have d : V3 + V3 / 16 = 256 * (256 * (256 * (bt b3 + bt b3 / 16 + 16 * 0) + (bt b2 + bt b2 / 16 + 16 * (bt b3 % 16))) + (bt b1 + bt b1 / 16 + 16 * (bt b2 % 16))) + (bt b0 + bt b0 / 16 + 16 * (bt b1 % 16)) := by omega
    rw [d, show (252645135 : Nat) = 256 * (256 * (256 * 15 + 15) + 15) + 15 from rfl, and_cat _ _ (by omega) (by decide), and_cat _ _ (by omega) (by decide), and_cat _ _ (by omega) (by decide), w0 _ (by omega), w1 _ (by omega), w2 _ (by omega), w3 _ (by omega)]
  have V5s : V3 + V3 / 16 < 2 ^ 31 := by omega
  generalize hV5 : (V3 + V3 / 16) &&& 252645135 = V5 at v5
  have V5lt : V5 < 2 ^ 31 := by omega
  have fin : (V5 + V5 / 256 + (V5 + V5 / 256) / 65536) % 2 ^ 6 = pcn b0 8 + pcn b1 8 + pcn b2 8 + pcn b3 8 := fin64 c0 c1 c2 c3 v5
  have epc : pc m = pcn b0 8 + pcn b1 8 + pcn b2 8 + pcn b3 8 := by
    have k3 : pcn b3 8 = pcn b3 7 := by
      rw [pcn_s, Nat.testBit_lt_two_pow (show b3 < 2 ^ 7 by omega)]
      rfl
    show pcn m (8 + (8 + (8 + 7))) = _
    rw [e, pcn_cat _ h0, pcn_cat _ h1, pcn_cat _ h2, k3]
    omega
  unfold f_J6_bitCount_0f7a4
  simp only [jbd_e]
  have j1 : jushr (nI m) (1 : Int32) = nI (m / 2) := jushr_n (t := 1) hm (by decide)
  have j2 : jushr (nI V1) (2 : Int32) = nI (V1 / 4) := jushr_n (t := 2) V1lt (by decide)
  have j3 : jushr (nI V3) (4 : Int32) = nI (V3 / 16) := jushr_n (t := 4) V3lt (by decide)
  have j4 : jushr (nI V5) (8 : Int32) = nI (V5 / 256) := jushr_n (t := 8) V5lt (by decide)
  have j5 : jushr (nI (V5 + V5 / 256)) (16 : Int32) = nI ((V5 + V5 / 256) / 65536) := jushr_n (t := 16) (by omega) (by decide)
  rw [j1, jlit 1431655765, nI_and (by omega) (by decide), pk_sub v1le, hV1, j2, jlit 858993459, nI_and V1lt (by decide), nI_and (by omega) (by decide), nI_add, hV3, j3, nI_add, jlit 252645135, nI_and V5s (by decide), hV5, j4, nI_add, j5, nI_add, pk_andN (k := 6) (by omega) (by decide), fin, epc]
