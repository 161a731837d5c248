/-! run: what an act's signs are -/
def clb (b : Nat) : Nat := if 65 ≤ b ∧ b < 71 then 0 else if 118 ≤ b ∧ b < 123 then 1 else if b = 107 then 2 else if b = 63 then 3 else if b = 112 then 4 else if b = 61 then 5 else if b = 43 then 6 else if b = 45 then 7 else if b = 60 then 8 else if b = 62 then 9 else if 48 ≤ b ∧ b < 54 then 10 else if 54 ≤ b ∧ b < 58 then 11 else 12
def cl (n : Nat) (s : Nat → Nat) (p : Nat) : Nat := if p < n then clb (s p) else 12
def dgc (c : Nat) : Bool := Nat.beq c 10 || Nat.beq c 11
/-- wanted: 11 any digit, 10 one up to 5 -/
def mc (w c : Nat) : Bool := bif Nat.beq w 11 then dgc c else Nat.beq w c
def fmL : List (List Nat) := [[0, 5, 11, 11], [0, 6, 11, 11], [0, 7, 11, 11], [1, 7, 10], [1, 5, 10], [1, 8, 10], [1, 9, 10], [2, 11, 5, 11, 11], [2, 11, 7], [4], [3, 0, 8, 11, 11], [3, 0, 5, 11, 11], [3, 0, 9, 11, 11], [3, 1, 10], [3, 2, 11]]
def fm (k i : Nat) : Nat := (fmL.getD k []).getD i 0
def fml (k : Nat) : Nat := (fmL.getD k []).length
def chw (w : Nat) : Nat := [65, 118, 107, 63, 112, 61, 43, 45, 60, 62, 101, 100].getD w 0
theorem st_form : ∀ k, k < 15 → f_X4_form (nI k) = k ∧ jsLn k = nI (fml k) ∧ jsLen.getD k 0 = fml k ∧ fml k ≤ 5 ∧ ∀ i, i < fml k → jsCh k i = nI (chw (fm k i)) ∧ fm k i < 12 := by decide +kernel
theorem may_b : ∀ b, b < 256 → ∀ w, w < 12 → f_X4_mayStand (nI b) (nI (chw w)) = if mc w (clb b) then 1 else 0 := by decide +kernel
theorem may_m : ∀ w, w < 12 → f_X4_mayStand (-1) (nI (chw w)) = if mc w 12 then 1 else 0 := by decide +kernel
theorem fm_d : ∀ k, k < 15 → ∀ i, i < fml k → 3 ≤ i → fm k i = 11 := by decide +kernel
def pfx (ch g : Nat → Nat) : Nat → Nat → Nat
  | 0, i => i
  | m + 1, i => if mc (ch i) (g i) then pfx ch g m (i + 1) else i
theorem pfx_c {ch g g' : Nat → Nat} : ∀ {m i : Nat}, (∀ j, i ≤ j → j < i + m → mc (ch j) (g j) = mc (ch j) (g' j)) → pfx ch g m i = pfx ch g' m i
  | 0, i, h => rfl
  | m + 1, i, h => by
    unfold pfx
    rw [h i (Nat.le_refl _) (by omega), pfx_c (m := m) (i := i + 1) (fun j h1 h2 => h j (by omega) (by omega))]
theorem pfx_le {ch g : Nat → Nat} : ∀ {m i : Nat}, i ≤ pfx ch g m i ∧ pfx ch g m i ≤ i + m
  | 0, i => ⟨Nat.le_refl _, Nat.le_refl _⟩
  | m + 1, i => by
    unfold pfx
    split
    · have := pfx_le (ch := ch) (g := g) (m := m) (i := i + 1)
      omega
    · omega
def gcl (c0 c1 c2 : Nat) (b3 b4 : Bool) (i : Nat) : Nat := if i = 0 then c0 else if i = 1 then c1 else if i = 2 then c2 else if i = 3 then (if b3 then 10 else 12) else (if b4 then 10 else 12)
def pk5 (c0 c1 c2 : Nat) (b3 b4 : Bool) (k : Nat) : Nat := pfx (fm k) (gcl c0 c1 c2 b3 b4) (fml k) 0
def mxp (f : Nat → Nat) : Nat → Nat
  | 0 => 0
  | k + 1 => max (mxp f k) (f k)
/-- how far an act's signs go, and which it is -/
def rac (c0 c1 c2 : Nat) (b3 b4 : Bool) : Nat × Option Nat :=
  if c0 = 0 then (if c1 = 5 ∨ c1 = 6 ∨ c1 = 7 then (if dgc c2 then (if b3 then (4, some (c1 - 5)) else (3, none)) else (2, none)) else (1, none))
  else if c0 = 1 then (if c1 = 7 ∨ c1 = 5 ∨ c1 = 8 ∨ c1 = 9 then (if c2 = 10 then (3, some (if c1 = 7 then 3 else if c1 = 5 then 4 else if c1 = 8 then 5 else 6)) else (2, none)) else (1, none))
  else if c0 = 2 then (if dgc c1 then (if c2 = 5 then (if b3 then (if b4 then (5, some 7) else (4, none)) else (3, none)) else if c2 = 7 then (3, some 8) else (2, none)) else (1, none))
  else if c0 = 3 then (if c1 = 0 then (if c2 = 8 ∨ c2 = 5 ∨ c2 = 9 then (if b3 then (if b4 then (5, some (if c2 = 8 then 10 else if c2 = 5 then 11 else 12)) else (4, none)) else (3, none)) else (2, none)) else if c1 = 1 then (if c2 = 10 then (3, some 13) else (2, none)) else if c1 = 2 then (if dgc c2 then (3, some 14) else (2, none)) else (1, none))
  else if c0 = 4 then (1, some 9) else (0, none)
def racP (c0 c1 c2 : Nat) (b3 b4 : Bool) : Bool := match (rac c0 c1 c2 b3 b4).2 with
  | some k => decide (k < 15) && ((rac c0 c1 c2 b3 b4).1 == fml k && (pk5 c0 c1 c2 b3 b4 k == fml k && (List.range k).all (fun j => pk5 c0 c1 c2 b3 b4 j != fml j)))
  | none => (List.range 15).all (fun j => pk5 c0 c1 c2 b3 b4 j != fml j) && (rac c0 c1 c2 b3 b4).1 == mxp (pk5 c0 c1 c2 b3 b4) 15
def racA (c0 : Nat) : Bool := (List.range 13).all (fun c1 => (List.range 13).all (fun c2 => [true, false].all (fun b3 => [true, false].all (fun b4 => racP c0 c1 c2 b3 b4))))
theorem racA_5 : racA 5 = true := by decide +kernel
