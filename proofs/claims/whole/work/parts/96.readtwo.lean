/-! posts: a rule of two -/
def srt (n : Nat) (s : Nat → Nat) (p : Nat) : Option Nat := if p < n then (if s p = 60 then some 0 else if s p = 61 then some 1 else if s p = 35 then some 2 else none) else none
theorem srt_lt {n p t : Nat} {s : Nat → Nat} (h : srt n s p = some t) : t < 3 ∧ p < n := by
  unfold srt at h
  by_cases c : p < n
  · rw [if_pos c] at h
    refine ⟨?_, c⟩
    split at h
    · cases h; omega
    · split at h
      · cases h; omega
      · split at h
        · cases h; omega
        · cases h
  · rw [if_neg c] at h; cases h
theorem rg_lt {c l n p t : Nat} {s : Nat → Nat} (h : rg c l n s p = some t) : t < l ∧ p < n := by
  unfold rg at h
  by_cases q : p < n ∧ c ≤ s p ∧ s p < c + l
  · rw [if_pos q] at h
    cases h
    exact ⟨by omega, q.1⟩
  · rw [if_neg q] at h; cases h
/-- 1 plus, 2 minus, 0 neither -/
def pm (n : Nat) (s : Nat → Nat) (p : Nat) : Nat := if p < n then (if s p = 43 then 1 else if s p = 45 then 2 else 0) else 0
def two (n : Nat) (s : Nat → Nat) (p : Nat) : Nat × Option Q4 :=
  match rg 118 5 n s p with
  | none => (p, none)
  | some x => match srt n s (p + 1) with
    | none => (p + 1, none)
    | some t => match rg 118 5 n s (p + 2) with
      | none => (p + 2, none)
      | some y => if y = x then (p + 2, none) else if pm n s (p + 3) = 0 then (p + 3, some (nI t, nI x, nI y, 0)) else
        match rg 48 10 n s (p + 4) with
        | none => (p + 4, none)
        | some d => (p + 5, some (nI t, nI x, nI y, if pm n s (p + 3) = 1 then nI d else -nI d))
theorem oI_m1 {b : Nat} (h : b < 2 ^ 31) : ¬ oI (some b) = (-1 : Int32) := nI_m1 h
theorem c_sort {n p : Nat} {s : Nat → Nat} {m : jM} (h : CT n s m) (hp : p < 2 ^ 31) : f_X2_sortAt 177 (nI p) m = some (oI (srt n s p)) := by
  have h3 := h.2.2
  have hn := h.1
  unfold f_X2_sortAt
  rw [jcl_e (c_sgn h hp)]
  unfold sgn srt
  by_cases c : p < n
  · have hs := (h3 p (by omega)).2
    have q : ∀ b : Nat, b < 256 → (nI (s p) = nI b ↔ s p = b) := fun b hb => nI_eq (by omega) (by omega)
    rw [if_pos c, if_pos c]
    by_cases c35 : s p = 35
    · rw [if_pos (show nI (s p) = (35 : Int32) from (q 35 (by omega)).mpr c35), if_neg (by omega), if_neg (by omega), if_pos c35]; rfl
    · rw [if_neg (show ¬ nI (s p) = (35 : Int32) from fun z => c35 ((q 35 (by omega)).mp z))]
      by_cases c60 : s p = 60
      · rw [if_pos (show nI (s p) = (60 : Int32) from (q 60 (by omega)).mpr c60), if_pos c60]; rfl
      · rw [if_neg (show ¬ nI (s p) = (60 : Int32) from fun z => c60 ((q 60 (by omega)).mp z)), if_neg c60]
        by_cases c61 : s p = 61
        · rw [if_pos (show nI (s p) = (61 : Int32) from (q 61 (by omega)).mpr c61), if_pos c61]; rfl
        · rw [if_neg (show ¬ nI (s p) = (61 : Int32) from fun z => c61 ((q 61 (by omega)).mp z)), if_neg c61, if_neg c35]; rfl
  · rw [if_neg c, if_neg c]; rfl
