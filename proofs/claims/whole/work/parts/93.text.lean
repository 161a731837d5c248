/-! posts, run: the signs of the text -/
def CT (n : Nat) (s : Nat → Nat) (m : jM) : Prop := n ≤ 80 ∧ m.1 1 1 = nI n ∧ ∀ i, i < 80 → m.1 2 i = nI (s i) ∧ s i < 256
def RP (n : Nat) (s : Nat → Nat) (p : Nat) (m : jM) : Prop := n ≤ 80 ∧ p ≤ n ∧ m.1 201 6 = nI n ∧ m.1 201 5 = nI p ∧ ∀ i, i < 80 → m.1 203 i = nI (s i) ∧ s i < 256
theorem TX.ct {μ : jM} (h : TX μ) : ∃ n s, CT n s μ ∧ μ.1 201 4 = nI n ∧ ∀ i, i < 80 → μ.1 203 i = nI (s i) ∧ s i < 256 := by
  obtain ⟨n, hn, h1, h2, h3⟩ := h
  have k : ∀ i, i < 80 → μ.1 2 i = nI (μ.1 2 i).toNatClampNeg ∧ (μ.1 2 i).toNatClampNeg < 256 := fun i hi => by
    obtain ⟨-, b, hb, e⟩ := h3 i hi
    rw [e, nI_clamp (by omega)]
    exact ⟨rfl, hb⟩
  exact ⟨n, fun i => (μ.1 2 i).toNatClampNeg, ⟨hn, h1, k⟩, h2, fun i hi => by rw [← (h3 i hi).1]; exact k i hi⟩
def sgn (n : Nat) (s : Nat → Nat) (p : Nat) : Int32 := if p < n then nI (s p) else -1
theorem c_sgn {n p : Nat} {s : Nat → Nat} {m : jM} (h : CT n s m) (hp : p < 2 ^ 31) : f_X8_signAt 1 (nI p) m = some (sgn n s p) := by
  obtain ⟨h1, h2, h3⟩ := h
  unfold f_X8_signAt sgn
  rw [if_neg (show ¬ nI p < (0 : Int32) from nI_nlt (b := 0) (Nat.zero_le _) hp), h2]
  by_cases c : p < n
  · rw [if_pos c, if_neg (nI_ge c (by omega))]
    show jrd (m.1 2) _ _ _ = _
    rw [jrd_n (by omega) (by decide), (h3 p (by omega)).1]
  · rw [if_neg c, if_pos (nI_le (by omega) hp)]
/-- the place of the sign at p among l signs from c on -/
def rg (c l n : Nat) (s : Nat → Nat) (p : Nat) : Option Nat := if p < n ∧ c ≤ s p ∧ s p < c + l then some (s p - c) else none
theorem sub_small : ∀ b, b < 256 → ((nI b - (118 : Int32)).toInt = (b : Int) - 118) ∧ ((nI b - (48 : Int32)).toInt = (b : Int) - 48) := by decide +kernel
theorem rg_y {c l n p : Nat} {s : Nat → Nat} (h : p < n ∧ c ≤ s p ∧ s p < c + l) : rg c l n s p = some (s p - c) := if_pos h
theorem rg_n {c l n p : Nat} {s : Nat → Nat} (h : ¬ (p < n ∧ c ≤ s p ∧ s p < c + l)) : rg c l n s p = none := if_neg h
theorem c_variable {n p : Nat} {s : Nat → Nat} {m : jM} (h : CT n s m) (hp : p < 2 ^ 31) : f_X8_variableAt 1 (nI p) m = some (oI (rg 118 5 n s p)) := by
  have h3 := h.2.2
  have hn := h.1
  unfold f_X8_variableAt
  rw [jcl_e (c_sgn h hp)]
  unfold sgn
  by_cases c : p < n
  · have hs := (h3 p (by omega)).2
    have e := (sub_small (s p) hs).1
    rw [if_pos c]
    by_cases d : 118 ≤ s p ∧ s p < 118 + 5
    · rw [rg_y ⟨c, d⟩, var_i, e, if_pos (show 0 ≤ (s p : Int) - 118 ∧ (s p : Int) - 118 < 5 by omega), if_neg (by decide), jlit 118, nI_subx d.1]
      rfl
    · rw [rg_n (fun z => d z.2), var_i, e, if_neg (show ¬ (0 ≤ (s p : Int) - 118 ∧ (s p : Int) - 118 < 5) by omega), if_pos rfl]
      rfl
  · rw [if_neg c, rg_n (fun z => c z.1)]
    rfl
theorem c_digit {n p : Nat} {s : Nat → Nat} {m : jM} (h : CT n s m) (hp : p < 2 ^ 31) : f_X8_digitAt 1 (nI p) m = some (oI (rg 48 10 n s p)) := by
  have h3 := h.2.2
  have hn := h.1
  have i0 : (0 : Int32).toInt = 0 := by decide
  have i9 : (9 : Int32).toInt = 9 := by decide
  unfold f_X8_digitAt
  rw [jcl_e (c_sgn h hp)]
  unfold sgn
  by_cases c : p < n
  · have hs := (h3 p (by omega)).2
    have e := (sub_small (s p) hs).2
    rw [if_pos c]
    by_cases d : 48 ≤ s p ∧ s p < 48 + 10
    · rw [rg_y ⟨c, d⟩, if_neg (show ¬ nI (s p) - (48 : Int32) < 0 by rw [Int32.lt_iff_toInt_lt, e, i0]; omega), if_neg (show ¬ (9 : Int32) < nI (s p) - (48 : Int32) by rw [Int32.lt_iff_toInt_lt, e, i9]; omega), jlit 48, nI_subx d.1]
      rfl
    · rw [rg_n (fun z => d z.2)]
      by_cases d0 : s p < 48
      · rw [if_pos (show nI (s p) - (48 : Int32) < 0 by rw [Int32.lt_iff_toInt_lt, e, i0]; omega)]
        rfl
      · rw [if_neg (show ¬ nI (s p) - (48 : Int32) < 0 by rw [Int32.lt_iff_toInt_lt, e, i0]; omega), if_pos (show (9 : Int32) < nI (s p) - (48 : Int32) by rw [Int32.lt_iff_toInt_lt, e, i9]; omega)]
        rfl
  · rw [if_neg c, rg_n (fun z => c z.1)]
    rfl
theorem RP.at {n p q : Nat} {s : Nat → Nat} {m : jM} {v : Int32} (h : RP n s p m) (hq : q ≤ n) (e : v = nI q) : RP n s q (jsi m 201 5 v) := by
  obtain ⟨h1, h2, h3, h4, h5⟩ := h
  refine ⟨h1, hq, by rw [jsi_pl (by decide)]; exact h3, by rw [jsi_at, e], fun i hi => by rw [jsi_ne (by decide)]; exact h5 i hi⟩
theorem r_takes {n p c : Nat} {s : Nat → Nat} {m : jM} (h : RP n s p m) (hc : c < 256) : ∃ v, f_X12_takes 201 (nI c) m = some ((if p < n ∧ s p = c then 1 else 0), jsi m 201 5 v) ∧ v = nI (if p < n ∧ s p = c then p + 1 else p) := by
  obtain ⟨h1, h2, h3, h4, h5⟩ := h
  have f1 : f_X12_flag (1 : Int32) = nI 1 := by decide
  have f0 : f_X12_flag (0 : Int32) = nI 0 := by decide
  unfold f_X12_takes
  simp only [jbd_e]
  rw [h3, h4, f1, f0]
  by_cases c1 : p < n
  · rw [if_neg (nI_ge c1 (by omega))]
    show ∃ v, jrd (m.1 203) _ _ _ = _ ∧ _
    rw [jrd_n (by omega) (by decide), (h5 p (by omega)).1]
    have := (h5 p (by omega)).2
    by_cases c2 : s p = c
    · rw [if_pos (by rw [c2]), if_pos ⟨c1, c2⟩, if_pos ⟨c1, c2⟩]
      exact ⟨_, rfl, nI_add _ _⟩
    · rw [if_neg (fun z => c2 ((nI_eq (by omega) (by omega)).mp z)), if_neg (fun z => c2 z.2), if_neg (fun z => c2 z.2)]
      exact ⟨_, rfl, nI_add _ _⟩
  · rw [if_pos (nI_le (by omega) (by omega)), if_neg (fun z => c1 z.1), if_neg (fun z => c1 z.1)]
    exact ⟨_, rfl, nI_add _ _⟩
