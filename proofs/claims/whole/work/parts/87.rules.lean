/-! search: the rules about a variable, the variable chosen -/
def toB (T : TT) (x i : Nat) : Bool := if T (29 + 4 * i) = nI 3 then (T (29 + (4 * i + 1))).toNatClampNeg.testBit x else decide (T (29 + (4 * i + 1)) = nI x) || decide (T (29 + (4 * i + 2)) = nI x)
def ru (T : TT) (x : Nat) : Nat → Nat := cnt (toB T x)
theorem ru_s (T : TT) (x k : Nat) : ru T x (k + 1) = ru T x k + (if toB T x k then 1 else 0) := rfl
theorem ru_le (T : TT) (x : Nat) : ∀ k, ru T x k ≤ k
  | 0 => Nat.le_refl _
  | k + 1 => by
    have := ru_le T x k
    rw [ru_s]
    split <;> omega
theorem con3 {T : TT} (hv : VT T) {i : Nat} (hi : i < nc T) (h : T (29 + 4 * i) = nI 3) : ∃ m : Nat, m < 32 ∧ T (29 + (4 * i + 1)) = nI m := by
  rcases hv.2.2.2.2.2.2.2 i hi with ⟨s', x, y, h1, h2, -⟩ | ⟨-, m, h1, h2, -⟩
  · have := (nI_eq (by omega) (by omega)).mp (h2.symm.trans h)
    omega
  · exact ⟨m, h1, h2⟩
theorem c_rules {T : TT} {x : Nat} {m : jM} (hT : RT 6 T m) (hv : VT T) (hx : x < 5) : f_X5_constraintsOf 170 (nI x) m = some (nI (ru T x (nc T))) := by
  have hn := hv.2.1.1
  have e6 : m.1 6 6 = nI (nc T) := by rw [hT.2.2.2.2.2.1]; exact hv.2.1.2
  have rd : ∀ j, j < 32 → m.1 11 j = T (29 + j) := fun j hj => hT.2.2.2.2.2.2 j hj
  obtain ⟨w, hw, h1⟩ := jlpN (step := fun (z : Int32 × Int32) => f_X5_constraintsOf_L4 (nI x) m z.1 z.2) (nc T)
    (fun k z => z = (nI (ru T x k), nI k)) (fun w => w = nI (ru T x (nc T)))
    (fun k z hk hz => by
      subst hz
      refine ⟨_, ?_, rfl⟩
      dsimp only
      unfold f_X5_constraintsOf_L4
      simp only [jbd_e, i10, i00, if_false, if_true]
      rw [e6, if_neg (nI_ge hk (by omega)), jlit 4, nI_mulx, jrd_n (by omega) (by decide), rd _ (by omega), jlit 1, jlit 2, nI_add, nI_add, nI_add, nI_add, ru_s]
      unfold toB
      by_cases c : T (29 + 4 * k) = nI 3
      · obtain ⟨s, s1, s2⟩ := con3 hv hk c
        rw [if_pos c, if_pos (show T (29 + 4 * k) = (3 : Int32) from c), jrd_n (by omega) (by decide), rd _ (by omega), s2, nI_clamp (by omega), ← jlit 1, nI_bit (by omega) (by omega)]
        cases s.testBit x with
        | false => rw [if_neg Bool.false_ne_true, if_neg Bool.false_ne_true, if_neg (by decide)]; rfl
        | true => rw [if_pos rfl, if_pos rfl, if_pos rfl]
      · rw [if_neg c, if_neg (show ¬ T (29 + 4 * k) = (3 : Int32) from c), jrd_n (by omega) (by decide), rd _ (by omega), jrd_n (by omega) (by decide), rd _ (by omega)]
        by_cases c1 : T (29 + (4 * k + 1)) = nI x
        · rw [if_pos c1, decide_eq_true c1, Bool.true_or, if_pos rfl]
        · rw [if_neg c1, decide_eq_false c1, Bool.false_or]
          by_cases c2 : T (29 + (4 * k + 2)) = nI x
          · rw [if_pos c2, decide_eq_true c2, if_pos rfl]
          · rw [if_neg c2, decide_eq_false c2, if_neg Bool.false_ne_true]; rfl)
    (fun z hz => by
      subst hz
      refine ⟨_, ?_, rfl⟩
      dsimp only
      unfold f_X5_constraintsOf_L4
      rw [e6, if_pos (nI_le (Nat.le_refl _) (by omega))])
    (i := 0) (n := jfu) (s := ((0 : Int32), (0 : Int32))) (by omega) rfl (jfu_lt (by omega))
  unfold f_X5_constraintsOf
  rw [jcl_e hw, h1]
theorem r_rules {T : TT} {x : Nat} {m : jM} (hT : RW 0 T m) (hv : VT T) (hx : x < 5) : f_X12_rulesOf 201 (nI x) m = some (nI (ru T x (nc T))) := by
  have hn := hv.2.1.1
  have f1 : f_X12_flag (1 : Int32) = nI 1 := by decide
  have f0 : f_X12_flag (0 : Int32) = nI 0 := by decide
  have rd : ∀ j, j < 61 → m.1 204 j = T j := fun j hj => hT.at hj
  obtain ⟨w, hw, h1⟩ := jlpN (step := fun (z : Int32 × Int32) => f_X12_rulesOf_L4 201 (nI x) m z.1 z.2) (nc T)
    (fun k z => z = (nI (ru T x k), nI k)) (fun w => w = nI (ru T x (nc T)))
    (fun k z hk hz => by
      subst hz
      refine ⟨_, ?_, rfl⟩
      dsimp only
      unfold f_X12_rulesOf_L4
      simp only [jbd_e]
      show jrd (m.1 204) _ _ _ = _
      rw [jlit 28, jrd_n (by omega) (by decide), rd _ (by omega), hv.2.1.2, if_neg (nI_ge hk (by omega)), jlit 29, jlit 4, nI_mulx, nI_add]
      show jrd (m.1 204) _ _ _ = _
      rw [jrd_n (by omega) (by decide), rd _ (by omega), nI_1 k, ru_s]
      unfold toB
      by_cases c : T (29 + 4 * k) = nI 3
      · obtain ⟨s, s1, s2⟩ := con3 hv hk c
        rw [if_pos c, if_pos (show T (29 + 4 * k) = (3 : Int32) from c), nI_1]
        show jrd (m.1 204) _ _ _ = _
        rw [jrd_n (by omega) (by decide), rd _ (by omega), show 29 + 4 * k + 1 = 29 + (4 * k + 1) by omega, s2, nI_clamp (by omega), f_has (by omega) (by omega)]
        cases s.testBit x with
        | false => rw [if_neg Bool.false_ne_true, if_neg Bool.false_ne_true, f0, nI_add]
        | true => rw [if_pos rfl, if_pos rfl, f1, nI_add]
      · rw [if_neg c, if_neg (show ¬ T (29 + 4 * k) = (3 : Int32) from c), nI_1, jlit 2, nI_add]
        show jrd (m.1 204) _ _ _ = _
        rw [jrd_n (by omega) (by decide), rd _ (by omega)]
        show (if _ then _ else jrd (m.1 204) _ _ _) = _
        rw [jrd_n (by omega) (by decide), rd _ (by omega), show 29 + 4 * k + 1 = 29 + (4 * k + 1) by omega, show 29 + 4 * k + 2 = 29 + (4 * k + 2) by omega]
        by_cases c1 : T (29 + (4 * k + 1)) = nI x
        · rw [if_pos c1, decide_eq_true c1, Bool.true_or, if_pos rfl, f1, nI_add]
        · rw [if_neg c1, decide_eq_false c1, Bool.false_or]
          by_cases c2 : T (29 + (4 * k + 2)) = nI x
          · rw [if_pos c2, decide_eq_true c2, if_pos rfl, f1, nI_add]
          · rw [if_neg c2, decide_eq_false c2, if_neg Bool.false_ne_true, f0, nI_add])
    (fun z hz => by
      subst hz
      refine ⟨_, ?_, rfl⟩
      dsimp only
      unfold f_X12_rulesOf_L4
      show jrd (m.1 204) _ _ _ = _
      rw [jlit 28, jrd_n (by omega) (by decide), rd _ (by omega), hv.2.1.2, if_pos (nI_le (Nat.le_refl _) (by omega))])
    (i := 0) (n := jfu) (s := ((0 : Int32), (0 : Int32))) (by omega) rfl (jfu_lt (by omega))
  unfold f_X12_rulesOf
  rw [jcl_e hw, h1]
