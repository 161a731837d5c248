/-! posts: a rule of two, read by the reference -/
theorem r_rule2 {n p : Nat} {s : Nat → Nat} {l : List Q4} {m : jM} (h : RU n s p l m) (hl : l.length < 80) (h33 : ¬ (p < n ∧ s p = 33)) : ∃ w, f_X12_readsRule 201 m = some ((if (two n s p).2.isSome then 1 else 0), w) ∧ RU n s (two n s p).1 (cadd l (two n s p)) w ∧ FRr m w := by
  have hp := h.1.2.1
  have n1 : ¬ (0 : Int32) ≤ -1 := by decide
  have nn : ∀ i : Nat, i < 20 → (0 : Int32) ≤ nI i := fun i hi => nI_le (a := 0) (Nat.zero_le _) (by omega)
  obtain ⟨v, t1, t2⟩ := r_takes (c := 33) h.1 (by omega)
  rw [if_neg h33] at t1 t2
  have u0 : RU n s p l (jsi m 201 5 v) := h.at hp t2
  have f0 : FRr m (jsi m 201 5 v) := FRr.at
  unfold f_X12_readsRule
  rw [jcl2_e (show f_X12_takes 201 (33 : Int32) m = _ from t1), if_pos rfl]
  simp only [jbd_e]
  obtain ⟨o, ho⟩ : ∃ o, o = two n s p := ⟨_, rfl⟩
  rw [← ho]
  unfold two at ho
  rcases r_var u0.1 with ⟨x, x1, x2, x3, x4⟩ | ⟨x1, x4⟩
  · rw [x1] at ho
    rw [jcl2_e x4, if_pos (nn x (by omega))]
    have u1 := u0.at (q := p + 1) x3 rfl
    have f1 : FRr m (jsi (jsi m 201 5 v) 201 5 (nI (p + 1))) := f0.tr FRr.at
    rcases r_srt u1.1 with ⟨t, y1, y2, y3, y4⟩ | ⟨y1, y4⟩
    · dsimp only at ho
      rw [y1] at ho
      rw [jcl2_e y4, if_pos (nn t (by omega))]
      have u2 := u1.at (q := p + 1 + 1) y3 rfl
      have f2 := f1.tr (FRr.at (v := nI (p + 1 + 1)))
      rcases r_var u2.1 with ⟨y, z1, z2, z3, z4⟩ | ⟨z1, z4⟩
      · have u3 := u2.at (q := p + 1 + 1 + 1) z3 rfl
        have f3 := f2.tr (FRr.at (v := nI (p + 1 + 1 + 1)))
        dsimp only at ho
        rw [show rg 118 5 n s (p + 2) = some y from z1] at ho
        dsimp only at ho
        rw [jcl2_e z4, if_pos (nn y (by omega))]
        by_cases c : y = x
        · rw [if_pos c] at ho
          subst ho
          rw [if_pos (show nI y = nI x by rw [c])]
          have e5 : nI (p + 1 + 1 + 1) - 1 = nI (p + 2) := nI_subx (b := 1) (by omega)
          refine ⟨_, rfl, u3.at (q := p + 2) (by omega) ?_, f3.tr FRr.at⟩
          rw [u3.1.2.2.2.1]; exact e5
        · rw [if_neg c] at ho
          rw [if_neg (show ¬ nI y = nI x from fun z => c ((nI_eq (by omega) (by omega)).mp z))]
          rcases r_pm u3.1 with ⟨i, w1, w2, w3, w4⟩ | ⟨w1, w4⟩
          · have u4 := u3.at (q := p + 1 + 1 + 1 + 1) w3 rfl
            have f4 := f3.tr (FRr.at (v := nI (p + 1 + 1 + 1 + 1)))
            have w1 : pm n s (p + 3) = i + 1 := w1
            rw [if_neg (show ¬ pm n s (p + 3) = 0 by omega)] at ho
            rw [jcl2_e w4, if_pos (nn i (by omega))]
            rcases r_dig u4.1 with ⟨d, d1, d2, d3, d4⟩ | ⟨d1, d4⟩
            · have u5 := u4.at (q := p + 1 + 1 + 1 + 1 + 1) d3 rfl
              have f5 := f4.tr (FRr.at (v := nI (p + 1 + 1 + 1 + 1 + 1)))
              rw [show rg 48 10 n s (p + 4) = some d from d1] at ho
              dsimp only at ho
              rw [jcl2_e d4, if_pos (nn d (by omega))]
              have ed : (if nI i = (1 : Int32) then -nI d else nI d) = (if pm n s (p + 3) = 1 then nI d else -nI d) := by
                by_cases z : i = 0
                · rw [if_pos (show pm n s (p + 3) = 1 by omega), z, if_neg (by decide)]
                · rw [if_neg (show ¬ pm n s (p + 3) = 1 by omega), show i = 1 by omega, if_pos (show nI 1 = (1 : Int32) from rfl)]
              rw [ed]
              obtain ⟨w, a1, a2, a3⟩ := ru_tells (a := nI t) (b := nI x) (c := nI y) (d := (if pm n s (p + 3) = 1 then nI d else -nI d)) u5 hl
              rw [jcl_e a1]
              subst ho
              exact ⟨w, rfl, a2, f5.tr a3⟩
            · rw [show rg 48 10 n s (p + 4) = none from d1] at ho
              rw [jcl2_e d4, if_neg n1]
              subst ho
              exact ⟨_, rfl, u4, f4⟩
          · have w1 : pm n s (p + 3) = 0 := w1
            rw [if_pos w1] at ho
            rw [jcl2_e w4, if_neg n1, if_pos (show (0 : Int32) ≤ 0 by decide), if_neg (show ¬ (-1 : Int32) = 1 by decide)]
            obtain ⟨w, a1, a2, a3⟩ := ru_tells (a := nI t) (b := nI x) (c := nI y) (d := 0) u3 hl
            rw [jcl_e a1]
            subst ho
            exact ⟨w, rfl, a2, f3.tr a3⟩
      · dsimp only at ho
        rw [show rg 118 5 n s (p + 2) = none from z1] at ho
        rw [jcl2_e z4, if_neg n1]
        subst ho
        exact ⟨_, rfl, u2, f2⟩
    · dsimp only at ho
      rw [y1] at ho
      rw [jcl2_e y4, if_neg n1, if_neg n1]
      subst ho
      exact ⟨_, rfl, u1, f1⟩
  · rw [x1] at ho
    rw [jcl2_e x4, if_neg n1, if_neg n1, if_neg n1]
    subst ho
    exact ⟨_, rfl, u0, f0⟩
