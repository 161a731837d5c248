/-! posts: a rule of a set, read by the class -/
theorem c_setL {n p : Nat} {s : Nat → Nat} {m : jM} (h : CT n s m) (hp : p < 1000) : ∃ e, jloop (fun (z : Int32 × Int32 × Int32) => f_X2_readSet_L9 m z.1 z.2.1 z.2.2) jfu (((0 : Int32), nI (p + 1), (0 : Int32))) = some e ∧ (e = .inl (nI (sr n s 6 (p + 1) 0).1, nI (sr n s 6 (p + 1) 0).2.1) ∨ e = .inr (nI (sr n s 6 (p + 1) 0).1, nI (sr n s 6 (p + 1) 0).2.1)) ∧ (sr n s 6 (p + 1) 0).1 < 32 := by
  obtain ⟨R, hR⟩ : ∃ R, R = sr n s 6 (p + 1) 0 := ⟨_, rfl⟩
  rw [← hR]
  refine jlp (step := fun (z : Int32 × Int32 × Int32) => f_X2_readSet_L9 m z.1 z.2.1 z.2.2)
    (fun z => ∃ k M q, k ≤ 5 ∧ z = (nI M, nI q, nI k) ∧ M < 32 ∧ pc M = k ∧ q ≤ p + 1 + k ∧ R = sr n s (6 - k) q M) (fun z => 5 - z.2.2.toNatClampNeg)
    (fun e => (e = .inl (nI R.1, nI R.2.1) ∨ e = .inr (nI R.1, nI R.2.1)) ∧ R.1 < 32)
    (fun z hz => by
      obtain ⟨k, M, q, hk, rfl, hM, hpc, hq, hs⟩ := hz
      by_cases c : k < 5
      · have vr := c_variable h (p := q) (by omega)
        rw [show 6 - k = (5 - k) + 1 by omega, sr_s] at hs
        have pre : ∀ o, (if oI (rg 118 5 n s q) = (-1 : Int32) then some (.inr (.inr ((nI M, nI q)))) else (if ((jushr (nI M) (oI (rg 118 5 n s q))) &&& (1 : Int32)) = (1 : Int32) then some (.inr (.inl ((nI M, nI q)))) else some (.inl ((nI M ||| ((1 : Int32) <<< (oI (rg 118 5 n s q) &&& 31)), nI (q + 1), nI (k + 1)))))) = o → f_X2_readSet_L9 m (nI M) (nI q) (nI k) = o := fun o ho => by
          unfold f_X2_readSet_L9
          rw [jlit 5, if_neg (nI_ge c (by decide)), jcl_e vr, jbd_e, nI_1, nI_1]
          exact ho
        cases e : rg 118 5 n s q with
        | none =>
          rw [e] at hs pre
          subst hs
          exact ⟨.inr (.inr (nI M, nI q)), pre _ (if_pos rfl), Or.inr rfl, hM⟩
        | some x =>
          have x5 := (rg_lt e).1
          rw [e] at hs pre
          dsimp only at hs
          rw [if_neg (oI_m1 (show x < 2 ^ 31 by omega))] at pre
          have pre : ∀ o, (if ((jushr (nI M) (nI x)) &&& (1 : Int32)) = (1 : Int32) then some (.inr (.inl ((nI M, nI q)))) else some (.inl ((nI M ||| ((1 : Int32) <<< (nI x &&& 31)), nI (q + 1), nI (k + 1))))) = o → f_X2_readSet_L9 m (nI M) (nI q) (nI k) = o := pre
          rw [nI_bit (by omega) (by omega), shl_n _ (by omega)] at pre
          cases y : M.testBit x with
          | true =>
            rw [y, if_pos rfl] at hs pre
            rw [if_pos rfl] at pre
            subst hs
            exact ⟨.inr (.inl (nI M, nI q)), pre _ rfl, Or.inl rfl, hM⟩
          | false =>
            rw [y, if_neg Bool.false_ne_true] at hs pre
            rw [if_neg (by decide)] at pre
            obtain ⟨p1, p2⟩ := pc_or M hM x x5 y
            have v32 : 2 ^ x < 2 ^ 5 := Nat.pow_lt_pow_right (by decide) x5
            rw [nI_or (by omega) (by omega)] at pre
            refine ⟨.inl (nI (M ||| 2 ^ x), nI (q + 1), nI (k + 1)), pre _ rfl, ⟨k + 1, M ||| 2 ^ x, q + 1, by omega, rfl, p2, by omega, by omega, ?_⟩, ?_⟩
            · rw [show 6 - (k + 1) = 5 - k by omega]; exact hs
            · show 5 - (nI (k + 1)).toNatClampNeg < 5 - (nI k).toNatClampNeg
              rw [nI_clamp (by omega), nI_clamp (by omega)]; omega
      · have k5 : k = 5 := by omega
        subst k5
        refine ⟨.inr (.inr (nI M, nI q)), ?_, ?_⟩
        · dsimp only
          unfold f_X2_readSet_L9
          rw [jlit 5, if_pos (nI_le (Nat.le_refl _) (by decide))]
        · rw [show 6 - 5 = 0 + 1 from rfl, sr_s] at hs
          cases e : rg 118 5 n s q with
          | none => rw [e] at hs; subst hs; exact ⟨Or.inr rfl, hM⟩
          | some x =>
            rw [e] at hs
            dsimp only at hs
            rw [if_pos ((pc_5 M hM).2 hpc x (rg_lt e).1)] at hs
            subst hs
            exact ⟨Or.inr rfl, hM⟩)
    jfu ((0 : Int32), nI (p + 1), (0 : Int32)) ⟨0, 0, p + 1, by omega, rfl, by omega, by decide, by omega, hR⟩ (by show 5 - _ < 2000000; omega)
