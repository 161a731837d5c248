/-! posts: a rule of a set, read by both -/
theorem c_readSet {n p : Nat} {s : Nat → Nat} {l : List Q4} {m : jM} (h : CT n s m) (hp : p < 1000) (hl : l.length < 1000) (hH : HC l m) : ∃ w, f_X2_readSet 177 (nI p) m = some ((if 2 ≤ pc (sr n s 6 (p + 1) 0).1 then nI (sr n s 6 (p + 1) 0).2.1 else -1 - nI (sr n s 6 (p + 1) 0).2.1), w) ∧ HC (if 2 ≤ pc (sr n s 6 (p + 1) 0).1 then l ++ [(3, nI (sr n s 6 (p + 1) 0).1, 0, 0)] else l) w ∧ jFr (fun c => c = 177 ∨ c = 178) m w := by
  obtain ⟨e, e1, e2, e3⟩ := c_setL h hp
  obtain ⟨R, hR⟩ : ∃ R, R = sr n s 6 (p + 1) 0 := ⟨_, rfl⟩
  rw [← hR] at e2 e3 ⊢
  have p5 := (pc_5 R.1 e3).1
  have key : ∀ z : Option (Int32 × jM), (if (2 : Int32) ≤ (f_J6_bitCount_0f7a4 (nI R.1)) then jcl (f_X2_hold 177 (3 : Int32) (nI R.1) (0 : Int32) (0 : Int32) m) (fun m17 => some ((nI R.2.1, m17))) else some (((-1 : Int32) - nI R.2.1, m))) = z → f_X2_readSet 177 (nI p) m = z := fun z hz => by
    unfold f_X2_readSet
    rw [nI_1, jcl_e e1]
    rcases e2 with rfl | rfl
    · exact hz
    · exact hz
  rw [c_bits _ (by omega)] at key
  by_cases c : 2 ≤ pc R.1
  · rw [if_pos (show (2 : Int32) ≤ nI (pc R.1) from nI_le (a := 2) c (by omega))] at key
    rw [if_pos c, if_pos c]
    obtain ⟨w, a1, a2, a3⟩ := c_hold (a := 3) (b := nI R.1) (c := 0) (d := 0) hH hl
    exact ⟨w, key _ (by rw [jcl_e a1]), a2, a3⟩
  · rw [if_neg (show ¬ (2 : Int32) ≤ nI (pc R.1) from nI_ge (b := 2) (by omega) (by decide))] at key
    rw [if_neg c, if_neg c]
    exact ⟨m, key _ rfl, hH, jFr.rf⟩
theorem r_setL {n p : Nat} {s : Nat → Nat} {l : List Q4} {m : jM} (h : RU n s p l m) : ∃ e, jloop (fun (z : Int32 × Int32 × Int32 × jM) => f_X12_readsSet_L6 201 z.1 z.2.1 z.2.2.1 z.2.2.2) jfu (((0 : Int32), (0 : Int32), (1 : Int32), m)) = some e ∧ (sr n s 6 p 0).1 < 32 ∧ (((sr n s 6 p 0).2.2 = true ∧ ∃ w, e = .inl w ∧ (sr n s 6 p 0).2.1 < n ∧ RU n s ((sr n s 6 p 0).2.1 + 1) l w ∧ FRr m w) ∨ ((sr n s 6 p 0).2.2 = false ∧ ∃ w, e = .inr (nI (sr n s 6 p 0).1, nI (pc (sr n s 6 p 0).1), w) ∧ RU n s (sr n s 6 p 0).2.1 l w ∧ FRr m w)) := by
  obtain ⟨R, hR⟩ : ∃ R, R = sr n s 6 p 0 := ⟨_, rfl⟩
  rw [← hR]
  have f1 : f_X12_flag (1 : Int32) = nI 1 := by decide
  have f0 : f_X12_flag (0 : Int32) = nI 0 := by decide
  refine jlp (step := fun (z : Int32 × Int32 × Int32 × jM) => f_X12_readsSet_L6 201 z.1 z.2.1 z.2.2.1 z.2.2.2)
    (fun z => (∃ k M q w, k ≤ 5 ∧ z = (nI M, nI k, 1, w) ∧ M < 32 ∧ pc M = k ∧ R = sr n s (6 - k) q M ∧ RU n s q l w ∧ FRr m w) ∨ (∃ w, z = (nI R.1, nI (pc R.1), 0, w) ∧ R.1 < 32 ∧ R.2.2 = false ∧ RU n s R.2.1 l w ∧ FRr m w)) (fun z => if z.2.2.1 = 0 then 0 else 7 - z.2.1.toNatClampNeg)
    (fun e => R.1 < 32 ∧ ((R.2.2 = true ∧ ∃ w, e = .inl w ∧ R.2.1 < n ∧ RU n s (R.2.1 + 1) l w ∧ FRr m w) ∨ (R.2.2 = false ∧ ∃ w, e = .inr (nI R.1, nI (pc R.1), w) ∧ RU n s R.2.1 l w ∧ FRr m w)))
    (fun z hz => by
      rcases hz with ⟨k, M, q, w, hk, rfl, hM, hpc, hs, hu, hf⟩ | ⟨w, rfl, hM, hd, hu, hf⟩
      · rw [show 6 - k = (5 - k) + 1 by omega, sr_s] at hs
        have dec0 : ∀ a b w', (if ((a, b, (0 : Int32), w') : Int32 × Int32 × Int32 × jM).2.2.1 = 0 then 0 else 7 - b.toNatClampNeg) < (if (1 : Int32) = 0 then 0 else 7 - (nI k).toNatClampNeg) := fun a b w' => by
          rw [if_pos rfl, if_neg (by decide), nI_clamp (by omega)]; omega
        rcases r_var hu.1 with ⟨x, x1, x2, x3, x4⟩ | ⟨x1, x4⟩
        · rw [x1] at hs
          dsimp only at hs
          have nx : ¬ nI x < (0 : Int32) := nI_nlt (b := 0) (Nat.zero_le _) (by omega)
          have u1 := hu.at (q := q + 1) x3 rfl
          have g1 := hf.tr (FRr.at (v := nI (q + 1)))
          have pre : ∀ o, (if M.testBit x then some (.inr (.inl (jsi w 201 5 (nI (q + 1))))) else some (.inl ((nI M ||| nI (2 ^ x), nI (k + 1), 1, jsi w 201 5 (nI (q + 1)))))) = o → f_X12_readsSet_L6 201 (nI M) (nI k) 1 w = o := fun o ho => by
            unfold f_X12_readsSet_L6
            simp only [jbd_e]
            rw [if_neg (show ¬ (1 : Int32) = 0 by decide), jcl2_e x4, if_neg nx, if_neg nx, f_has (by omega) (by omega), if_neg (show ¬ (1 : Int32) = 0 by decide), shl_n _ (by omega), f1, nI_add, ← ho]
            cases M.testBit x with
            | false => rw [if_neg Bool.false_ne_true, if_neg Bool.false_ne_true, if_pos rfl]
            | true => rw [if_pos rfl, if_pos rfl, if_neg (show ¬ (1 : Int32) = 0 by decide)]
          cases y : M.testBit x with
          | true =>
            rw [y, if_pos rfl] at hs pre
            subst hs
            exact ⟨.inr (.inl _), pre _ rfl, hM, Or.inl ⟨rfl, _, rfl, x3, u1, g1⟩⟩
          | false =>
            rw [y, if_neg Bool.false_ne_true] at hs pre
            obtain ⟨p1, p2⟩ := pc_or M hM x x2 y
            have v32 : 2 ^ x < 2 ^ 5 := Nat.pow_lt_pow_right (by decide) x2
            have p5 := (pc_5 (M ||| 2 ^ x) p2).1
            rw [nI_or (by omega) (by omega)] at pre
            refine ⟨.inl (nI (M ||| 2 ^ x), nI (k + 1), 1, jsi w 201 5 (nI (q + 1))), pre _ rfl, Or.inl ⟨k + 1, M ||| 2 ^ x, q + 1, _, by omega, rfl, p2, by omega, ?_, u1, g1⟩, ?_⟩
            · rw [show 6 - (k + 1) = 5 - k by omega]; exact hs
            · show (if (1 : Int32) = 0 then 0 else 7 - (nI (k + 1)).toNatClampNeg) < (if (1 : Int32) = 0 then 0 else 7 - (nI k).toNatClampNeg)
              rw [if_neg (by decide), if_neg (by decide), nI_clamp (by omega), nI_clamp (by omega)]; omega
        · rw [x1] at hs
          dsimp only at hs
          refine ⟨.inl (nI M, nI k, 0, w), ?_, Or.inr ⟨w, ?_, ?_, ?_, ?_, hf⟩, dec0 _ _ _⟩
          · dsimp only
            unfold f_X12_readsSet_L6
            simp only [jbd_e]
            rw [if_neg (show ¬ (1 : Int32) = 0 by decide), jcl2_e x4, if_pos (show (-1 : Int32) < 0 by decide), if_pos (show (-1 : Int32) < 0 by decide), if_pos rfl, f0, nI_add]
            rw [show nI M ||| (0 : Int32) = nI M from Int32.or_zero]
            rfl
          · rw [hs]; show _ = (nI M, nI (pc M), 0, w); rw [hpc]
          · rw [hs]; exact hM
          · rw [hs]
          · rw [hs]; exact hu
      · refine ⟨.inr (.inr (nI R.1, nI (pc R.1), w)), ?_, hM, Or.inr ⟨hd, w, rfl, hu, hf⟩⟩
        dsimp only
        unfold f_X12_readsSet_L6
        rw [if_pos rfl])
    jfu ((0 : Int32), (0 : Int32), (1 : Int32), m) (Or.inl ⟨0, 0, p, m, by omega, rfl, by omega, by decide, hR, h, FRr.rf⟩) (by show (if (1 : Int32) = 0 then 0 else 7 - _) < 2000000; rw [if_neg (by decide)]; omega)
