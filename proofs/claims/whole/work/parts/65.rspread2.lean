def PS (T : TT) (R : Nat) (L0 Ls : LV) (i k : Nat) (u : Int32) (L : LV) : Prop := goodL T R L0 L ∧ ((u = 0 ∧ (∀ x, x < 5 → L x = Ls x) ∧ ∀ i' x v, i' < nc T → x < 5 → v < 6 → R.testBit i' = true → (i' < i ∨ (i' = i ∧ 6 * x + v < k)) → (Ls x).testBit v = true → supp T i' Ls x v) ∨ (u = 1 ∧ totL L 5 < totL Ls 5))
theorem PS.le {T : TT} {R : Nat} {L0 Ls L : LV} {i k : Nat} {u : Int32} (h : PS T R L0 Ls i k u L) : totL L 5 ≤ totL Ls 5 := by
  rcases h.2 with ⟨-, h, -⟩ | ⟨-, h⟩
  · exact Nat.le_of_eq (totL_congr 5 h)
  · omega
theorem sub_eq {L L' : LV} (h : ∀ x, x < 5 → L x = L' x) : subL L L' := fun x hx v _ q => by rw [← h x hx]; exact q
/-- one value looked at -/
theorem PS.keep {T : TT} {R : Nat} {L0 Ls L : LV} {i x v : Nat} {u : Int32} (h : PS T R L0 Ls i (6 * x + v) u L) (hx : x < 5) (hv : v < 6) (hs : (L x).testBit v = true → supp T i L x v) : PS T R L0 Ls i (6 * x + v + 1) u L := by
  refine ⟨h.1, ?_⟩
  rcases h.2 with ⟨h1, h2, h3⟩ | h1
  · refine Or.inl ⟨h1, h2, fun i' x' v' a b c d e f => ?_⟩
    by_cases z : i' = i ∧ 6 * x' + v' = 6 * x + v
    · have zx : x' = x := by omega
      have zv : v' = v := by omega
      rw [zx, zv] at f ⊢
      rw [z.1]
      exact (hs (by rw [h2 x hx]; exact f)).mono (sub_eq h2)
    · exact h3 i' x' v' a b c d (by omega) f
  · exact Or.inr h1
theorem good_del {T : TT} {R : Nat} {L0 L : LV} {i x v : Nat} (h : goodL T R L0 L) (hi : i < nc T) (hR : R.testBit i = true) (hx : x < 5) (hv : v < 6) (hb : (L x).testBit v = true) (hs : ¬ supp T i L x v) (L' : LV) (he : ∀ y, y < 5 → y ≠ x → L' y = L y) (he2 : L' x = L x - 2 ^ v) : subL L' L0 ∧ (∀ M, subL M L0 → closedL T R M → subL M L') ∧ totL L' 5 < totL L 5 ∧ L' x < 64 := by
  obtain ⟨d1, d2, d3⟩ := val_del (L x) (h.1 x hx).2 v hv hb
  have ht : totL L' 5 + pc (L x) = totL L 5 + pc (L x - 2 ^ v) := by
    have q := totL_up (L := L) (x := x) (m := L x - 2 ^ v) 5 hx
    rw [totL_congr (L := L') (L' := va_up L x (L x - 2 ^ v)) 5 (fun y hy => ?_)]
    · exact q
    · by_cases c : y = x
      · rw [c, va_up_self]; exact he2
      · rw [va_up_ne _ _ c]; exact he y hy c
  refine ⟨fun y hy w hw q => ?_, fun M h1 h2 y hy w hw q => ?_, by omega, by rw [he2]; have := (h.1 x hx).2; exact Nat.lt_of_le_of_lt (Nat.sub_le _ _) this⟩
  · by_cases c : y = x
    · rw [c, he2, d3 w hw] at q
      simp only [Bool.and_eq_true] at q
      rw [c]
      exact h.2.1 x hx w hw q.1
    · rw [he y hy c] at q
      exact h.2.1 y hy w hw q
  · have hML := h.2.2 M h1 h2
    have q0 := hML y hy w hw q
    by_cases c : y = x
    · rw [c] at q q0 ⊢
      rw [he2, d3 w hw, q0]
      by_cases e : w = v
      · rw [e] at q
        exact absurd ((h2 i hi hR x hx v hv q).mono hML) hs
      · simp [e]
    · rw [he y hy c]; exact q0
theorem r_rule {c i R : Nat} {T : TT} {L0 Ls : LV} {μ : jM} (hc : jlen c = 5) (hc4 : c ≠ 204) (hT : RW 0 T μ) (hv : VT T) (hi : i < nc T) (hR : R < 256) (u : Int32) (L : LV) (hL : RLm c L μ) (hP : PS T R L0 Ls i 0 u L) :
    ∃ e, jloop (fun (s : Int32 × Int32 × jM) => f_X12_spreadsBy_L26 201 c (nI R) (nI i) s.1 s.2.1 s.2.2) jfu ((u, (0 : Int32), μ)) = some e ∧ ((∃ m, e = .inl m ∧ failL T R L0 ∧ jFr (fun q => q = c) μ m) ∨ ∃ u' m L', e = .inr (u', m) ∧ RLm c L' m ∧ PS T R L0 Ls (i + 1) 0 u' L' ∧ jFr (fun q => q = c) μ m) := by
  have hn := hv.2.1.1
  cases hb : R.testBit i with
  | false =>
    refine ⟨.inr (u, μ), ?_, Or.inr ⟨u, μ, L, rfl, hL, ⟨hP.1, ?_⟩, jFr.rf⟩⟩
    · show jloop _ (1999999 + 1) _ = _
      refine jloop_x ?_
      dsimp only
      unfold f_X12_spreadsBy_L26
      rw [if_neg (by decide), f_has (by omega) (by omega), hb, if_neg Bool.false_ne_true, if_pos rfl]
    · rcases hP.2 with ⟨h1, h2, h3⟩ | h1
      · refine Or.inl ⟨h1, h2, fun i' x' v' a b c d e f => h3 i' x' v' a b c d ?_ f⟩
        rcases e with e | e
        · by_cases z : i' = i
          · rw [z, hb] at d; cases d
          · omega
        · omega
      · exact Or.inr h1
  | true =>
    obtain ⟨e, he, hr⟩ := jlp (step := fun (s : Int32 × Int32 × jM) => f_X12_spreadsBy_L26 201 c (nI R) (nI i) s.1 s.2.1 s.2.2)
      (fun s => ∃ k L, k ≤ 30 ∧ s.2.1 = nI k ∧ RLm c L s.2.2 ∧ PS T R L0 Ls i k s.1 L ∧ jFr (fun q => q = c) μ s.2.2)
      (fun s => 30 - s.2.1.toNatClampNeg)
      (fun e => (∃ m, e = .inl m ∧ failL T R L0 ∧ jFr (fun q => q = c) μ m) ∨ ∃ u' m L', e = .inr (u', m) ∧ RLm c L' m ∧ PS T R L0 Ls (i + 1) 0 u' L' ∧ jFr (fun q => q = c) μ m)
      (fun s hs => by
        obtain ⟨u, v, m⟩ := s
        obtain ⟨k, L, hk, hv1, hL, hP, hf⟩ := hs
        have hv1 : v = nI k := hv1
        subst hv1
        have hL : RLm c L m := hL
        have hf : jFr (fun q => q = c) μ m := hf
        have hP : PS T R L0 Ls i k u L := hP
        by_cases c30 : k < 30
        · have hT' : RW 0 T m := hT.fr (hf 204 (fun q => hc4 q.symm)).1
          have hx : k / 6 < 5 := by omega
          have hw : k % 6 < 6 := by omega
          have ek : 6 * (k / 6) + k % 6 = k := by omega
          obtain ⟨l1, l2⟩ := hL (k / 6) hx
          have dec : 30 - (nI (k + 1)).toNatClampNeg < 30 - (nI k).toNatClampNeg := by rw [nI_clamp (by omega), nI_clamp (by omega)]; omega
          have e1 : nI k / (6 : Int32) = nI (k / 6) := pk_div (d := 6) (by omega) (by decide) (by decide)
          have e2 : nI k - nI k / (6 : Int32) * (6 : Int32) = nI (k % 6) := pk_rem (d := 6) (by omega) (by decide) (by decide)
          have pre : ∀ z, (if (if (L (k / 6)).testBit (k % 6) = true then (1 : Int32) else 0) = 0 then jrd (m.1 c) (nI (k / 6)) 5 (fun v27 => (if v27 = (0 : Int32) then some (.inr (.inl m)) else some (.inl ((u, nI (k + 1), m))))) else jcl (f_X12_bears 201 c (nI i) (nI (k / 6)) (nI (k % 6)) m) (fun v31 => (if v31 = (0 : Int32) then jrd (m.1 c) (nI (k / 6)) 5 (fun v35 => jin (nI (k / 6)) 5 (jrd ((jsi m c (k / 6) (v35 - ((1 : Int32) <<< (nI (k % 6) &&& 31)))).1 c) (nI (k / 6)) 5 (fun v27 => (if v27 = (0 : Int32) then some (.inr (.inl (jsi m c (k / 6) (v35 - ((1 : Int32) <<< (nI (k % 6) &&& 31)))))) else some (.inl (((1 : Int32), nI (k + 1), jsi m c (k / 6) (v35 - ((1 : Int32) <<< (nI (k % 6) &&& 31)))))))))) else jrd (m.1 c) (nI (k / 6)) 5 (fun v27 => (if v27 = (0 : Int32) then some (.inr (.inl m)) else some (.inl ((u, nI (k + 1), m)))))))) = z → f_X12_spreadsBy_L26 201 c (nI R) (nI i) u (nI k) m = z := fun z hz => by
            unfold f_X12_spreadsBy_L26
            simp only [jbd_e]
            rw [e2, e1, jlit 30, if_neg (nI_ge c30 (by decide)), f_has (by omega) (by omega), hb, if_pos rfl, if_neg (by decide), hc, jrd_n hx (by decide), l1, f_has (by omega) (by omega), nI_1, nI_clamp (by omega)]
            exact hz
          have keep : ∀ z, some (.inl ((u, nI (k + 1), m))) = z → jrd (m.1 c) (nI (k / 6)) 5 (fun v27 => (if v27 = (0 : Int32) then some (.inr (.inl m)) else some (.inl ((u, nI (k + 1), m))))) = (z : Option ((Int32 × Int32 × jM) ⊕ (jM ⊕ (Int32 × jM)))) := fun z hz => by
            rw [jrd_n hx (by decide), l1, if_neg (nI_ne0 (hP.1.1 _ hx).1 (by omega))]
            exact hz
          cases q : (L (k / 6)).testBit (k % 6) with
          | false =>
            refine ⟨.inl (u, nI (k + 1), m), pre _ ?_, ⟨k + 1, L, by omega, rfl, hL, ?_, hf⟩, dec⟩
            · rw [q, if_neg Bool.false_ne_true, if_pos rfl]
              exact keep _ rfl
            · have := PS.keep (by rw [ek]; exact hP) hx hw (fun z => by rw [q] at z; cases z)
              rw [ek] at this; exact this
          | true =>
            obtain ⟨r, r1, r2, r3⟩ := r_bears hc hL hT' hv hi hx hw
            rcases r2 with r2 | r2
            · have hns : ¬ supp T i L (k / 6) (k % 6) := fun z => by have := r3.mpr z; rw [r2] at this; exact absurd this (by decide)
              obtain ⟨d1, d2, d3⟩ := val_del (L (k / 6)) l2 (k % 6) hw q
              have hbs : (1 : Int32) <<< (nI (k % 6) &&& 31) = nI (2 ^ (k % 6)) := shl_n _ (by omega)
              have hup : ∀ y, y < 5 → y ≠ k / 6 → va_up L (k / 6) (L (k / 6) - 2 ^ (k % 6)) y = L y := fun y _ hy => va_up_ne _ _ hy
              have hup2 : va_up L (k / 6) (L (k / 6) - 2 ^ (k % 6)) (k / 6) = L (k / 6) - 2 ^ (k % 6) := va_up_self _ _ _
              obtain ⟨g1, g2, g3, g4⟩ := good_del hP.1 hi hb hx hw q hns (va_up L (k / 6) (L (k / 6) - 2 ^ (k % 6))) hup hup2
              have hL' : RLm c (va_up L (k / 6) (L (k / 6) - 2 ^ (k % 6))) (jsi m c (k / 6) (nI (L (k / 6) - 2 ^ (k % 6)))) := fun y hy => by
                by_cases z : y = k / 6
                · rw [z, jsi_at, va_up_self]
                  exact ⟨rfl, by rw [hup2] at g4; exact g4⟩
                · rw [jsi_pl z, va_up_ne _ _ z]; exact hL y hy
              have body : ∀ z, (if nI (L (k / 6) - 2 ^ (k % 6)) = (0 : Int32) then some (.inr (.inl (jsi m c (k / 6) (nI (L (k / 6) - 2 ^ (k % 6)))))) else some (.inl ((1 : Int32), nI (k + 1), jsi m c (k / 6) (nI (L (k / 6) - 2 ^ (k % 6)))))) = z → f_X12_spreadsBy_L26 201 c (nI R) (nI i) u (nI k) m = z := fun z hz => by
                apply pre
                rw [q, if_pos rfl, if_neg (by decide), jcl_e r1, r2, if_pos rfl, jrd_n hx (by decide), l1, hbs, pk_sub d1, jin_n hx (by decide), jrd_n hx (by decide), jsi_at]
                exact hz
              by_cases cz : L (k / 6) - 2 ^ (k % 6) = 0
              · refine ⟨.inr (.inl (jsi m c (k / 6) (nI (L (k / 6) - 2 ^ (k % 6))))), body _ (if_pos (by rw [cz]; rfl)), Or.inl ⟨jsi m c (k / 6) (nI (L (k / 6) - 2 ^ (k % 6))), rfl, ⟨k / 6, hx, fun M h1 h2 v hv => ?_⟩, hf.tr (jFr.si _ _ _ rfl)⟩⟩
                cases z : (M (k / 6)).testBit v with
                | false => rfl
                | true =>
                  have := g2 M h1 h2 (k / 6) hx v hv z
                  rw [hup2, cz, Nat.zero_testBit] at this
                  cases this
              · have hlt2 := hP.le
                have hz64 : L (k / 6) - 2 ^ (k % 6) < 64 := by rw [hup2] at g4; exact g4
                have hne : ¬ nI (L (k / 6) - 2 ^ (k % 6)) = (0 : Int32) := nI_ne0 (Nat.pos_of_ne_zero cz) (by omega)
                refine ⟨.inl ((1 : Int32), nI (k + 1), jsi m c (k / 6) (nI (L (k / 6) - 2 ^ (k % 6)))), body _ (if_neg hne), ⟨k + 1, va_up L (k / 6) (L (k / 6) - 2 ^ (k % 6)), by omega, rfl, hL', ⟨⟨fun y hy => ?_, g1, g2⟩, Or.inr ⟨rfl, Nat.lt_of_lt_of_le g3 hlt2⟩⟩, hf.tr (jFr.si _ _ _ rfl)⟩, dec⟩
                by_cases z : y = k / 6
                · rw [z, hup2]; exact ⟨Nat.pos_of_ne_zero cz, hz64⟩
                · rw [hup y hy z]; exact hP.1.1 y hy
            · refine ⟨.inl (u, nI (k + 1), m), pre _ ?_, ⟨k + 1, L, by omega, rfl, hL, ?_, hf⟩, dec⟩
              · rw [q, if_pos rfl, if_neg (by decide), jcl_e r1, r2, if_neg (by decide)]
                exact keep _ rfl
              · have := PS.keep (by rw [ek]; exact hP) hx hw (fun _ => r3.mp r2)
                rw [ek] at this; exact this
        · have : k = 30 := by omega
          subst this
          refine ⟨.inr (.inr (u, m)), ?_, Or.inr ⟨u, m, L, rfl, hL, ⟨hP.1, ?_⟩, hf⟩⟩
          · dsimp only
            unfold f_X12_spreadsBy_L26
            rw [jlit 30, if_pos (nI_le (Nat.le_refl _) (by decide))]
          · rcases hP.2 with ⟨h1, h2, h3⟩ | h1
            · refine Or.inl ⟨h1, h2, fun i' x' v' a b c d e f => h3 i' x' v' a b c d (by omega) f⟩
            · exact Or.inr h1)
      jfu (u, (0 : Int32), μ) ⟨0, L, by omega, rfl, hL, hP, jFr.rf⟩ (by show 30 - _ < 2000000; omega)
    exact ⟨e, he, hr⟩
theorem r_pass {c R : Nat} {T : TT} {L0 Ls : LV} {μ : jM} (hc : jlen c = 5) (hc4 : c ≠ 204) (hT : RW 0 T μ) (hv : VT T) (hR : R < 256) (hL : RLm c Ls μ) (hg : goodL T R L0 Ls) :
    ∃ e, jloop (fun (s : Int32 × Int32 × jM) => f_X12_spreadsBy_L11 201 c (nI R) s.1 s.2.1 s.2.2) jfu (((0 : Int32), (0 : Int32), μ)) = some e ∧ ((∃ m, e = .inl m ∧ failL T R L0 ∧ jFr (fun q => q = c) μ m) ∨ ∃ u' m L', e = .inr (u', m) ∧ RLm c L' m ∧ PS T R L0 Ls (nc T) 0 u' L' ∧ jFr (fun q => q = c) μ m) := by
  have hn := hv.2.1.1
  refine jlp (step := fun (s : Int32 × Int32 × jM) => f_X12_spreadsBy_L11 201 c (nI R) s.1 s.2.1 s.2.2)
    (I := fun s => ∃ i L, i ≤ nc T ∧ s.2.1 = nI i ∧ RLm c L s.2.2 ∧ PS T R L0 Ls i 0 s.1 L ∧ jFr (fun q => q = c) μ s.2.2)
    (m := fun s => nc T - s.2.1.toNatClampNeg)
    (R := fun e => (∃ m, e = .inl m ∧ failL T R L0 ∧ jFr (fun q => q = c) μ m) ∨ ∃ u' m L', e = .inr (u', m) ∧ RLm c L' m ∧ PS T R L0 Ls (nc T) 0 u' L' ∧ jFr (fun q => q = c) μ m)
    ?_ jfu ((0 : Int32), (0 : Int32), μ) ⟨0, Ls, by omega, rfl, hL, ⟨hg, Or.inl ⟨rfl, fun _ _ => rfl, fun i' x v a b c d e => by omega⟩⟩, jFr.rf⟩ (by show nc T - _ < 2000000; omega)
  rintro ⟨u, v, m⟩ ⟨i, L, hi, hv1, hL1, hP, hf⟩
  have hv1 : v = nI i := hv1
  subst hv1
  have hf : jFr (fun q => q = c) μ m := hf
  have hT' : RW 0 T m := hT.fr (hf 204 (fun q => hc4 q.symm)).1
  have e28 : m.1 204 28 = nI (nc T) := by rw [hT'.at (by omega)]; exact hv.2.1.2
  by_cases ci : i < nc T
  · obtain ⟨e, he, hr⟩ := r_rule hc hc4 hT' hv ci hR u L hL1 hP
    have pre : ∀ z, (match (generalizing := false) e with | .inl w40 => some (.inr (.inl w40)) | .inr w40 => some (.inl ((w40.1, nI i + (1 : Int32), w40.2)))) = z → f_X12_spreadsBy_L11 201 c (nI R) u (nI i) m = z := fun z hz => by
      unfold f_X12_spreadsBy_L11
      show jrd (m.1 204) _ _ _ = _
      rw [jlit 28, jrd_n (by omega) (by decide), e28, if_neg (nI_ge ci (by omega)), jcl_e he]
      exact hz
    rcases hr with ⟨m', rfl, h1, h2⟩ | ⟨u', m', L', rfl, h1, h2, h3⟩
    · exact ⟨_, pre _ rfl, Or.inl ⟨m', rfl, h1, hf.tr h2⟩⟩
    · refine ⟨_, pre _ rfl, ⟨i + 1, L', by omega, by show nI i + 1 = _; rw [nI_1], h1, h2, hf.tr h3⟩, ?_⟩
      show nc T - (nI i + 1).toNatClampNeg < nc T - (nI i).toNatClampNeg
      rw [nI_1, nI_clamp (by omega), nI_clamp (by omega)]; omega
  · have : i = nc T := by omega
    subst this
    refine ⟨.inr (.inr (u, m)), ?_, Or.inr ⟨u, m, L, rfl, hL1, hP, hf⟩⟩
    dsimp only
    unfold f_X12_spreadsBy_L11
    show jrd (m.1 204) _ _ _ = _
    rw [jlit 28, jrd_n (by omega) (by decide), e28, if_pos (nI_le (Nat.le_refl _) (by omega))]
theorem r_spread {c R : Nat} {T : TT} {L0 : LV} {μ : jM} (hc : jlen c = 5) (hc4 : c ≠ 204) (hT : RW 0 T μ) (hv : VT T) (hR : R < 256) (hL : RLm c L0 μ) (h0 : ∀ x, x < 5 → 0 < L0 x) :
    ∃ r L μ', f_X12_spreadsBy 201 c (nI R) μ = some (r, μ') ∧ spEnd T R L0 r L ∧ (r = 1 → RLm c L μ') ∧ jFr (fun q => q = c) μ μ' := by
  have hg : goodL T R L0 L0 := ⟨fun x hx => ⟨h0 x hx, (hL x hx).2⟩, subL.rf _, fun M h _ => h⟩
  have tm : ∀ (m : jM) (L : LV), RLm c L m → totL (fun x => (m.1 c x).toNatClampNeg) 5 = totL L 5 := fun m L h => totL_congr 5 (fun x hx => by
    obtain ⟨a, b⟩ := h x hx
    show (m.1 c x).toNatClampNeg = _
    rw [a, nI_clamp (by omega)])
  have bound : ∀ (L : LV) k, totL L k ≤ 31 * k := by
    intro L k
    induction k with
    | zero => exact Nat.le_refl _
    | succ k ih => have := pc_le (L k); rw [totL_s]; omega
  obtain ⟨e, he, hr⟩ := jlp (step := fun (s : Int32 × jM) => f_X12_spreadsBy_L2 201 c (nI R) s.1 s.2)
    (fun s => ∃ L, RLm c L s.2 ∧ goodL T R L0 L ∧ ((s.1 = 0 ∧ closedL T R L) ∨ s.1 = 1) ∧ jFr (fun q => q = c) μ s.2)
    (fun s => if s.1 = 0 then 0 else 1 + totL (fun x => (s.2.1 c x).toNatClampNeg) 5)
    (fun e => (∃ m, e = .inl m ∧ failL T R L0 ∧ jFr (fun q => q = c) μ m) ∨ ∃ m L, e = .inr m ∧ RLm c L m ∧ goodL T R L0 L ∧ closedL T R L ∧ jFr (fun q => q = c) μ m)
    (fun s hs => by
      obtain ⟨u, m⟩ := s
      obtain ⟨L, hL1, hg1, hu, hf⟩ := hs
      have hf : jFr (fun q => q = c) μ m := hf
      have hL1 : RLm c L m := hL1
      rcases hu with ⟨hu, hcl⟩ | hu
      · have hu : u = 0 := hu
        subst hu
        refine ⟨.inr (.inr m), ?_, Or.inr ⟨m, L, rfl, hL1, hg1, hcl, hf⟩⟩
        dsimp only
        unfold f_X12_spreadsBy_L2
        rw [if_pos rfl]
      · have hu : u = 1 := hu
        subst hu
        have hT' : RW 0 T m := hT.fr (hf 204 (fun q => hc4 q.symm)).1
        obtain ⟨e, he, hr⟩ := r_pass (L0 := L0) hc hc4 hT' hv hR hL1 hg1
        have pre : ∀ z, (match (generalizing := false) e with | .inl w46 => some (.inr (.inl w46)) | .inr w46 => some (.inl ((w46.1, w46.2)))) = z → f_X12_spreadsBy_L2 201 c (nI R) 1 m = z := fun z hz => by
          unfold f_X12_spreadsBy_L2
          rw [if_neg (by decide), jcl_e he]
          exact hz
        rcases hr with ⟨m', rfl, h1, h2⟩ | ⟨u', m', L', rfl, h1, h2, h3⟩
        · exact ⟨_, pre _ rfl, Or.inl ⟨m', rfl, h1, hf.tr h2⟩⟩
        · refine ⟨_, pre _ rfl, ⟨L', h1, h2.1, ?_, hf.tr h3⟩, ?_⟩
          · rcases h2.2 with ⟨z1, z2, z3⟩ | ⟨z1, z2⟩
            · refine Or.inl ⟨z1, fun i hi hRi x hx v hv q => ?_⟩
              exact (z3 i x v hi hx hv hRi (Or.inl hi) (by rw [← z2 x hx]; exact q)).mono (sub_eq (fun x hx => (z2 x hx).symm))
            · exact Or.inr z1
          · show (if u' = 0 then 0 else 1 + totL (fun x => (m'.1 c x).toNatClampNeg) 5) < (if (1 : Int32) = 0 then 0 else 1 + totL (fun x => (m.1 c x).toNatClampNeg) 5)
            rw [if_neg (show ¬ (1 : Int32) = 0 by decide), tm m L hL1, tm m' L' h1]
            rcases h2.2 with ⟨z1, -⟩ | ⟨z1, z2⟩
            · rw [z1, if_pos rfl]; omega
            · rw [z1, if_neg (by decide)]; omega)
    jfu ((1 : Int32), μ) ⟨L0, hL, hg, Or.inr rfl, jFr.rf⟩ (by
      show (if (1 : Int32) = 0 then 0 else 1 + totL (fun x => (μ.1 c x).toNatClampNeg) 5) < 2000000
      rw [if_neg (by decide)]
      have := bound (fun x => (μ.1 c x).toNatClampNeg) 5
      omega)
  unfold f_X12_spreadsBy
  rw [jcl_e he]
  rcases hr with ⟨m, rfl, h1, h2⟩ | ⟨m, L, rfl, h1, h2, h3, h4⟩
  · exact ⟨0, L0, m, rfl, Or.inr ⟨rfl, h1⟩, fun q => absurd q (by decide), h2⟩
  · exact ⟨1, L, m, rfl, Or.inl ⟨rfl, h2, h3⟩, fun _ => h1, h4⟩
