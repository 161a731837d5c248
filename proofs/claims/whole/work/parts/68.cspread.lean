/-! the class spreads -/
theorem sum_vals {L : LV} {μ : jM} (hL : RLm 166 L μ) : f_X6_valuesLeft 165 μ = some (nI (totL L 5)) := by
  obtain ⟨e, he, hr⟩ := jlpN (step := fun (s : Int32 × Int32) => f_X6_valuesLeft_L13 165 μ s.1 s.2) 5 (fun k s => s = (nI (totL L k), nI k)) (fun e => e = nI (totL L 5))
    (fun k s hk hs => by
      subst hs
      refine ⟨(nI (totL L (k + 1)), nI (k + 1)), ?_, rfl⟩
      obtain ⟨q1, q2⟩ := hL k hk
      dsimp only
      unfold f_X6_valuesLeft_L13
      rw [if_neg (nI_ge hk (by decide))]
      show jrd (μ.1 166) _ _ _ = _
      rw [jrd_n hk (by decide), q1, c_bits _ (by omega), jbd_e, nI_add, nI_1]
      rfl)
    (fun s hs => by
      subst hs
      refine ⟨_, ?_, rfl⟩
      dsimp only
      unfold f_X6_valuesLeft_L13
      rw [if_pos (nI_le (Nat.le_refl _) (by decide))]) (i := 0) (n := jfu) (s := ((0 : Int32), (0 : Int32))) (by omega) rfl (jfu_lt (by omega))
  unfold f_X6_valuesLeft
  rw [jcl_e he, hr]
theorem pc_sub {a b : Nat} (ha : a < 64) (hb : b < 64) (h : ∀ v, v < 6 → a.testBit v = true → b.testBit v = true) : pc a ≤ pc b ∧ (pc a = pc b → a = b) := by
  rw [pc_cnt a ha, pc_cnt b hb]
  refine ⟨cnt_mono 6 h, fun he => mask_eq ha hb (fun v hv => ?_)⟩
  cases q : b.testBit v with
  | false =>
    cases q2 : a.testBit v with
    | false => rfl
    | true => rw [h v hv q2] at q; cases q
  | true =>
    cases q2 : a.testBit v with
    | true => rfl
    | false =>
      have e := (cnt_del (fun i => b.testBit i) v 6).2 hv q
      have := cnt_mono (p := fun i => a.testBit i) (q := fun i => b.testBit i && !(i == v)) 6 (fun i hi hai => by
        have : i ≠ v := fun z => by rw [z, q2] at hai; cases hai
        simp only [h i hi hai, Bool.true_and]
        simp [this])
      omega
theorem tot_sub {L L' : LV} : ∀ k, (∀ x, x < k → L x < 64 ∧ L' x < 64 ∧ ∀ v, v < 6 → (L x).testBit v = true → (L' x).testBit v = true) → totL L k ≤ totL L' k ∧ (totL L k = totL L' k → ∀ x, x < k → L x = L' x)
  | 0, _ => ⟨Nat.le_refl _, fun _ x hx => absurd hx (Nat.not_lt_zero x)⟩
  | k + 1, h => by
    obtain ⟨i1, i2⟩ := tot_sub (L := L) (L' := L') k (fun x hx => h x (by omega))
    obtain ⟨a, b, c⟩ := h k (by omega)
    obtain ⟨p1, p2⟩ := pc_sub a b c
    rw [totL_s, totL_s]
    refine ⟨by omega, fun he x hx => ?_⟩
    by_cases z : x = k
    · rw [z]; exact p2 (by omega)
    · exact i2 (by omega) x (by omega)
theorem tot_le {L : LV} (h : ∀ x, x < 5 → L x < 64) : totL L 5 ≤ 30 := by
  have q : ∀ x, x < 5 → pc (L x) ≤ 6 := fun x hx => by
    rw [pc_cnt _ (h x hx)]
    have : ∀ (p : Nat → Bool) k, cnt p k ≤ k := by
      intro p k
      induction k with
      | zero => exact Nat.le_refl _
      | succ k ih => rw [cnt_s]; split <;> omega
    exact this _ 6
  have q0 := q 0 (by omega)
  have q1 := q 1 (by omega)
  have q2 := q 2 (by omega)
  have q3 := q 3 (by omega)
  have q4 := q 4 (by omega)
  show 0 + pc (L 0) + pc (L 1) + pc (L 2) + pc (L 3) + pc (L 4) ≤ 30
  omega
/-- one pass over the constraints -/
theorem c_pass {t R : Nat} {T : TT} {L0 Ls : LV} {μ : jM} (ht : 166 < t ∨ t + 5 < 166) (hT : RT t T μ) (hv : VT T) (hR : R < 256) (hL : RLm 166 Ls μ) (hg : goodL T R L0 Ls) :
    ∃ e, jloop (fun (s : Int32 × jM) => f_X6_spread_L24 165 t (nI R) s.1 s.2) jfu (((0 : Int32), μ)) = some e ∧ ((∃ m, e = .inl m ∧ failL T R L0 ∧ jFr (fun q => q = 166) μ m) ∨ ∃ m L', e = .inr m ∧ RLm 166 L' m ∧ goodL T R L0 L' ∧ subL L' Ls ∧ ((∀ x, x < 5 → L' x = Ls x) → closedL T R Ls) ∧ jFr (fun q => q = 166) μ m) := by
  have hn := hv.2.1.1
  refine jlp (step := fun (s : Int32 × jM) => f_X6_spread_L24 165 t (nI R) s.1 s.2)
    (I := fun s => ∃ i L, i ≤ nc T ∧ s.1 = nI i ∧ RLm 166 L s.2 ∧ goodL T R L0 L ∧ subL L Ls ∧ ((∀ x, x < 5 → L x = Ls x) → ∀ i', i' < i → R.testBit i' = true → cli T i' Ls) ∧ jFr (fun q => q = 166) μ s.2)
    (m := fun s => nc T - s.1.toNatClampNeg)
    (R := fun e => (∃ m, e = .inl m ∧ failL T R L0 ∧ jFr (fun q => q = 166) μ m) ∨ ∃ m L', e = .inr m ∧ RLm 166 L' m ∧ goodL T R L0 L' ∧ subL L' Ls ∧ ((∀ x, x < 5 → L' x = Ls x) → closedL T R Ls) ∧ jFr (fun q => q = 166) μ m)
    ?_ jfu ((0 : Int32), μ) ⟨0, Ls, by omega, rfl, hL, hg, subL.rf _, fun _ i' hi => absurd hi (Nat.not_lt_zero i'), jFr.rf⟩ (by show nc T - _ < 2000000; omega)
  rintro ⟨u, m⟩ ⟨i, L, hi, hu, hL1, hg1, hs1, hD, hf⟩
  have hu : u = nI i := hu
  subst hu
  have hf : jFr (fun q => q = 166) μ m := hf
  have hL1 : RLm 166 L m := hL1
  have hT' : RT t T m := hT.fc hf (fun c q1 q2 q3 => by omega)
  have e6 : m.1 t 6 = nI (nc T) := by rw [hT'.2.2.2.2.2.1]; exact hv.2.1.2
  have parts : ∀ k, k < 32 → m.1 (t + 5) k = T (29 + k) := hT'.2.2.2.2.2.2
  by_cases ci : i < nc T
  · have dec : nc T - (nI (i + 1)).toNatClampNeg < nc T - (nI i).toNatClampNeg := by rw [nI_clamp (by omega), nI_clamp (by omega)]; omega
    cases hb : R.testBit i with
    | false =>
      refine ⟨.inl (nI (i + 1), m), ?_, ⟨i + 1, L, by omega, rfl, hL1, hg1, hs1, fun hE i' h1 h2 => ?_, hf⟩, dec⟩
      · dsimp only
        unfold f_X6_spread_L24
        rw [e6, if_neg (nI_ge ci (by omega)), nI_bit (by omega) (by omega), hb, if_neg Bool.false_ne_true, if_neg (by decide), nI_1]
      · by_cases z : i' = i
        · rw [z, hb] at h2; cases h2
        · exact hD hE i' (by omega) h2
    | true =>
      -- the bearing itself
      have bear : ∃ r L' m', (∀ z, (if r = (0 : Int32) then some (.inr (.inl m')) else some (.inl ((nI (i + 1), m')))) = z → f_X6_spread_L24 165 t (nI R) (nI i) m = z) ∧ (r = 1 → RLm 166 L' m') ∧ BOK T i L r L' ∧ jFr (fun q => q = 166) m m' := by
        have e4 : (4 : Int32) * nI i = nI (4 * i) := by rw [jlit 4, pk_mul]
        rcases hv.2.2.2.2.2.2.2 i ci with ⟨s, a, b, h3, e0, ha, hb5, hab, e1, e2, hd⟩ | ⟨e0, set, hm, e1, hlen, -, -⟩
        · obtain ⟨r, L', m', r1, r2, r3, r4⟩ := c_two h3 ha hb5 hab e0 e1 e2 hd hg1.1 hL1
          refine ⟨r, L', m', fun z hz => ?_, fun _ => r2, r3, r4⟩
          unfold f_X6_spread_L24
          have n3 : ¬ nI s = (3 : Int32) := fun z => by
            have := (nI_eq (b := 3) (by omega) (by decide)).mp z
            omega
          rw [e6, if_neg (nI_ge ci (by omega)), nI_bit (by omega) (by omega), hb, if_pos rfl, if_pos rfl, e4, nI_1, jrd_n (by omega) (by decide), parts _ (by omega), e0, jbd_e, if_neg n3, jrd_n (by omega) (by decide), parts _ (by omega), e0, nI_1 (4 * i), jrd_n (by omega) (by decide), parts _ (by omega), e1]
          have a2 : nI (4 * i) + (2 : Int32) = nI (4 * i + 2) := by rw [jlit 2, nI_add]
          have a3 : nI (4 * i) + (3 : Int32) = nI (4 * i + 3) := by rw [jlit 3, nI_add]
          rw [a2, a3, jrd_n (by omega) (by decide), parts _ (by omega), e2, jrd_n (by omega) (by decide), parts _ (by omega), jcl2_e r1]
          exact hz
        · have hs0 : set ≠ 0 := fun z => by
            rw [z] at hlen
            exact absurd hlen (by decide)
          obtain ⟨r, L', m', r1, r2, r3, r4⟩ := c_alldiff hm hs0 e0 e1 hg1.1 hL1
          refine ⟨r, L', m', fun z hz => ?_, r2, r3, r4⟩
          unfold f_X6_spread_L24
          rw [e6, if_neg (nI_ge ci (by omega)), nI_bit (by omega) (by omega), hb, if_pos rfl, if_pos rfl, e4, nI_1, jrd_n (by omega) (by decide), parts _ (by omega), e0, jbd_e, if_pos (by rfl), nI_1 (4 * i), jrd_n (by omega) (by decide), parts _ (by omega), e1, jcl2_e r1]
          exact hz
      obtain ⟨r, L', m', r1, r2, r3, r4⟩ := bear
      have sub0 := hg1.2.1
      have tocli : ∀ M, closedL T R M → cli T i M := fun M hM x hx v hv q => hM i ci hb x hx v hv q
      rcases r3 with ⟨rfl, b1, b2, b3, b4⟩ | ⟨rfl, x, x1, x2⟩
      · refine ⟨.inl (nI (i + 1), m'), r1 _ (by rw [if_neg (by decide)]), ⟨i + 1, L', by omega, rfl, r2 rfl, ⟨b1, b2.tr sub0, fun M h1 h2 => b3 M (hg1.2.2 M h1 h2) (tocli M h2)⟩, b2.tr hs1, fun hE i' h1 h2 => ?_, hf.tr r4⟩, dec⟩
        have hE1 : ∀ x, x < 5 → L x = Ls x := fun x hx => mask_eq (hg1.1 x hx).2 (hg.1 x hx).2 (fun v hv => by
          apply Bool.eq_iff_iff.mpr
          refine ⟨hs1 x hx v hv, fun q => ?_⟩
          rw [← hE x hx] at q
          exact b2 x hx v hv q)
        by_cases z : i' = i
        · have hEL : ∀ x, x < 5 → L' x = L x := fun x hx => (hE x hx).trans (hE1 x hx).symm
          have := b4 hEL
          rw [z]
          intro x hx v hv q
          rw [← hE1 x hx] at q
          exact (this x hx v hv q).mono (sub_eq hE1)
        · exact hD hE1 i' (by omega) h2
      · exact ⟨.inr (.inl m'), r1 _ (if_pos rfl), Or.inl ⟨m', rfl, ⟨x, x1, fun M h1 h2 => x2 M (hg1.2.2 M h1 h2) (tocli M h2)⟩, hf.tr r4⟩⟩
  · have : i = nc T := by omega
    subst this
    refine ⟨.inr (.inr m), ?_, Or.inr ⟨m, L, rfl, hL1, hg1, hs1, fun hE i' h1 h2 x hx v hv q => hD hE i' h1 h2 x hx v hv q, hf⟩⟩
    dsimp only
    unfold f_X6_spread_L24
    rw [e6, if_pos (nI_le (Nat.le_refl _) (by omega))]
theorem c_spread {t R : Nat} {T : TT} {L0 : LV} {μ : jM} (ht : 166 < t ∨ t + 5 < 166) (hT : RT t T μ) (hv : VT T) (hR : R < 256) (hL : RLm 166 L0 μ) (h0 : ∀ x, x < 5 → 0 < L0 x) :
    ∃ r L μ', f_X6_spread 165 t (nI R) μ = some (r, μ') ∧ spEnd T R L0 r L ∧ (r = 1 → RLm 166 L μ') ∧ jFr (fun q => q = 166) μ μ' := by
  have hg : goodL T R L0 L0 := ⟨fun x hx => ⟨h0 x hx, (hL x hx).2⟩, subL.rf _, fun M h _ => h⟩
  have t0 := tot_le (fun x hx => (hL x hx).2)
  obtain ⟨e, he, hr⟩ := jlp (step := fun (s : Int32 × Int32 × jM) => f_X6_spread_L14 165 t (nI R) s.1 s.2.1 s.2.2)
    (fun s => ∃ p L, s.1 = nI (totL L 5) ∧ s.2.1 = nI p ∧ totL L 5 + p ≤ 30 ∧ RLm 166 L s.2.2 ∧ goodL T R L0 L ∧ jFr (fun q => q = 166) μ s.2.2)
    (fun s => 31 - s.2.1.toNatClampNeg)
    (fun e => (∃ m, e = .inl m ∧ failL T R L0 ∧ jFr (fun q => q = 166) μ m) ∨ ∃ m L, e = .inr (.inl m) ∧ RLm 166 L m ∧ goodL T R L0 L ∧ closedL T R L ∧ jFr (fun q => q = 166) μ m)
    (fun s hs => by
      obtain ⟨u, v, m⟩ := s
      obtain ⟨p, L, hu, hp, hle, hL1, hg1, hf⟩ := hs
      have hu : u = nI (totL L 5) := hu
      have hp : v = nI p := hp
      subst hu
      subst hp
      have hf : jFr (fun q => q = 166) μ m := hf
      have hT' : RT t T m := hT.fc hf (fun c q1 q2 q3 => by omega)
      obtain ⟨e, he, hr⟩ := c_pass (L0 := L0) ht hT' hv hR hL1 hg1
      have pre : ∀ z, (match (generalizing := false) e with | .inl w42 => some (.inr (.inl w42)) | .inr w42 => jcl (f_X6_valuesLeft 165 w42) (fun v47 => (if v47 = nI (totL L 5) then some (.inr (.inr (.inl w42))) else some (.inl ((v47, nI p + (1 : Int32), w42)))))) = z → f_X6_spread_L14 165 t (nI R) (nI (totL L 5)) (nI p) m = z := fun z hz => by
        unfold f_X6_spread_L14
        rw [jlit 30, if_neg (nI_nlt (by omega) (by omega)), jcl_e he]
        exact hz
      rcases hr with ⟨m', rfl, h1, h2⟩ | ⟨m', L', rfl, h1, h2, h3, h4, h5⟩
      · exact ⟨_, pre _ rfl, Or.inl ⟨m', rfl, h1, hf.tr h2⟩⟩
      · obtain ⟨k1, k2⟩ := tot_sub (L := L') (L' := L) 5 (fun x hx => ⟨(h2.1 x hx).2, (hg1.1 x hx).2, h3 x hx⟩)
        by_cases c : totL L' 5 = totL L 5
        · have hE := k2 c
          refine ⟨.inr (.inr (.inl m')), pre _ ?_, Or.inr ⟨m', L', rfl, h1, h2, ?_, hf.tr h5⟩⟩
          · show jcl (f_X6_valuesLeft 165 m') _ = _
            rw [jcl_e (sum_vals h1), c, if_pos rfl]
          · intro i hi hb x hx v hv q
            rw [hE x hx] at q
            exact (h4 hE i hi hb x hx v hv q).mono (sub_eq (fun x hx => (hE x hx).symm))
        · refine ⟨.inl (nI (totL L' 5), nI (p + 1), m'), pre _ ?_, ⟨p + 1, L', rfl, rfl, by omega, h1, h2, hf.tr h5⟩, ?_⟩
          · show jcl (f_X6_valuesLeft 165 m') _ = _
            have lt := tot_le (fun x hx => (h2.1 x hx).2)
            rw [jcl_e (sum_vals h1), if_neg (fun z => c ((nI_eq (by omega) (by omega)).mp z)), nI_1]
          · show 31 - (nI (p + 1)).toNatClampNeg < 31 - (nI p).toNatClampNeg
            rw [nI_clamp (by omega), nI_clamp (by omega)]; omega)
    jfu (nI (totL L0 5), (0 : Int32), μ) ⟨0, L0, rfl, rfl, by omega, hL, hg, jFr.rf⟩ (by show 31 - _ < 2000000; omega)
  unfold f_X6_spread
  rw [jcl_e (sum_vals hL), jcl_e he]
  rcases hr with ⟨m, rfl, h1, h2⟩ | ⟨m, L, rfl, h1, h2, h3, h4⟩
  · exact ⟨0, L0, m, rfl, Or.inr ⟨rfl, h1⟩, fun q => absurd q (by decide), h2⟩
  · exact ⟨1, L, m, rfl, Or.inl ⟨rfl, h2, h3⟩, fun _ => h1, h4⟩
/-- begin, lays -/
theorem c_begin {t : Nat} {T : TT} {μ : jM} (ht : 166 < t ∨ t + 5 < 166) (hT : RT t T μ) (hv : VT T) : ∃ μ', f_X6_begin 165 t μ = some μ' ∧ RLm 166 (vm T) μ' ∧ jFr (fun q => q = 166) μ μ' := by
  have e0 : (0 : Int32).toNatClampNeg = 0 := by decide
  have e5 : (5 : Int32).toNatClampNeg = 5 := by decide
  unfold f_X6_begin
  rw [e0, e5, jlit 5, jcpq_z (by decide), jbd_e]
  refine ⟨_, rfl, fun x hx => ?_, jFr.cp _ _ _ _ _ rfl⟩
  obtain ⟨q1, q2, q3⟩ := vm_of hv hx
  show (jcp μ (t + 2) 0 166 0 5).1 166 x = _ ∧ _
  rw [jcp_at hx, hT.2.1 x hx, q3]
  exact ⟨rfl, q2⟩
theorem r_lays {T : TT} {μ : jM} (hT : RW 0 T μ) (hv : VT T) : ∃ μ', f_X12_lays 201 μ = some μ' ∧ RLm 210 (vm T) μ' ∧ jFr (fun q => q = 210) μ μ' := by
  obtain ⟨w, hw, h1, h2⟩ := jlpN (step := fun (s : Int32 × jM) => f_X12_lays_L2 201 s.1 s.2) 5
    (fun k s => s.1 = nI k ∧ (∀ x, x < k → s.2.1 210 x = T (6 + x)) ∧ jFr (fun q => q = 210) μ s.2)
    (fun m => (∀ x, x < 5 → m.1 210 x = T (6 + x)) ∧ jFr (fun q => q = 210) μ m)
    (fun k s hk hs => by
      obtain ⟨u, m⟩ := s
      obtain ⟨hu, g1, g2⟩ := hs
      have hu : u = nI k := hu
      subst hu
      have g2 : jFr (fun q => q = 210) μ m := g2
      refine ⟨(nI (k + 1), jsi m 210 k (T (6 + k))), ?_, rfl, fun x hx => ?_, g2.tr (jFr.si _ _ _ rfl)⟩
      · dsimp only
        unfold f_X12_lays_L2
        rw [jlit 5, if_neg (nI_ge hk (by decide))]
        show jrd (m.1 204) _ _ _ = _
        rw [jlit 6, nI_add, jrd_n (by omega) (by decide), (hT.fr (g2 204 (by decide)).1).at (by omega), jin_n hk (by decide), nI_clamp (by omega), jbd_e, nI_1]
      · show (jsi m 210 k (T (6 + k))).1 210 x = _
        by_cases c : x = k
        · rw [c, jsi_at]
        · rw [jsi_pl c]; exact g1 x (by omega))
    (fun s hs => by
      obtain ⟨u, m⟩ := s
      obtain ⟨hu, g1, g2⟩ := hs
      have hu : u = nI 5 := hu
      subst hu
      refine ⟨m, ?_, g1, g2⟩
      dsimp only
      unfold f_X12_lays_L2
      rw [jlit 5, if_pos (nI_le (Nat.le_refl _) (by decide))])
    (i := 0) (n := jfu) (s := ((0 : Int32), μ)) (by omega) ⟨rfl, fun x hx => absurd hx (Nat.not_lt_zero x), jFr.rf⟩ (jfu_lt (by omega))
  unfold f_X12_lays
  rw [jcl_e hw]
  refine ⟨w, rfl, fun x hx => ?_, h2⟩
  obtain ⟨q1, q2, q3⟩ := vm_of hv hx
  rw [h1 x hx, q3]
  exact ⟨rfl, q2⟩
