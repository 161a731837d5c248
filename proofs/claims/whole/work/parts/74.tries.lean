theorem jlpG {σ ε : Type} {step : σ → Option (σ ⊕ ε)} (I : Nat → σ → Prop) (R : ε → Prop) (hs : ∀ k s, I k s → ∃ o, step s = some o ∧ jok (fun s' => ∃ k', k' < k ∧ I k' s') R o) : ∀ (n k : Nat) (s : σ), I k s → k < n → ∃ e, jloop step n s = some e ∧ R e := by
  intro n
  induction n with
  | zero => intro k s _ h; omega
  | succ n ih =>
    intro k s hI hm
    obtain ⟨o, ho, hk⟩ := hs k s hI
    unfold jloop
    rw [ho]
    cases o with
    | inl s2 =>
      obtain ⟨k', h1, h2⟩ := hk
      exact ih k' s2 h2 (by omega)
    | inr e => exact ⟨e, rfl, hk⟩
def okk (T : TT) (r k : Nat) : Bool := (List.range k).all (fun x => (vm T x).testBit (val r x))
theorem okk_s (T : TT) (r k : Nat) : okk T r (k + 1) = (okk T r k && (vm T k).testBit (val r k)) := by
  unfold okk
  rw [List.range_succ, List.all_append]
  simp
theorem okk_iff {T : TT} {r k : Nat} : okk T r k = true ↔ ∀ x, x < k → (vm T x).testBit (val r x) = true := by
  unfold okk
  rw [List.all_eq_true]
  exact ⟨fun h x hx => h x (List.mem_range.mpr hx), fun h x hx => h x (List.mem_range.mp hx)⟩
noncomputable def brI (T : TT) (r : Nat) : Nat → Nat
  | 0 => 0
  | k + 1 => brI T r k ||| (if (pmk T (val r) 5).testBit k then 2 ^ k else 0)
theorem brI_s (T : TT) (r k : Nat) : brI T r (k + 1) = brI T r k ||| (if (pmk T (val r) 5).testBit k then 2 ^ k else 0) := rfl
theorem brI_lt (T : TT) (r : Nat) : ∀ k, k ≤ 8 → brI T r k < 256
  | 0, _ => by show 0 < 256; omega
  | k + 1, h => by
    rw [brI_s]
    refine Nat.or_lt_two_pow (n := 8) (brI_lt T r k (by omega)) ?_
    split
    · exact Nat.pow_lt_pow_right (by decide) (by omega)
    · decide
theorem brI_b (T : TT) (r i : Nat) : ∀ k, (brI T r k).testBit i = true ↔ i < k ∧ (pmk T (val r) 5).testBit i = true
  | 0 => by
    show (0 : Nat).testBit i = true ↔ _
    rw [Nat.zero_testBit]
    exact ⟨fun h => (by cases h), fun h => absurd h.1 (Nat.not_lt_zero i)⟩
  | k + 1 => by
    rw [brI_s, Nat.testBit_or, Bool.or_eq_true, brI_b T r i k]
    constructor
    · rintro (⟨h1, h2⟩ | h)
      · exact ⟨by omega, h2⟩
      · cases q : (pmk T (val r) 5).testBit k with
        | true =>
          rw [q, if_pos rfl, Nat.testBit_two_pow, decide_eq_true_iff] at h
          rw [← h]
          exact ⟨by omega, q⟩
        | false => rw [q, if_neg Bool.false_ne_true, Nat.zero_testBit] at h; cases h
    · rintro ⟨h1, h2⟩
      by_cases c : i = k
      · subst c
        exact Or.inr (by rw [if_pos h2, Nat.testBit_two_pow]; simp)
      · exact Or.inl ⟨by omega, h2⟩
theorem brI_all (T : TT) (r : Nat) : brI T r (nc T) = pmk T (val r) 5 := by
  apply Nat.eq_of_testBit_eq
  intro i
  apply Bool.eq_iff_iff.mpr
  rw [brI_b]
  exact ⟨fun h => h.2, fun h => ⟨((pmk_b T (val r) i 5).mp h).1, h⟩⟩
def TRI (T : TT) (r : Nat) (z : Int32) : Prop := (okk T r 5 = true ∧ z = nI (pmk T (val r) 5)) ∨ (okk T r 5 = false ∧ z = -1)
theorem r_tryOne {r : Nat} {T : TT} {μ : jM} (hT : RW 0 T μ) (hv : VT T) (hr : r < 7776) : ∃ m, f_X12_tries_L2 201 (nI r) μ = some (.inl (nI (r + 1), m)) ∧ TRI T r (m.1 216 r) ∧ (∀ j, j ≠ r → m.1 216 j = μ.1 216 j) ∧ jFr (fun c => c = 216) μ m := by
  have hn := hv.2.1.1
  obtain ⟨m1, a1, a2, a3, a4⟩ := jlpN (step := fun (s : Int32 × jM) => f_X12_tries_L18 201 (nI r) s.1 s.2) 5
    (fun k s => s.1 = nI k ∧ s.2.1 216 r = (if okk T r k then 0 else -1) ∧ (∀ j, j ≠ r → s.2.1 216 j = μ.1 216 j) ∧ jFr (fun c => c = 216) μ s.2)
    (fun m => m.1 216 r = (if okk T r 5 then 0 else -1) ∧ (∀ j, j ≠ r → m.1 216 j = μ.1 216 j) ∧ jFr (fun c => c = 216) μ m)
    (fun k s hk hs => by
      obtain ⟨u, m⟩ := s
      obtain ⟨hu, g1, g2, g3⟩ := hs
      have hu : u = nI k := hu
      subst hu
      have g1 : m.1 216 r = _ := g1
      have g3 : jFr (fun c => c = 216) μ m := g3
      obtain ⟨v1, v2, v3⟩ := vm_of hv hk
      have pre : ∀ z, (if (if (vm T k).testBit (val r k) = true then (1 : Int32) else 0) = 0 then some (.inl (nI (k + 1), jsi m 216 r (-1))) else some (.inl (nI (k + 1), jsi m 216 r (m.1 216 r)))) = z → f_X12_tries_L18 201 (nI r) (nI k) m = z := fun z hz => by
        unfold f_X12_tries_L18
        rw [jlit 5, if_neg (nI_ge hk (by decide))]
        show jrd (m.1 204) _ _ _ = _
        have hvl := val_lt r k
        rw [jlit 6, nI_add, jrd_n (by omega) (by decide), (hT.fr (g3 204 (by decide)).1).at (by omega), v3, jcl_e (r_valueOf hr hk), f_has (by omega) (by omega), nI_1, jin_n hr (by decide), nI_clamp (by omega), jbd_e]
        rw [← hz]
        by_cases c : (if (vm T k).testBit (val r k) = true then (1 : Int32) else 0) = 0
        · rw [if_pos c, if_pos c]
        · rw [if_neg c, if_neg c]
          show jrd (m.1 216) _ _ _ = _
          rw [jrd_n hr (by decide), jin_n hr (by decide), jbd_e]
      cases q : (vm T k).testBit (val r k) with
      | false =>
        rw [q] at pre
        refine ⟨(nI (k + 1), jsi m 216 r (-1)), pre _ (if_pos rfl), rfl, ?_, fun j hj => ?_, g3.tr (jFr.si _ _ _ rfl)⟩
        · show (jsi m 216 r (-1)).1 216 r = _
          rw [jsi_at, okk_s, q, Bool.and_false, if_neg Bool.false_ne_true]
        · show (jsi m 216 r (-1)).1 216 j = _
          rw [jsi_pl hj]; exact g2 j hj
      | true =>
        rw [q] at pre
        refine ⟨(nI (k + 1), jsi m 216 r (m.1 216 r)), pre _ (if_neg (by decide)), rfl, ?_, fun j hj => ?_, g3.tr (jFr.si _ _ _ rfl)⟩
        · show (jsi m 216 r (m.1 216 r)).1 216 r = _
          rw [jsi_at, okk_s, q, Bool.and_true]; exact g1
        · show (jsi m 216 r (m.1 216 r)).1 216 j = _
          rw [jsi_pl hj]; exact g2 j hj)
    (fun s hs => by
      obtain ⟨u, m⟩ := s
      obtain ⟨hu, g1, g2, g3⟩ := hs
      have hu : u = nI 5 := hu
      subst hu
      refine ⟨m, ?_, g1, g2, g3⟩
      dsimp only
      unfold f_X12_tries_L18
      rw [jlit 5, if_pos (nI_le (Nat.le_refl _) (by decide))])
    (i := 0) (n := jfu) (s := ((0 : Int32), jsi μ 216 r 0)) (by omega) ⟨rfl, jsi_at _ _ _ _, fun j hj => jsi_pl hj, jFr.si _ _ _ rfl⟩ (jfu_lt (by omega))
  have hT1 : RW 0 T m1 := hT.fr (a4 204 (by decide)).1
  have e28 : ∀ m : jM, RW 0 T m → m.1 204 28 = nI (nc T) := fun m hm => by rw [hm.at (by omega)]; exact hv.2.1.2
  have pre : ∀ w z, jloop (fun (s : Int32 × jM) => f_X12_tries_L67 201 (nI r) s.1 s.2) jfu (((0 : Int32), m1)) = some w → some (.inl (nI (r + 1), w)) = z → f_X12_tries_L2 201 (nI r) μ = z := fun w z hw hz => by
    unfold f_X12_tries_L2
    rw [jlit 7776, if_neg (nI_ge hr (by decide)), jin_n hr (by decide), nI_clamp (by omega), jbd_e]
    rw [jcl_e (show jloop (fun (s : Int32 × jM) => f_X12_tries_L18 201 (nI r) s.1 s.2) jfu (((0 : Int32), jsi μ (201 + 15) r 0)) = some m1 from a1), jcl_e hw, nI_1]
    exact hz
  cases q : okk T r 5 with
  | false =>
    rw [q, if_neg Bool.false_ne_true] at a2
    have hx : jloop (fun (s : Int32 × jM) => f_X12_tries_L67 201 (nI r) s.1 s.2) jfu (((0 : Int32), m1)) = some m1 := by
      show jloop _ (1999999 + 1) _ = _
      refine jloop_x ?_
      dsimp only
      unfold f_X12_tries_L67
      show jrd (m1.1 204) _ _ _ = _
      rw [jlit 28, jrd_n (by omega) (by decide), e28 m1 hT1]
      by_cases c : nI (nc T) ≤ (0 : Int32)
      · rw [if_pos c]
      · rw [if_neg c]
        show jrd (m1.1 216) _ _ _ = _
        rw [jrd_n hr (by decide), a2, if_pos (by decide)]
    exact ⟨m1, pre m1 _ hx rfl, Or.inr ⟨q, a2⟩, a3, a4⟩
  | true =>
    rw [q, if_pos rfl] at a2
    obtain ⟨w, hw, h1, h2, h3⟩ := jlpN (step := fun (s : Int32 × jM) => f_X12_tries_L67 201 (nI r) s.1 s.2) (nc T)
      (fun k s => s.1 = nI k ∧ s.2.1 216 r = nI (brI T r k) ∧ (∀ j, j ≠ r → s.2.1 216 j = μ.1 216 j) ∧ jFr (fun c => c = 216) μ s.2)
      (fun m => m.1 216 r = nI (brI T r (nc T)) ∧ (∀ j, j ≠ r → m.1 216 j = μ.1 216 j) ∧ jFr (fun c => c = 216) μ m)
      (fun k s hk hs => by
        obtain ⟨u, m⟩ := s
        obtain ⟨hu, g1, g2, g3⟩ := hs
        have hu : u = nI k := hu
        subst hu
        have g1 : m.1 216 r = nI (brI T r k) := g1
        have g3 : jFr (fun c => c = 216) μ m := g3
        have hTm : RW 0 T m := hT.fr (g3 204 (by decide)).1
        obtain ⟨z, z1, z2, z3⟩ := r_isBroken hTm hv hk hr
        have hl := brI_lt T r k (by omega)
        have hp : 2 ^ k < 256 := Nat.pow_lt_pow_right (n := 8) (by decide) (by omega)
        have ez : nI (brI T r k) ||| (if z = (0 : Int32) then (0 : Int32) else nI (2 ^ k)) = nI (brI T r (k + 1)) := by
          rw [brI_s]
          rcases z2 with y | y
          · have : (pmk T (val r) 5).testBit k = false := by
              cases w : (pmk T (val r) 5).testBit k with
              | false => rfl
              | true =>
                have := z3.mpr ((pmk_b T (val r) k 5).mp w).2
                rw [y] at this
                exact absurd this (by decide)
            rw [y, if_pos rfl, this, if_neg Bool.false_ne_true, jlit 0, nI_or (by omega) (by decide)]
          · have : (pmk T (val r) 5).testBit k = true := (pmk_b T (val r) k 5).mpr ⟨hk, z3.mp y⟩
            rw [y, if_neg (by decide), this, if_pos rfl, nI_or (by omega) (by omega)]
        refine ⟨(nI (k + 1), jsi m 216 r (nI (brI T r (k + 1)))), ?_, rfl, jsi_at _ _ _ _, fun j hj => ?_, g3.tr (jFr.si _ _ _ rfl)⟩
        · dsimp only
          unfold f_X12_tries_L67
          show jrd (m.1 204) _ _ _ = _
          rw [jlit 28, jrd_n (by omega) (by decide), e28 m hTm, if_neg (nI_ge hk (by omega))]
          show jrd (m.1 216) _ _ _ = _
          rw [jrd_n hr (by decide), g1, if_neg (nI_pos (by omega))]
          show jrd (m.1 216) _ _ _ = _
          rw [jrd_n hr (by decide), g1, jcl_e z1, jin_n hr (by decide), nI_clamp (by omega), shl_n k (by omega), ez, jbd_e, nI_1]
        · show (jsi m 216 r _).1 216 j = _
          rw [jsi_pl hj]; exact g2 j hj)
      (fun s hs => by
        obtain ⟨u, m⟩ := s
        obtain ⟨hu, g1, g2, g3⟩ := hs
        have hu : u = nI (nc T) := hu
        subst hu
        have g3 : jFr (fun c => c = 216) μ m := g3
        refine ⟨m, ?_, g1, g2, g3⟩
        dsimp only
        unfold f_X12_tries_L67
        show jrd (m.1 204) _ _ _ = _
        rw [jlit 28, jrd_n (by omega) (by decide), e28 m (hT.fr (g3 204 (by decide)).1), if_pos (nI_le (Nat.le_refl _) (by omega))])
      (i := 0) (n := jfu) (s := ((0 : Int32), m1)) (by omega) ⟨rfl, a2, a3, a4⟩ (jfu_lt (by omega))
    rw [brI_all] at h1
    exact ⟨w, pre w _ hw rfl, Or.inl ⟨q, h1⟩, h2, h3⟩
theorem r_tries {T : TT} {μ : jM} (hT : RW 0 T μ) (hv : VT T) : ∃ m, f_X12_tries 201 μ = some m ∧ (∀ r, r < 7776 → TRI T r (m.1 216 r)) ∧ jFr (fun c => c = 216) μ m := by
  obtain ⟨w, hw, h1, h2⟩ := jlpN (step := fun (s : Int32 × jM) => f_X12_tries_L2 201 s.1 s.2) 7776
    (fun k s => s.1 = nI k ∧ (∀ r, r < k → TRI T r (s.2.1 216 r)) ∧ jFr (fun c => c = 216) μ s.2)
    (fun m => (∀ r, r < 7776 → TRI T r (m.1 216 r)) ∧ jFr (fun c => c = 216) μ m)
    (fun k s hk hs => by
      obtain ⟨u, m⟩ := s
      obtain ⟨hu, g1, g2⟩ := hs
      have hu : u = nI k := hu
      subst hu
      have g2 : jFr (fun c => c = 216) μ m := g2
      obtain ⟨m', b1, b2, b3, b4⟩ := r_tryOne (hT.fr (g2 204 (by decide)).1) hv hk
      refine ⟨(nI (k + 1), m'), b1, rfl, fun r hr => ?_, g2.tr b4⟩
      by_cases c : r = k
      · rw [c]; exact b2
      · show TRI T r (m'.1 216 r)
        rw [b3 r c]; exact g1 r (by omega))
    (fun s hs => by
      obtain ⟨u, m⟩ := s
      obtain ⟨hu, g1, g2⟩ := hs
      have hu : u = nI 7776 := hu
      subst hu
      refine ⟨m, ?_, g1, g2⟩
      dsimp only
      unfold f_X12_tries_L2
      rw [jlit 7776, if_pos (nI_le (Nat.le_refl _) (by decide))])
    (i := 0) (n := jfu) (s := ((0 : Int32), μ)) (by omega) ⟨rfl, fun r hr => absurd hr (Nat.not_lt_zero r), jFr.rf⟩ (jfu_lt (by omega))
  unfold f_X12_tries
  rw [jcl_e hw]
  exact ⟨w, rfl, h1, h2⟩
