/-! rows of values -/
def val (r x : Nat) : Nat := r / 6 ^ (4 - x) % 6
theorem val_lt (r x : Nat) : val r x < 6 := Nat.mod_lt _ (by decide)
def BA (T : TT) (i : Nat) (D : Nat → Nat) (x : Nat) : Prop :=
  (∃ s a b : Nat, s < 3 ∧ a < 5 ∧ b < 5 ∧ T (29 + 4 * i) = nI s ∧ T (29 + (4 * i + 1)) = nI a ∧ T (29 + (4 * i + 2)) = nI b ∧ max a b = x ∧ ¬ hldB s (D a) (D b) (T (29 + (4 * i + 3)))) ∨
  (∃ m : Nat, m < 32 ∧ T (29 + 4 * i) = nI 3 ∧ T (29 + (4 * i + 1)) = nI m ∧ m.testBit x = true ∧ ∃ y, y < x ∧ m.testBit y = true ∧ D y = D x)
theorem BA_two {T : TT} {i x s a b : Nat} {D : Nat → Nat} (hs : s < 3) (ha : a < 5) (hb : b < 5) (e0 : T (29 + 4 * i) = nI s) (e1 : T (29 + (4 * i + 1)) = nI a) (e2 : T (29 + (4 * i + 2)) = nI b) : BA T i D x ↔ max a b = x ∧ ¬ hldB s (D a) (D b) (T (29 + (4 * i + 3))) := by
  constructor
  · rintro (⟨s', a', b', h1, h2, h3, q0, q1, q2, q3, q4⟩ | ⟨m, hm, q0, -⟩)
    · have z0 : s' = s := (nI_eq (by omega) (by omega)).mp (q0.symm.trans e0)
      have z1 : a' = a := (nI_eq (by omega) (by omega)).mp (q1.symm.trans e1)
      have z2 : b' = b := (nI_eq (by omega) (by omega)).mp (q2.symm.trans e2)
      subst z0 z1 z2
      exact ⟨q3, q4⟩
    · have := (nI_eq (by omega) (by omega)).mp (q0.symm.trans e0)
      omega
  · rintro ⟨h1, h2⟩
    exact Or.inl ⟨s, a, b, hs, ha, hb, e0, e1, e2, h1, h2⟩
theorem BA_set {T : TT} {i x m : Nat} {D : Nat → Nat} (hm : m < 32) (e0 : T (29 + 4 * i) = nI 3) (e1 : T (29 + (4 * i + 1)) = nI m) : BA T i D x ↔ m.testBit x = true ∧ ∃ y, y < x ∧ m.testBit y = true ∧ D y = D x := by
  constructor
  · rintro (⟨s', a', b', h1, h2, h3, q0, -⟩ | ⟨m', hm', q0, q1, q2⟩)
    · have := (nI_eq (by omega) (by omega)).mp (q0.symm.trans e0)
      omega
    · have z1 : m' = m := (nI_eq (by omega) (by omega)).mp (q1.symm.trans e1)
      subst z1
      exact q2
  · intro h
    exact Or.inr ⟨m, hm, e0, e1, h⟩
noncomputable def baB (T : TT) (i : Nat) (D : Nat → Nat) (x : Nat) : Bool := @decide (BA T i D x) (Classical.propDecidable _)
theorem baB_iff {T : TT} {i x : Nat} {D : Nat → Nat} : baB T i D x = true ↔ BA T i D x := by
  unfold baB
  exact @decide_eq_true_iff _ (Classical.propDecidable _)
noncomputable def bm (T : TT) (D : Nat → Nat) (x : Nat) : Nat → Nat
  | 0 => 0
  | k + 1 => bm T D x k ||| (if baB T k D x then 2 ^ k else 0)
theorem bm_s (T : TT) (D : Nat → Nat) (x k : Nat) : bm T D x (k + 1) = bm T D x k ||| (if baB T k D x then 2 ^ k else 0) := rfl
theorem bm_b (T : TT) (D : Nat → Nat) (x i : Nat) : ∀ k, (bm T D x k).testBit i = true ↔ i < k ∧ BA T i D x
  | 0 => by
    show (0 : Nat).testBit i = true ↔ _
    rw [Nat.zero_testBit]
    exact ⟨fun h => (by cases h), fun h => absurd h.1 (Nat.not_lt_zero i)⟩
  | k + 1 => by
    rw [bm_s, Nat.testBit_or, Bool.or_eq_true, bm_b T D x i k]
    constructor
    · rintro (⟨h1, h2⟩ | h)
      · exact ⟨by omega, h2⟩
      · cases q : baB T k D x with
        | true =>
          rw [q, if_pos rfl, Nat.testBit_two_pow, decide_eq_true_iff] at h
          rw [← h]
          exact ⟨by omega, baB_iff.mp q⟩
        | false => rw [q, if_neg Bool.false_ne_true, Nat.zero_testBit] at h; cases h
    · rintro ⟨h1, h2⟩
      by_cases c : i = k
      · subst c
        exact Or.inr (by rw [if_pos (baB_iff.mpr h2), Nat.testBit_two_pow]; simp)
      · exact Or.inl ⟨by omega, h2⟩
theorem bm_lt (T : TT) (D : Nat → Nat) (x : Nat) : ∀ k, k ≤ 8 → bm T D x k < 256
  | 0, _ => by show 0 < 256; omega
  | k + 1, h => by
    rw [bm_s]
    refine Nat.or_lt_two_pow (n := 8) (bm_lt T D x k (by omega)) ?_
    split
    · exact Nat.pow_lt_pow_right (by decide) (by omega)
    · decide
/-- what is broken by the first k values -/
noncomputable def pmk (T : TT) (D : Nat → Nat) : Nat → Nat
  | 0 => 0
  | k + 1 => bm T D k (nc T) ||| pmk T D k
theorem pmk_s (T : TT) (D : Nat → Nat) (k : Nat) : pmk T D (k + 1) = bm T D k (nc T) ||| pmk T D k := rfl
theorem pmk_lt {T : TT} (hn : nc T ≤ 8) (D : Nat → Nat) : ∀ k, pmk T D k < 256
  | 0 => by show 0 < 256; omega
  | k + 1 => by rw [pmk_s]; exact Nat.or_lt_two_pow (n := 8) (bm_lt T D k _ hn) (pmk_lt hn D k)
theorem pmk_b (T : TT) (D : Nat → Nat) (i : Nat) : ∀ k, (pmk T D k).testBit i = true ↔ i < nc T ∧ ∃ x, x < k ∧ BA T i D x
  | 0 => by
    show (0 : Nat).testBit i = true ↔ _
    rw [Nat.zero_testBit]
    exact ⟨fun h => (by cases h), fun ⟨_, x, h, _⟩ => absurd h (Nat.not_lt_zero x)⟩
  | k + 1 => by
    rw [pmk_s, Nat.testBit_or, Bool.or_eq_true, bm_b, pmk_b T D i k]
    constructor
    · rintro (⟨h1, h2⟩ | ⟨h1, x, h2, h3⟩)
      · exact ⟨h1, k, by omega, h2⟩
      · exact ⟨h1, x, by omega, h3⟩
    · rintro ⟨h1, x, h2, h3⟩
      by_cases c : x = k
      · rw [c] at h3; exact Or.inl ⟨h1, h3⟩
      · exact Or.inr ⟨h1, x, by omega, h3⟩
theorem BA_congr {T : TT} {i x : Nat} {D D' : Nat → Nat} (hx : x < 5) (h : ∀ y, y ≤ x → D y = D' y) : BA T i D x ↔ BA T i D' x := by
  have one : ∀ D D' : Nat → Nat, (∀ y, y ≤ x → D y = D' y) → BA T i D x → BA T i D' x := by
    intro D D' h
    rintro (⟨s', a', b', h1, h2, h3, q0, q1, q2, q3, q4⟩ | ⟨m', hm', q0, q1, q2, y, y1, y2, y3⟩)
    · refine Or.inl ⟨s', a', b', h1, h2, h3, q0, q1, q2, q3, ?_⟩
      rw [← h a' (by omega), ← h b' (by omega)]
      exact q4
    · exact Or.inr ⟨m', hm', q0, q1, q2, y, y1, y2, by rw [← h y (by omega), ← h x (Nat.le_refl _)]; exact y3⟩
  exact ⟨one D D' h, one D' D (fun y hy => (h y hy).symm)⟩
theorem bm_congr {T : TT} {x : Nat} {D D' : Nat → Nat} (hx : x < 5) (h : ∀ y, y ≤ x → D y = D' y) : ∀ k, bm T D x k = bm T D' x k
  | 0 => rfl
  | k + 1 => by
    have : baB T k D x = baB T k D' x := by
      apply Bool.eq_iff_iff.mpr
      rw [baB_iff, baB_iff]
      exact BA_congr hx h
    rw [bm_s, bm_s, bm_congr hx h k, this]
theorem pmk_congr {T : TT} {D D' : Nat → Nat} : ∀ k, k ≤ 5 → (∀ y, y < k → D y = D' y) → pmk T D k = pmk T D' k
  | 0, _, _ => rfl
  | k + 1, hk, h => by
    rw [pmk_s, pmk_s, pmk_congr k (by omega) (fun y hy => h y (by omega)), bm_congr (by omega) (fun y hy => h y (by omega))]
theorem pmk_mono {T : TT} {D : Nat → Nat} {i : Nat} : ∀ {k k' : Nat}, k ≤ k' → (pmk T D k).testBit i = true → (pmk T D k').testBit i = true := fun {k k'} hk h => by
  obtain ⟨a, x, b, c⟩ := (pmk_b T D i k).mp h
  exact (pmk_b T D i k').mpr ⟨a, x, by omega, c⟩
/-! the reference -/
theorem r_valueOf {r x : Nat} (hr : r < 7776) (hx : x < 5) : f_X12_valueOf (nI r) (nI x) = some (nI (val r x)) := by
  obtain ⟨e, he, hq⟩ := jlpN (step := fun (s : Int32 × Int32) => f_X12_valueOf_L4 (nI x) s.1 s.2) (4 - x) (fun k s => s = (nI (r / 6 ^ k), nI (4 - k))) (fun e => e = nI (r / 6 ^ (4 - x)))
    (fun k s hk hs => by
      subst hs
      refine ⟨(nI (r / 6 ^ (k + 1)), nI (4 - (k + 1))), ?_, rfl⟩
      have hd : r / 6 ^ k ≤ r := Nat.div_le_self _ _
      have e1 : nI (r / 6 ^ k) / (6 : Int32) = nI (r / 6 ^ (k + 1)) := by
        have := pk_div (a := r / 6 ^ k) (d := 6) (by omega) (by decide) (by decide)
        rw [Nat.div_div_eq_div_mul, ← Nat.pow_succ] at this
        exact this
      have e2 : nI (4 - k) + (-1 : Int32) = nI (4 - (k + 1)) := by
        have := pk_m1 (3 - k)
        rw [show 3 - k + 1 = 4 - k by omega] at this
        rw [this]
        congr 1
        omega
      dsimp only
      unfold f_X12_valueOf_L4
      rw [if_neg (nI_ge (by omega) (by omega)), e1, e2])
    (fun s hs => by
      subst hs
      refine ⟨_, ?_, rfl⟩
      dsimp only
      unfold f_X12_valueOf_L4
      rw [if_pos (nI_le (by omega) (by omega))])
    (i := 0) (n := jfu) (s := (nI r, (4 : Int32))) (by omega) (by rw [Nat.pow_zero, Nat.div_one]; rfl) (jfu_lt (by omega))
  unfold f_X12_valueOf
  have hd : r / 6 ^ (4 - x) ≤ r := Nat.div_le_self _ _
  rw [jcl_e he, hq]
  have := pk_rem (a := r / 6 ^ (4 - x)) (d := 6) (by omega) (by decide) (by decide)
  exact congrArg some this
theorem r_isBroken {r i : Nat} {T : TT} {μ : jM} (hT : RW 0 T μ) (hv : VT T) (hi : i < nc T) (hr : r < 7776) : ∃ z, f_X12_isBroken 201 (nI r) (nI i) μ = some z ∧ (z = 0 ∨ z = 1) ∧ (z = 1 ↔ ∃ x, x < 5 ∧ BA T i (val r) x) := by
  have hn := hv.2.1.1
  have rd : ∀ q (z : Option Int32) (K : Int32 → Option Int32), q < 4 → K (T (29 + (4 * i + q))) = z → jrd (μ.1 (201 + 3)) (nI (29 + 4 * i + q)) 2074 K = z := fun q z K hq hz => by
    show jrd (μ.1 204) _ _ _ = _
    rw [jrd_n (by omega) (by decide), hT.at (by omega), show 29 + 4 * i + q = 29 + (4 * i + q) by omega]
    exact hz
  have pre : ∀ z, (if (3 : Int32) ≤ T (29 + 4 * i) then jcl (jloop (fun (s : Int32 × Int32) => f_X12_isBroken_L97 (nI r) (T (29 + (4 * i + 1))) s.1 s.2) jfu (((0 : Int32), (0 : Int32)))) (fun w24 => match w24 with | .inl w24 => some (1 : Int32) | .inr w24 => some (0 : Int32)) else jcl (f_X12_valueOf (nI r) (T (29 + (4 * i + 1)))) (fun v30 => jcl (f_X12_valueOf (nI r) (T (29 + (4 * i + 2)))) (fun v32 => some (((if (f_X12_holds (T (29 + 4 * i)) v30 v32 (T (29 + (4 * i + 3)))) = (0 : Int32) then (1 : Int32) else (0 : Int32))) &&& 1)))) = z → f_X12_isBroken 201 (nI r) (nI i) μ = z := fun z hz => by
    unfold f_X12_isBroken
    have e1 : ∀ q, q < 4 → (29 : Int32) + (4 : Int32) * nI i + nI q = nI (29 + 4 * i + q) := fun q _ => by rw [jlit 29, jlit 4, pk_mul, nI_add, nI_add]
    have e0 : (29 : Int32) + (4 : Int32) * nI i = nI (29 + 4 * i + 0) := by rw [jlit 29, jlit 4, pk_mul, nI_add]; rfl
    have a1 : (29 : Int32) + (4 : Int32) * nI i + (1 : Int32) = nI (29 + 4 * i + 1) := e1 1 (by decide)
    have a2 : (29 : Int32) + (4 : Int32) * nI i + (2 : Int32) = nI (29 + 4 * i + 2) := e1 2 (by decide)
    have a3 : (29 : Int32) + (4 : Int32) * nI i + (3 : Int32) = nI (29 + 4 * i + 3) := e1 3 (by decide)
    rw [a1, a2, a3, e0]
    refine rd 1 _ _ (by decide) ?_
    refine rd 2 _ _ (by decide) ?_
    refine rd 0 _ _ (by decide) ?_
    rw [← hz]
    by_cases c : (3 : Int32) ≤ T (29 + (4 * i + 0))
    · rw [if_pos c, if_pos (by exact c)]
      congr 1
    · rw [if_neg c, if_neg (by exact c)]
      refine rd 0 _ _ (by decide) ?_
      have k : ∀ (o1 o2 : Option Int32), jcl o1 (fun v30 => jcl o2 (fun v32 => jrd (μ.1 (201 + 3)) (nI (29 + 4 * i + 3)) 2074 (fun v35 => some (((if (f_X12_holds (T (29 + (4 * i + 0))) v30 v32 v35) = (0 : Int32) then (1 : Int32) else (0 : Int32))) &&& 1)))) = jcl o1 (fun v30 => jcl o2 (fun v32 => some (((if (f_X12_holds (T (29 + 4 * i)) v30 v32 (T (29 + (4 * i + 3)))) = (0 : Int32) then (1 : Int32) else (0 : Int32))) &&& 1))) := fun o1 o2 => by
        cases o1 with
        | none => rfl
        | some v =>
          cases o2 with
          | none => rfl
          | some w =>
            show jrd (μ.1 (201 + 3)) (nI (29 + 4 * i + 3)) 2074 (fun v35 => some (((if (f_X12_holds (T (29 + (4 * i + 0))) v w v35) = (0 : Int32) then (1 : Int32) else (0 : Int32))) &&& 1)) = _
            exact rd 3 _ _ (by decide) rfl
      exact k _ _
  rcases hv.2.2.2.2.2.2.2 i hi with ⟨s, a, b, hs, e0, ha, hb5, hab, e1, e2, hd⟩ | ⟨e0, m, hm, e1, -, -, -⟩
  · have n3 : ¬ (3 : Int32) ≤ nI s := nI_ge (a := s) (b := 3) hs (by decide)
    have hh := r_holds (v := val r a) (w := val r b) hs (val_lt r a) (val_lt r b) hd
    rw [e0, e1, e2] at pre
    by_cases c : hldB s (val r a) (val r b) (T (29 + (4 * i + 3)))
    · refine ⟨0, pre _ ?_, Or.inl rfl, fun z => absurd z (by decide), ?_⟩
      · rw [if_neg n3, jcl_e (r_valueOf hr ha), jcl_e (r_valueOf hr hb5), if_neg (fun z => (hh.mp z) c)]
        rfl
      · rintro ⟨x, -, hx⟩
        exact absurd c ((BA_two hs ha hb5 e0 e1 e2).mp hx).2
    · refine ⟨1, pre _ ?_, Or.inr rfl, fun _ => ⟨max a b, by omega, (BA_two hs ha hb5 e0 e1 e2).mpr ⟨rfl, c⟩⟩, fun _ => rfl⟩
      rw [if_neg n3, jcl_e (r_valueOf hr ha), jcl_e (r_valueOf hr hb5), if_pos (hh.mpr c)]
      rfl
  · rw [e0, e1] at pre
    obtain ⟨e, he, hr2⟩ := jlp (step := fun (s : Int32 × Int32) => f_X12_isBroken_L97 (nI r) (nI m) s.1 s.2)
      (fun s => ∃ k u, k ≤ 5 ∧ s.1 = nI u ∧ s.2 = nI k ∧ u < 64 ∧ (∀ v, v < 6 → (u.testBit v = true ↔ ∃ y, y < k ∧ m.testBit y = true ∧ val r y = v)) ∧ ∀ x, x < k → m.testBit x = true → ¬ ∃ y, y < x ∧ m.testBit y = true ∧ val r y = val r x)
      (fun s => 5 - s.2.toNatClampNeg)
      (fun e => (e = .inl () ∧ ∃ x, x < 5 ∧ m.testBit x = true ∧ ∃ y, y < x ∧ m.testBit y = true ∧ val r y = val r x) ∨ (e = .inr () ∧ ∀ x, x < 5 → m.testBit x = true → ¬ ∃ y, y < x ∧ m.testBit y = true ∧ val r y = val r x))
      (fun s hs => by
        obtain ⟨s1, s2⟩ := s
        obtain ⟨k, u, hk, hu, hk2, hu64, g1, g2⟩ := hs
        have hu : s1 = nI u := hu
        have hk2 : s2 = nI k := hk2
        subst hu
        subst hk2
        by_cases c5 : k < 5
        · have dec : 5 - (nI (k + 1)).toNatClampNeg < 5 - (nI k).toNatClampNeg := by rw [nI_clamp (by omega), nI_clamp (by omega)]; omega
          have hvl := val_lt r k
          have hp : 2 ^ val r k < 64 := Nat.pow_lt_pow_right (n := 6) (by decide) hvl
          have pre2 : ∀ z, (if (if m.testBit k = true then (1 : Int32) else 0) = 0 then some (.inl ((nI u ||| (if (if m.testBit k = true then (1 : Int32) else 0) = 0 then 0 else nI (2 ^ val r k)), nI (k + 1)))) else (if (if u.testBit (val r k) = true then (1 : Int32) else 0) = 0 then some (.inl ((nI u ||| (if (if m.testBit k = true then (1 : Int32) else 0) = 0 then 0 else nI (2 ^ val r k)), nI (k + 1)))) else some (.inr (.inl ())))) = z → f_X12_isBroken_L97 (nI r) (nI m) (nI u) (nI k) = z := fun z hz => by
            unfold f_X12_isBroken_L97
            simp only [jbd_e]
            rw [jlit 5, if_neg (nI_ge c5 (by decide)), jcl_e (r_valueOf hr c5), f_has (by omega) (by omega), f_has (by omega) (by omega), shl_n _ (by omega), nI_1]
            exact hz
          cases q : m.testBit k with
          | false =>
            rw [q] at pre2
            refine ⟨.inl (nI u, nI (k + 1)), pre2 _ ?_, ⟨k + 1, u, by omega, rfl, rfl, hu64, fun v hv => ?_, fun x hx hb => ?_⟩, dec⟩
            · rw [if_pos (by decide), if_pos (by decide), jlit 0, nI_or (by omega) (by decide), Nat.or_zero]
            · rw [g1 v hv]
              constructor
              · rintro ⟨y, y1, y2, y3⟩; exact ⟨y, by omega, y2, y3⟩
              · rintro ⟨y, y1, y2, y3⟩
                by_cases z : y = k
                · rw [z, q] at y2; cases y2
                · exact ⟨y, by omega, y2, y3⟩
            · by_cases z : x = k
              · rw [z, q] at hb; cases hb
              · exact g2 x (by omega) hb
          | true =>
            rw [q] at pre2
            cases q2 : u.testBit (val r k) with
            | true =>
              rw [q2] at pre2
              obtain ⟨y, y1, y2, y3⟩ := (g1 _ hvl).mp q2
              exact ⟨.inr (.inl ()), pre2 _ (by rw [if_neg (by decide), if_neg (by decide)]), Or.inl ⟨rfl, k, c5, q, y, y1, y2, y3⟩⟩
            | false =>
              rw [q2] at pre2
              refine ⟨.inl (nI (u ||| 2 ^ val r k), nI (k + 1)), pre2 _ ?_, ⟨k + 1, u ||| 2 ^ val r k, by omega, rfl, rfl, Nat.or_lt_two_pow (n := 6) hu64 hp, fun v hv => ?_, fun x hx hb => ?_⟩, dec⟩
              · rw [if_neg (by decide), if_pos (by decide), if_neg (by decide), nI_or (by omega) (by omega)]
              · rw [Nat.testBit_or, Bool.or_eq_true, g1 v hv, Nat.testBit_two_pow, decide_eq_true_iff]
                constructor
                · rintro (⟨y, y1, y2, y3⟩ | z)
                  · exact ⟨y, by omega, y2, y3⟩
                  · exact ⟨k, by omega, q, z⟩
                · rintro ⟨y, y1, y2, y3⟩
                  by_cases z : y = k
                  · rw [z] at y3; exact Or.inr y3
                  · exact Or.inl ⟨y, by omega, y2, y3⟩
              · by_cases z : x = k
                · rw [z]
                  rintro ⟨y, y1, y2, y3⟩
                  have := (g1 _ hvl).mpr ⟨y, y1, y2, y3⟩
                  rw [q2] at this
                  cases this
                · exact g2 x (by omega) hb
        · have : k = 5 := by omega
          subst this
          refine ⟨.inr (.inr ()), ?_, Or.inr ⟨rfl, fun x hx => g2 x hx⟩⟩
          dsimp only
          unfold f_X12_isBroken_L97
          rw [jlit 5, if_pos (nI_le (Nat.le_refl _) (by decide))])
      jfu ((0 : Int32), (0 : Int32)) ⟨0, 0, by omega, rfl, rfl, by omega, fun v hv => ⟨fun z => (by rw [Nat.zero_testBit] at z; cases z), fun ⟨y, y1, _⟩ => absurd y1 (Nat.not_lt_zero y)⟩, fun x hx => absurd hx (Nat.not_lt_zero x)⟩ (by show 5 - _ < 2000000; omega)
    rcases hr2 with ⟨rfl, x, x1, x2, x3⟩ | ⟨rfl, g⟩
    · refine ⟨1, pre _ ?_, Or.inr rfl, fun _ => ⟨x, x1, (BA_set hm e0 e1).mpr ⟨x2, x3⟩⟩, fun _ => rfl⟩
      rw [if_pos (by decide), jcl_e he]
    · refine ⟨0, pre _ ?_, Or.inl rfl, fun z => absurd z (by decide), ?_⟩
      · rw [if_pos (by decide), jcl_e he]
      · rintro ⟨x, x1, x2⟩
        obtain ⟨y1, y2⟩ := (BA_set hm e0 e1).mp x2
        exact absurd y2 (g x x1 y1)
