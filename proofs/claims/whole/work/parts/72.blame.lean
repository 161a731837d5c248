/-! which constraints are to blame -/
noncomputable def blB (T : TT) (R : Nat) (q : Option (Nat × Nat)) : Bool := @decide ((¬ ∃ L, goodL T R (vm T) L ∧ closedL T R L) ∨ ∃ x v L, q = some (x, v) ∧ goodL T R (vm T) L ∧ closedL T R L ∧ (L x).testBit v = false) (Classical.propDecidable _)
theorem blB_iff {T : TT} {R : Nat} {q : Option (Nat × Nat)} : blB T R q = true ↔ (¬ ∃ L, goodL T R (vm T) L ∧ closedL T R L) ∨ ∃ x v L, q = some (x, v) ∧ goodL T R (vm T) L ∧ closedL T R L ∧ (L x).testBit v = false := by
  unfold blB
  exact @decide_eq_true_iff _ (Classical.propDecidable _)
theorem bl_end {T : TT} {R : Nat} {q : Option (Nat × Nat)} {r : Int32} {L : LV} (h : spEnd T R (vm T) r L) (hq : ∀ x v, q = some (x, v) → x < 5) : blB T R q = true ↔ r = 0 ∨ ∃ x v, q = some (x, v) ∧ r = 1 ∧ (L x).testBit v = false := by
  rw [blB_iff]
  rcases h with ⟨rfl, h1, h2⟩ | ⟨rfl, h1⟩
  · constructor
    · rintro (a | ⟨x, v, L', a, b, c, d⟩)
      · exact absurd ⟨L, h1, h2⟩ a
      · refine Or.inr ⟨x, v, a, rfl, ?_⟩
        rw [(spEnd_eq (Or.inl ⟨rfl, h1, h2⟩ : spEnd T R (vm T) 1 L) (Or.inl ⟨rfl, b, c⟩ : spEnd T R (vm T) 1 L')).2 rfl x (hq x v a)]
        exact d
    · rintro (a | ⟨x, v, a, -, d⟩)
      · exact absurd a (by decide)
      · exact Or.inr ⟨x, v, L, a, h1, h2, d⟩
  · refine ⟨fun _ => Or.inl rfl, fun _ => Or.inl ?_⟩
    rintro ⟨L', a, b⟩
    have := (spEnd_eq (Or.inl ⟨rfl, a, b⟩ : spEnd T R (vm T) 1 L') (Or.inr ⟨rfl, h1⟩ : spEnd T R (vm T) 0 L')).1
    exact absurd this (by decide)
theorem bl0 {T : TT} {q : Option (Nat × Nat)} (hv : VT T) (hq : ∀ x v, q = some (x, v) → x < 5 ∧ v < 6 ∧ (vm T x).testBit v = true) : blB T 0 q = false := by
  have hcl : ∀ M, closedL T 0 M := fun M i hi hb => by rw [Nat.zero_testBit] at hb; cases hb
  have hg : goodL T 0 (vm T) (vm T) := ⟨fun x hx => ⟨(vm_of hv hx).1, (vm_of hv hx).2.1⟩, subL.rf _, fun M h _ => h⟩
  cases e : blB T 0 q with
  | false => rfl
  | true =>
    rcases (bl_end (Or.inl ⟨rfl, hg, hcl _⟩ : spEnd T 0 (vm T) 1 (vm T)) (fun x v h => (hq x v h).1)).mp e with a | ⟨x, v, a, -, d⟩
    · exact absurd a (by decide)
    · rw [(hq x v a).2.2] at d; cases d
theorem bl_mono {T : TT} {q : Option (Nat × Nat)} (hq : ∀ x v, q = some (x, v) → x < 5 ∧ v < 6 ∧ (vm T x).testBit v = true) (hn : nc T ≤ 8) (hex : ∀ s, s < 256 → ∃ r L, spEnd T s (vm T) r L) (h : blB T (2 ^ nc T - 1) q = false) : ∀ s, s < 2 ^ nc T → blB T s q = false := by
  intro s hs
  have hp := (pc_full (nc T) (by omega)).2
  obtain ⟨r, L, h1⟩ := hex (2 ^ nc T - 1) (by omega)
  obtain ⟨r', L', h2⟩ := hex s (by omega)
  have e1 := bl_end (q := q) h1 (fun x v h => (hq x v h).1)
  have e2 := bl_end (q := q) h2 (fun x v h => (hq x v h).1)
  have n1 : ¬ (r = 0 ∨ ∃ x v, q = some (x, v) ∧ r = 1 ∧ (L x).testBit v = false) := fun z => by rw [e1.mpr z] at h; cases h
  have g : goodL T (2 ^ nc T - 1) (vm T) L ∧ closedL T (2 ^ nc T - 1) L ∧ r = 1 := by
    rcases h1 with ⟨a, b, c⟩ | ⟨a, -⟩
    · exact ⟨b, c, a⟩
    · exact absurd (Or.inl a) n1
  have b255 : ∀ i, i < 8 → (255 : Nat).testBit i = true := by decide
  have hcl : closedL T s L := fun i hi hb => g.2.1 i hi (by rw [all_bits (nc T) (by omega) i hi]; exact b255 i (by omega))
  cases e : blB T s q with
  | false => rfl
  | true =>
    exfalso
    rcases e2.mp e with z | ⟨x, v, z1, z2, z3⟩
    · rcases h2 with ⟨a, -⟩ | ⟨-, x, hx, hf⟩
      · rw [z] at a; exact absurd a (by decide)
      · obtain ⟨v, v1, v2⟩ := mask0 (L x) (g.1.1 x hx).2 (by have := (g.1.1 x hx).1; omega)
        rw [hf L g.1.2.1 hcl v v1] at v2
        cases v2
    · rcases h2 with ⟨-, b, c⟩ | ⟨a, -⟩
      · have hx := hq x v z1
        have hb : (L x).testBit v = true := by
          cases y : (L x).testBit v with
          | true => rfl
          | false => exact absurd (Or.inr ⟨x, v, z1, g.2.2, y⟩) n1
        rw [b.2.2 L g.1.2.1 hcl x hx.1 v hx.2.1 hb] at z3
        cases z3
      · rw [z2] at a; exact absurd a (by decide)
/-- how the question is put -/
def qC (q : Option (Nat × Nat)) : Int32 × Int32 := match q with
  | none => (-1, -1)
  | some (x, v) => (nI x, nI v)
def qR (q : Option (Nat × Nat)) : Int32 × Int32 := match q with
  | none => (-1, 0)
  | some (x, v) => (nI x, nI v)
theorem c_blamed {σ : SS} {R : Nat} {q : Option (Nat × Nat)} {μ : jM} (hS : RS 5 σ μ) (hv : VS σ) (hR : R < 256) (hq : ∀ x v, q = some (x, v) → x < 5 ∧ v < 6 ∧ (vm (σ.2.1 0) x).testBit v = true) : ∃ m, f_X11_isBlamed 0 (nI R) (qC q).1 (qC q).2 μ = some (if blB (σ.2.1 0) R q then 1 else 0, m) ∧ jFr (fun c => c = 166) μ m := by
  have h0 := hv.2.1 0 (Nat.zero_le _)
  obtain ⟨m1, a1, a2, a3⟩ := c_begin (t := 6) (by omega) hS.2.1 h0
  obtain ⟨r, L, m2, b1, b2, b3, b4⟩ := c_spread (t := 6) (R := R) (by omega) (RT.fc hS.2.1 a3 (fun c q1 q2 q3 => by omega)) h0 hR a2 (vm_pos h0)
  have hbl := bl_end (q := q) b2 (fun x v h => (hq x v h).1)
  refine ⟨m2, ?_, a3.tr b4⟩
  unfold f_X11_isBlamed
  rw [jcl_e (show f_X6_begin (0 + 165) (0 + 6) μ = some m1 from a1), jcl2_e (show f_X6_spread (0 + 165) (0 + 6) (nI R) m1 = some (r, m2) from b1)]
  by_cases cr : r = 0
  · rw [if_pos cr, if_pos (hbl.mpr (Or.inl cr))]
  · have cr1 : r = 1 := by
      rcases b2 with ⟨z, -⟩ | ⟨z, -⟩
      · exact z
      · exact absurd z cr
    rw [if_neg cr]
    cases q with
    | none =>
      have hb0 : blB (σ.2.1 0) R none = false := by
        cases y : blB (σ.2.1 0) R none with
        | false => rfl
        | true =>
          rcases hbl.mp y with a | ⟨x, v, a, -⟩
          · exact absurd a cr
          · cases a
      show (if f_X11_isVariable (-1) = 0 then _ else _) = _
      rw [if_pos (by decide), hb0, if_neg Bool.false_ne_true]
    | some xv =>
      obtain ⟨x, v⟩ := xv
      obtain ⟨hx, hvv, -⟩ := hq x v rfl
      show (if f_X11_isVariable (nI x) = 0 then _ else if f_X11_isValue (nI v) = 0 then _ else jrd (m2.1 166) (nI x) 5 _) = _
      have ex := nI_toInt (n := x) (by omega)
      have ev := nI_toInt (n := v) (by omega)
      obtain ⟨l1, l2⟩ := b3 cr1 x hx
      rw [var_i, if_pos (show 0 ≤ (nI x).toInt ∧ (nI x).toInt < 5 by omega), if_neg (by decide), value_i, if_pos (show 0 ≤ (nI v).toInt ∧ (nI v).toInt < 6 by omega), if_neg (by decide), jrd_n hx (by decide), l1]
      show (if (jushr (nI (L x)) (nI v) &&& 1) = 0 then _ else _) = _
      rw [nI_bit (by omega) (by omega)]
      cases y : (L x).testBit v with
      | false => rw [if_neg Bool.false_ne_true, if_pos rfl, if_pos (hbl.mpr (Or.inr ⟨x, v, rfl, cr1, y⟩))]
      | true =>
        rw [if_pos rfl, if_neg (by decide), if_neg (fun z => by
          rcases hbl.mp z with a | ⟨x', v', a, -, d⟩
          · exact cr a
          · cases a; rw [y] at d; cases d)]
theorem r_blames {σ : SS} {R : Nat} {q : Option (Nat × Nat)} {μ : jM} (hM : RM σ μ) (hv : VS σ) (hR : R < 256) (hq : ∀ x v, q = some (x, v) → x < 5 ∧ v < 6 ∧ (vm (σ.2.1 0) x).testBit v = true) : ∃ m, f_X12_blames 201 (nI R) (qR q).1 (qR q).2 μ = some (if blB (σ.2.1 0) R q then 1 else 0, m) ∧ jFr (fun c => c = 210) μ m := by
  have h0 := hv.2.1 0 (Nat.zero_le _)
  obtain ⟨m1, a1, a2, a3⟩ := r_lays (hM.2.1 0 (Nat.zero_le _)) h0
  obtain ⟨r, L, m2, b1, b2, b3, b4⟩ := r_spread (c := 210) (R := R) (by decide) (by decide) ((hM.2.1 0 (Nat.zero_le _)).fr (a3 204 (by decide)).1) h0 hR a2 (vm_pos h0)
  have hbl := bl_end (q := q) b2 (fun x v h => (hq x v h).1)
  refine ⟨m2, ?_, a3.tr b4⟩
  unfold f_X12_blames
  rw [jcl_e a1, jcl2_e (show f_X12_spreadsBy 201 (201 + 9) (nI R) m1 = some (r, m2) from b1)]
  by_cases cr : r = 0
  · rw [if_pos cr, if_pos (hbl.mpr (Or.inl cr))]
  · have cr1 : r = 1 := by
      rcases b2 with ⟨z, -⟩ | ⟨z, -⟩
      · exact z
      · exact absurd z cr
    rw [if_neg cr]
    cases q with
    | none =>
      have hb0 : blB (σ.2.1 0) R none = false := by
        cases y : blB (σ.2.1 0) R none with
        | false => rfl
        | true =>
          rcases hbl.mp y with a | ⟨x, v, a, -⟩
          · exact absurd a cr
          · cases a
      show (if (-1 : Int32) < 0 then _ else _) = _
      rw [if_pos (by decide), hb0, if_neg Bool.false_ne_true]
    | some xv =>
      obtain ⟨x, v⟩ := xv
      obtain ⟨hx, hvv, -⟩ := hq x v rfl
      show (if nI x < 0 then _ else jrd (m2.1 210) (nI x) 5 _) = _
      obtain ⟨l1, l2⟩ := b3 cr1 x hx
      rw [if_neg (nI_pos (by omega)), jrd_n hx (by decide), l1]
      show (if f_X12_has (nI (L x)) (nI v) = 0 then _ else _) = _
      rw [f_has (by omega) (by omega)]
      cases y : (L x).testBit v with
      | false => rw [if_neg Bool.false_ne_true, if_pos rfl, if_pos (hbl.mpr (Or.inr ⟨x, v, rfl, cr1, y⟩))]
      | true =>
        rw [if_pos rfl, if_neg (by decide), if_neg (fun z => by
          rcases hbl.mp z with a | ⟨x', v', a, -, d⟩
          · exact cr a
          · cases a; rw [y] at d; cases d)]
/-- the fewest -/
def isF (T : TT) (q : Option (Nat × Nat)) (F : Nat) : Prop := blB T F q = true ∧ F < 2 ^ nc T ∧ ∀ s, s < 2 ^ nc T → blB T s q = true → pc F < pc s ∨ (pc F = pc s ∧ F ≤ s)
theorem isF_eq {T : TT} {q : Option (Nat × Nat)} {F F' : Nat} (h : isF T q F) (h' : isF T q F') : F = F' := by
  have a := h.2.2 F' h'.2.1 h'.1
  have b := h'.2.2 F h.2.1 h.1
  omega
theorem c_fewest {σ : SS} {q : Option (Nat × Nat)} {μ : jM} (hS : RS 5 σ μ) (hv : VS σ) (hq : ∀ x v, q = some (x, v) → x < 5 ∧ v < 6 ∧ (vm (σ.2.1 0) x).testBit v = true) : ∃ m, jFr (fun c => c = 166) μ m ∧ ((∃ F, f_X11_fewestBlamed 0 (qC q).1 (qC q).2 μ = some (nI F, m) ∧ isF (σ.2.1 0) q F) ∨ (f_X11_fewestBlamed 0 (qC q).1 (qC q).2 μ = some (0, m) ∧ blB (σ.2.1 0) (2 ^ nc (σ.2.1 0) - 1) q = false)) := by
  have h0 := hv.2.1 0 (Nat.zero_le _)
  have h9 := hv.1
  have hn := h0.2.1.1
  obtain ⟨n1, n2⟩ := all_n (nc (σ.2.1 0)) (by omega)
  have pf := pc_full (nc (σ.2.1 0)) (by omega)
  have p1 : 1 ≤ 2 ^ nc (σ.2.1 0) := Nat.one_le_two_pow
  have ea : f_X11_allConstraints 0 μ = nI (2 ^ nc (σ.2.1 0) - 1) := by
    unfold f_X11_allConstraints
    show ((1 : Int32) <<< (μ.1 6 6 &&& 31)) - 1 = _
    rw [show μ.1 6 6 = nI (nc (σ.2.1 0)) by rw [hS.2.1.2.2.2.2.2.1]; exact h0.2.1.2, n1]
  obtain ⟨m1, a1, a2⟩ := c_blamed hS hv n2 hq
  unfold f_X11_fewestBlamed
  rw [ea, jbd_e, jcl2_e a1]
  cases hb : blB (σ.2.1 0) (2 ^ nc (σ.2.1 0) - 1) q with
  | false =>
    rw [if_neg Bool.false_ne_true, if_pos rfl]
    exact ⟨m1, a2, Or.inr ⟨rfl, rfl⟩⟩
  | true =>
    rw [if_pos rfl, if_neg (by decide)]
    have nz : 1 ≤ 2 ^ nc (σ.2.1 0) - 1 := by
      rcases Nat.eq_zero_or_pos (2 ^ nc (σ.2.1 0) - 1) with z | z
      · rw [z, bl0 h0 hq] at hb; cases hb
      · exact z
    have st0 : ∀ s', s' < 1 → blB (σ.2.1 0) s' q = true → pc (2 ^ nc (σ.2.1 0) - 1) < pc s' ∨ (pc (2 ^ nc (σ.2.1 0) - 1) = pc s' ∧ 2 ^ nc (σ.2.1 0) - 1 ≤ s') := by
      intro s' hs' hb'
      have : s' = 0 := by omega
      rw [this, bl0 h0 hq] at hb'
      cases hb'
    obtain ⟨e, he, F, e1, e2, e3⟩ := jlp (step := fun (s : Int32 × Int32 × jM) => f_X11_fewestBlamed_L23 0 (qC q).1 (qC q).2 (nI (2 ^ nc (σ.2.1 0) - 1)) s.1 s.2.1 s.2.2)
      (fun s => ∃ k F, 1 ≤ k ∧ k ≤ 2 ^ nc (σ.2.1 0) - 1 ∧ s.1 = nI F ∧ s.2.1 = nI k ∧ blB (σ.2.1 0) F q = true ∧ F < 2 ^ nc (σ.2.1 0) ∧ (F = 2 ^ nc (σ.2.1 0) - 1 ∨ F < k) ∧ (∀ s', s' < k → blB (σ.2.1 0) s' q = true → pc F < pc s' ∨ (pc F = pc s' ∧ F ≤ s')) ∧ jFr (fun c => c = 166) μ s.2.2)
      (fun s => 2 ^ nc (σ.2.1 0) - s.2.1.toNatClampNeg)
      (fun e => ∃ F, e.1 = nI F ∧ isF (σ.2.1 0) q F ∧ jFr (fun c => c = 166) μ e.2)
      (fun s hs => by
        obtain ⟨u, v, m⟩ := s
        obtain ⟨k, F, k1, k2, hu, hv1, g1, g2, g3, g4, g5⟩ := hs
        have hu : u = nI F := hu
        have hv1 : v = nI k := hv1
        subst hu
        subst hv1
        have g5 : jFr (fun c => c = 166) μ m := g5
        by_cases ck : k < 2 ^ nc (σ.2.1 0) - 1
        · have dec : 2 ^ nc (σ.2.1 0) - (nI (k + 1)).toNatClampNeg < 2 ^ nc (σ.2.1 0) - (nI k).toNatClampNeg := by rw [nI_clamp (by omega), nI_clamp (by omega)]; omega
          have lF := pc_le F
          have lk := pc_le k
          have pre : ∀ z, (if nI (pc F) ≤ nI (pc k) then some (.inl ((nI F, nI (k + 1), m))) else jcl2 (f_X11_isBlamed 0 (nI k) (qC q).1 (qC q).2 m) (fun v12 m13 => (if v12 = (0 : Int32) then some (.inl ((nI F, nI (k + 1), m13))) else some (.inl ((nI k, nI (k + 1), m13)))))) = z → f_X11_fewestBlamed_L23 0 (qC q).1 (qC q).2 (nI (2 ^ nc (σ.2.1 0) - 1)) (nI F) (nI k) m = z := fun z hz => by
            unfold f_X11_fewestBlamed_L23
            rw [if_neg (nI_ge ck (by omega)), c_bits _ (by omega), c_bits _ (by omega), nI_1]
            exact hz
          have pk := pc_all (nc (σ.2.1 0)) (by omega) k (by omega)
          have pF := pc_all (nc (σ.2.1 0)) (by omega) F g2
          by_cases cp : pc F ≤ pc k
          · refine ⟨.inl (nI F, nI (k + 1), m), pre _ (by rw [if_pos (nI_le cp (by omega))]), ⟨k + 1, F, by omega, by omega, rfl, rfl, g1, g2, by omega, fun s' hs' hb' => ?_, g5⟩, dec⟩
            by_cases z : s' = k
            · rw [z]
              rcases g3 with w | w
              · have : pc F = nc (σ.2.1 0) := by rw [w]; exact pf.1
                have := pk.2 (by omega)
                omega
              · omega
            · exact g4 s' (by omega) hb'
          · obtain ⟨m', b1, b2⟩ := c_blamed (R := k) (q := q) (RS166 hS h9 g5) hv (by omega) hq
            cases hbk : blB (σ.2.1 0) k q with
            | false =>
              rw [hbk, if_neg Bool.false_ne_true] at b1
              refine ⟨.inl (nI F, nI (k + 1), m'), pre _ (by rw [if_neg (nI_ge (by omega) (by omega)), jcl2_e b1, if_pos rfl]), ⟨k + 1, F, by omega, by omega, rfl, rfl, g1, g2, by omega, fun s' hs' hb' => ?_, g5.tr b2⟩, dec⟩
              by_cases z : s' = k
              · rw [z, hbk] at hb'; cases hb'
              · exact g4 s' (by omega) hb'
            | true =>
              rw [hbk, if_pos rfl] at b1
              refine ⟨.inl (nI k, nI (k + 1), m'), pre _ (by rw [if_neg (nI_ge (by omega) (by omega)), jcl2_e b1, if_neg (by decide)]), ⟨k + 1, k, by omega, by omega, rfl, rfl, hbk, by omega, by omega, fun s' hs' hb' => ?_, g5.tr b2⟩, dec⟩
              by_cases z : s' = k
              · rw [z]; exact Or.inr ⟨rfl, Nat.le_refl _⟩
              · have := g4 s' (by omega) hb'; omega
        · refine ⟨.inr (nI F, m), ?_, F, rfl, ⟨g1, g2, fun s' hs' hb' => ?_⟩, g5⟩
          · dsimp only
            unfold f_X11_fewestBlamed_L23
            rw [if_pos (nI_le (by omega) (by omega))]
          · by_cases z : s' < k
            · exact g4 s' z hb'
            · have zs : s' = 2 ^ nc (σ.2.1 0) - 1 := by omega
              have pF := pc_all (nc (σ.2.1 0)) (by omega) F g2
              rw [zs, pf.1]
              omega)
      jfu (nI (2 ^ nc (σ.2.1 0) - 1), (1 : Int32), m1) ⟨1, 2 ^ nc (σ.2.1 0) - 1, Nat.le_refl _, nz, rfl, rfl, hb, by omega, Or.inl rfl, st0, a2⟩ (by show 2 ^ nc (σ.2.1 0) - _ < 2000000; omega)
    refine ⟨e.2, e3, Or.inl ⟨F, ?_, e2⟩⟩
    rw [jcl_e he, e1]
theorem r_fewest {σ : SS} {q : Option (Nat × Nat)} {μ : jM} (hM : RM σ μ) (hv : VS σ) (hq : ∀ x v, q = some (x, v) → x < 5 ∧ v < 6 ∧ (vm (σ.2.1 0) x).testBit v = true) : ∃ m, jFr (fun c => c = 210) μ m ∧ ((∃ F, f_X12_fewest 201 (qR q).1 (qR q).2 μ = jbd (jsi m 201 1 (0 : Int32)) (fun m31 => jcl (f_X12_enters 201 (nI (pc F)).toInt64 m31) (fun m33 => some ((nI F, m33)))) ∧ isF (σ.2.1 0) q F) ∨ (f_X12_fewest 201 (qR q).1 (qR q).2 μ = some (-2, m) ∧ ∀ s, s < 2 ^ nc (σ.2.1 0) → blB (σ.2.1 0) s q = false)) := by
  have h0 := hv.2.1 0 (Nat.zero_le _)
  have hn := h0.2.1.1
  obtain ⟨n1, n2⟩ := all_n (nc (σ.2.1 0)) (by omega)
  have pf := pc_full (nc (σ.2.1 0)) (by omega)
  have p1 : 1 ≤ 2 ^ nc (σ.2.1 0) := Nat.one_le_two_pow
  -- one number of constraints
  have inner : ∀ (nn : Nat) (m : jM), nn ≤ 8 → jFr (fun c => c = 210) μ m → ∃ e, jloop (fun (s : Int32 × jM) => f_X12_fewest_L25 201 (qR q).1 (qR q).2 (nI (2 ^ nc (σ.2.1 0) - 1)) (nI nn) s.1 s.2) jfu (((0 : Int32), m)) = some e ∧ ((∃ F m', e = .inl (nI F, m') ∧ blB (σ.2.1 0) F q = true ∧ F < 2 ^ nc (σ.2.1 0) ∧ pc F = nn ∧ (∀ s, s < F → pc s = nn → blB (σ.2.1 0) s q = false) ∧ jFr (fun c => c = 210) μ m') ∨ ∃ m', e = .inr m' ∧ (∀ s, s < 2 ^ nc (σ.2.1 0) → pc s = nn → blB (σ.2.1 0) s q = false) ∧ jFr (fun c => c = 210) μ m') := by
    intro nn m hnn hf
    refine jlp (step := fun (s : Int32 × jM) => f_X12_fewest_L25 201 (qR q).1 (qR q).2 (nI (2 ^ nc (σ.2.1 0) - 1)) (nI nn) s.1 s.2)
      (I := fun s => ∃ k, k ≤ 2 ^ nc (σ.2.1 0) ∧ s.1 = nI k ∧ (∀ s', s' < k → pc s' = nn → blB (σ.2.1 0) s' q = false) ∧ jFr (fun c => c = 210) μ s.2)
      (m := fun s => 2 ^ nc (σ.2.1 0) - s.1.toNatClampNeg)
      (R := fun e => (∃ F m', e = .inl (nI F, m') ∧ blB (σ.2.1 0) F q = true ∧ F < 2 ^ nc (σ.2.1 0) ∧ pc F = nn ∧ (∀ s, s < F → pc s = nn → blB (σ.2.1 0) s q = false) ∧ jFr (fun c => c = 210) μ m') ∨ ∃ m', e = .inr m' ∧ (∀ s, s < 2 ^ nc (σ.2.1 0) → pc s = nn → blB (σ.2.1 0) s q = false) ∧ jFr (fun c => c = 210) μ m')
      ?_ jfu ((0 : Int32), m) ⟨0, by omega, rfl, fun s' hs' => absurd hs' (Nat.not_lt_zero s'), hf⟩ (by show 2 ^ nc (σ.2.1 0) - _ < 2000000; omega)
    rintro ⟨u, m⟩ ⟨k, k1, hu, g1, g2⟩
    have hu : u = nI k := hu
    subst hu
    have g2 : jFr (fun c => c = 210) μ m := g2
    by_cases ck : k < 2 ^ nc (σ.2.1 0)
    · have dec : 2 ^ nc (σ.2.1 0) - (nI (k + 1)).toNatClampNeg < 2 ^ nc (σ.2.1 0) - (nI k).toNatClampNeg := by rw [nI_clamp (by omega), nI_clamp (by omega)]; omega
      have lk := pc_le k
      have pre : ∀ z, (if nI (pc k) = nI nn then jcl2 (f_X12_blames 201 (nI k) (qR q).1 (qR q).2 m) (fun v15 m16 => (if v15 = (0 : Int32) then some (.inl ((nI (k + 1), m16))) else some (.inr (.inl ((nI k, m16)))))) else some (.inl ((nI (k + 1), m)))) = z → f_X12_fewest_L25 201 (qR q).1 (qR q).2 (nI (2 ^ nc (σ.2.1 0) - 1)) (nI nn) (nI k) m = z := fun z hz => by
        unfold f_X12_fewest_L25
        rw [if_neg (nI_nlt (by omega) (by omega)), jcl_e (r_bits (by omega)), nI_1]
        exact hz
      by_cases cp : pc k = nn
      · obtain ⟨m', b1, b2⟩ := r_blames (R := k) (q := q) (RM210 hM g2) hv (by omega) hq
        cases hbk : blB (σ.2.1 0) k q with
        | false =>
          rw [hbk, if_neg Bool.false_ne_true] at b1
          refine ⟨.inl (nI (k + 1), m'), pre _ (by rw [if_pos (by rw [cp]), jcl2_e b1, if_pos rfl]), ⟨k + 1, by omega, rfl, fun s' hs' hp => ?_, g2.tr b2⟩, dec⟩
          by_cases z : s' = k
          · rw [z]; exact hbk
          · exact g1 s' (by omega) hp
        | true =>
          rw [hbk, if_pos rfl] at b1
          exact ⟨.inr (.inl (nI k, m')), pre _ (by rw [if_pos (by rw [cp]), jcl2_e b1, if_neg (by decide)]), Or.inl ⟨k, m', rfl, hbk, ck, cp, g1, g2.tr b2⟩⟩
      · refine ⟨.inl (nI (k + 1), m), pre _ (by rw [if_neg (fun z => cp ((nI_eq (by omega) (by omega)).mp z))]), ⟨k + 1, by omega, rfl, fun s' hs' hp => ?_, g2⟩, dec⟩
        by_cases z : s' = k
        · rw [z] at hp; exact absurd hp cp
        · exact g1 s' (by omega) hp
    · have : k = 2 ^ nc (σ.2.1 0) := by omega
      subst this
      refine ⟨.inr (.inr m), ?_, Or.inr ⟨m, rfl, g1, g2⟩⟩
      dsimp only
      unfold f_X12_fewest_L25
      rw [if_pos (nI_lt (by omega) (by omega))]
  obtain ⟨e, he, hr⟩ := jlp (step := fun (s : Int32 × jM) => f_X12_fewest_L15 201 (qR q).1 (qR q).2 (nI (2 ^ nc (σ.2.1 0) - 1)) s.1 s.2)
    (fun s => ∃ k, k ≤ 9 ∧ s.1 = nI k ∧ (∀ s', s' < 2 ^ nc (σ.2.1 0) → pc s' < k → blB (σ.2.1 0) s' q = false) ∧ jFr (fun c => c = 210) μ s.2)
    (fun s => 9 - s.1.toNatClampNeg)
    (fun e => (∃ F m', e = .inl (nI (pc F), nI F, m') ∧ isF (σ.2.1 0) q F ∧ jFr (fun c => c = 210) μ m') ∨ ∃ m', e = .inr m' ∧ (∀ s, s < 2 ^ nc (σ.2.1 0) → blB (σ.2.1 0) s q = false) ∧ jFr (fun c => c = 210) μ m')
    (fun s hs => by
      obtain ⟨u, m⟩ := s
      obtain ⟨k, k1, hu, g1, g2⟩ := hs
      have hu : u = nI k := hu
      subst hu
      by_cases ck : k ≤ 8
      · obtain ⟨e, he, hr⟩ := inner k m ck g2
        have pre : ∀ z, (match (generalizing := false) e with | .inl w19 => some (.inr (.inl ((nI k, w19.1, w19.2)))) | .inr w19 => some (.inl ((nI k + (1 : Int32), w19)))) = z → f_X12_fewest_L15 201 (qR q).1 (qR q).2 (nI (2 ^ nc (σ.2.1 0) - 1)) (nI k) m = z := fun z hz => by
          unfold f_X12_fewest_L15
          rw [jlit 8, if_neg (nI_nlt (by omega) (by omega)), jcl_e he]
          exact hz
        rcases hr with ⟨F, m', rfl, b1, b2, b3, b4, b5⟩ | ⟨m', rfl, b1, b2⟩
        · refine ⟨.inr (.inl (nI k, nI F, m')), pre _ rfl, Or.inl ⟨F, m', by rw [b3], ⟨b1, b2, fun s' hs' hb' => ?_⟩, b5⟩⟩
          rcases Nat.lt_trichotomy (pc s') k with z | z | z
          · rw [g1 s' hs' z] at hb'; cases hb'
          · rcases Nat.lt_or_ge s' F with y | y
            · rw [b4 s' y z] at hb'; cases hb'
            · omega
          · omega
        · refine ⟨.inl (nI k + 1, m'), pre _ rfl, ⟨k + 1, by omega, by show nI k + 1 = _; rw [nI_1], fun s' hs' hp => ?_, b2⟩, ?_⟩
          · by_cases z : pc s' = k
            · exact b1 s' hs' z
            · exact g1 s' hs' (by omega)
          · show 9 - (nI k + 1).toNatClampNeg < 9 - (nI k).toNatClampNeg
            rw [nI_1, nI_clamp (by omega), nI_clamp (by omega)]; omega
      · have : k = 9 := by omega
        subst this
        refine ⟨.inr (.inr m), ?_, Or.inr ⟨m, rfl, fun s' hs' => g1 s' hs' (by have := (pc_all (nc (σ.2.1 0)) (by omega) s' hs').1; omega), g2⟩⟩
        dsimp only
        unfold f_X12_fewest_L15
        rw [jlit 8, if_pos (nI_lt (by omega) (by omega))])
    jfu ((0 : Int32), μ) ⟨0, by omega, rfl, fun s' _ hp => absurd hp (Nat.not_lt_zero _), jFr.rf⟩ (by show 9 - _ < 2000000; omega)
  have e28 : μ.1 204 28 = nI (nc (σ.2.1 0)) := by rw [hM.at (by omega)]; exact h0.2.1.2
  have pre : f_X12_fewest 201 (qR q).1 (qR q).2 μ = (match (generalizing := false) e with | .inl w25 => jbd (jsi w25.2.2 201 1 (0 : Int32)) (fun m31 => jcl (f_X12_enters 201 w25.1.toInt64 m31) (fun m33 => some ((w25.2.1, m33)))) | .inr w25 => some (((-2 : Int32), w25))) := by
    unfold f_X12_fewest
    show jrd (μ.1 204) _ _ _ = _
    rw [jlit 28, jrd_n (by omega) (by decide), e28, n1, jbd_e, jcl_e he]
    cases e <;> rfl
  rcases hr with ⟨F, m', rfl, b1, b2⟩ | ⟨m', rfl, b1, b2⟩
  · exact ⟨m', b2, Or.inl ⟨F, pre, b1⟩⟩
  · exact ⟨m', b2, Or.inr ⟨pre, b1⟩⟩
theorem sim_blame {μ : jM} {q : Option (Nat × Nat)} {fa fr : jM → Option (Int32 × jM)} (h : Rel μ) {σ : SS} (hv : VS σ) (hS : RS 5 σ μ) (hM : RM σ μ) (hq : ∀ x v, q = some (x, v) → x < 5 ∧ v < 6 ∧ (vm (σ.2.1 0) x).testBit v = true)
    (hfa : fa μ = jcl2 (f_X11_fewestBlamed 0 (qC q).1 (qC q).2 μ) (fun v1 m2 => f_X11_tellBlamed 0 v1 m2)) (hfr : ∀ m, RM σ (jsi m 201 0 0) → fr m = f_X12_fewest 201 (qR q).1 (qR q).2 (jsi m 201 0 0)) :
    ∃ r μ1 μ2, fa μ = some (r, μ1) ∧ fr μ1 = some (r, μ2) ∧ Rel μ2 := by
  have h0 := hv.2.1 0 (Nat.zero_le _)
  have h9 := hv.1
  have hn := h0.2.1.1
  have hp := (pc_full (nc (σ.2.1 0)) (by omega)).2
  obtain ⟨m1, a1, a2⟩ := c_fewest hS hv hq
  have hS1 := RS166 hS h9 a1
  rcases a2 with ⟨F, b1, b2⟩ | ⟨b1, b2⟩
  · have F0 : F ≠ 0 := fun z => by
      have := b2.1
      rw [z, bl0 h0 hq] at this
      cases this
    have F256 : F < 256 := by have := b2.2.1; omega
    obtain ⟨m2, c1, c2, c3⟩ := c_only m1 (nI (pc F)).toInt64
    have FF : CFr μ m2 := (CF166 a1).r.tr (CFr.row c3)
    have hS2 : RS 5 σ m2 := hS1.fc h9 c3 (fun c q z => by obtain ⟨q1, q2⟩ := q; omega)
    have hM2 : RM σ (jsi m2 201 0 0) := (hM.fc FF).thr (by decide)
    obtain ⟨m3, d1, d2⟩ := r_fewest (q := q) hM2 hv hq
    have hM3 := RM210 hM2 d1
    obtain ⟨m4, g1, g2, g3, g4⟩ := r_enters (r_told0 m3) (by decide) (nI (pc F)).toInt64
    rcases d2 with ⟨F', e1, e2⟩ | ⟨-, e2⟩
    · have : F' = F := isF_eq e2 b2
      subst this
      refine ⟨nI F', m2, m4, ?_, ?_, rel_row h hv hS2 FF ((hM3.thr (k := 1) (by decide)).fr (g4 9 (by decide)) (g3 204 (by decide)).1 (g3 205 (by decide)).1 (g3 206 (by decide)).1) ((((RCr.thr (by decide)).tr (RC210 d1).r).tr (RCr.thr (by decide))).tr (RCr.ent g3 g4)) c2 g2 (by show 1 ≤ 22; omega)⟩
      · rw [hfa, jcl2_e b1]
        unfold f_X11_tellBlamed
        rw [if_neg (nI_ne0 (by omega) (by omega)), c_bits _ F256]
        exact jcl_e c1
      · rw [hfr m2 hM2, e1, jbd_e, jcl_e g1]
    · have := b2.1
      rw [e2 F b2.2.1] at this
      cases this
  · have hM2 : RM σ (jsi m1 201 0 0) := (hM.fc (CF166 a1).r).thr (by decide)
    obtain ⟨m3, d1, d2⟩ := r_fewest (q := q) hM2 hv hq
    have hex : ∀ s, s < 256 → ∃ r L, spEnd (σ.2.1 0) s (vm (σ.2.1 0)) r L := fun s hs => by
      obtain ⟨n1, x1, x2, x3⟩ := c_begin (t := 6) (by omega) hS.2.1 h0
      obtain ⟨r, L, m2, y1, y2, y3, y4⟩ := c_spread (t := 6) (R := s) (by omega) (RT.fc hS.2.1 x3 (fun c q1 q2 q3 => by omega)) h0 hs x2 (vm_pos h0)
      exact ⟨r, L, y2⟩
    have hno := bl_mono hq hn hex b2
    rcases d2 with ⟨F', -, e2⟩ | ⟨e1, -⟩
    · have := e2.1
      rw [hno F' e2.2.1] at this
      cases this
    · refine ⟨-2, m1, m3, ?_, ?_, rel_mk h hv hS1 (CF166 a1) (RM210 hM2 d1) ((RC.thr (by decide)).tr (RC210 d1))⟩
      · rw [hfa, jcl2_e b1]
        unfold f_X11_tellBlamed
        rw [if_pos rfl]
      · rw [hfr m1 hM2, e1]
theorem sim_culprits {μ : jM} (h : Rel μ) : ∃ r μ1 μ2, f_X11_culprits 0 μ = some (r, μ1) ∧ f_X12_culprits 201 μ1 = some (r, μ2) ∧ Rel μ2 := by
  obtain ⟨⟨σ, hv, hS, hM⟩, -⟩ := id h
  refine sim_blame (q := none) (fa := f_X11_culprits 0) (fr := f_X12_culprits 201) h hv hS hM (fun x v z => by cases z) ?_ (fun m _ => ?_)
  · unfold f_X11_culprits
    simp only [jcl2_id]
    rfl
  · unfold f_X12_culprits
    simp only [jcl2_id, jbd_e]
    rfl
theorem sim_why {μ : jM} (h : Rel μ) (x y : Int32) : ∃ r μ1 μ2, f_X11_why 0 x y μ = some (r, μ1) ∧ f_X12_why 201 x y μ1 = some (r, μ2) ∧ Rel μ2 := by
  obtain ⟨⟨σ, hv, hS, hM⟩, -⟩ := id h
  have h0 := hv.2.1 0 (Nat.zero_le _)
  by_cases c : (0 ≤ x.toInt ∧ x.toInt < 5) ∧ (0 ≤ y.toInt ∧ y.toInt < 6)
  · have c0 := c
    obtain ⟨i, hi, rfl⟩ := nI_iof (n := 5) c.1 (by decide)
    obtain ⟨v, hvl, rfl⟩ := nI_iof (n := 6) c.2 (by decide)
    obtain ⟨m0, m64, em⟩ := vm_of h0 hi
    have cl : ∀ z, (if (if (vm (σ.2.1 0) i).testBit v = true then (1 : Int32) else 0) = 0 then some (((-3 : Int32), μ)) else jcl2 (f_X11_fewestBlamed 0 (nI i) (nI v) μ) (fun v6 m7 => f_X11_tellBlamed 0 v6 m7)) = z → f_X11_why 0 (nI i) (nI v) μ = z := fun z hz => by
      unfold f_X11_why
      rw [var_i, if_pos c0.1, if_neg (by decide), value_i, if_pos c0.2, if_neg (by decide), jcl_e (show f_X9_hasValue (0 + 6) (nI i) (nI v) μ = _ from c_hasV hS.2.1 hi hvl m64 em)]
      simp only [jcl2_id]
      exact hz
    have rl : ∀ (μ1 : jM) z, RM σ (jsi μ1 201 0 0) → (if (if (vm (σ.2.1 0) i).testBit v = true then (1 : Int32) else 0) = 0 then some (((-3 : Int32), jsi μ1 201 0 0)) else f_X12_fewest 201 (nI i) (nI v) (jsi μ1 201 0 0)) = z → f_X12_why 201 (nI i) (nI v) μ1 = z := fun μ1 z hM1 hz => by
      unfold f_X12_why
      rw [jbd_e, rvar_i, if_pos c0.1, if_neg (by decide), rvalue_i, if_pos c0.2, if_neg (by decide)]
      show jrd ((jsi μ1 201 0 (0 : Int32)).1 204) _ _ _ = _
      rw [jlit 6, nI_add, jrd_n (by omega) (by decide), hM1.at (by omega), em, f_has (by omega) (by omega), jcl2_id]
      exact hz
    cases q : (vm (σ.2.1 0) i).testBit v with
    | false =>
      rw [q] at cl rl
      exact ⟨-3, μ, jsi μ 201 0 0, cl _ (if_pos rfl), rl μ _ (hM.thr (by decide)) (if_pos rfl), sim_thr h⟩
    | true =>
      rw [q] at cl rl
      exact sim_blame (q := some (i, v)) (fa := f_X11_why 0 (nI i) (nI v)) (fr := f_X12_why 201 (nI i) (nI v)) h hv hS hM (fun x' v' z => by cases z; exact ⟨hi, hvl, q⟩) (cl _ (if_neg (by decide))) (fun m hm => rl m _ hm (if_neg (by decide)))
  · refine ⟨-1, μ, jsi μ 201 0 0, ?_, ?_, sim_thr h⟩
    · unfold f_X11_why
      rw [var_i, value_i]
      by_cases c1 : 0 ≤ x.toInt ∧ x.toInt < 5
      · rw [if_pos c1, if_neg (fun q => c ⟨c1, q⟩), if_neg (by decide), if_pos (by decide)]
      · rw [if_neg c1, if_pos (by decide)]
    · unfold f_X12_why
      rw [jbd_e, rvar_i, rvalue_i]
      by_cases c1 : 0 ≤ x.toInt ∧ x.toInt < 5
      · rw [if_pos c1, if_neg (fun q => c ⟨c1, q⟩), if_neg (by decide), if_pos (by decide)]
      · rw [if_neg c1, if_pos (by decide)]
