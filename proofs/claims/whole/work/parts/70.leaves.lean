/-! questions of a spreading -/
noncomputable def okq (T : TT) (R : Nat) (L0 : LV) : Bool := @decide (∃ L, goodL T R L0 L ∧ closedL T R L) (Classical.propDecidable _)
theorem okq_iff {T : TT} {R : Nat} {L0 : LV} : okq T R L0 = true ↔ ∃ L, goodL T R L0 L ∧ closedL T R L := by
  unfold okq
  exact @decide_eq_true_iff _ (Classical.propDecidable _)
theorem spEnd_ok {T : TT} {R : Nat} {L0 L : LV} {r : Int32} (h : spEnd T R L0 r L) : r = if okq T R L0 then 1 else 0 := by
  rcases h with ⟨rfl, h1, h2⟩ | ⟨rfl, h1⟩
  · rw [if_pos (okq_iff.mpr ⟨L, h1, h2⟩)]
  · rw [if_neg]
    intro q
    obtain ⟨L', a, b⟩ := okq_iff.mp q
    have := (spEnd_eq (Or.inl ⟨rfl, a, b⟩ : spEnd T R L0 1 L') (Or.inr ⟨rfl, h1⟩ : spEnd T R L0 0 L')).1
    exact absurd this (by decide)
theorem closed_R {T : TT} {R R' : Nat} (h : ∀ i, i < nc T → R.testBit i = R'.testBit i) (L : LV) : closedL T R L ↔ closedL T R' L :=
  ⟨fun q i hi hb => q i hi (by rw [h i hi]; exact hb), fun q i hi hb => q i hi (by rw [← h i hi]; exact hb)⟩
theorem spEnd_R {T : TT} {R R' : Nat} {L0 L : LV} {r : Int32} (h : ∀ i, i < nc T → R.testBit i = R'.testBit i) (hs : spEnd T R L0 r L) : spEnd T R' L0 r L := by
  rcases hs with ⟨h1, ⟨a, b, c⟩, h2⟩ | ⟨h1, x, hx, h2⟩
  · exact Or.inl ⟨h1, ⟨a, b, fun M q1 q2 => c M q1 ((closed_R h M).mpr q2)⟩, (closed_R h L).mp h2⟩
  · exact Or.inr ⟨h1, x, hx, fun M q1 q2 => h2 M q1 ((closed_R h M).mpr q2)⟩
theorem all_bits : ∀ n, n < 9 → ∀ i, i < n → (2 ^ n - 1).testBit i = (255 : Nat).testBit i := by decide +kernel
theorem all_n : ∀ n, n < 9 → ((1 : Int32) <<< (nI n &&& 31)) - (1 : Int32) = nI (2 ^ n - 1) ∧ 2 ^ n - 1 < 256 := by decide +kernel
def fixL (T : TT) (x v : Nat) : LV := va_up (vm T) x (2 ^ v)
theorem fixL_pos {T : TT} (hv : VT T) {x v : Nat} : ∀ y, y < 5 → 0 < fixL T x v y := fun y hy => by
  unfold fixL
  by_cases c : y = x
  · rw [c, va_up_self]; exact Nat.two_pow_pos v
  · rw [va_up_ne _ _ c]; exact vm_pos hv y hy
theorem c_bearsQ {σ : SS} {x v : Nat} {μ : jM} (hS : RS 5 σ μ) (hv : VS σ) (hx : x < 5) (hvv : v < 6) : ∃ r L m, f_X11_bears 0 (nI x) (nI v) μ = some (r, m) ∧ spEnd (σ.2.1 0) 255 (fixL (σ.2.1 0) x v) r L ∧ (r = 1 → RLm 166 L m) ∧ jFr (fun q => q = 166) μ m := by
  have h0 := hv.2.1 0 (Nat.zero_le _)
  have hn := h0.2.1.1
  have p64 : 2 ^ v < 64 := Nat.pow_lt_pow_right (n := 6) (by decide) hvv
  obtain ⟨m1, a1, a2, a3⟩ := c_begin (t := 6) (by omega) hS.2.1 h0
  have hL1 : RLm 166 (fixL (σ.2.1 0) x v) (jsi m1 166 x (nI (2 ^ v))) := a2.up p64
  have f1 : jFr (fun q => q = 166) μ (jsi m1 166 x (nI (2 ^ v))) := a3.tr (jFr.si _ _ _ rfl)
  have hT : RT 6 (σ.2.1 0) (jsi m1 166 x (nI (2 ^ v))) := RT.fc hS.2.1 f1 (fun c q1 q2 q3 => by omega)
  obtain ⟨n1, n2⟩ := all_n (nc (σ.2.1 0)) (by omega)
  obtain ⟨r, L, m2, b1, b2, b3, b4⟩ := c_spread (t := 6) (R := 2 ^ nc (σ.2.1 0) - 1) (by omega) hT h0 n2 hL1 (fixL_pos h0)
  have b2' := spEnd_R (R' := 255) (all_bits (nc (σ.2.1 0)) (by omega)) b2
  refine ⟨r, L, m2, ?_, b2', b3, f1.tr b4⟩
  unfold f_X11_bears
  have e6 : (jsi m1 166 x (nI (2 ^ v))).1 6 6 = nI (nc (σ.2.1 0)) := by rw [hT.2.2.2.2.2.1]; exact h0.2.1.2
  have a1' : f_X6_begin (0 + 165) (0 + 6) μ = some m1 := a1
  rw [jcl_e a1', jin_n hx (by decide), nI_clamp (by omega), shl_n v (by omega), jbd_e]
  show jcl2 (f_X6_spread 165 6 (f_X11_allConstraints 0 (jsi m1 166 x (nI (2 ^ v)))) _) _ = _
  have ea : f_X11_allConstraints 0 (jsi m1 166 x (nI (2 ^ v))) = nI (2 ^ nc (σ.2.1 0) - 1) := by
    unfold f_X11_allConstraints
    show ((1 : Int32) <<< ((jsi m1 166 x (nI (2 ^ v))).1 6 6 &&& 31)) - 1 = _
    rw [e6, n1]
  rw [ea, jcl2_e b1]
  rcases b2 with ⟨rfl, -⟩ | ⟨rfl, -⟩
  · rfl
  · rfl
theorem r_bearsQ {σ : SS} {x v : Nat} {m : jM} (hM : RM σ m) (hv : VS σ) (hx : x < 5) (hvv : v < 6) (K : Int32 → jM → Option (Int32 × jM)) : ∃ r L m', jcl (f_X12_lays 201 m) (fun m9 => jin (nI x) 5 (jbd (jsi m9 (201 + 9) (nI x).toNatClampNeg ((1 : Int32) <<< (nI v &&& 31))) (fun m12 => jcl2 (f_X12_spreadsBy 201 (201 + 9) (255 : Int32) m12) (fun v14 m15 => K v14 m15)))) = K r m' ∧ spEnd (σ.2.1 0) 255 (fixL (σ.2.1 0) x v) r L ∧ (r = 1 → RLm 210 L m') ∧ jFr (fun q => q = 210) m m' := by
  have h0 := hv.2.1 0 (Nat.zero_le _)
  have p64 : 2 ^ v < 64 := Nat.pow_lt_pow_right (n := 6) (by decide) hvv
  obtain ⟨m1, a1, a2, a3⟩ := r_lays (hM.2.1 0 (Nat.zero_le _)) h0
  have hL1 : RLm 210 (fixL (σ.2.1 0) x v) (jsi m1 210 x (nI (2 ^ v))) := a2.up p64
  have f1 : jFr (fun q => q = 210) m (jsi m1 210 x (nI (2 ^ v))) := a3.tr (jFr.si _ _ _ rfl)
  obtain ⟨r, L, m2, b1, b2, b3, b4⟩ := r_spread (c := 210) (R := 255) (by decide) (by decide) ((hM.2.1 0 (Nat.zero_le _)).fr (f1 204 (by decide)).1) h0 (by decide) hL1 (fixL_pos h0)
  refine ⟨r, L, m2, ?_, b2, b3, f1.tr b4⟩
  rw [jcl_e a1, jin_n hx (by decide), nI_clamp (by omega), shl_n v (by omega), jbd_e]
  rw [jcl2_e (show f_X12_spreadsBy 201 (201 + 9) (255 : Int32) (jsi m1 (201 + 9) x (nI (2 ^ v))) = some (r, m2) from b1)]
def row5 (f : Nat → Int32) : List Int64 := (List.range 5).map (fun k => (f k).toInt64)
theorem row5_len (f : Nat → Int32) : (row5 f).length = 5 := by unfold row5; rw [List.length_map, List.length_range]
theorem rowk_s (f : Nat → Int32) (l : List Int64) (k : Nat) : l ++ (List.range (k + 1)).map (fun k => (f k).toInt64) = (l ++ (List.range k).map (fun k => (f k).toInt64)) ++ [(f k).toInt64] := by
  rw [List.range_succ, List.map_append, List.append_assoc]
  rfl
theorem c_tellAll {c : Nat} {f : Nat → Int32} {l : List Int64} {μ : jM} (hc : jlen c = 5) (hc3 : c ≠ 3) (hc4 : c ≠ 4) (hf : ∀ k, k < 5 → μ.1 c k = f k) (hl : RwC l μ) (hl17 : l.length ≤ 17) : ∃ μ', f_X3_tellAll 3 c μ = some μ' ∧ RwC (l ++ row5 f) μ' ∧ jFr (fun c => c = 3 ∨ c = 4) μ μ' := by
  obtain ⟨w, hw, h1, h2⟩ := jlpN (step := fun (s : Int32 × jM) => f_X3_tellAll_L8 3 c s.1 s.2) 5
    (fun k s => s.1 = nI k ∧ RwC (l ++ (List.range k).map (fun k => (f k).toInt64)) s.2 ∧ jFr (fun c => c = 3 ∨ c = 4) μ s.2)
    (fun m => RwC (l ++ row5 f) m ∧ jFr (fun c => c = 3 ∨ c = 4) μ m)
    (fun k s hk hs => by
      obtain ⟨u, m⟩ := s
      obtain ⟨hu, g1, g2⟩ := hs
      have hu : u = nI k := hu
      subst hu
      have g2 : jFr (fun c => c = 3 ∨ c = 4) μ m := g2
      obtain ⟨m', b1, b2, b3⟩ := c_tellR g1 (by rw [List.length_append, List.length_map, List.length_range]; omega) (f k).toInt64
      refine ⟨(nI (k + 1), m'), ?_, rfl, by rw [rowk_s]; exact b2, g2.tr b3⟩
      dsimp only
      unfold f_X3_tellAll_L8
      rw [hc, if_neg (nI_ge hk (by decide)), jrd_n hk (by decide), (g2 c (by omega)).1, hf k hk, jcl_e b1, nI_1])
    (fun s hs => by
      obtain ⟨u, m⟩ := s
      obtain ⟨hu, g1, g2⟩ := hs
      have hu : u = nI 5 := hu
      subst hu
      refine ⟨m, ?_, g1, g2⟩
      dsimp only
      unfold f_X3_tellAll_L8
      rw [hc, if_pos (nI_le (Nat.le_refl _) (by decide))])
    (i := 0) (n := jfu) (s := ((0 : Int32), μ)) (by omega) ⟨rfl, by simpa using hl, jFr.rf⟩ (jfu_lt (by omega))
  unfold f_X3_tellAll
  rw [jcl_e hw]
  exact ⟨w, rfl, h1, h2⟩
theorem r_enterL {σ : SS} {f : Nat → Int32} {l : List Int64} {μ : jM} (hf : ∀ k, k < 5 → μ.1 210 k = f k) (hl : RwR l μ) (hl17 : l.length ≤ 17) (hM : RM σ μ) : ∃ w, jloop (fun (s : Int32 × jM) => f_X12_leaves_L77 201 s.1 s.2) jfu (((0 : Int32), μ)) = some w ∧ RwR (l ++ row5 f) w ∧ RM σ w ∧ RCr μ w ∧ w.1 210 = μ.1 210 := by
  obtain ⟨w, hw, h1, h2, h3, h4⟩ := jlpN (step := fun (s : Int32 × jM) => f_X12_leaves_L77 201 s.1 s.2) 5
    (fun k s => s.1 = nI k ∧ RwR (l ++ (List.range k).map (fun k => (f k).toInt64)) s.2 ∧ RM σ s.2 ∧ RCr μ s.2 ∧ s.2.1 210 = μ.1 210)
    (fun m => RwR (l ++ row5 f) m ∧ RM σ m ∧ RCr μ m ∧ m.1 210 = μ.1 210)
    (fun k s hk hs => by
      obtain ⟨u, m⟩ := s
      obtain ⟨hu, g1, g2, g3, g4⟩ := hs
      have hu : u = nI k := hu
      subst hu
      have g2 : RM σ m := g2
      have g4 : m.1 210 = μ.1 210 := g4
      obtain ⟨m', b1, b2, b3, b4⟩ := r_enters g1 (by rw [List.length_append, List.length_map, List.length_range]; omega) (f k).toInt64
      refine ⟨(nI (k + 1), m'), ?_, rfl, by rw [rowk_s]; exact b2, g2.fr (b4 9 (by decide)) (b3 204 (by decide)).1 (b3 205 (by decide)).1 (b3 206 (by decide)).1, RCr.tr g3 (RCr.ent b3 b4), (b3 210 (by decide)).1.trans g4⟩
      dsimp only
      unfold f_X12_leaves_L77
      rw [jlit 5, if_neg (nI_ge hk (by decide))]
      show jrd (m.1 210) _ _ _ = _
      rw [jrd_n hk (by decide), g4, hf k hk, jcl_e b1, nI_1])
    (fun s hs => by
      obtain ⟨u, m⟩ := s
      obtain ⟨hu, g1, g2, g3, g4⟩ := hs
      have hu : u = nI 5 := hu
      subst hu
      refine ⟨m, ?_, g1, g2, g3, g4⟩
      dsimp only
      unfold f_X12_leaves_L77
      rw [jlit 5, if_pos (nI_le (Nat.le_refl _) (by decide))])
    (i := 0) (n := jfu) (s := ((0 : Int32), μ)) (by omega) ⟨rfl, by simpa using hl, hM, RCr.rf, rfl⟩ (jfu_lt (by omega))
  exact ⟨w, hw, h1, h2, h3, h4⟩
theorem RC210 {m m' : jM} (f : jFr (fun q => q = 210) m m') : RC m m' := ⟨f.mono (fun c hc => by omega), MF.of (f 204 (by decide)).1, fun k _ => by rw [(f 201 (by decide)).1]⟩
theorem RM210 {σ : SS} {m m' : jM} (h : RM σ m) (f : jFr (fun q => q = 210) m m') : RM σ m' := h.fr (by rw [(f 201 (by decide)).1]) (f 204 (by decide)).1 (f 205 (by decide)).1 (f 206 (by decide)).1
theorem CF166 {m m' : jM} (f : jFr (fun q => q = 166) m m') : CF m m' := f.mono (fun c hc => by unfold CFs; omega)
theorem RS166 {σ : SS} {m m' : jM} (h : RS 5 σ m) (h9 : σ.1 ≤ 9) (f : jFr (fun q => q = 166) m m') : RS 5 σ m' := h.fc h9 f (fun c q z => by obtain ⟨q1, q2⟩ := q; omega)
theorem sim_leaves {μ : jM} (h : Rel μ) (x y : Int32) : ∃ r μ1 μ2, f_X11_leaves 0 x y μ = some (r, μ1) ∧ f_X12_leaves 201 x y μ1 = some (r, μ2) ∧ Rel μ2 := by
  obtain ⟨⟨σ, hv, hS, hM⟩, -⟩ := id h
  have h0 := hv.2.1 0 (Nat.zero_le _)
  have h9 := hv.1
  by_cases c : (0 ≤ x.toInt ∧ x.toInt < 5) ∧ (0 ≤ y.toInt ∧ y.toInt < 6)
  · have c0 := c
    obtain ⟨i, hi, rfl⟩ := nI_iof (n := 5) c.1 (by decide)
    obtain ⟨v, hvl, rfl⟩ := nI_iof (n := 6) c.2 (by decide)
    obtain ⟨m0, m64, em⟩ := vm_of h0 hi
    have cl : ∀ z, (if (if (vm (σ.2.1 0) i).testBit v = true then (1 : Int32) else 0) = 0 then some (((-2 : Int32), μ)) else jcl2 (f_X11_bears 0 (nI i) (nI v) μ) (fun v6 m7 => (if v6 = (0 : Int32) then some (((-3 : Int32), m7)) else jbd (f_X3_empty 3 m7) (fun m10 => jcl (f_X3_tellAll 3 166 m10) (fun m12 => jcl (f_X6_valuesLeft 165 m12) (fun v14 => some ((v14, m12)))))))) = z → f_X11_leaves 0 (nI i) (nI v) μ = z := fun z hz => by
      unfold f_X11_leaves
      rw [var_i, if_pos c0.1, if_neg (by decide), value_i, if_pos c0.2, if_neg (by decide), jcl_e (show f_X9_hasValue (0 + 6) (nI i) (nI v) μ = _ from c_hasV hS.2.1 hi hvl m64 em)]
      exact hz
    have rl : ∀ (μ1 : jM) z, RM σ (jsi μ1 201 0 0) → (if (if (vm (σ.2.1 0) i).testBit v = true then (1 : Int32) else 0) = 0 then some (((-2 : Int32), jsi μ1 201 0 0)) else jcl (f_X12_lays 201 (jsi μ1 201 0 0)) (fun m9 => jin (nI i) 5 (jbd (jsi m9 (201 + 9) (nI i).toNatClampNeg ((1 : Int32) <<< (nI v &&& 31))) (fun m12 => jcl2 (f_X12_spreadsBy 201 (201 + 9) (255 : Int32) m12) (fun v14 m15 => (if v14 = (0 : Int32) then some (((-3 : Int32), m15)) else jbd (jsi m15 201 1 (0 : Int32)) (fun m18 => jcl (jloop (fun (s : Int32 × jM) => f_X12_leaves_L77 201 s.1 s.2) jfu (((0 : Int32), m18))) (fun w28 => jcl (f_X12_sumOf (201 + 9) w28) (fun v32 => some ((v32, w28)))))))))))  = z → f_X12_leaves 201 (nI i) (nI v) μ1 = z := fun μ1 z hM1 hz => by
      unfold f_X12_leaves
      rw [jbd_e, rvar_i, if_pos c0.1, if_neg (by decide), rvalue_i, if_pos c0.2, if_neg (by decide)]
      show jrd ((jsi μ1 201 0 (0 : Int32)).1 204) _ _ _ = _
      rw [jlit 6, nI_add, jrd_n (by omega) (by decide), hM1.at (by omega), em, f_has (by omega) (by omega)]
      exact hz
    cases q : (vm (σ.2.1 0) i).testBit v with
    | false =>
      rw [q] at cl rl
      exact ⟨-2, μ, jsi μ 201 0 0, cl _ (if_pos rfl), rl μ _ (hM.thr (by decide)) (if_pos rfl), sim_thr h⟩
    | true =>
      rw [q] at cl rl
      obtain ⟨r, L, m1, a1, a2, a3, a4⟩ := c_bearsQ hS hv hi hvl
      have hS1 := RS166 hS h9 a4
      by_cases cr : r = 0
      · have hM1 : RM σ (jsi m1 201 0 0) := (hM.fc (CF166 a4).r).thr (by decide)
        obtain ⟨r', L', m2, b1, b2, b3, b4⟩ := r_bearsQ hM1 hv hi hvl (fun v14 m15 => (if v14 = (0 : Int32) then some (((-3 : Int32), m15)) else jbd (jsi m15 201 1 (0 : Int32)) (fun m18 => jcl (jloop (fun (s : Int32 × jM) => f_X12_leaves_L77 201 s.1 s.2) jfu (((0 : Int32), m18))) (fun w28 => jcl (f_X12_sumOf (201 + 9) w28) (fun v32 => some ((v32, w28)))))))
        have er := (spEnd_eq a2 b2).1
        refine ⟨-3, m1, m2, cl _ ?_, rl m1 _ hM1 ?_, rel_mk h hv hS1 (CF166 a4) (RM210 hM1 b4) ((RC.thr (by decide)).tr (RC210 b4))⟩
        · rw [if_neg (by decide), jcl2_e a1, if_pos cr]
        · rw [if_neg (by decide), b1, ← er, if_pos cr]
      · have cr1 : r = 1 := by
          rcases a2 with ⟨z, -⟩ | ⟨z, -⟩
          · exact z
          · exact absurd z cr
        have hL := a3 cr1
        obtain ⟨w1, w2⟩ := c_empty m1
        have hE : ∀ k, k < 5 → (f_X3_empty 3 m1).1 166 k = nI (L k) := fun k hk => by rw [(w2 166 (by decide)).1]; exact (hL k hk).1
        obtain ⟨m2, d1, d2, d3⟩ := c_tellAll (f := fun k => nI (L k)) (show jlen 166 = 5 by decide) (by decide) (by decide) hE w1 (by show 0 ≤ 17; omega)
        have hL2 : RLm 166 L m2 := fun x hx => by rw [(d3 166 (by decide)).1, hE x hx]; exact ⟨rfl, (hL x hx).2⟩
        have F : CFr μ m2 := ((CF166 a4).r.tr (CFr.row w2)).tr (CFr.row d3)
        have hS2 : RS 5 σ m2 := (hS1.fc h9 w2 (fun c q z => by obtain ⟨q1, q2⟩ := q; omega)).fc h9 d3 (fun c q z => by obtain ⟨q1, q2⟩ := q; omega)
        have hM1 : RM σ (jsi m2 201 0 0) := (hM.fc F).thr (by decide)
        obtain ⟨r', L', m3, b1, b2, b3, b4⟩ := r_bearsQ hM1 hv hi hvl (fun v14 m15 => (if v14 = (0 : Int32) then some (((-3 : Int32), m15)) else jbd (jsi m15 201 1 (0 : Int32)) (fun m18 => jcl (jloop (fun (s : Int32 × jM) => f_X12_leaves_L77 201 s.1 s.2) jfu (((0 : Int32), m18))) (fun w28 => jcl (f_X12_sumOf (201 + 9) w28) (fun v32 => some ((v32, w28)))))))
        obtain ⟨er, eL⟩ := spEnd_eq a2 b2
        have hL3 : RLm 210 L m3 := fun x hx => by
          have := b3 (er.symm.trans cr1) x hx
          rw [← eL cr1 x hx] at this
          exact this
        have hM3 := RM210 hM1 b4
        obtain ⟨m4, g1, g2, g3, g4, g5⟩ := r_enterL (σ := σ) (f := fun k => nI (L k)) (l := []) (μ := jsi m3 201 1 0) (fun k hk => by rw [jsi_ne (by decide)]; exact (hL3 k hk).1) (r_told0 m3) (by show 0 ≤ 17; omega) (hM3.thr (by decide))
        have hL4 : RLm 210 L m4 := fun x hx => by rw [g5, jsi_ne (by decide)]; exact hL3 x hx
        refine ⟨nI (totL L 5), m2, m4, cl _ ?_, rl m2 _ hM1 ?_, rel_row h hv hS2 F g3 ((((RCr.thr (by decide)).tr (RC210 b4).r).tr (RCr.thr (by decide))).tr g4) d2 g2 (by rw [List.nil_append, row5_len]; omega)⟩
        · rw [if_neg (by decide), jcl2_e a1, if_neg cr, jbd_e, jcl_e d1, jcl_e (sum_vals hL2)]
        · rw [if_neg (by decide), b1, ← er, if_neg cr, jbd_e, jcl_e g1, jcl_e (show f_X12_sumOf (201 + 9) m4 = _ from r_sumOf hL4)]
  · refine ⟨-1, μ, jsi μ 201 0 0, ?_, ?_, sim_thr h⟩
    · unfold f_X11_leaves
      rw [var_i, value_i]
      by_cases c1 : 0 ≤ x.toInt ∧ x.toInt < 5
      · rw [if_pos c1, if_neg (fun q => c ⟨c1, q⟩), if_neg (by decide), if_pos (by decide)]
      · rw [if_neg c1, if_pos (by decide)]
    · unfold f_X12_leaves
      rw [jbd_e, rvar_i, rvalue_i]
      by_cases c1 : 0 ≤ x.toInt ∧ x.toInt < 5
      · rw [if_pos c1, if_neg (fun q => c ⟨c1, q⟩), if_neg (by decide), if_pos (by decide)]
      · rw [if_neg c1, if_pos (by decide)]
