/-! shadows -/
def shP (X r : Nat) : Nat → Nat
  | 0 => 0
  | k + 1 => if X.testBit k then 6 * shP X r k + val r k else shP X r k
theorem shP_s (X r k : Nat) : shP X r (k + 1) = if X.testBit k then 6 * shP X r k + val r k else shP X r k := rfl
theorem shP_lt (X r : Nat) : ∀ k, shP X r k < 6 ^ cnt (fun i => X.testBit i) k
  | 0 => by show 0 < 1; omega
  | k + 1 => by
    have := shP_lt X r k
    have hv := val_lt r k
    rw [shP_s, cnt_s]
    cases X.testBit k with
    | false => exact this
    | true =>
      rw [if_pos rfl, if_pos rfl, Nat.pow_succ]
      omega
theorem pc_pos : ∀ X, X < 32 → X ≠ 0 → 0 < pc X := by decide +kernel
theorem shP_k (X r k : Nat) (hk : k ≤ 5) : shP X r k < 7776 := by
  have h1 := shP_lt X r k
  have h2 : cnt (fun i => X.testBit i) k ≤ 5 := by
    have : ∀ k, cnt (fun i => X.testBit i) k ≤ k := fun k => by
      induction k with
      | zero => exact Nat.le_refl _
      | succ k ih =>
        rw [cnt_s]
        split <;> omega
    have := this k
    omega
  have : 6 ^ cnt (fun i => X.testBit i) k ≤ 6 ^ 5 := Nat.pow_le_pow_right (by decide) h2
  omega
theorem shP_216 {X : Nat} (hX : X < 32) (h3 : pc X ≤ 3) (r : Nat) : shP X r 5 < 216 := by
  have h1 := shP_lt X r 5
  rw [← pc_cnt5 X hX] at h1
  have : 6 ^ pc X ≤ 6 ^ 3 := Nat.pow_le_pow_right (by decide) h3
  omega
theorem c_shadow {X r : Nat} {m : jM} (hX : X < 32) (hat : ∀ x, x < 5 → m.1 168 x = nI (val r x)) : f_X11_shadowOfSolution 0 (nI X) m = some (nI (shP X r 5)) := by
  obtain ⟨w, hw, h1⟩ := jlpN (step := fun (z : Int32 × Int32) => f_X11_shadowOfSolution_L4 0 (nI X) m z.1 z.2) 5
    (fun k z => z.1 = nI (shP X r k) ∧ z.2 = nI k) (fun w => w = nI (shP X r 5))
    (fun k z hk hz => by
      obtain ⟨u, v⟩ := z
      obtain ⟨hu, hv⟩ := hz
      have hu : u = nI (shP X r k) := hu
      have hv : v = nI k := hv
      subst hu
      subst hv
      refine ⟨(nI (shP X r (k + 1)), nI (k + 1)), ?_, rfl, rfl⟩
      dsimp only
      unfold f_X11_shadowOfSolution_L4
      rw [jlit 5, if_neg (nI_ge hk (by decide)), nI_bit (by omega) (by omega)]
      show (if _ then jrd (m.1 168) _ _ _ else _) = _
      rw [jrd_n hk (by decide), hat k hk, jbd_e, nI_1, shP_s]
      cases X.testBit k with
      | false => rw [if_neg Bool.false_ne_true, if_neg Bool.false_ne_true, if_neg (by decide)]
      | true => rw [if_pos rfl, if_pos rfl, if_pos rfl, jlit 6, nI_mulx, nI_add])
    (fun z hz => by
      obtain ⟨u, v⟩ := z
      obtain ⟨hu, hv⟩ := hz
      have hv : v = nI 5 := hv
      subst hv
      refine ⟨u, ?_, hu⟩
      dsimp only
      unfold f_X11_shadowOfSolution_L4
      rw [jlit 5, if_pos (nI_le (Nat.le_refl _) (by decide))])
    (i := 0) (n := jfu) (s := ((0 : Int32), (0 : Int32))) (by omega) ⟨rfl, rfl⟩ (jfu_lt (by omega))
  unfold f_X11_shadowOfSolution
  rw [jcl_e hw, h1]
theorem r_shadow {X r : Nat} (hX : X < 32) (hr : r < 7776) : jloop (fun (s : Int32 × Int32) => f_X12_shadows_L67 (nI X) (nI r) s.1 s.2) jfu (((0 : Int32), (0 : Int32))) = some (nI (shP X r 5)) := by
  obtain ⟨w, hw, h1⟩ := jlpN (step := fun (z : Int32 × Int32) => f_X12_shadows_L67 (nI X) (nI r) z.1 z.2) 5
    (fun k z => z.1 = nI (shP X r k) ∧ z.2 = nI k) (fun w => w = nI (shP X r 5))
    (fun k z hk hz => by
      obtain ⟨u, v⟩ := z
      obtain ⟨hu, hv⟩ := hz
      have hu : u = nI (shP X r k) := hu
      have hv : v = nI k := hv
      subst hu
      subst hv
      refine ⟨(nI (shP X r (k + 1)), nI (k + 1)), ?_, rfl, rfl⟩
      dsimp only
      unfold f_X12_shadows_L67
      rw [jlit 5, if_neg (nI_ge hk (by decide)), f_has (by omega) (by omega), jcl_e (r_valueOf hr hk), jbd_e, nI_1, shP_s]
      cases X.testBit k with
      | false => rw [if_neg Bool.false_ne_true, if_neg Bool.false_ne_true, if_pos rfl]
      | true => rw [if_pos rfl, if_pos rfl, if_neg (by decide), jlit 6, nI_mulx, nI_add])
    (fun z hz => by
      obtain ⟨u, v⟩ := z
      obtain ⟨hu, hv⟩ := hz
      have hv : v = nI 5 := hv
      subst hv
      refine ⟨u, ?_, hu⟩
      dsimp only
      unfold f_X12_shadows_L67
      rw [jlit 5, if_pos (nI_le (Nat.le_refl _) (by decide))])
    (i := 0) (n := jfu) (s := ((0 : Int32), (0 : Int32))) (by omega) ⟨rfl, rfl⟩ (jfu_lt (by omega))
  rw [hw, h1]
/-- the most of the first k -/
def mo (t : Nat → Nat) : Nat → Nat
  | 0 => 0
  | k + 1 => if t k ≤ t (mo t k) then mo t k else k
theorem mo_s (t : Nat → Nat) (k : Nat) : mo t (k + 1) = if t k ≤ t (mo t k) then mo t k else k := rfl
theorem mo_le (t : Nat → Nat) : ∀ k, mo t k ≤ k
  | 0 => Nat.le_refl _
  | k + 1 => by
    have := mo_le t k
    rw [mo_s]
    split <;> omega
theorem mo_lt (t : Nat → Nat) : ∀ k, mo t (k + 1) < k + 1
  | 0 => by
    rw [mo_s]
    split
    · show 0 < 1; omega
    · omega
  | k + 1 => by
    have := mo_lt t k
    rw [mo_s]
    split <;> omega
def ct (t : Nat → Nat) : Nat → Nat := cnt (fun i => decide (0 < t i))
theorem ct_s (t : Nat → Nat) (k : Nat) : ct t (k + 1) = ct t k + (if 0 < t k then 1 else 0) := by
  unfold ct
  rw [cnt_s]
  by_cases c : 0 < t k
  · rw [if_pos c, if_pos (decide_eq_true c)]
  · rw [if_neg c, if_neg (by rw [decide_eq_false c]; decide)]
theorem ct_le (t : Nat → Nat) : ∀ k, ct t k ≤ k
  | 0 => Nat.le_refl _
  | k + 1 => by
    have := ct_le t k
    rw [ct_s]
    split <;> omega
theorem mo_ct {t : Nat → Nat} {a : Nat} (h : ∀ i, a ≤ i → t i = 0) : ∀ j, mo t (a + j) = mo t a ∧ ct t (a + j) = ct t a
  | 0 => ⟨rfl, rfl⟩
  | j + 1 => by
    obtain ⟨h1, h2⟩ := mo_ct h j
    have z := h (a + j) (by omega)
    refine ⟨?_, ?_⟩
    · rw [show a + (j + 1) = a + j + 1 from rfl, mo_s, z, if_pos (Nat.zero_le _)]; exact h1
    · rw [show a + (j + 1) = a + j + 1 from rfl, ct_s, z, if_neg (Nat.lt_irrefl _)]; exact h2
def dg (s d : Int32) : Int64 := ((s / d) - (s / d) / (6 : Int32) * (6 : Int32)).toInt64
def dgl (V : Nat) (s : Int32) (k : Nat) : List Int64 := (List.range k).map (fun i => dg s (nI (6 ^ (V - 1 - i))))
theorem dgl_s (V : Nat) (s : Int32) (k : Nat) : dgl V s (k + 1) = dgl V s k ++ [dg s (nI (6 ^ (V - 1 - k)))] := by
  unfold dgl
  rw [List.range_succ, List.map_append]; rfl
theorem dgl_len (V : Nat) (s : Int32) (k : Nat) : (dgl V s k).length = k := by
  unfold dgl
  rw [List.length_map, List.length_range]
theorem sd_6 : ∀ j, j < 3 → jmax (1 : Int32) (nI (6 ^ j) / (6 : Int32)) = nI (6 ^ (j - 1)) := by decide +kernel
theorem sd_m : ∀ j, j < 3 → nI j + (-1 : Int32) = (if 0 < j then nI (j - 1) else -1) ∧ ¬ nI j < (0 : Int32) ∧ ¬ nI (6 ^ j) = (0 : Int32) ∧ (if nI j = (2 : Int32) then (36 : Int32) else if nI j = (1 : Int32) then 6 else 1) = nI (6 ^ j) := by decide +kernel
theorem c_tellShadow {V : Nat} {s : Int32} {l : List Int64} {m : jM} (hV : 0 < V) (hV3 : V ≤ 3) (hl : l.length ≤ 1) (hw : RwC l m) : ∃ w, f_X11_tellShadow 0 s (nI V) m = some w ∧ RwC (l ++ dgl V s V) w ∧ jFr (fun c => c = 3 ∨ c = 4) m w := by
  obtain ⟨w, hw1, h1⟩ := jlpN (step := fun (z : Int32 × Int32) => f_X11_tellShadow_L5 (nI V) z.1 z.2) V
    (fun k z => 0 < k ∧ z.1 = nI (6 ^ (k - 1)) ∧ z.2 = nI k) (fun w => w = nI (6 ^ (V - 1)))
    (fun k z hk hz => by
      obtain ⟨u, v⟩ := z
      obtain ⟨hk0, hu, hv⟩ := hz
      have hu : u = nI (6 ^ (k - 1)) := hu
      have hv : v = nI k := hv
      subst hu
      subst hv
      refine ⟨(nI (6 ^ (k + 1 - 1)), nI (k + 1)), ?_, by omega, rfl, rfl⟩
      dsimp only
      unfold f_X11_tellShadow_L5
      rw [if_neg (nI_ge hk (by omega)), jlit 6, nI_mulx, nI_1, ← Nat.pow_succ, show (k - 1).succ = k + 1 - 1 by omega])
    (fun z hz => by
      obtain ⟨u, v⟩ := z
      obtain ⟨hk0, hu, hv⟩ := hz
      have hv : v = nI V := hv
      subst hv
      refine ⟨u, ?_, hu⟩
      dsimp only
      unfold f_X11_tellShadow_L5
      rw [if_pos (nI_le (Nat.le_refl _) (by omega))])
    (i := 1) (n := jfu) (s := ((1 : Int32), (1 : Int32))) (by omega) ⟨by omega, rfl, rfl⟩ (jfu_lt (by omega))
  obtain ⟨w', hw2, h2, h3⟩ := jlpN (step := fun (z : Int32 × Int32 × jM) => f_X11_tellShadow_L25 0 s (nI V) z.1 z.2.1 z.2.2) V
    (fun k z => z.1 = nI (6 ^ (V - 1 - k)) ∧ z.2.1 = nI k ∧ RwC (l ++ dgl V s k) z.2.2 ∧ jFr (fun c => c = 3 ∨ c = 4) m z.2.2)
    (fun w => RwC (l ++ dgl V s V) w ∧ jFr (fun c => c = 3 ∨ c = 4) m w)
    (fun k z hk hz => by
      obtain ⟨u, v, mm⟩ := z
      obtain ⟨hu, hv, g1, g2⟩ := hz
      have hu : u = nI (6 ^ (V - 1 - k)) := hu
      have hv : v = nI k := hv
      subst hu
      subst hv
      have g1 : RwC (l ++ dgl V s k) mm := g1
      have g2 : jFr (fun c => c = 3 ∨ c = 4) m mm := g2
      obtain ⟨q1, q2, q3, q4⟩ := sd_m (V - 1 - k) (by omega)
      obtain ⟨m2, d1, d2, d3⟩ := c_tellR g1 (by rw [List.length_append, dgl_len]; omega) (dg s (nI (6 ^ (V - 1 - k))))
      refine ⟨(nI (6 ^ (V - 1 - (k + 1))), nI (k + 1), m2), ?_, rfl, rfl, by rw [dgl_s, ← List.append_assoc]; exact d2, g2.tr d3⟩
      dsimp only
      unfold f_X11_tellShadow_L25
      rw [if_neg (nI_ge hk (by omega))]
      unfold jnz
      unfold dg at d1
      rw [if_neg q3, jcl_e (show f_X3_tell (0 + 3) _ mm = some m2 from d1), jbd_e, sd_6 _ (by omega), nI_1, show V - 1 - (k + 1) = V - 1 - k - 1 by omega])
    (fun z hz => by
      obtain ⟨u, v, mm⟩ := z
      obtain ⟨hu, hv, g1, g2⟩ := hz
      have hv : v = nI V := hv
      subst hv
      refine ⟨mm, ?_, g1, g2⟩
      dsimp only
      unfold f_X11_tellShadow_L25
      rw [if_pos (nI_le (Nat.le_refl _) (by omega))])
    (i := 0) (n := jfu) (s := (nI (6 ^ (V - 1)), (0 : Int32), m)) (by omega) ⟨rfl, rfl, by simpa [dgl] using hw, jFr.rf⟩ (jfu_lt (by omega))
  unfold f_X11_tellShadow
  rw [jcl_e hw1, h1, jcl_e hw2]
  exact ⟨w', rfl, h2, h3⟩
theorem r_tellShadow {V : Nat} {s : Int32} {l : List Int64} {m : jM} (hV : 0 < V) (hV3 : V ≤ 3) (hl : l.length ≤ 1) (hw : RwR l m) : ∃ w, jloop (fun (z : Int32 × jM) => f_X12_shadows_L229 201 s z.1 z.2) jfu (nI V - 1, m) = some w ∧ RwR (l ++ dgl V s V) w ∧ Q9 m w := by
  refine jlpN (step := fun (z : Int32 × jM) => f_X12_shadows_L229 201 s z.1 z.2) V
    (fun k z => z.1 = (if k < V then nI (V - 1 - k) else -1) ∧ RwR (l ++ dgl V s k) z.2 ∧ Q9 m z.2)
    (fun w => RwR (l ++ dgl V s V) w ∧ Q9 m w)
    (fun k z hk hz => by
      obtain ⟨u, mm⟩ := z
      obtain ⟨hu, g1, g2⟩ := hz
      have hu : u = (if k < V then nI (V - 1 - k) else -1) := hu
      rw [if_pos hk] at hu
      subst hu
      have g1 : RwR (l ++ dgl V s k) mm := g1
      have g2 : Q9 m mm := g2
      obtain ⟨q1, q2, q3, q4⟩ := sd_m (V - 1 - k) (by omega)
      obtain ⟨m2, d1, d2, d3, d4⟩ := r_enters g1 (by rw [List.length_append, dgl_len]; omega) (dg s (nI (6 ^ (V - 1 - k))))
      refine ⟨(nI (V - 1 - k) + -1, m2), ?_, ?_, by rw [dgl_s, ← List.append_assoc]; exact d2, g2.tr (Q9.ent d3 d4)⟩
      · have pre : ∀ t : Int32, t = nI (6 ^ (V - 1 - k)) → jnz t (jcl (f_X12_enters 201 (((s / t) - (s / t) / (6 : Int32) * (6 : Int32)).toInt64) mm) (fun m90 => some (.inl ((nI (V - 1 - k) + (-1 : Int32), m90))))) = (some (.inl (nI (V - 1 - k) + -1, m2)) : Option ((Int32 × jM) ⊕ jM)) := fun t ht => by
          subst ht
          unfold jnz
          unfold dg at d1
          rw [if_neg q3, jcl_e (show f_X12_enters 201 _ mm = some m2 from d1)]
        dsimp only
        unfold f_X12_shadows_L229
        rw [if_neg q2]
        simp only [jbd_e]
        by_cases c2 : nI (V - 1 - k) = (2 : Int32)
        · rw [if_pos c2] at q4 ⊢
          exact pre _ q4
        · rw [if_neg c2] at q4 ⊢
          by_cases c1 : nI (V - 1 - k) = (1 : Int32)
          · rw [if_pos c1] at q4 ⊢
            exact pre _ q4
          · rw [if_neg c1] at q4 ⊢
            exact pre _ q4
      · show nI (V - 1 - k) + -1 = _
        rw [q1]
        by_cases c : k + 1 < V
        · rw [if_pos c, if_pos (by omega), show V - 1 - k - 1 = V - 1 - (k + 1) by omega]
        · rw [if_neg c, if_neg (by omega)])
    (fun z hz => by
      obtain ⟨u, mm⟩ := z
      obtain ⟨hu, g1, g2⟩ := hz
      have hu : u = (if V < V then nI (V - 1 - V) else -1) := hu
      rw [if_neg (Nat.lt_irrefl _)] at hu
      subst hu
      refine ⟨mm, ?_, g1, g2⟩
      dsimp only
      unfold f_X12_shadows_L229
      rw [if_pos (by decide)])
    (i := 0) (n := jfu) (s := (nI V - 1, m)) (by omega) ⟨by rw [if_pos hV]; exact nI_subx (b := 1) hV, by simpa [dgl] using hw, Q9.rf⟩ (jfu_lt (by omega))
