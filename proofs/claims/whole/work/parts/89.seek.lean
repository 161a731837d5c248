/-! search: two loops side by side; what a node does -/
theorem jlp2 {σ ε σ' ε' : Type} {step : σ → Option (σ ⊕ ε)} {step' : σ' → Option (σ' ⊕ ε')} (N : Nat) (I : Nat → σ → σ' → Prop) (R : ε → ε' → Prop)
    (hs : ∀ k s s', k < N → I k s s' → (∃ t t', step s = some (.inl t) ∧ step' s' = some (.inl t') ∧ I (k + 1) t t') ∨ ∃ e e', step s = some (.inr e) ∧ step' s' = some (.inr e') ∧ R e e')
    (hx : ∀ s s', I N s s' → ∃ e e', step s = some (.inr e) ∧ step' s' = some (.inr e') ∧ R e e') :
    ∀ (n i : Nat) (s : σ) (s' : σ'), i ≤ N → I i s s' → N - i < n → ∃ e e', jloop step n s = some e ∧ jloop step' n s' = some e' ∧ R e e'
  | 0, i, s, s', _, _, h => absurd h (Nat.not_lt_zero _)
  | n + 1, i, s, s', hi, hI, h => by
    by_cases c : i = N
    · subst c
      obtain ⟨e, e', h1, h2, h3⟩ := hx s s' hI
      exact ⟨e, e', jloop_x h1, jloop_x h2, h3⟩
    · rcases hs i s s' (by omega) hI with ⟨t, t', h1, h2, h3⟩ | ⟨e, e', h1, h2, h3⟩
      · obtain ⟨e, e', k1, k2, k3⟩ := jlp2 N I R hs hx n (i + 1) t t' (by omega) h3 (by omega)
        exact ⟨e, e', (jloop_s h1).trans k1, (jloop_s h2).trans k2, k3⟩
      · exact ⟨e, e', jloop_x h1, jloop_x h2, h3⟩
def mlt (L : LV) : Nat := cnt (fun x => decide (1 < pc (L x))) 5
theorem pc_pos6 : ∀ m, m < 64 → m ≠ 0 → 0 < pc m := by decide +kernel
theorem pc_two : ∀ v, v < 6 → pc (2 ^ v) = 1 ∧ 0 < 2 ^ v ∧ 2 ^ v < 64 := by decide +kernel
def cdl (L L' : LV) : Nat → Nat := cnt (fun x => !decide (L' x = L x))
theorem cdl_s (L L' : LV) (k : Nat) : cdl L L' (k + 1) = cdl L L' k + (if L' k = L k then 0 else 1) := by
  unfold cdl
  rw [cnt_s]
  by_cases c : L' k = L k
  · rw [if_pos c, decide_eq_true c, if_neg (by decide)]
  · rw [if_neg c, decide_eq_false c, if_pos (by decide)]
theorem c_changes {c : Nat} {L L' : LV} {m : jM} (hc : jlen c = 5) (h' : RLm 166 L' m) (h : ∀ x, x < 5 → m.1 c x = nI (L x) ∧ L x < 64) : f_X5_changesSince 170 c m = some (nI (cdl L L' 5)) := by
  obtain ⟨w, hw, h1⟩ := jlpN (step := fun (z : Int32 × Int32) => f_X5_changesSince_L4 c m z.1 z.2) 5
    (fun k z => z = (nI (cdl L L' k), nI k)) (fun w => w = nI (cdl L L' 5))
    (fun k z hk hz => by
      subst hz
      obtain ⟨a1, a2⟩ := h' k hk
      obtain ⟨b1, b2⟩ := h k hk
      refine ⟨_, ?_, rfl⟩
      dsimp only
      unfold f_X5_changesSince_L4
      rw [jlit 5, if_neg (nI_ge hk (by decide)), jrd_n hk (by decide), hc, jrd_n hk (by decide), a1, b1, nI_1 k, cdl_s]
      by_cases d : L' k = L k
      · rw [if_pos d, if_pos (by rw [d])]; rfl
      · rw [if_neg d, if_neg (fun z => d ((nI_eq (by omega) (by omega)).mp z)), nI_1])
    (fun z hz => by
      subst hz
      refine ⟨_, ?_, rfl⟩
      dsimp only
      unfold f_X5_changesSince_L4
      rw [jlit 5, if_pos (nI_le (Nat.le_refl _) (by decide))])
    (i := 0) (n := jfu) (s := ((0 : Int32), (0 : Int32))) (by omega) rfl (jfu_lt (by omega))
  unfold f_X5_changesSince
  rw [jcl_e hw, h1]
theorem r_changes {step : Int32 × jM → Option ((Int32 × jM) ⊕ jM)} {L L' : LV} {C : Int32} {m : jM} (h64 : ∀ x, x < 5 → L x < 64 ∧ L' x < 64) (hC : m.1 201 31 = C)
    (h1 : ∀ k w, k < 5 → jFr (fun c => c = 201) m w → step (nI k, w) = some (.inl (nI (k + 1), jsi w 201 31 (w.1 201 31 + f_X12_flag (if nI (L' k) = nI (L k) then 0 else 1))))) (h2 : ∀ w, step (nI 5, w) = some (.inr w)) :
    ∃ w, jloop step jfu ((0 : Int32), m) = some w ∧ w.1 201 31 = C + nI (cdl L L' 5) ∧ jFr (fun c => c = 201) m w ∧ ∀ j, j ≠ 31 → w.1 201 j = m.1 201 j := by
  have f1 : f_X12_flag (1 : Int32) = nI 1 := by decide
  have f0 : f_X12_flag (0 : Int32) = nI 0 := by decide
  refine jlpN (step := step) 5
    (fun k z => z.1 = nI k ∧ z.2.1 201 31 = C + nI (cdl L L' k) ∧ jFr (fun c => c = 201) m z.2 ∧ ∀ j, j ≠ 31 → z.2.1 201 j = m.1 201 j)
    (fun w => w.1 201 31 = C + nI (cdl L L' 5) ∧ jFr (fun c => c = 201) m w ∧ ∀ j, j ≠ 31 → w.1 201 j = m.1 201 j)
    (fun k z hk hz => by
      obtain ⟨v, w⟩ := z
      obtain ⟨hv, g1, g2, g3⟩ := hz
      have hv : v = nI k := hv
      subst hv
      have g1 : w.1 201 31 = C + nI (cdl L L' k) := g1
      obtain ⟨q1, q2⟩ := h64 k hk
      refine ⟨_, h1 k w hk g2, rfl, ?_, jFr.tr g2 (jFr.si _ _ _ rfl), fun j hj => ?_⟩
      · show (jsi w 201 31 _).1 201 31 = _
        rw [jsi_at, g1, Int32.add_assoc, cdl_s]
        by_cases d : L' k = L k
        · rw [if_pos d, if_pos (by rw [d]), f0, nI_add]
        · rw [if_neg d, if_neg (fun z => d ((nI_eq (by omega) (by omega)).mp z)), f1, nI_add]
      · show (jsi w 201 31 _).1 201 j = _
        rw [jsi_pl hj]; exact g3 j hj)
    (fun z hz => by
      obtain ⟨v, w⟩ := z
      obtain ⟨hv, g1, g2, g3⟩ := hz
      have hv : v = nI 5 := hv
      subst hv
      exact ⟨w, h2 w, g1, g2, g3⟩)
    (i := 0) (n := jfu) (s := ((0 : Int32), m)) (by omega) ⟨rfl, by show m.1 201 31 = C + nI 0; rw [hC]; exact (Int32.add_zero C).symm, jFr.rf, fun _ _ => rfl⟩ (jfu_lt (by omega))
theorem r_path {k : Nat} {L : LV} {m : jM} (hk : k ≤ 5) (hL : RLm 210 L m) : ∃ w, jloop (fun (s : Int32 × jM) => f_X12_seeks_L13 201 (nI k) s.1 s.2) jfu (((0 : Int32), m)) = some w ∧ (∀ x, x < 5 → w.1 218 (5 * k + x) = nI (L x)) ∧ jFr (fun c => c = 218) m w ∧ ∀ j, j < 5 * k → w.1 218 j = m.1 218 j := by
  refine jlpN (step := fun (s : Int32 × jM) => f_X12_seeks_L13 201 (nI k) s.1 s.2) 5
    (fun i z => z.1 = nI i ∧ (∀ x, x < i → z.2.1 218 (5 * k + x) = nI (L x)) ∧ jFr (fun c => c = 218) m z.2 ∧ ∀ j, j < 5 * k → z.2.1 218 j = m.1 218 j)
    (fun w => (∀ x, x < 5 → w.1 218 (5 * k + x) = nI (L x)) ∧ jFr (fun c => c = 218) m w ∧ ∀ j, j < 5 * k → w.1 218 j = m.1 218 j)
    (fun i z hi hz => by
      obtain ⟨v, w⟩ := z
      obtain ⟨hv, g1, g2, g3⟩ := hz
      have hv : v = nI i := hv
      subst hv
      have g1 : ∀ x, x < i → w.1 218 (5 * k + x) = nI (L x) := g1
      have g2 : jFr (fun c => c = 218) m w := g2
      have g3 : ∀ j, j < 5 * k → w.1 218 j = m.1 218 j := g3
      refine ⟨(nI (i + 1), jsi w 218 (5 * k + i) (nI (L i))), ?_, rfl, fun x hx => ?_, g2.tr (jFr.si _ _ _ rfl), fun j hj => ?_⟩
      · dsimp only
        unfold f_X12_seeks_L13
        rw [jlit 5, if_neg (nI_ge hi (by decide))]
        show jrd (w.1 210) _ _ _ = _
        rw [jrd_n hi (by decide), nI_mulx, nI_add, jin_n (by omega) (by decide), jbd_e, nI_clamp (by omega), nI_1, (g2 210 (by decide)).1, (hL i hi).1]
      · show (jsi w 218 _ _).1 218 _ = _
        by_cases d : x = i
        · rw [d, jsi_at]
        · rw [jsi_pl (by omega)]; exact g1 x (by omega)
      · show (jsi w 218 _ _).1 218 j = _
        rw [jsi_pl (by omega)]; exact g3 j hj)
    (fun z hz => by
      obtain ⟨v, w⟩ := z
      obtain ⟨hv, g1, g2, g3⟩ := hz
      have hv : v = nI 5 := hv
      subst hv
      refine ⟨w, ?_, g1, g2, g3⟩
      dsimp only
      unfold f_X12_seeks_L13
      rw [jlit 5, if_pos (nI_le (Nat.le_refl _) (by decide))])
    (i := 0) (n := jfu) (s := ((0 : Int32), m)) (by omega) ⟨rfl, fun x hx => absurd hx (Nat.not_lt_zero x), jFr.rf, fun _ _ => rfl⟩ (jfu_lt (by omega))
theorem r_lay {k b v : Nat} {L : LV} {m : jM} (hk : k ≤ 5) (hb : b < 5) (hv6 : v < 6) (h64 : ∀ x, x < 5 → L x < 64) (hp : ∀ x, x < 5 → m.1 218 (5 * k + x) = nI (L x)) : ∃ w, jloop (fun (s : Int32 × jM) => f_X12_seeks_L119 201 (nI k) (nI b) (nI v) s.1 s.2) jfu (((0 : Int32), m)) = some w ∧ RLm 210 (va_up L b (2 ^ v)) w ∧ jFr (fun c => c = 210) m w := by
  have p2 := pc_two v hv6
  refine jlpN (step := fun (s : Int32 × jM) => f_X12_seeks_L119 201 (nI k) (nI b) (nI v) s.1 s.2) 5
    (fun i z => z.1 = nI i ∧ (∀ x, x < i → z.2.1 210 x = nI (va_up L b (2 ^ v) x)) ∧ jFr (fun c => c = 210) m z.2)
    (fun w => RLm 210 (va_up L b (2 ^ v)) w ∧ jFr (fun c => c = 210) m w)
    (fun i z hi hz => by
      obtain ⟨u, w⟩ := z
      obtain ⟨hu, g1, g2⟩ := hz
      have hu : u = nI i := hu
      subst hu
      have g1 : ∀ x, x < i → w.1 210 x = nI (va_up L b (2 ^ v) x) := g1
      have g2 : jFr (fun c => c = 210) m w := g2
      refine ⟨(nI (i + 1), jsi w 210 i (nI (va_up L b (2 ^ v) i))), ?_, rfl, fun x hx => ?_, g2.tr (jFr.si _ _ _ rfl)⟩
      · dsimp only
        unfold f_X12_seeks_L119
        rw [jlit 5, if_neg (nI_ge hi (by decide))]
        by_cases c : i = b
        · rw [if_pos (by rw [c]), jin_n hi (by decide), jbd_e, nI_clamp (by omega), nI_1, shl_n _ (by omega), c, va_up_self]
        · rw [if_neg (fun z => c ((nI_eq (by omega) (by omega)).mp z)), nI_mulx, nI_add]
          show jrd (w.1 218) _ _ _ = _
          rw [jrd_n (by omega) (by decide), jin_n hi (by decide), jbd_e, nI_clamp (by omega), nI_1, (g2 218 (by decide)).1, hp i hi, va_up_ne _ _ c]
      · show (jsi w 210 _ _).1 210 x = _
        by_cases d : x = i
        · rw [d, jsi_at]
        · rw [jsi_pl d]; exact g1 x (by omega))
    (fun z hz => by
      obtain ⟨u, w⟩ := z
      obtain ⟨hu, g1, g2⟩ := hz
      have hu : u = nI 5 := hu
      subst hu
      refine ⟨w, ?_, fun x hx => ⟨g1 x hx, ?_⟩, g2⟩
      · dsimp only
        unfold f_X12_seeks_L119
        rw [jlit 5, if_pos (nI_le (Nat.le_refl _) (by decide))]
      · by_cases c : x = b
        · rw [c, va_up_self]; exact p2.2.2
        · rw [va_up_ne _ _ c]; exact h64 x hx)
    (i := 0) (n := jfu) (s := ((0 : Int32), m)) (by omega) ⟨rfl, fun x hx => absurd hx (Nat.not_lt_zero x), jFr.rf⟩ (jfu_lt (by omega))
