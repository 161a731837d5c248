/-! many, nth, fits -/
def fo {α : Type} (g : Nat → Bool) (f : α → Nat → α) (a : α) : Nat → α
  | 0 => a
  | p + 1 => if g p then f (fo g f a p) p else fo g f a p
theorem fo_s {α : Type} (g : Nat → Bool) (f : α → Nat → α) (a : α) (p : Nat) : fo g f a (p + 1) = if g p then f (fo g f a p) p else fo g f a p := rfl
theorem fo_skip {α : Type} {g : Nat → Bool} {f : α → Nat → α} {a : α} {p r : Nat} (hpr : p ≤ r) (h : ∀ q, p ≤ q → q < r → g q = false) : fo g f a r = fo g f a p := by
  induction r with
  | zero => rw [show p = 0 by omega]
  | succ r ih =>
    by_cases c : p = r + 1
    · rw [c]
    · rw [fo_s, h r (by omega) (by omega), if_neg Bool.false_ne_true]
      exact ih (by omega) (fun q h1 h2 => h q h1 (by omega))
theorem fo_hit {α : Type} {g : Nat → Bool} {f : α → Nat → α} {a : α} {p r : Nat} (hpr : p ≤ r) (h : ∀ q, p ≤ q → q < r → g q = false) (hr : g r = true) : fo g f a (r + 1) = f (fo g f a p) r := by
  rw [fo_s, hr, if_pos rfl, fo_skip hpr h]
/-- how many, the first -/
def st (g : Nat → Bool) : Nat → Nat × Nat := fo g (fun a r => (a.1 + 1, if a.1 = 0 then r else a.2)) (0, 0)
theorem st_le (g : Nat → Bool) : ∀ p, (st g p).1 ≤ p
  | 0 => Nat.le_refl _
  | p + 1 => by
    have := st_le g p
    show (if g p then ((st g p).1 + 1, if (st g p).1 = 0 then p else (st g p).2) else st g p).1 ≤ p + 1
    split
    · show (st g p).1 + 1 ≤ p + 1; omega
    · omega
theorem st_s (g : Nat → Bool) (p : Nat) : st g (p + 1) = if g p then ((st g p).1 + 1, if (st g p).1 = 0 then p else (st g p).2) else st g p := rfl
theorem st_lt (g : Nat → Bool) : ∀ p, 0 < (st g p).1 → (st g p).2 < p
  | 0, h => by cases h
  | p + 1, h => by
    rw [st_s] at h ⊢
    by_cases c : g p = true
    · rw [if_pos c]
      by_cases c0 : (st g p).1 = 0
      · show (if (st g p).1 = 0 then p else _) < _
        rw [if_pos c0]; omega
      · show (if (st g p).1 = 0 then p else (st g p).2) < _
        rw [if_neg c0]
        have := st_lt g p (by omega)
        omega
    · rw [if_neg c] at h ⊢
      have := st_lt g p h
      omega
theorem wlp {σ ε : Type} {step : σ → Option (σ ⊕ ε)} (g : Nat → Bool) (P : Nat → σ → Prop) (R : Nat → ε → Prop)
    (hs : ∀ p s, p ≤ 7776 → P p s → (∃ r s', p ≤ r ∧ r < 7776 ∧ step s = some (.inl s') ∧ P (r + 1) s') ∨ ∃ e, step s = some (.inr e) ∧ (∀ q, p ≤ q → q < 7776 → g q = false) ∧ R p e) {s : σ} (h0 : P 0 s) : ∃ e, jloop step jfu s = some e ∧ ∃ p, p ≤ 7776 ∧ (∀ q, p ≤ q → q < 7776 → g q = false) ∧ R p e := by
  refine jlpG (step := step) (I := fun k s => ∃ p, p ≤ 7776 ∧ k = 7776 - p ∧ P p s) (R := fun e => ∃ p, p ≤ 7776 ∧ (∀ q, p ≤ q → q < 7776 → g q = false) ∧ R p e) ?_ jfu 7776 s ⟨0, by omega, rfl, h0⟩ (by decide)
  rintro k s ⟨p, hp, rfl, hP⟩
  rcases hs p s hp hP with ⟨r, s', a1, a2, a3, a4⟩ | ⟨e, a1, a2, a3⟩
  · exact ⟨_, a3, 7776 - (r + 1), by omega, r + 1, by omega, rfl, a4⟩
  · exact ⟨_, a1, p, hp, a2, a3⟩
theorem TRI0 {T : TT} (hn : nc T ≤ 8) {r : Nat} {z : Int32} (h : TRI T r z) : z = 0 ↔ gdB T true r = true := by
  have hl := pmk_lt hn (val r) 5
  rw [gdB_iff]
  rcases h with ⟨h1, rfl⟩ | ⟨h1, rfl⟩
  · constructor
    · intro q
      exact ⟨h1, fun _ => (nI_eq (b := 0) (by omega) (by decide)).mp q⟩
    · intro q
      rw [q.2 rfl]; rfl
  · exact ⟨fun q => absurd q (by decide), fun q => by rw [h1] at q; cases q.1⟩
def vrow (r : Nat) : List Int64 := row5 (fun x => nI (val r x))
theorem vrow_len (r : Nat) : (vrow r).length = 5 := row5_len _
theorem r_enterRow {σ : SS} {r : Nat} {l : List Int64} {μ : jM} (hr : r < 7776) (hl : RwR l μ) (hl17 : l.length ≤ 17) (hM : RM σ μ) : ∃ w, f_X12_entersRow 201 (nI r) μ = some w ∧ RwR (l ++ vrow r) w ∧ RM σ w ∧ jFr (fun c => c = 201 ∨ c = 202) μ w ∧ ∀ k, k ≠ 1 → w.1 201 k = μ.1 201 k := by
  obtain ⟨w, hw, h1, h2, h3, h4⟩ := jlpN (step := fun (s : Int32 × jM) => f_X12_entersRow_L2 201 (nI r) s.1 s.2) 5
    (fun k s => s.1 = nI k ∧ RwR (l ++ (List.range k).map (fun k => (nI (val r k)).toInt64)) s.2 ∧ RM σ s.2 ∧ jFr (fun c => c = 201 ∨ c = 202) μ s.2 ∧ ∀ k, k ≠ 1 → s.2.1 201 k = μ.1 201 k)
    (fun m => RwR (l ++ vrow r) m ∧ RM σ m ∧ jFr (fun c => c = 201 ∨ c = 202) μ m ∧ ∀ k, k ≠ 1 → m.1 201 k = μ.1 201 k)
    (fun k s hk hs => by
      obtain ⟨u, m⟩ := s
      obtain ⟨hu, g1, g2, g3, g4⟩ := hs
      have hu : u = nI k := hu
      subst hu
      have g2 : RM σ m := g2
      obtain ⟨m', b1, b2, b3, b4⟩ := r_enters g1 (by rw [List.length_append, List.length_map, List.length_range]; omega) (nI (val r k)).toInt64
      refine ⟨(nI (k + 1), m'), ?_, rfl, by rw [rowk_s (fun k => nI (val r k))]; exact b2, g2.fr (b4 9 (by decide)) (b3 204 (by decide)).1 (b3 205 (by decide)).1 (b3 206 (by decide)).1, jFr.tr g3 b3, fun k hk => (b4 k hk).trans (g4 k hk)⟩
      dsimp only
      unfold f_X12_entersRow_L2
      rw [jlit 5, if_neg (nI_ge hk (by decide)), jcl_e (r_valueOf hr hk), jcl_e b1, nI_1])
    (fun s hs => by
      obtain ⟨u, m⟩ := s
      obtain ⟨hu, g1, g2, g3, g4⟩ := hs
      have hu : u = nI 5 := hu
      subst hu
      refine ⟨m, ?_, g1, g2, g3, g4⟩
      dsimp only
      unfold f_X12_entersRow_L2
      rw [jlit 5, if_pos (nI_le (Nat.le_refl _) (by decide))])
    (i := 0) (n := jfu) (s := ((0 : Int32), μ)) (by omega) ⟨rfl, by simpa using hl, hM, jFr.rf, fun _ _ => rfl⟩ (jfu_lt (by omega))
  unfold f_X12_entersRow
  rw [jcl_e hw]
  exact ⟨w, rfl, h1, h2, h3, h4⟩
theorem c_keepFirst {r : Nat} {μ : jM} (h : ∀ x, x < 5 → μ.1 168 x = nI (val r x)) : ∃ m, f_X11_keepFirst 0 μ = some m ∧ (∀ x, x < 5 → m.1 188 x = nI (val r x)) ∧ jFr (fun c => c = 188) μ m := by
  have e0 : (0 : Int32).toNatClampNeg = 0 := by decide
  have e5 : (5 : Int32).toNatClampNeg = 5 := by decide
  unfold f_X11_keepFirst
  rw [e0, e5, jlit 5, jcpq_z (by decide), jbd_e]
  refine ⟨_, rfl, fun x hx => ?_, jFr.cp _ _ _ _ _ rfl⟩
  show (jcp μ 168 0 188 0 5).1 188 x = _
  rw [jcp_at hx, h x hx]
def WF (c : Nat) : Prop := (167 ≤ c ∧ c ≤ 169) ∨ c = 187 ∨ c = 188
theorem WF.cf {μ m : jM} (h : jFr WF μ m) : CF μ m := h.mono (fun c hc => by unfold WF at hc; unfold CFs; omega)
theorem RT.wf {T : TT} {μ m : jM} (h : RT 6 T μ) (f : jFr WF μ m) : RT 6 T m := h.fc f (fun c q1 q2 q3 => by unfold WF at q3; omega)
theorem RS.wf {σ : SS} {μ m : jM} (h : RS 5 σ μ) (h9 : σ.1 ≤ 9) (f : jFr WF μ m) : RS 5 σ m := h.fc h9 f (fun c q z => by obtain ⟨q1, q2⟩ := q; unfold WF at z; omega)
theorem advWF {μ m : jM} (h : jFr (fun c => c = 167 ∨ c = 168 ∨ c = 169) μ m) : jFr WF μ m := h.mono (fun c hc => by unfold WF; omega)
theorem c_tellFirst {n r : Nat} {μ : jM} (hn : n < 2 ^ 31) (h : 0 < n → ∀ x, x < 5 → μ.1 188 x = nI (val r x)) : ∃ m, f_X11_tellFirst 0 (nI n) μ = some m ∧ RwC (if n = 0 then [] else vrow r) m ∧ jFr (fun c => c = 3 ∨ c = 4) μ m := by
  obtain ⟨w1, w2⟩ := c_empty μ
  unfold f_X11_tellFirst
  rw [jbd_e]
  by_cases c : n = 0
  · rw [if_pos c, c, if_pos (by decide)]
    exact ⟨_, rfl, w1, w2⟩
  · rw [if_neg c, if_neg (nI_nle (by omega) hn)]
    obtain ⟨m2, d1, d2, d3⟩ := c_tellAll (c := 188) (f := fun x => nI (val r x)) (by decide) (by decide) (by decide) (fun k hk => by rw [(w2 188 (by decide)).1]; exact h (by omega) k hk) w1 (by show 0 ≤ 17; omega)
    exact ⟨m2, by rw [jcl_e (show f_X3_tellAll (0 + 3) (0 + 188) (f_X3_empty (0 + 3) μ) = some m2 from d1)], d2, w2.tr d3⟩
theorem RCr216 {m m' : jM} (f : jFr (fun q => q = 216) m m') : RC m m' := ⟨f.mono (fun c hc => by omega), MF.of (f 204 (by decide)).1, fun k _ => by rw [(f 201 (by decide)).1]⟩
theorem RM216 {σ : SS} {m m' : jM} (h : RM σ m) (f : jFr (fun q => q = 216) m m') : RM σ m' := h.fr (by rw [(f 201 (by decide)).1]) (f 204 (by decide)).1 (f 205 (by decide)).1 (f 206 (by decide)).1
theorem sim_many {μ : jM} (h : Rel μ) : ∃ r μ1 μ2, f_X11_many 0 μ = some (r, μ1) ∧ f_X12_many 201 μ1 = some (r, μ2) ∧ Rel μ2 := by
  obtain ⟨⟨σ, hv, hS, hM⟩, -⟩ := id h
  have h0 := hv.2.1 0 (Nat.zero_le _)
  have h9 := hv.1
  have hn := h0.2.1.1
  obtain ⟨m1, a1, a2, a3⟩ := c_wbegin (T := σ.2.1 0) true μ
  obtain ⟨e, he, p, hp, hno, e1, e2, e3⟩ := wlp (step := fun (s : Int32 × Int32 × jM) => f_X11_many_L12 0 s.1 s.2.1 s.2.2) (gdB (σ.2.1 0) true)
    (fun p s => s.1 = nI (st (gdB (σ.2.1 0) true) p).1 ∧ s.2.1 = nI (st (gdB (σ.2.1 0) true) p).1 ∧ WK (σ.2.1 0) true p s.2.2 ∧ (0 < (st (gdB (σ.2.1 0) true) p).1 → ∀ x, x < 5 → s.2.2.1 188 x = nI (val (st (gdB (σ.2.1 0) true) p).2 x)) ∧ jFr WF μ s.2.2)
    (fun p e => e.1 = nI (st (gdB (σ.2.1 0) true) p).1 ∧ (0 < (st (gdB (σ.2.1 0) true) p).1 → ∀ x, x < 5 → e.2.1 188 x = nI (val (st (gdB (σ.2.1 0) true) p).2 x)) ∧ jFr WF μ e.2)
    (fun p s hp hP => by
      obtain ⟨u, v, m⟩ := s
      obtain ⟨hu, hv1, g1, g2, g3⟩ := hP
      have hu : u = nI (st (gdB (σ.2.1 0) true) p).1 := hu
      have hv1 : v = nI (st (gdB (σ.2.1 0) true) p).1 := hv1
      subst hu
      subst hv1
      have g3 : jFr WF μ m := g3
      have g1 : WK (σ.2.1 0) true p m := g1
      have sl := st_le (gdB (σ.2.1 0) true) p
      by_cases c : (st (gdB (σ.2.1 0) true) p).1 = 7776
      · refine Or.inr ⟨(nI (st (gdB (σ.2.1 0) true) p).1, m), ?_, fun q h1 h2 => by omega, rfl, g2, g3⟩
        dsimp only
        unfold f_X11_many_L12
        rw [c, jlit 7776, if_pos (nI_le (Nat.le_refl _) (by decide))]
      · obtain ⟨m', f1, hr⟩ := c_adv (RT.wf hS.2.1 g3) h0 g1
        have n1 : ¬ (7776 : Int32) ≤ nI (st (gdB (σ.2.1 0) true) p).1 := nI_ge (b := 7776) (by omega) (by decide)
        rcases hr with ⟨r, b1, b2, b3, b4, b5, b6, b7, -⟩ | ⟨b1, b2⟩
        · have es : st (gdB (σ.2.1 0) true) (r + 1) = ((st (gdB (σ.2.1 0) true) p).1 + 1, if (st (gdB (σ.2.1 0) true) p).1 = 0 then r else (st (gdB (σ.2.1 0) true) p).2) := fo_hit b2 b5 b4
          by_cases cz : (st (gdB (σ.2.1 0) true) p).1 = 0
          · obtain ⟨m2, k1, k2, k3⟩ := c_keepFirst b7
            rw [if_pos cz] at es
            refine Or.inl ⟨r, (nI ((st (gdB (σ.2.1 0) true) p).1 + 1), nI ((st (gdB (σ.2.1 0) true) p).1 + 1), m2), b2, b3, ?_, ?_, ?_, ?_, ?_, ?_⟩
            · dsimp only
              unfold f_X11_many_L12
              rw [if_neg n1, jcl2_e (show f_X10_advance (0 + 167) m = some (1, m') from b1), if_neg (by decide), if_pos (by rw [cz]; rfl), jcl_e k1, nI_1]
            · rw [es]
            · rw [es]
            · obtain ⟨w1, w2⟩ := b6
              refine ⟨by show m2.1 167 3 = _; rw [(k3 167 (by decide)).1]; exact w1, ?_⟩
              rcases w2 with ⟨w2, -⟩ | ⟨r', x1, x2, x3, x4, x5, x6⟩
              · omega
              · exact Or.inr ⟨r', x1, x2, by show m2.1 167 4 = _; rw [(k3 167 (by decide)).1]; exact x3, fun x hx => by show m2.1 168 x = _; rw [(k3 168 (by decide)).1]; exact x4 x hx, fun x hx => by show m2.1 169 x = _; rw [(k3 169 (by decide)).1]; exact x5 x hx, x6⟩
            · rw [es]; intro _; exact k2
            · exact (g3.tr (advWF f1)).tr (k3.mono (fun c hc => by unfold WF; omega))
          · rw [if_neg cz] at es
            refine Or.inl ⟨r, (nI ((st (gdB (σ.2.1 0) true) p).1 + 1), nI ((st (gdB (σ.2.1 0) true) p).1 + 1), m'), b2, b3, ?_, ?_, ?_, b6, ?_, g3.tr (advWF f1)⟩
            · dsimp only
              unfold f_X11_many_L12
              rw [if_neg n1, jcl2_e (show f_X10_advance (0 + 167) m = some (1, m') from b1), if_neg (by decide), if_neg (nI_ne0 (by omega) (by omega)), nI_1]
            · rw [es]
            · rw [es]
            · rw [es]
              intro _ x hx
              show m'.1 188 x = _
              rw [(f1 188 (by decide)).1]
              exact g2 (by omega) x hx
        · refine Or.inr ⟨(nI (st (gdB (σ.2.1 0) true) p).1, m'), ?_, b2, rfl, fun hc x hx => ?_, g3.tr (advWF f1)⟩
          · dsimp only
            unfold f_X11_many_L12
            rw [if_neg n1, jcl2_e (show f_X10_advance (0 + 167) m = some (0, m') from b1), if_pos rfl]
          · show m'.1 188 x = _
            rw [(f1 188 (by decide)).1]
            exact g2 hc x hx)
    (s := ((0 : Int32), (0 : Int32), m1)) ⟨rfl, rfl, a2, fun z => absurd z (by show ¬ 0 < 0; omega), a3.mono (fun c hc => by unfold WF; omega)⟩
  have est : st (gdB (σ.2.1 0) true) 7776 = st (gdB (σ.2.1 0) true) p := fo_skip hp hno
  rw [← est] at e1 e2
  have sl := st_le (gdB (σ.2.1 0) true) 7776
  obtain ⟨m2, d1, d2, d3⟩ := c_tellFirst (by omega) e2
  have F : CFr μ m2 := (WF.cf e3).r.tr (CFr.row d3)
  have hS2 : RS 5 σ m2 := (RS.wf hS h9 e3).fc h9 d3 (fun c q z => by obtain ⟨q1, q2⟩ := q; omega)
  have hM1 : RM σ (jsi m2 201 0 0) := (hM.fc F).thr (by decide)
  obtain ⟨m3, t1, t2, t3⟩ := r_tries (hM1.2.1 0 (Nat.zero_le _)) h0
  have hM3 : RM σ (jsi m3 201 1 0) := (RM216 hM1 t3).thr (by decide)
  obtain ⟨e', he', k1, k2, k3, k4⟩ := jlpN (step := fun (s : Int32 × Int32 × jM) => f_X12_many_L18 201 s.1 s.2.1 s.2.2) 7776
    (fun k s => s.1 = nI (st (gdB (σ.2.1 0) true) k).1 ∧ s.2.1 = nI k ∧ RwR (if (st (gdB (σ.2.1 0) true) k).1 = 0 then [] else vrow (st (gdB (σ.2.1 0) true) k).2) s.2.2 ∧ RM σ s.2.2 ∧ s.2.2.1 216 = m3.1 216 ∧ RCr (jsi m3 201 1 0) s.2.2)
    (fun e => e.1 = nI (st (gdB (σ.2.1 0) true) 7776).1 ∧ RwR (if (st (gdB (σ.2.1 0) true) 7776).1 = 0 then [] else vrow (st (gdB (σ.2.1 0) true) 7776).2) e.2 ∧ RM σ e.2 ∧ RCr (jsi m3 201 1 0) e.2)
    (fun k s hk hs => by
      obtain ⟨u, v, m⟩ := s
      obtain ⟨hu, hv1, g1, g2, g3, g4⟩ := hs
      have hu : u = nI (st (gdB (σ.2.1 0) true) k).1 := hu
      have hv1 : v = nI k := hv1
      subst hu
      subst hv1
      have g3 : m.1 216 = m3.1 216 := g3
      have g1 : RwR _ m := g1
      have g2 : RM σ m := g2
      have sl := st_le (gdB (σ.2.1 0) true) k
      have es := st_s (gdB (σ.2.1 0) true) k
      have htr := TRI0 hn (t2 k hk)
      have pre : ∀ z, (if m.1 216 k = (0 : Int32) then (if nI (st (gdB (σ.2.1 0) true) k).1 = (0 : Int32) then jcl (f_X12_entersRow 201 (nI k) m) (fun m16 => some (.inl ((nI ((st (gdB (σ.2.1 0) true) k).1 + 1), nI (k + 1), m16)))) else some (.inl ((nI ((st (gdB (σ.2.1 0) true) k).1 + 1), nI (k + 1), m)))) else some (.inl ((nI (st (gdB (σ.2.1 0) true) k).1, nI (k + 1), m)))) = z → f_X12_many_L18 201 (nI (st (gdB (σ.2.1 0) true) k).1) (nI k) m = z := fun z hz => by
        unfold f_X12_many_L18
        rw [jlit 7776, if_neg (nI_ge hk (by decide))]
        show jrd (m.1 216) _ _ _ = _
        rw [jrd_n hk (by decide), nI_1, nI_1 k]
        exact hz
      cases q : gdB (σ.2.1 0) true k with
      | false =>
        rw [q, if_neg Bool.false_ne_true] at es
        have hz : ¬ m.1 216 k = 0 := fun z => by rw [g3] at z; rw [htr.mp z] at q; cases q
        refine ⟨(nI (st (gdB (σ.2.1 0) true) k).1, nI (k + 1), m), pre _ (if_neg hz), by rw [es], rfl, by rw [es]; exact g1, g2, g3, g4⟩
      | true =>
        rw [q, if_pos rfl] at es
        have hz : m.1 216 k = 0 := by rw [g3]; exact htr.mpr q
        by_cases cz : (st (gdB (σ.2.1 0) true) k).1 = 0
        · rw [if_pos cz] at g1
          obtain ⟨w, w1, w2, w3, w4, w5⟩ := r_enterRow hk g1 (by show 0 ≤ 17; omega) g2
          rw [if_pos cz] at es
          refine ⟨(nI ((st (gdB (σ.2.1 0) true) k).1 + 1), nI (k + 1), w), pre _ (by rw [if_pos hz, if_pos (by rw [cz]; rfl), jcl_e w1]), by rw [es], rfl, ?_, w3, (w4 216 (by decide)).1.trans g3, RCr.tr g4 (RCr.ent w4 w5)⟩
          rw [es, if_neg (by show ¬ (_ + 1 = 0); omega)]
          exact w2
        · rw [if_neg cz] at es g1
          refine ⟨(nI ((st (gdB (σ.2.1 0) true) k).1 + 1), nI (k + 1), m), pre _ (by rw [if_pos hz, if_neg (nI_ne0 (by omega) (by omega))]), by rw [es], rfl, ?_, g2, g3, g4⟩
          rw [es, if_neg (by show ¬ (_ + 1 = 0); omega)]
          exact g1)
    (fun s hs => by
      obtain ⟨u, v, m⟩ := s
      obtain ⟨hu, hv1, g1, g2, g3, g4⟩ := hs
      have hv1 : v = nI 7776 := hv1
      subst hv1
      refine ⟨(u, m), ?_, hu, g1, g2, g4⟩
      dsimp only
      unfold f_X12_many_L18
      rw [jlit 7776, if_pos (nI_le (Nat.le_refl _) (by decide))])
    (i := 0) (n := jfu) (s := ((0 : Int32), (0 : Int32), jsi m3 201 1 0)) (by omega) ⟨rfl, rfl, r_told0 m3, hM3, jsi_ne (by decide), RCr.rf⟩ (jfu_lt (by omega))
  refine ⟨nI (st (gdB (σ.2.1 0) true) 7776).1, m2, e'.2, ?_, ?_, ?_⟩
  · unfold f_X11_many
    rw [jcl_e (show f_X10_begin (0 + 167) (1 : Int32) μ = some m1 from a1), jcl_e he, e1, jcl_e d1]
  · unfold f_X12_many
    rw [jbd_e, jcl_e t1, jbd_e, jcl_e he', k1]
  · refine rel_row h hv hS2 F k3 ((((RCr.thr (by decide)).tr (RCr216 t3).r).tr (RCr.thr (by decide))).tr k4) d2 k2 ?_
    split
    · show 0 ≤ 22; omega
    · rw [vrow_len]; omega
