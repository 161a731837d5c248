/-! a walk over all that solve, folded -/
theorem walkG {σ ε α : Type} {step : σ → Option (σ ⊕ ε)} {T : TT} {h : Bool} {μ : jM} (hT : RT 6 T μ) (hv : VT T)
    (mem : σ → jM) (cnt : σ → Int32) (fin : σ → jM → ε) (body : σ → jM → Option (σ ⊕ ε))
    (hstep : ∀ s, step s = if (7776 : Int32) ≤ cnt s then some (.inr (fin s (mem s))) else jcl2 (f_X10_advance 167 (mem s)) (fun v m => if v = (0 : Int32) then some (.inr (fin s m)) else body s m))
    (f : α → Nat → α) (a0 : α) (J : α → σ → Prop) (K : α → ε → Prop)
    (hb : ∀ s m r, J (fo (gdB T h) f a0 r) s → jFr (fun c => c = 167 ∨ c = 168 ∨ c = 169) (mem s) m → jFr WF μ m → r < 7776 → gdB T h r = true → (∀ x, x < 5 → m.1 168 x = nI (val r x)) → m.1 169 4 = nI (pmk T (val r) 5) → ∃ s', body s m = some (.inl s') ∧ cnt s' = cnt s + 1 ∧ jFr (fun c => c = 187 ∨ c = 188) m (mem s') ∧ J (f (fo (gdB T h) f a0 r) r) s')
    (hf : ∀ s m, J (fo (gdB T h) f a0 7776) s → jFr (fun c => c = 167 ∨ c = 168 ∨ c = 169) (mem s) m → jFr WF μ m → K (fo (gdB T h) f a0 7776) (fin s m))
    {s0 : σ} (h0 : J a0 s0) (hc : cnt s0 = 0) (hw : WK T h 0 (mem s0)) (hfr : jFr WF μ (mem s0)) : ∃ e, jloop step jfu s0 = some e ∧ K (fo (gdB T h) f a0 7776) e := by
  obtain ⟨e, he, p, hp, hno, hK⟩ := wlp (step := step) (gdB T h)
    (fun p s => cnt s = nI (st (gdB T h) p).1 ∧ WK T h p (mem s) ∧ jFr WF μ (mem s) ∧ J (fo (gdB T h) f a0 p) s)
    (fun _ e => K (fo (gdB T h) f a0 7776) e)
    (fun p s hp hP => by
      obtain ⟨g1, g2, g3, g4⟩ := hP
      have sl := st_le (gdB T h) p
      by_cases c : (st (gdB T h) p).1 = 7776
      · have : p = 7776 := by omega
        subst this
        refine Or.inr ⟨fin s (mem s), ?_, fun q h1 h2 => by omega, hf s _ g4 jFr.rf g3⟩
        rw [hstep, g1, c, jlit 7776, if_pos (nI_le (Nat.le_refl _) (by decide))]
      · obtain ⟨m', f1, hr⟩ := c_adv (RT.wf hT g3) hv g2
        have n1 : ¬ (7776 : Int32) ≤ nI (st (gdB T h) p).1 := nI_ge (b := 7776) (by omega) (by decide)
        rcases hr with ⟨r, b1, b2, b3, b4, b5, b6, b7, b8⟩ | ⟨b1, b2⟩
        · have e1 : fo (gdB T h) f a0 r = fo (gdB T h) f a0 p := fo_skip b2 b5
          have e2 : st (gdB T h) r = st (gdB T h) p := fo_skip b2 b5
          rw [← e1] at g4
          obtain ⟨s', k1, k2, k3, k4⟩ := hb s m' r g4 f1 (g3.tr (advWF f1)) b3 b4 b7 b8
          refine Or.inl ⟨r, s', b2, b3, ?_, ?_, b6.fr (fun c h1 h2 => (k3 c (by omega)).1), (g3.tr (advWF f1)).tr (k3.mono (fun c hc => by unfold WF; omega)), ?_⟩
          · rw [hstep, g1, if_neg n1, jcl2_e b1, if_neg (by decide), k1]
          · rw [k2, g1, st_s, b4, if_pos rfl, e2, nI_1]
          · rw [fo_s, b4, if_pos rfl]; exact k4
        · have e1 : fo (gdB T h) f a0 7776 = fo (gdB T h) f a0 p := fo_skip hp b2
          rw [← e1] at g4
          refine Or.inr ⟨fin s m', ?_, b2, hf s m' g4 f1 (g3.tr (advWF f1))⟩
          rw [hstep, g1, if_neg n1, jcl2_e b1, if_pos rfl])
    (s := s0) ⟨hc, hw, hfr, h0⟩
  exact ⟨e, he, hK⟩
theorem fo_and {α : Type} (g q : Nat → Bool) (f : α → Nat → α) (a : α) : ∀ p, fo g (fun a r => if q r then f a r else a) a p = fo (fun r => g r && q r) f a p
  | 0 => rfl
  | p + 1 => by
    rw [fo_s, fo_s, fo_and g q f a p]
    cases g p <;> cases q p <;> rfl
theorem fo_inv {α : Type} {g : Nat → Bool} {f : α → Nat → α} {a : α} (P : Nat → α → Prop) (h0 : P 0 a) (hs : ∀ p a, P p a → P (p + 1) a) (hf : ∀ p a, P p a → g p = true → P (p + 1) (f a p)) : ∀ p, P p (fo g f a p)
  | 0 => h0
  | p + 1 => by
    have := fo_inv P h0 hs hf p
    rw [fo_s]
    split
    · exact hf _ _ this (by assumption)
    · exact hs _ _ this
def sf (q : Nat → Bool) (a : Nat × Nat) (r : Nat) : Nat × Nat := if q r then (a.1 + 1, if a.1 = 0 then r else a.2) else a
theorem sf_st (g q : Nat → Bool) (p : Nat) : fo g (sf q) (0, 0) p = st (fun r => g r && q r) p := fo_and g q _ _ p
/-- the reference's memory while it folds -/
def Q9 (μ m : jM) : Prop := jFr (fun c => c = 201 ∨ c = 202 ∨ (217 ≤ c ∧ c ≤ 219)) μ m ∧ ∀ k, k ≠ 1 → m.1 201 k = μ.1 201 k
theorem Q9.rf {μ : jM} : Q9 μ μ := ⟨jFr.rf, fun _ _ => rfl⟩
theorem Q9.tr {μ m w : jM} (h : Q9 μ m) (h2 : Q9 m w) : Q9 μ w := ⟨h.1.tr h2.1, fun k hk => (h2.2 k hk).trans (h.2 k hk)⟩
theorem Q9.si {μ : jM} {c k : Nat} {v : Int32} (hc : 217 ≤ c ∧ c ≤ 219) : Q9 μ (jsi μ c k v) := ⟨jFr.si _ _ _ (by omega), fun _ _ => by rw [jsi_ne (by omega)]⟩
theorem Q9.ent {μ m : jM} (h : jFr (fun c => c = 201 ∨ c = 202) μ m) (h2 : ∀ k, k ≠ 1 → m.1 201 k = μ.1 201 k) : Q9 μ m := ⟨h.mono (fun c hc => by omega), h2⟩
theorem Q9.told {μ : jM} : Q9 μ (jsi μ 201 1 0) := ⟨jFr.si _ _ _ (Or.inl rfl), fun _ hk => jsi_pl hk⟩
theorem Q9.rc {μ m : jM} (h : Q9 μ m) : RCr μ m := ⟨h.1.mono (fun c hc => by omega), MF.of (h.1 204 (by decide)).1, fun k hk => h.2 k (by omega)⟩
theorem Q9.rm {σ : SS} {μ m : jM} (hM : RM σ μ) (h : Q9 μ m) : RM σ m := hM.fr (h.2 9 (by decide)) (h.1 204 (by decide)).1 (h.1 205 (by decide)).1 (h.1 206 (by decide)).1
theorem sim_fits {μ : jM} (h : Rel μ) : ∃ r μ1 μ2, f_X11_fits 0 μ = some (r, μ1) ∧ f_X12_fits 201 μ1 = some (r, μ2) ∧ Rel μ2 := by
  obtain ⟨⟨σ, hv, hS, hM⟩, hTX, hRO, hHR, -⟩ := id h
  obtain ⟨n, hx, hw, hb, hH⟩ := HX.of hHR
  have h0 := hv.2.1 0 (Nat.zero_le _)
  have h9 := hv.1
  have hn := h0.2.1.1
  let q := ftB n hx hw hb
  let g := fun r => gdB (σ.2.1 0) true r && q r
  obtain ⟨m1, a1, a2, a3⟩ := c_wbegin (T := σ.2.1 0) true μ
  obtain ⟨e, he, e1, e2, e3⟩ := walkG (step := fun (s : Int32 × Int32 × jM) => f_X11_fits_L12 0 s.1 s.2.1 s.2.2) hS.2.1 h0 (h := true)
    (fun s => s.2.2) (fun s => s.2.1) (fun s m => (s.1, m)) (fun s m8 => jcl (f_X0_agrees (0 + 181) (0 + 168) m8) (fun v11 => (if v11 = (0 : Int32) then some (.inl ((s.1, s.2.1 + (1 : Int32), m8))) else (if s.1 = (0 : Int32) then jcl (f_X11_keepFirst 0 m8) (fun m15 => some (.inl ((s.1 + (1 : Int32), s.2.1 + (1 : Int32), m15)))) else some (.inl ((s.1 + (1 : Int32), s.2.1 + (1 : Int32), m8)))))))
    (fun s => rfl) (sf q) (0, 0) (fun a s => s.1 = nI a.1 ∧ (0 < a.1 → ∀ x, x < 5 → s.2.2.1 188 x = nI (val a.2 x)))
    (fun a e => e.1 = nI a.1 ∧ (0 < a.1 → ∀ x, x < 5 → e.2.1 188 x = nI (val a.2 x)) ∧ jFr WF μ e.2)
    (fun s m r hJ f1 f2 hr hg hat hbr => by
      obtain ⟨u, v, m0⟩ := s
      rw [sf_st] at hJ ⊢
      obtain ⟨j1, j2⟩ := hJ
      have j1 : u = nI (st g r).1 := j1
      subst j1
      have j2 : 0 < (st g r).1 → ∀ x, x < 5 → m0.1 188 x = nI (val (st g r).2 x) := j2
      have sl := st_le g r
      have f1 : jFr (fun c => c = 167 ∨ c = 168 ∨ c = 169) m0 m := f1
      have hH2 : HX n hx hw hb m := hH.fr (fun c hc => (f2 c (by unfold WF; omega)).1) (by rw [(f2 201 (by unfold WF; omega)).1])
      dsimp only
      rw [jcl_e (show f_X0_agrees (0 + 181) (0 + 168) m = some (if q r then 1 else 0) from c_agrees hH2 hat)]
      show ∃ s' : Int32 × Int32 × jM, _ ∧ _ ∧ _ ∧ (s'.1 = nI (sf q (st g r) r).1 ∧ (0 < (sf q (st g r) r).1 → ∀ x, x < 5 → s'.2.2.1 188 x = nI (val (sf q (st g r) r).2 x)))
      have j3 : 0 < (st g r).1 → ∀ x, x < 5 → m.1 188 x = nI (val (st g r).2 x) := fun hc x hx => by rw [(f1 188 (by decide)).1]; exact j2 hc x hx
      unfold sf
      cases y : q r with
      | false =>
        simp only [Bool.false_eq_true, if_false, if_true]
        exact ⟨_, rfl, rfl, jFr.rf, rfl, j3⟩
      | true =>
        simp only [if_true, i10, if_false]
        by_cases cz : (st g r).1 = 0
        · obtain ⟨m2, k1, k2, k3⟩ := c_keepFirst hat
          refine ⟨(nI ((st g r).1 + 1), v + 1, m2), ?_, rfl, k3.mono (fun c hc => Or.inr hc), rfl, fun _ => ?_⟩
          · rw [if_pos (by rw [cz]; rfl), jcl_e k1, nI_1]
          · rw [if_pos cz]; exact k2
        · refine ⟨(nI ((st g r).1 + 1), v + 1, m), ?_, rfl, jFr.rf, rfl, fun _ => ?_⟩
          · rw [if_neg (nI_ne0 (by omega) (by omega)), nI_1]
          · rw [if_neg cz]; exact j3 (by omega))
    (fun s m hJ f1 f2 => ⟨hJ.1, fun hc x hx => by show m.1 188 x = _; rw [(f1 188 (by decide)).1]; exact hJ.2 hc x hx, f2⟩)
    (s0 := ((0 : Int32), (0 : Int32), m1)) ⟨rfl, fun z => absurd z (by show ¬ 0 < 0; omega)⟩ rfl a2 (a3.mono (fun c hc => by unfold WF; omega))
  rw [sf_st] at e1 e2
  have e1 : e.1 = nI (st g 7776).1 := e1
  have e2 : 0 < (st g 7776).1 → ∀ x, x < 5 → e.2.1 188 x = nI (val (st g 7776).2 x) := e2
  have sl := st_le g 7776
  obtain ⟨m2, d1, d2, d3⟩ := c_tellFirst (by omega) e2
  have F : CFr μ m2 := (WF.cf e3).r.tr (CFr.row d3)
  have hS2 : RS 5 σ m2 := (RS.wf hS h9 e3).fc h9 d3 (fun c q z => by obtain ⟨q1, q2⟩ := q; omega)
  have hM1 : RM σ (jsi m2 201 0 0) := (hM.fc F).thr (by decide)
  obtain ⟨m3, t1, t2, t3⟩ := r_tries (hM1.2.1 0 (Nat.zero_le _)) h0
  have hM3 : RM σ (jsi m3 201 1 0) := (RM216 hM1 t3).thr (by decide)
  have hH3 : HX n hx hw hb m3 := hH.fr (fun c hc => by rw [(t3 c (by omega)).1, jsi_ne (by omega), (F c (by unfold CFs; omega)).1]) (by rw [(t3 201 (by decide)).1, jsi_pl (by decide), (F 201 (by unfold CFs; omega)).1])
  obtain ⟨e', he', k1, k2, k3⟩ := jlpN (step := fun (s : Int32 × Int32 × jM) => f_X12_fits_L18 201 s.1 s.2.1 s.2.2) 7776
    (fun k s => s.1 = nI (st g k).1 ∧ s.2.1 = nI k ∧ RwR (if (st g k).1 = 0 then [] else vrow (st g k).2) s.2.2 ∧ Q9 (jsi m3 201 1 0) s.2.2)
    (fun e => e.1 = nI (st g 7776).1 ∧ RwR (if (st g 7776).1 = 0 then [] else vrow (st g 7776).2) e.2 ∧ Q9 (jsi m3 201 1 0) e.2)
    (fun k s hk hs => by
      obtain ⟨u, v, m⟩ := s
      obtain ⟨hu, hv1, g1, g2⟩ := hs
      have hu : u = nI (st g k).1 := hu
      have hv1 : v = nI k := hv1
      subst hu
      subst hv1
      have g1 : RwR _ m := g1
      have g2 : Q9 (jsi m3 201 1 0) m := g2
      have sl := st_le g k
      have es := st_s g k
      have hH4 : HX n hx hw hb m := hH3.fr (fun c hc => by rw [(g2.1 c (by omega)).1, jsi_ne (by omega)]) (by rw [g2.2 37 (by decide), jsi_pl (by decide)])
      have htr : f_X12_isFitting 201 (nI k) m = some (if g k then 1 else 0) := r_fitting hn hH4 hk (by rw [(g2.1 216 (by decide)).1, jsi_ne (by decide)]; exact t2 k hk)
      dsimp only
      unfold f_X12_fits_L18
      rw [jlit 7776, if_neg (nI_ge hk (by decide)), jcl_e htr, nI_1 k, nI_1 (st g k).1]
      cases y : g k with
      | false =>
        rw [y, if_neg Bool.false_ne_true] at es
        simp only [Bool.false_eq_true, if_false, if_true]
        exact ⟨_, rfl, by rw [es], rfl, by rw [es]; exact g1, g2⟩
      | true =>
        rw [y, if_pos rfl] at es
        simp only [if_true, i10, if_false]
        by_cases cz : (st g k).1 = 0
        · rw [if_pos cz] at g1
          obtain ⟨w, w1, w2, w3, w4, w5⟩ := r_enterRow (σ := σ) hk g1 (by show 0 ≤ 17; omega) (hM3 |> fun z => g2.rm z)
          rw [if_pos cz] at es
          refine ⟨(nI ((st g k).1 + 1), nI (k + 1), w), by rw [if_pos (by rw [cz]; rfl), jcl_e w1], by rw [es], rfl, ?_, g2.tr (Q9.ent w4 w5)⟩
          rw [es, if_neg (by show ¬ (_ + 1 = 0); omega)]
          exact w2
        · rw [if_neg cz] at es g1
          refine ⟨(nI ((st g k).1 + 1), nI (k + 1), m), by rw [if_neg (nI_ne0 (by omega) (by omega))], by rw [es], rfl, ?_, g2⟩
          rw [es, if_neg (by show ¬ (_ + 1 = 0); omega)]
          exact g1)
    (fun s hs => by
      obtain ⟨u, v, m⟩ := s
      obtain ⟨hu, hv1, g1, g2⟩ := hs
      have hv1 : v = nI 7776 := hv1
      subst hv1
      refine ⟨(u, m), ?_, hu, g1, g2⟩
      dsimp only
      unfold f_X12_fits_L18
      rw [jlit 7776, if_pos (nI_le (Nat.le_refl _) (by decide))])
    (i := 0) (n := jfu) (s := ((0 : Int32), (0 : Int32), jsi m3 201 1 0)) (by omega) ⟨rfl, rfl, r_told0 m3, Q9.rf⟩ (jfu_lt (by omega))
  refine ⟨nI (st g 7776).1, m2, e'.2, ?_, ?_, ?_⟩
  · unfold f_X11_fits
    rw [jcl_e (show f_X10_begin (0 + 167) (1 : Int32) μ = some m1 from a1), jcl_e he, e1, jcl_e d1]
  · unfold f_X12_fits
    rw [jbd_e, jcl_e t1, jbd_e, jcl_e he', k1]
  · refine rel_row h hv hS2 F (k3.rm hM3) ((((RCr.thr (by decide)).tr (RCr216 t3).r).tr (RCr.thr (by decide))).tr k3.rc) d2 k2 ?_
    split
    · show 0 ≤ 22; omega
    · rw [vrow_len]; omega
