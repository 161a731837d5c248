/-! nth, fits -/
theorem WK.fr {T : TT} {h : Bool} {p : Nat} {μ m : jM} (hW : WK T h p μ) (f : ∀ c, 167 ≤ c → c ≤ 169 → m.1 c = μ.1 c) : WK T h p m := by
  obtain ⟨w1, w2⟩ := hW
  refine ⟨by rw [f 167 (by omega) (by omega)]; exact w1, ?_⟩
  rcases w2 with ⟨a, b⟩ | ⟨r', x1, x2, x3, x4, x5, x6⟩
  · exact Or.inl ⟨a, by rw [f 167 (by omega) (by omega)]; exact b⟩
  · exact Or.inr ⟨r', x1, x2, by rw [f 167 (by omega) (by omega)]; exact x3, fun x hx => by rw [f 168 (by omega) (by omega)]; exact x4 x hx, fun x hx => by rw [f 169 (by omega) (by omega)]; exact x5 x hx, x6⟩
theorem st_mono (g : Nat → Bool) {p : Nat} : ∀ {q : Nat}, p ≤ q → (st g p).1 ≤ (st g q).1
  | 0, h => by rw [show p = 0 by omega]; exact Nat.le_refl _
  | q + 1, h => by
    by_cases c : p = q + 1
    · rw [c]; exact Nat.le_refl _
    · have := st_mono g (p := p) (q := q) (by omega)
      rw [st_s]
      split
      · show _ ≤ (st g q).1 + 1; omega
      · exact this
theorem st_uniq {g : Nat → Bool} {r r' : Nat} (h : g r = true) (h' : g r' = true) (e : (st g r).1 = (st g r').1) : r = r' := by
  have one : ∀ a b, g a = true → a < b → (st g a).1 < (st g b).1 := fun a b ha hab => by
    have := st_mono g (p := a + 1) (q := b) hab
    rw [st_s, ha, if_pos rfl] at this
    exact this
  rcases Nat.lt_trichotomy r r' with q | q | q
  · have := one r r' h q; omega
  · exact q
  · have := one r' r h' q; omega
theorem sim_nth {μ : jM} (h : Rel μ) (x : Int32) : ∃ r μ1 μ2, f_X11_nth 0 x μ = some (r, μ1) ∧ f_X12_nth 201 x μ1 = some (r, μ2) ∧ Rel μ2 := by
  obtain ⟨⟨σ, hv, hS, hM⟩, -⟩ := id h
  have h0 := hv.2.1 0 (Nat.zero_le _)
  have h9 := hv.1
  have hn := h0.2.1.1
  unfold f_X11_nth f_X12_nth
  simp only [jbd_e]
  by_cases cx : (1 : Int32) ≤ x
  · simp only [if_pos cx]
    obtain ⟨m1, a1, a2, a3⟩ := c_wbegin (T := σ.2.1 0) true μ
    let g := gdB (σ.2.1 0) true
    obtain ⟨e, he, hr⟩ := jlpG (step := fun (s : Int32 × jM) => f_X11_nth_L17 0 x s.1 s.2)
      (fun k s => ∃ p, p ≤ 7776 ∧ k = 7776 - p ∧ s.1 = nI ((st g p).1 + 1) ∧ WK (σ.2.1 0) true p s.2 ∧ jFr WF μ s.2 ∧ ∀ r, r < p → g r = true → ¬ nI ((st g r).1 + 1) = x)
      (fun e => (∃ m r, e = .inl m ∧ r < 7776 ∧ g r = true ∧ nI ((st g r).1 + 1) = x ∧ (∀ y, y < 5 → m.1 168 y = nI (val r y)) ∧ jFr WF μ m) ∨ ∃ m, e = .inr m ∧ (∀ r, r < 7776 → g r = true → ¬ nI ((st g r).1 + 1) = x) ∧ jFr WF μ m)
      (fun k s hs => by
        obtain ⟨u, m⟩ := s
        obtain ⟨p, hp, rfl, hu, g1, g2, g3⟩ := hs
        have hu : u = nI ((st g p).1 + 1) := hu
        subst hu
        have g2 : jFr WF μ m := g2
        have g1 : WK (σ.2.1 0) true p m := g1
        have sl := st_le g p
        by_cases c : (st g p).1 = 7776
        · refine ⟨.inr (.inr m), ?_, Or.inr ⟨m, rfl, fun r hr => g3 r (by omega), g2⟩⟩
          dsimp only
          unfold f_X11_nth_L17
          rw [c, jlit 7776, if_pos (nI_lt (by omega) (by decide))]
        · obtain ⟨m', f1, hr⟩ := c_adv (RT.wf hS.2.1 g2) h0 g1
          have n1 : ¬ (7776 : Int32) < nI ((st g p).1 + 1) := nI_nlt (a := 7776) (by omega) (by decide)
          rcases hr with ⟨r, b1, b2, b3, b4, b5, b6, b7, -⟩ | ⟨b1, b2⟩
          · have es : st g (r + 1) = ((st g p).1 + 1, if (st g p).1 = 0 then r else (st g p).2) := fo_hit b2 b5 b4
            have er : st g r = st g p := fo_skip b2 b5
            by_cases ce : nI ((st g p).1 + 1) = x
            · refine ⟨.inr (.inl m'), ?_, Or.inl ⟨m', r, rfl, b3, b4, by rw [er]; exact ce, b7, g2.tr (advWF f1)⟩⟩
              dsimp only
              unfold f_X11_nth_L17
              rw [if_neg n1, jcl2_e (show f_X10_advance (0 + 167) m = some (1, m') from b1), if_neg (by decide), if_pos ce]
            · refine ⟨.inl (nI ((st g p).1 + 1 + 1), m'), ?_, 7776 - (r + 1), by omega, r + 1, by omega, rfl, by rw [es], b6, g2.tr (advWF f1), fun r' hr' hg' => ?_⟩
              · dsimp only
                unfold f_X11_nth_L17
                rw [if_neg n1, jcl2_e (show f_X10_advance (0 + 167) m = some (1, m') from b1), if_neg (by decide), if_neg ce, nI_1]
              · by_cases z : r' < p
                · exact g3 r' z hg'
                · by_cases z2 : r' = r
                  · rw [z2, er]; exact ce
                  · have := b5 r' (by omega) (by omega)
                    have hg' : gdB (σ.2.1 0) true r' = true := hg'
                    rw [this] at hg'
                    cases hg'
          · refine ⟨.inr (.inr m'), ?_, Or.inr ⟨m', rfl, fun r hr hg => ?_, g2.tr (advWF f1)⟩⟩
            · dsimp only
              unfold f_X11_nth_L17
              rw [if_neg n1, jcl2_e (show f_X10_advance (0 + 167) m = some (0, m') from b1), if_pos rfl]
            · by_cases z : r < p
              · exact g3 r z hg
              · have hg : gdB (σ.2.1 0) true r = true := hg
                rw [b2 r (by omega) hr] at hg
                cases hg)
      jfu 7776 ((1 : Int32), m1) ⟨0, by omega, rfl, rfl, a2, a3.mono (fun c hc => by unfold WF; omega), fun r hr => absurd hr (Nat.not_lt_zero r)⟩ (by decide)
    -- the reference finds the same
    have ref : ∀ m4 : jM, (∀ r, r < 7776 → TRI (σ.2.1 0) r (m4.1 216 r)) → ∃ e, jloop (fun (s : Int32 × Int32) => f_X12_nth_L20 201 x m4 s.1 s.2) jfu (((0 : Int32), (0 : Int32))) = some e ∧ ((∃ r, e = .inl (nI r) ∧ r < 7776 ∧ g r = true ∧ nI ((st g r).1 + 1) = x) ∨ (e = .inr () ∧ ∀ r, r < 7776 → g r = true → ¬ nI ((st g r).1 + 1) = x)) := by
      intro m4 hTR
      refine jlp (step := fun (s : Int32 × Int32) => f_X12_nth_L20 201 x m4 s.1 s.2)
        (I := fun s => ∃ k, k ≤ 7776 ∧ s.1 = nI (st g k).1 ∧ s.2 = nI k ∧ ∀ r, r < k → g r = true → ¬ nI ((st g r).1 + 1) = x)
        (m := fun s => 7776 - s.2.toNatClampNeg)
        (R := fun e => (∃ r, e = .inl (nI r) ∧ r < 7776 ∧ g r = true ∧ nI ((st g r).1 + 1) = x) ∨ (e = .inr () ∧ ∀ r, r < 7776 → g r = true → ¬ nI ((st g r).1 + 1) = x))
        ?_ jfu ((0 : Int32), (0 : Int32)) ⟨0, by omega, rfl, rfl, fun r hr => absurd hr (Nat.not_lt_zero r)⟩ (by show 7776 - _ < 2000000; omega)
      rintro ⟨u, v⟩ ⟨k, hk, hu, hv1, g3⟩
      have hu : u = nI (st g k).1 := hu
      have hv1 : v = nI k := hv1
      subst hu
      subst hv1
      by_cases ck : k < 7776
      · have dec : 7776 - (nI (k + 1)).toNatClampNeg < 7776 - (nI k).toNatClampNeg := by rw [nI_clamp (by omega), nI_clamp (by omega)]; omega
        have htr := TRI0 hn (hTR k ck)
        have es := st_s g k
        have pre : ∀ z, (if m4.1 216 k = (0 : Int32) then (if nI (st g k).1 + f_X12_flag (if m4.1 216 k = (0 : Int32) then 1 else 0) = x then some (.inr (.inl (nI k))) else some (.inl (nI (st g k).1 + f_X12_flag (if m4.1 216 k = (0 : Int32) then 1 else 0), nI (k + 1)))) else some (.inl (nI (st g k).1 + f_X12_flag (if m4.1 216 k = (0 : Int32) then 1 else 0), nI (k + 1)))) = z → f_X12_nth_L20 201 x m4 (nI (st g k).1) (nI k) = z := fun z hz => by
          unfold f_X12_nth_L20
          simp only [jbd_e]
          rw [jlit 7776, if_neg (nI_ge ck (by decide))]
          show jrd (m4.1 216) _ _ _ = _
          rw [jrd_n ck (by decide)]
          show jrd (m4.1 216) _ _ _ = _
          rw [jrd_n ck (by decide), nI_1]
          exact hz
        cases q : g k with
        | false =>
          rw [q, if_neg Bool.false_ne_true] at es
          have hz : ¬ m4.1 216 k = 0 := fun z => by
            have := htr.mp z
            have q : gdB (σ.2.1 0) true k = false := q
            rw [q] at this; cases this
          have e0 : f_X12_flag (0 : Int32) = 0 := by decide
          rw [if_neg hz, if_neg hz, e0, Int32.add_zero] at pre
          refine ⟨.inl (nI (st g k).1, nI (k + 1)), pre _ rfl, ⟨k + 1, by omega, by rw [es], rfl, fun r hr hg => ?_⟩, dec⟩
          by_cases z : r = k
          · rw [z, q] at hg; cases hg
          · exact g3 r (by omega) hg
        | true =>
          rw [q, if_pos rfl] at es
          have hz : m4.1 216 k = 0 := htr.mpr q
          have e1 : f_X12_flag (1 : Int32) = 1 := by decide
          rw [if_pos hz, if_pos hz, e1, nI_1] at pre
          by_cases ce : nI ((st g k).1 + 1) = x
          · exact ⟨.inr (.inl (nI k)), pre _ (if_pos ce), Or.inl ⟨k, rfl, ck, q, ce⟩⟩
          · refine ⟨.inl (nI ((st g k).1 + 1), nI (k + 1)), pre _ (if_neg ce), ⟨k + 1, by omega, by rw [es], rfl, fun r hr hg => ?_⟩, dec⟩
            by_cases z : r = k
            · rw [z]; exact ce
            · exact g3 r (by omega) hg
      · have : k = 7776 := by omega
        subst this
        refine ⟨.inr (.inr ()), ?_, Or.inr ⟨rfl, g3⟩⟩
        dsimp only
        unfold f_X12_nth_L20
        rw [jlit 7776, if_pos (nI_le (Nat.le_refl _) (by decide))]
    rcases hr with ⟨m2, r, rfl, b1, b2, b3, b4, b5⟩ | ⟨m2, rfl, b1, b2⟩
    · obtain ⟨w1, w2⟩ := c_empty m2
      obtain ⟨m3, d1, d2, d3⟩ := c_tellAll (c := 168) (f := fun y => nI (val r y)) (by decide) (by decide) (by decide) (fun k hk => by rw [(w2 168 (by decide)).1]; exact b4 k hk) w1 (by show 0 ≤ 17; omega)
      have F : CFr μ m3 := ((WF.cf b5).r.tr (CFr.row w2)).tr (CFr.row d3)
      have hS3 : RS 5 σ m3 := ((RS.wf hS h9 b5).fc h9 w2 (fun c q z => by obtain ⟨q1, q2⟩ := q; omega)).fc h9 d3 (fun c q z => by obtain ⟨q1, q2⟩ := q; omega)
      have hM1 : RM σ (jsi m3 201 0 0) := (hM.fc F).thr (by decide)
      obtain ⟨m4, t1, t2, t3⟩ := r_tries (hM1.2.1 0 (Nat.zero_le _)) h0
      have hM4 : RM σ (jsi m4 201 1 0) := (RM216 hM1 t3).thr (by decide)
      obtain ⟨w5, u1, u2, u3, u4, u5⟩ := r_enterRow (σ := σ) (l := []) b1 (r_told0 m4) (by show 0 ≤ 17; omega) hM4
      obtain ⟨e', he', hr'⟩ := ref m4 t2
      rcases hr' with ⟨r', rfl, c1, c2, c3⟩ | ⟨-, c1⟩
      · have : r' = r := st_uniq c2 b2 (by
          have s1 := st_le g r
          have s2 := st_le g r'
          have := (nI_eq (by omega) (by omega)).mp (c3.trans b3.symm)
          omega)
        subst this
        refine ⟨0, m3, w5, ?_, ?_, rel_row h hv hS3 F u3 ((((RCr.thr (by decide)).tr (RCr216 t3).r).tr (RCr.thr (by decide))).tr (RCr.ent u4 u5)) d2 u2 (by show (vrow r').length ≤ 22; rw [vrow_len]; omega)⟩
        · rw [jcl_e (show f_X10_begin (0 + 167) (1 : Int32) μ = some m1 from a1), jcl_e he]
          show jcl (f_X3_tellAll 3 168 (f_X3_empty 3 m2)) _ = _
          rw [jcl_e d1]
        · rw [jcl_e t1, jcl_e he']
          show jcl (f_X12_entersRow 201 (nI r') (jsi m4 201 1 0)) _ = _
          rw [jcl_e u1]
      · exact absurd b3 (c1 r b1 b2)
    · have F : CF μ m2 := WF.cf b2
      have hM1 : RM σ (jsi m2 201 0 0) := (hM.fc F.r).thr (by decide)
      obtain ⟨m4, t1, t2, t3⟩ := r_tries (hM1.2.1 0 (Nat.zero_le _)) h0
      obtain ⟨e', he', hr'⟩ := ref m4 t2
      rcases hr' with ⟨r', rfl, c1, c2, c3⟩ | ⟨rfl, c1⟩
      · exact absurd c3 (b1 r' c1 c2)
      · refine ⟨-2, m2, m4, ?_, ?_, rel_mk h hv (RS.wf hS h9 b2) F (RM216 hM1 t3) ((RC.thr (by decide)).tr (RCr216 t3))⟩
        · rw [jcl_e (show f_X10_begin (0 + 167) (1 : Int32) μ = some m1 from a1), jcl_e he]
        · rw [jcl_e t1, jcl_e he']
  · simp only [if_neg cx]
    exact ⟨-1, μ, _, rfl, rfl, sim_thr h⟩
/-! what was heard -/
def HX (n : Nat) (hx hv hb : Nat → Nat) (μ : jM) : Prop := n ≤ 10 ∧ μ.1 181 3 = nI n ∧ μ.1 201 37 = nI n ∧ ∀ i, i < n → hx i < 5 ∧ hv i < 6 ∧ hb i < 2 ∧ μ.1 182 i = nI (hx i) ∧ μ.1 183 i = nI (hv i) ∧ μ.1 184 i = nI (hb i) ∧ μ.1 220 i = nI (hx i) ∧ μ.1 221 i = nI (hv i) ∧ μ.1 222 i = nI (hb i)
theorem HX.of {μ : jM} (h : HR μ) : ∃ n hx hv hb, HX n hx hv hb μ := by
  obtain ⟨n, hn, n1, n2, n3⟩ := h
  refine ⟨n, fun i => (μ.1 182 i).toNatClampNeg, fun i => (μ.1 183 i).toNatClampNeg, fun i => (μ.1 184 i).toNatClampNeg, hn, n1, n2, fun i hi => ?_⟩
  obtain ⟨x, v, b, hx, hv, hb, e1, e2, e3, e4, e5, e6⟩ := n3 i hi
  dsimp only
  rw [e1, e2, e3, nI_clamp (by omega), nI_clamp (by omega), nI_clamp (by omega)]
  exact ⟨hx, hv, hb, rfl, rfl, rfl, e4, e5, e6⟩
theorem HX.fr {n : Nat} {hx hv hb : Nat → Nat} {μ m : jM} (h : HX n hx hv hb μ) (f : ∀ c, (181 ≤ c ∧ c ≤ 184) ∨ (220 ≤ c ∧ c ≤ 222) → m.1 c = μ.1 c) (f2 : m.1 201 37 = μ.1 201 37) : HX n hx hv hb m := by
  unfold HX
  rw [f 181 (by omega), f 182 (by omega), f 183 (by omega), f 184 (by omega), f 220 (by omega), f 221 (by omega), f 222 (by omega), f2]
  exact h
def ftB (n : Nat) (hx hv hb : Nat → Nat) (r : Nat) : Bool := (List.range n).all (fun i => decide (val r (hx i) = hv i) == decide (hb i = 1))
theorem ftB_s (n : Nat) (hx hv hb : Nat → Nat) (r : Nat) : ftB (n + 1) hx hv hb r = (ftB n hx hv hb r && (decide (val r (hx n) = hv n) == decide (hb n = 1))) := by
  unfold ftB
  rw [List.range_succ, List.all_append]
  simp
theorem ftB_no {n k : Nat} {hx hv hb : Nat → Nat} {r : Nat} (hk : k < n) (h : (decide (val r (hx k) = hv k) == decide (hb k = 1)) = false) : ftB n hx hv hb r = false := by
  unfold ftB
  rw [List.all_eq_false]
  exact ⟨k, List.mem_range.mpr hk, by rw [h]; decide⟩
theorem c_agrees {n r : Nat} {hx hv hb : Nat → Nat} {m : jM} (hH : HX n hx hv hb m) (hat : ∀ x, x < 5 → m.1 168 x = nI (val r x)) : f_X0_agrees 181 168 m = some (if ftB n hx hv hb r then 1 else 0) := by
  obtain ⟨hn, n1, n2, n3⟩ := hH
  obtain ⟨e, he, hr⟩ := jlp (step := fun (s : Int32) => f_X0_agrees_L2 181 168 m s)
    (fun s => ∃ k, k ≤ n ∧ s = nI k ∧ ftB k hx hv hb r = true) (fun s => n - s.toNatClampNeg)
    (fun e => (e = .inl () ∧ ftB n hx hv hb r = false) ∨ (e = .inr () ∧ ftB n hx hv hb r = true))
    (fun s hs => by
      obtain ⟨k, hk, rfl, g⟩ := hs
      by_cases c : k < n
      · have dec : n - (nI (k + 1)).toNatClampNeg < n - (nI k).toNatClampNeg := by rw [nI_clamp (by omega), nI_clamp (by omega)]; omega
        obtain ⟨x5, v6, b2, e1, e2, e3, -⟩ := n3 k c
        have hvl := val_lt r (hx k)
        have pre : ∀ z, (if (if nI (val r (hx k)) = nI (hv k) then (1 : Int32) else 0) = (if nI (hb k) = (1 : Int32) then (1 : Int32) else 0) then some (.inl (nI (k + 1))) else some (.inr (.inl ()))) = z → f_X0_agrees_L2 181 168 m (nI k) = z := fun z hz => by
          unfold f_X0_agrees_L2
          simp only [jbd_e]
          rw [n1, if_neg (nI_ge c (by omega)), jrd_n (by omega) (by decide), e1, show jlen 168 = 5 by decide, jrd_n x5 (by decide), hat _ x5, jrd_n (by omega) (by decide), e2, jrd_n (by omega) (by decide), e3, nI_1]
          exact hz
        have q1 : nI (val r (hx k)) = nI (hv k) ↔ val r (hx k) = hv k := nI_eq (by omega) (by omega)
        have q2 : nI (hb k) = (1 : Int32) ↔ hb k = 1 := nI_eq (b := 1) (by omega) (by decide)
        cases y : (decide (val r (hx k) = hv k) == decide (hb k = 1)) with
        | true =>
          refine ⟨.inl (nI (k + 1)), pre _ (if_pos ?_), ⟨k + 1, by omega, rfl, by rw [ftB_s, g, y]; rfl⟩, dec⟩
          by_cases w1 : val r (hx k) = hv k
          · by_cases w2 : hb k = 1
            · rw [if_pos (q1.mpr w1), if_pos (q2.mpr w2)]
            · simp [w1, w2] at y
          · by_cases w2 : hb k = 1
            · simp [w1, w2] at y
            · rw [if_neg (fun z => w1 (q1.mp z)), if_neg (fun z => w2 (q2.mp z))]
        | false =>
          refine ⟨.inr (.inl ()), pre _ (if_neg ?_), Or.inl ⟨rfl, ftB_no c y⟩⟩
          by_cases w1 : val r (hx k) = hv k
          · by_cases w2 : hb k = 1
            · simp [w1, w2] at y
            · rw [if_pos (q1.mpr w1), if_neg (fun z => w2 (q2.mp z))]; decide
          · by_cases w2 : hb k = 1
            · rw [if_neg (fun z => w1 (q1.mp z)), if_pos (q2.mpr w2)]; decide
            · simp [w1, w2] at y
      · have : k = n := by omega
        subst this
        refine ⟨.inr (.inr ()), ?_, Or.inr ⟨rfl, g⟩⟩
        unfold f_X0_agrees_L2
        rw [n1, if_pos (nI_le (Nat.le_refl _) (by omega))])
    jfu (0 : Int32) ⟨0, by omega, rfl, rfl⟩ (by show n - _ < 2000000; omega)
  unfold f_X0_agrees
  rw [jcl_e he]
  rcases hr with ⟨rfl, y⟩ | ⟨rfl, y⟩
  · rw [y]; rfl
  · rw [y]; rfl
theorem r_fitting {T : TT} {n r : Nat} {hx hv hb : Nat → Nat} {m : jM} (hnc : nc T ≤ 8) (hH : HX n hx hv hb m) (hr : r < 7776) (hT : TRI T r (m.1 216 r)) : f_X12_isFitting 201 (nI r) m = some (if gdB T true r && ftB n hx hv hb r then 1 else 0) := by
  obtain ⟨hn, n1, n2, n3⟩ := hH
  obtain ⟨e, he, hq⟩ := jlp (step := fun (s : Int32) => f_X12_isFitting_L2 201 (nI r) m s)
    (fun s => ∃ k, k ≤ n ∧ s = nI k ∧ ftB k hx hv hb r = true) (fun s => n - s.toNatClampNeg)
    (fun e => (e = .inl () ∧ ftB n hx hv hb r = false) ∨ (e = .inr () ∧ ftB n hx hv hb r = true))
    (fun s hs => by
      obtain ⟨k, hk, rfl, g⟩ := hs
      by_cases c : k < n
      · have dec : n - (nI (k + 1)).toNatClampNeg < n - (nI k).toNatClampNeg := by rw [nI_clamp (by omega), nI_clamp (by omega)]; omega
        obtain ⟨x5, v6, b2, -, -, -, e1, e2, e3⟩ := n3 k c
        have hvl := val_lt r (hx k)
        have pre : ∀ z, (if f_X12_flag (if nI (val r (hx k)) = nI (hv k) then (1 : Int32) else 0) = nI (hb k) then some (.inl (nI (k + 1))) else some (.inr (.inl ()))) = z → f_X12_isFitting_L2 201 (nI r) m (nI k) = z := fun z hz => by
          unfold f_X12_isFitting_L2
          rw [n2, if_neg (nI_ge c (by omega))]
          show jrd (m.1 220) _ _ _ = _
          rw [jrd_n (by omega) (by decide), e1, jcl_e (r_valueOf hr x5)]
          show jrd (m.1 221) _ _ _ = _
          rw [jrd_n (by omega) (by decide), e2]
          show jrd (m.1 222) _ _ _ = _
          rw [jrd_n (by omega) (by decide), e3, nI_1]
          exact hz
        have q1 : nI (val r (hx k)) = nI (hv k) ↔ val r (hx k) = hv k := nI_eq (by omega) (by omega)
        have f1 : f_X12_flag (1 : Int32) = nI 1 := by decide
        have f0 : f_X12_flag (0 : Int32) = nI 0 := by decide
        cases y : (decide (val r (hx k) = hv k) == decide (hb k = 1)) with
        | true =>
          refine ⟨.inl (nI (k + 1)), pre _ (if_pos ?_), ⟨k + 1, by omega, rfl, by rw [ftB_s, g, y]; rfl⟩, dec⟩
          by_cases w1 : val r (hx k) = hv k
          · by_cases w2 : hb k = 1
            · rw [if_pos (q1.mpr w1), f1, w2]
            · simp [w1, w2] at y
          · by_cases w2 : hb k = 1
            · simp [w1, w2] at y
            · rw [if_neg (fun z => w1 (q1.mp z)), f0, show hb k = 0 by omega]
        | false =>
          refine ⟨.inr (.inl ()), pre _ (if_neg ?_), Or.inl ⟨rfl, ftB_no c y⟩⟩
          by_cases w1 : val r (hx k) = hv k
          · by_cases w2 : hb k = 1
            · simp [w1, w2] at y
            · rw [if_pos (q1.mpr w1), f1, show hb k = 0 by omega]; decide
          · by_cases w2 : hb k = 1
            · rw [if_neg (fun z => w1 (q1.mp z)), f0, w2]; decide
            · simp [w1, w2] at y
      · have : k = n := by omega
        subst this
        refine ⟨.inr (.inr ()), ?_, Or.inr ⟨rfl, g⟩⟩
        unfold f_X12_isFitting_L2
        rw [n2, if_pos (nI_le (Nat.le_refl _) (by omega))])
    jfu (0 : Int32) ⟨0, by omega, rfl, rfl⟩ (by show n - _ < 2000000; omega)
  unfold f_X12_isFitting
  rw [jcl_e he]
  rcases hq with ⟨rfl, y⟩ | ⟨rfl, y⟩
  · rw [y, Bool.and_false]; rfl
  · rw [y, Bool.and_true]
    show jrd (m.1 216) _ _ _ = _
    rw [jrd_n hr (by decide)]
    have htr := TRI0 hnc hT
    cases z : gdB T true r with
    | true => rw [if_pos (htr.mpr z)]; rfl
    | false => rw [if_neg (fun w => by rw [htr.mp w] at z; cases z)]; rfl
