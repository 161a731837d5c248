/-! shadows -/
def shF (sh : Nat → Nat) (t : Nat → Nat) (r : Nat) : Nat → Nat := fun i => t i + if i = sh r then 1 else 0
theorem shF_iv (g : Nat → Bool) (sh : Nat → Nat) (b : Nat) (hs : ∀ r, sh r < b) (p : Nat) : (∀ i, fo g (shF sh) (fun _ => 0) p i ≤ p) ∧ ∀ i, b ≤ i → fo g (shF sh) (fun _ => 0) p i = 0 :=
  fo_inv (fun p (t : Nat → Nat) => (∀ i, t i ≤ p) ∧ ∀ i, b ≤ i → t i = 0) ⟨fun _ => Nat.le_refl _, fun _ _ => rfl⟩ (fun p t h => ⟨fun i => by have := h.1 i; omega, h.2⟩) (fun p t h _ => ⟨fun i => by
      have := h.1 i
      show t i + (if i = sh p then 1 else 0) ≤ p + 1
      split <;> omega, fun i hi => by
      have := h.2 i hi
      have := hs p
      show t i + (if i = sh p then 1 else 0) = 0
      rw [if_neg (by omega)]; omega⟩) p
theorem r_zero {c n : Nat} {step : Int32 × jM → Option ((Int32 × jM) ⊕ jM)} (m3 : jM) (hn : n < 2000)
    (h1 : ∀ k m, k < n → step (nI k, m) = some (.inl (nI (k + 1), jsi m c k 0))) (h2 : ∀ m, step (nI n, m) = some (.inr m)) : ∃ w, jloop step jfu ((0 : Int32), m3) = some w ∧ (∀ i, i < n → w.1 c i = 0) ∧ jFr (fun q => q = c) m3 w :=
  jlpN (step := step) n (fun k s => s.1 = nI k ∧ (∀ i, i < k → s.2.1 c i = 0) ∧ jFr (fun q => q = c) m3 s.2)
    (fun m => (∀ i, i < n → m.1 c i = 0) ∧ jFr (fun q => q = c) m3 m)
    (fun k s hk hs => by
      obtain ⟨u, m⟩ := s
      obtain ⟨hu, g1, g2⟩ := hs
      have hu : u = nI k := hu
      subst hu
      have g1 : ∀ i, i < k → m.1 c i = 0 := g1
      refine ⟨(nI (k + 1), jsi m c k 0), h1 k m hk, rfl, fun i hi => ?_, jFr.tr g2 (jFr.si _ _ _ rfl)⟩
      show (jsi m c k 0).1 c i = 0
      by_cases d : i = k
      · rw [d, jsi_at]
      · rw [jsi_pl d]; exact g1 i (by omega))
    (fun s hs => by
      obtain ⟨u, m⟩ := s
      obtain ⟨hu, g1, g2⟩ := hs
      have hu : u = nI n := hu
      subst hu
      exact ⟨m, h2 m, g1, g2⟩)
    (i := 0) (n := jfu) (s := ((0 : Int32), m3)) (by omega) ⟨rfl, fun i hi => absurd hi (Nat.not_lt_zero i), jFr.rf⟩ (jfu_lt (by omega))
theorem sim_shadows {μ : jM} (h : Rel μ) (x : Int32) : ∃ r μ1 μ2, f_X11_shadows 0 x μ = some (r, μ1) ∧ f_X12_shadows 201 x μ1 = some (r, μ2) ∧ Rel μ2 := by
  obtain ⟨⟨σ, hv, hS, hM⟩, -⟩ := id h
  have h0 := hv.2.1 0 (Nat.zero_le _)
  have h9 := hv.1
  have hn := h0.2.1.1
  have e1 : (1 : Int64).toInt = 1 := by decide
  have e31 : (31 : Int64).toInt = 31 := by decide
  have i1 : (1 : Int32).toInt = 1 := by decide
  have i32 : (32 : Int32).toInt = 32 := by decide
  by_cases cx : 1 ≤ x.toInt ∧ x.toInt ≤ 31
  · obtain ⟨X, hX2, hx⟩ := nI_iof (x := x) (n := 32) ⟨by omega, by omega⟩ (by decide)
    have hX1 : 1 ≤ X := by
      have := cx.1
      rw [hx, nI_toInt (by omega)] at this
      omega
    have n1 : ¬ x < (1 : Int32) := by rw [Int32.lt_iff_toInt_lt, i1]; omega
    have n2 : ¬ (32 : Int32) ≤ x := by rw [Int32.le_iff_toInt_le, i32]; omega
    have n3 : ¬ f_X12_in x.toInt64 (1 : Int64) (31 : Int64) = 0 := by rw [in_i, e1, e31, if_pos cx]; decide
    clear cx
    subst hx
    have hpl := pc_le X
    have hbr : f_X12_bitsOf (nI X) = some (nI (pc X)) := r_bits (by omega)
    have hbc : f_J6_bitCount_0f7a4 (nI X) = nI (pc X) := c_bits X (by omega)
    by_cases c3 : pc X ≤ 3
    · have hV := pc_pos X hX2 (by omega)
      have n4 : nI (pc X) ≤ (3 : Int32) := nI_le (b := 3) c3 (by decide)
      obtain ⟨sh, hsh⟩ : ∃ sh : Nat → Nat, sh = fun r => shP X r 5 := ⟨_, rfl⟩
      have sl : ∀ r, sh r < 216 := fun r => by rw [hsh]; exact shP_216 hX2 c3 r
      obtain ⟨A, hA⟩ : ∃ A : Nat → Nat → Nat, A = fo (gdB (σ.2.1 0) true) (shF sh) (fun _ => 0) := ⟨_, rfl⟩
      have A_s : ∀ p, A (p + 1) = if gdB (σ.2.1 0) true p then shF sh (A p) p else A p := fun p => by rw [hA]; rfl
      have iv : ∀ p, (∀ i, A p i ≤ p) ∧ ∀ i, 216 ≤ i → A p i = 0 := fun p => by rw [hA]; exact shF_iv _ sh 216 sl p
      obtain ⟨m0, z1, z2, z3⟩ := c_fill μ
      obtain ⟨m1, a1, a2, a3⟩ := c_wbegin (T := σ.2.1 0) true m0
      obtain ⟨e, he, e2, e3⟩ := walkG (step := fun (s : Int32 × jM) => f_X11_shadows_L39 0 (nI X) s.1 s.2) hS.2.1 h0 (h := true)
        (fun s => s.2) (fun s => s.1) (fun s m => m) (fun s m12 => jcl (f_X11_shadowOfSolution 0 (nI X) m12) (fun v15 => jrd (m12.1 (0 + 187)) v15 256 (fun v18 => jin v15 256 (jbd (jsi m12 (0 + 187) v15.toNatClampNeg (v18 + (1 : Int32))) (fun m21 => some (.inl ((s.1 + (1 : Int32), m21))))))))
        (fun s => rfl) (shF sh) (fun _ => 0) (fun a s => TY 187 256 a s.2)
        (fun a e => TY 187 256 a e ∧ jFr WF μ e)
        (fun s m r hJ f1 f2 hr hg hat hbr => by
          obtain ⟨v, mm⟩ := s
          rw [← hA] at hJ ⊢
          have j2 : TY 187 256 (A r) mm := hJ
          have f1 : jFr (fun c => c = 167 ∨ c = 168 ∨ c = 169) mm m := f1
          have j3 : TY 187 256 (A r) m := fun i hi => by rw [(f1 187 (by decide)).1]; exact j2 i hi
          have slr := sl r
          refine ⟨(v + 1, jsi m 187 (sh r) (nI (A r (sh r) + 1))), ?_, rfl, jFr.si _ _ _ (Or.inl rfl), j3.one⟩
          dsimp only
          rw [jcl_e (show f_X11_shadowOfSolution 0 (nI X) m = some (nI (sh r)) by rw [hsh]; exact c_shadow hX2 hat)]
          show jrd (m.1 187) _ _ _ = _
          rw [jrd_n (by omega) (by decide), jin_n (by omega) (by decide), jbd_e, nI_clamp (by omega), j3 _ (by omega), nI_1])
        (fun s m hJ f1 f2 => ⟨fun i hi => by show m.1 187 i = _; rw [(f1 187 (by decide)).1]; exact hJ i hi, f2⟩)
        (s0 := ((0 : Int32), m1)) (fun i hi => by show m1.1 187 i = 0; rw [(a3 187 (by decide)).1]; exact z2 i hi) rfl a2 ((z3.mono (fun c hc => by unfold WF; omega)).tr (a3.mono (fun c hc => by unfold WF; omega)))
      rw [← hA] at e2
      have hSe : RS 5 σ e := RS.wf hS h9 e3
      obtain ⟨l1, l2⟩ := iv 7776
      obtain ⟨t, ht⟩ : ∃ t, t = A 7776 := ⟨_, rfl⟩
      rw [← ht] at e2 l1 l2
      have mc := mo_ct l2 40
      have mc1 : mo t 256 = mo t 216 := mc.1
      have mc2 : ct t 256 = ct t 216 := mc.2
      have ml : mo t 216 < 216 := mo_lt t 215
      have cl := ct_le t 216
      obtain ⟨w, q1, q2⟩ := jlpN (step := fun (s : Int32 × Int32 × Int32) => f_X11_shadows_L83 0 e s.1 s.2.1 s.2.2) 256
        (fun k s => s = (nI (ct t k), nI (mo t k), nI k)) (fun s => s = (nI (ct t 256), nI (mo t 256)))
        (fun k s hk hs => by
          subst hs
          have mk1 := mo_le t k
          have t1 := l1 k
          have t2 := l1 (mo t k)
          refine ⟨_, ?_, rfl⟩
          dsimp only
          unfold f_X11_shadows_L83
          rw [if_neg (nI_ge hk (by decide))]
          simp only [jbd_e]
          have jr : ∀ c : Int32, jrd (e.1 (0 + 187)) (nI k) 256 (fun v39 => jrd (e.1 (0 + 187)) (nI (mo t k)) 256 (fun v42 => (if v39 ≤ v42 then some (.inl ((c, nI (mo t k), nI (k + 1)))) else some (.inl ((c, nI k, nI (k + 1))))))) = (if nI (t k) ≤ nI (t (mo t k)) then some (.inl ((c, nI (mo t k), nI (k + 1)))) else some (.inl ((c, nI k, nI (k + 1)))) : Option ((Int32 × Int32 × Int32) ⊕ (Int32 × Int32))) := fun c => by
            show jrd (e.1 187) _ _ _ = _
            rw [jrd_n (by omega) (by decide)]
            show jrd (e.1 187) _ _ _ = _
            rw [jrd_n (by omega) (by decide), e2 k hk, e2 (mo t k) (by omega)]
          rw [nI_1 k, nI_1, jr, jr]
          show jrd (e.1 187) _ _ _ = _
          rw [jrd_n (by omega) (by decide), e2 k hk, mo_s, ct_s]
          by_cases d : t k ≤ t (mo t k)
          · rw [if_pos d, if_pos (nI_le d (by omega))]
            by_cases z : 0 < t k
            · rw [if_pos z, if_neg (nI_nle z (by omega)), if_pos (nI_le d (by omega))]
            · rw [if_neg z, show t k = 0 by omega, if_pos (by decide)]; rfl
          · rw [if_neg d, if_neg (nI_ge (show t (mo t k) < t k by omega) (by omega)), if_pos (show 0 < t k by omega), if_neg (nI_nle (show 0 < t k by omega) (by omega)), if_neg (nI_ge (show t (mo t k) < t k by omega) (by omega))])
        (fun s hs => by
          subst hs
          refine ⟨_, ?_, rfl⟩
          dsimp only
          unfold f_X11_shadows_L83
          rw [if_pos (nI_le (Nat.le_refl _) (by decide))])
        (i := 0) (n := jfu) (s := ((0 : Int32), (0 : Int32), (0 : Int32))) (by omega) rfl (jfu_lt (by omega))
      rw [mc1, mc2] at q2
      have ref : ∀ m2 : jM, CFr μ m2 → ∃ m3, RM σ m3 ∧ RC m2 m3 ∧ TY 217 216 t m3 ∧ ∀ K : Int32 × Int32 → jM → Option (Int32 × jM), jcl (f_X12_tries 201 (jsi m2 201 0 (0 : Int32))) (fun m7 => jcl (jloop (fun (s : Int32 × jM) => f_X12_shadows_L33 201 s.1 s.2) jfu (((0 : Int32), m7))) (fun w15 => jcl (jloop (fun (s : Int32 × jM) => f_X12_shadows_L55 201 (nI X) s.1 s.2) jfu (((0 : Int32), w15))) (fun w44 => jcl (jloop (fun (s : Int32 × Int32 × Int32) => f_X12_shadows_L143 201 w44 s.1 s.2.1 s.2.2) jfu (((0 : Int32), (0 : Int32), (0 : Int32)))) (fun w67 => K w67 w44)))) = K (nI (ct t 216), nI (mo t 216)) m3 := by
        intro m2 F
        have hM1 : RM σ (jsi m2 201 0 0) := (hM.fc F).thr (by decide)
        obtain ⟨m3, t1, t2, t3⟩ := r_tries (hM1.2.1 0 (Nat.zero_le _)) h0
        have hM3 : RM σ m3 := RM216 hM1 t3
        obtain ⟨w0, y1, y2, y3⟩ := r_zero (c := 217) (n := 216) (step := fun (s : Int32 × jM) => f_X12_shadows_L33 201 s.1 s.2) m3 (by omega)
          (fun k m hk => by
            dsimp only
            unfold f_X12_shadows_L33
            rw [jlit 216, if_neg (nI_ge hk (by decide)), jin_n (by omega) (by decide), jbd_e, nI_clamp (by omega), nI_1])
          (fun m => by
            dsimp only
            unfold f_X12_shadows_L33
            rw [jlit 216, if_pos (nI_le (Nat.le_refl _) (by decide))])
        obtain ⟨e', he', k2, k3⟩ := jlpN (step := fun (s : Int32 × jM) => f_X12_shadows_L55 201 (nI X) s.1 s.2) 7776
          (fun k s => s.1 = nI k ∧ TY 217 216 (A k) s.2 ∧ jFr (fun c => c = 217) m3 s.2)
          (fun e => TY 217 216 (A 7776) e ∧ jFr (fun c => c = 217) m3 e)
          (fun k s hk hs => by
            obtain ⟨v, m⟩ := s
            obtain ⟨hv1, g1, g2⟩ := hs
            have hv1 : v = nI k := hv1
            subst hv1
            have g1 : TY 217 216 (A k) m := g1
            have g2 : jFr (fun c => c = 217) m3 m := g2
            have slk := sl k
            have htr := TRI0 hn (t2 k hk)
            have f1 : f_X12_flag (1 : Int32) = 1 := by decide
            have f0 : f_X12_flag (0 : Int32) = 0 := by decide
            have pre : ∀ z, some (.inl (nI (k + 1), jsi m 217 (sh k) (nI (A k (sh k)) + f_X12_flag (if m3.1 216 k = 0 then 1 else 0)))) = z → f_X12_shadows_L55 201 (nI X) (nI k) m = z := fun z hz => by
              unfold f_X12_shadows_L55
              rw [jlit 7776, if_neg (nI_ge hk (by decide)), jcl_e (show _ = some (nI (sh k)) by rw [hsh]; exact r_shadow hX2 hk)]
              show jrd (m.1 217) _ _ _ = _
              rw [jrd_n (by omega) (by decide)]
              show jrd (m.1 216) _ _ _ = _
              rw [jrd_n hk (by decide), jin_n (by omega) (by decide), jbd_e, nI_clamp (by omega), nI_1, g1 _ slk, (g2 216 (by decide)).1]
              exact hz
            cases y : gdB (σ.2.1 0) true k with
            | false =>
              rw [if_neg (fun z => by rw [htr.mp z] at y; cases y), f0, Int32.add_zero] at pre
              refine ⟨(nI (k + 1), jsi m 217 (sh k) (nI (A k (sh k)))), pre _ rfl, rfl, ?_, g2.tr (jFr.si _ _ _ rfl)⟩
              rw [A_s, y, if_neg Bool.false_ne_true]
              intro i hi
              show (jsi m 217 (sh k) _).1 217 i = _
              by_cases d : i = sh k
              · rw [d, jsi_at]
              · rw [jsi_pl d]; exact g1 i hi
            | true =>
              rw [if_pos (htr.mpr y), f1, nI_1] at pre
              refine ⟨(nI (k + 1), jsi m 217 (sh k) (nI (A k (sh k) + 1))), pre _ rfl, rfl, ?_, g2.tr (jFr.si _ _ _ rfl)⟩
              rw [A_s, y, if_pos rfl]
              exact g1.one)
          (fun s hs => by
            obtain ⟨v, m⟩ := s
            obtain ⟨hv1, g1, g2⟩ := hs
            have hv1 : v = nI 7776 := hv1
            subst hv1
            refine ⟨m, ?_, g1, g2⟩
            dsimp only
            unfold f_X12_shadows_L55
            rw [jlit 7776, if_pos (nI_le (Nat.le_refl _) (by decide))])
          (i := 0) (n := jfu) (s := ((0 : Int32), w0)) (by omega) ⟨rfl, fun i hi => by rw [hA]; exact y2 i hi, y3⟩ (jfu_lt (by omega))
        rw [← ht] at k2
        obtain ⟨w, q1, q2⟩ := jlpN (step := fun (s : Int32 × Int32 × Int32) => f_X12_shadows_L143 201 e' s.1 s.2.1 s.2.2) 216
          (fun k s => s = (nI (ct t k), nI (mo t k), nI k)) (fun s => s = (nI (ct t 216), nI (mo t 216)))
          (fun k s hk hs => by
            subst hs
            have mk1 := mo_le t k
            have t1 := l1 k
            have t2 := l1 (mo t k)
            have f1 : f_X12_flag (1 : Int32) = nI 1 := by decide
            have f0 : f_X12_flag (0 : Int32) = nI 0 := by decide
            refine ⟨_, ?_, rfl⟩
            dsimp only
            unfold f_X12_shadows_L143
            rw [jlit 216, if_neg (nI_ge hk (by decide))]
            simp only [jbd_e]
            show jrd (e'.1 217) _ _ _ = _
            rw [jrd_n (by omega) (by decide)]
            show jrd (e'.1 217) _ _ _ = _
            rw [jrd_n (by omega) (by decide)]
            show jrd (e'.1 217) _ _ _ = _
            rw [jrd_n (by omega) (by decide), nI_1, mo_s, ct_s, k2 k hk, k2 (mo t k) (by omega)]
            have ec : f_X12_flag (if nI (t k) ≤ (0 : Int32) then 0 else 1) = nI (if 0 < t k then 1 else 0) := by
              by_cases z : 0 < t k
              · rw [if_pos z, if_neg (nI_nle z (by omega)), f1]
              · rw [if_neg z, show t k = 0 by omega, if_pos (by decide), f0]
            rw [ec, nI_add]
            by_cases d : t k ≤ t (mo t k)
            · rw [if_pos d, if_pos (nI_le d (by omega))]
            · rw [if_neg d, if_neg (nI_ge (show t (mo t k) < t k by omega) (by omega))])
          (fun s hs => by
            subst hs
            refine ⟨_, ?_, rfl⟩
            dsimp only
            unfold f_X12_shadows_L143
            rw [jlit 216, if_pos (nI_le (Nat.le_refl _) (by decide))])
          (i := 0) (n := jfu) (s := ((0 : Int32), (0 : Int32), (0 : Int32))) (by omega) rfl (jfu_lt (by omega))
        have fr : RC m3 e' := ⟨k3.mono (fun c hc => by omega), MF.of (k3 204 (by decide)).1, fun k _ => by rw [(k3 201 (by decide)).1]⟩
        refine ⟨e', hM3.fr (by rw [(k3 201 (by decide)).1]) (k3 204 (by decide)).1 (k3 205 (by decide)).1 (k3 206 (by decide)).1, ((RC.thr (by decide)).tr (RCr216 t3)).tr fr, k2, fun K => ?_⟩
        rw [jcl_e t1, jcl_e y1, jcl_e he', jcl_e q1, q2]
      have pc1 : ∀ z : Int32 × Int32 → jM → Option (Int32 × jM), jcl (f_J7_fill_53178 (0 + 187) (0 : Int32) μ) (fun m4 => jcl (f_X10_begin (0 + 167) (1 : Int32) m4) (fun m6 => jcl (jloop (fun (s : Int32 × jM) => f_X11_shadows_L39 0 (nI X) s.1 s.2) jfu (((0 : Int32), m6))) (fun w23 => jcl (jloop (fun (s : Int32 × Int32 × Int32) => f_X11_shadows_L83 0 w23 s.1 s.2.1 s.2.2) jfu (((0 : Int32), (0 : Int32), (0 : Int32)))) (fun w46 => z w46 w23)))) = (z (nI (ct t 216), nI (mo t 216)) e : Option (Int32 × jM)) := fun z => by
        rw [jcl_e (show f_J7_fill_53178 (0 + 187) (0 : Int32) μ = some m0 from z1), jcl_e (show f_X10_begin (0 + 167) (1 : Int32) m0 = some m1 from a1), jcl_e he, jcl_e q1, q2]
      obtain ⟨w1, w2⟩ := c_empty e
      by_cases cz : ct t 216 = 0
      · have F : CFr μ (f_X3_empty 3 e) := (WF.cf e3).r.tr (CFr.row w2)
        have hS2 : RS 5 σ (f_X3_empty 3 e) := hSe.fc h9 w2 (fun c q z => by obtain ⟨q1, q2⟩ := q; omega)
        obtain ⟨m4, r1, r2, r3, r7⟩ := ref _ F
        refine ⟨nI (ct t 216), f_X3_empty 3 e, jsi m4 201 1 0, ?_, ?_, rel_row h hv hS2 F (Q9.told.rm r1) (r2.r.tr Q9.told.rc) w1 (r_told0 m4) (by show 0 ≤ 22; omega)⟩
        · unfold f_X11_shadows
          rw [if_neg n1, if_neg n2, hbc, if_pos n4]
          refine (pc1 _).trans ?_
          rw [jbd_e]
          show (if nI (ct t 216) ≤ (0 : Int32) then _ else _) = _
          rw [if_pos (by rw [cz]; decide)]
        · unfold f_X12_shadows
          rw [jbd_e, if_neg n3, jcl_e hbr, if_pos n4]
          refine (r7 _).trans ?_
          rw [jbd_e]
          show (if nI (ct t 216) ≤ (0 : Int32) then _ else _) = _
          rw [if_pos (by rw [cz]; decide)]
      · have l3 := l1 (mo t 216)
        obtain ⟨m2, d1, d2, d3⟩ := c_tellR w1 (by show 0 < 22; omega) (nI (t (mo t 216))).toInt64
        obtain ⟨m3, f1, f2, f3⟩ := c_tellShadow (s := nI (mo t 216)) hV c3 (by show 1 ≤ 1; omega) d2
        have F : CFr μ m3 := (((WF.cf e3).r.tr (CFr.row w2)).tr (CFr.row d3)).tr (CFr.row f3)
        have hS2 : RS 5 σ m3 := ((hSe.fc h9 w2 (fun c q z => by obtain ⟨q1, q2⟩ := q; omega)).fc h9 d3 (fun c q z => by obtain ⟨q1, q2⟩ := q; omega)).fc h9 f3 (fun c q z => by obtain ⟨q1, q2⟩ := q; omega)
        obtain ⟨m4, r1, r2, r3, r7⟩ := ref m3 F
        obtain ⟨m5, u1, u2, u3, u4⟩ := r_enters (r_told0 m4) (by show 0 < 40; omega) (nI (t (mo t 216))).toInt64
        obtain ⟨m6, v1, v2, v3⟩ := r_tellShadow (s := nI (mo t 216)) hV c3 (by show 1 ≤ 1; omega) u2
        have Q : Q9 m4 m6 := (Q9.told.tr (Q9.ent u3 u4)).tr v3
        refine ⟨nI (ct t 216), m3, m6, ?_, ?_, rel_row h hv hS2 F (Q.rm r1) (r2.r.tr Q.rc) f2 v2 (by rw [List.length_append, dgl_len]; show 1 + pc X ≤ 22; omega)⟩
        · unfold f_X11_shadows
          rw [if_neg n1, if_neg n2, hbc, if_pos n4]
          refine (pc1 _).trans ?_
          rw [jbd_e]
          show (if nI (ct t 216) ≤ (0 : Int32) then _ else jrd ((f_X3_empty 3 e).1 187) (nI (mo t 216)) 256 _) = _
          rw [if_neg (nI_nle (by omega) (by omega)), jrd_n (by omega) (by decide), (w2 187 (by decide)).1, e2 _ (by omega)]
          show jcl (f_X3_tell 3 _ (f_X3_empty 3 e)) _ = _
          rw [jcl_e d1, jcl_e f1]
        · unfold f_X12_shadows
          rw [jbd_e, if_neg n3, jcl_e hbr, if_pos n4]
          refine (r7 _).trans ?_
          rw [jbd_e]
          show (if nI (ct t 216) ≤ (0 : Int32) then _ else jrd ((jsi m4 201 1 0).1 217) (nI (mo t 216)) 216 _) = _
          rw [if_neg (nI_nle (by omega) (by omega)), jrd_n (by omega) (by decide), jsi_ne (by decide), r3 _ ml, jcl_e u1, jcl_e hbr]
          show jcl (jloop (fun (s : Int32 × jM) => f_X12_shadows_L229 201 (nI (mo t 216)) s.1 s.2) jfu (nI (pc X) - 1, m5)) _ = _
          rw [jcl_e v1]
    · have n4 : ¬ nI (pc X) ≤ (3 : Int32) := nI_ge (b := pc X) (a := 3) (by omega) (by omega)
      refine ⟨-1, μ, _, ?_, ?_, sim_thr h⟩
      · unfold f_X11_shadows
        rw [if_neg n1, if_neg n2, hbc, if_neg n4]
      · unfold f_X12_shadows
        rw [jbd_e, if_neg n3, jcl_e hbr, if_neg n4]
  · refine ⟨-1, μ, _, ?_, ?_, sim_thr h⟩
    · unfold f_X11_shadows
      by_cases c1 : x < (1 : Int32)
      · rw [if_pos c1]
      · rw [if_neg c1, if_pos (by rw [Int32.le_iff_toInt_le, i32]; rw [Int32.lt_iff_toInt_lt, i1] at c1; omega)]
    · unfold f_X12_shadows
      rw [jbd_e, in_i, e1, e31, if_neg cx, if_pos rfl]
