/-! probes -/
noncomputable def prN (T : TT) : Nat → Nat
  | 0 => 0
  | c + 1 => prN T c ||| (if (vm T (c / 6)).testBit (c % 6) && !okq T 255 (fixL T (c / 6) (c % 6)) then 2 ^ c else 0)
theorem prN_s (T : TT) (c : Nat) : prN T (c + 1) = prN T c ||| (if (vm T (c / 6)).testBit (c % 6) && !okq T 255 (fixL T (c / 6) (c % 6)) then 2 ^ c else 0) := rfl
theorem prN_lt (T : TT) : ∀ c, c ≤ 30 → prN T c < 2 ^ 30
  | 0, _ => by show 0 < 2 ^ 30; decide
  | c + 1, h => by
    have := prN_lt T c (by omega)
    rw [prN_s]
    refine Nat.or_lt_two_pow this ?_
    split
    · exact Nat.pow_lt_pow_right (by decide) (by omega)
    · decide
theorem sim_probes {μ : jM} (h : Rel μ) : ∃ r μ1 μ2, f_X11_probes 0 μ = some (r, μ1) ∧ f_X12_probes 201 μ1 = some (r, μ2) ∧ Rel μ2 := by
  obtain ⟨⟨σ, hv, hS, hM⟩, -⟩ := id h
  have h0 := hv.2.1 0 (Nat.zero_le _)
  have h9 := hv.1
  -- the class
  have inner : ∀ (x : Nat) (m : jM), x < 5 → RS 5 σ m → ∃ m', jloop (fun (s : Int32 × Int32 × jM) => f_X11_probes_L11 0 (nI x) s.1 s.2.1 s.2.2) jfu ((nI (prN (σ.2.1 0) (6 * x)), (0 : Int32), m)) = some (nI (prN (σ.2.1 0) (6 * (x + 1))), m') ∧ jFr (fun q => q = 166) m m' := by
    intro x m hx hSm
    obtain ⟨m0, m64, em⟩ := vm_of h0 hx
    obtain ⟨e, he, h1, h2⟩ := jlpN (step := fun (s : Int32 × Int32 × jM) => f_X11_probes_L11 0 (nI x) s.1 s.2.1 s.2.2) 6
      (fun k s => s.1 = nI (prN (σ.2.1 0) (6 * x + k)) ∧ s.2.1 = nI k ∧ jFr (fun q => q = 166) m s.2.2)
      (fun e => e.1 = nI (prN (σ.2.1 0) (6 * (x + 1))) ∧ jFr (fun q => q = 166) m e.2)
      (fun k s hk hs => by
        obtain ⟨u, v, m1⟩ := s
        obtain ⟨hu, hv1, g⟩ := hs
        have hu : u = nI (prN (σ.2.1 0) (6 * x + k)) := hu
        have hv1 : v = nI k := hv1
        subst hu
        subst hv1
        have g : jFr (fun q => q = 166) m m1 := g
        have hS1 := RS166 hSm h9 g
        have ed : (6 * x + k) / 6 = x := by omega
        have em2 : (6 * x + k) % 6 = k := by omega
        have hp : 2 ^ (6 * x + k) < 2 ^ 30 := Nat.pow_lt_pow_right (by decide) (by omega)
        have hpl := prN_lt (σ.2.1 0) (6 * x + k) (by omega)
        have es := prN_s (σ.2.1 0) (6 * x + k)
        rw [ed, em2] at es
        have pre : ∀ z, (if (if (vm (σ.2.1 0) x).testBit k = true then (1 : Int32) else 0) = 0 then some (.inl ((nI (prN (σ.2.1 0) (6 * x + k)), nI (k + 1), m1))) else jcl2 (f_X11_bears 0 (nI x) (nI k) m1) (fun v12 m13 => (if v12 = (0 : Int32) then some (.inl ((nI (prN (σ.2.1 0) (6 * x + k) ||| 2 ^ (6 * x + k)), nI (k + 1), m13))) else some (.inl ((nI (prN (σ.2.1 0) (6 * x + k)), nI (k + 1), m13)))))) = z → f_X11_probes_L11 0 (nI x) (nI (prN (σ.2.1 0) (6 * x + k))) (nI k) m1 = z := fun z hz => by
          unfold f_X11_probes_L11
          have e1 : (6 : Int32) * nI x + nI k = nI (6 * x + k) := by rw [jlit 6, pk_mul, nI_add]
          rw [e1]
          simp only [jbd_e]
          rw [jlit 6, if_neg (nI_ge hk (by decide)), jcl_e (show f_X9_hasValue (0 + 6) (nI x) (nI k) m1 = _ from c_hasV hS1.2.1 hx hk m64 em), nI_1, shl_n _ (by omega), nI_or (by omega) (by omega)]
          exact hz
        cases q : (vm (σ.2.1 0) x).testBit k with
        | false =>
          rw [q] at es pre
          refine ⟨_, pre _ (if_pos rfl), ?_, rfl, g⟩
          show nI (prN (σ.2.1 0) (6 * x + k)) = nI (prN (σ.2.1 0) (6 * x + k + 1))
          rw [es, Bool.false_and, if_neg Bool.false_ne_true, Nat.or_zero]
        | true =>
          rw [q] at es pre
          obtain ⟨r, L, m2, a1, a2, a3, a4⟩ := c_bearsQ hS1 hv hx hk
          have er := spEnd_ok a2
          cases qo : okq (σ.2.1 0) 255 (fixL (σ.2.1 0) x k) with
          | true =>
            rw [qo, if_pos rfl] at er
            rw [qo] at es
            refine ⟨(nI (prN (σ.2.1 0) (6 * x + k)), nI (k + 1), m2), pre _ (by rw [if_neg (by decide), jcl2_e a1, er, if_neg (by decide)]), ?_, rfl, g.tr a4⟩
            show nI (prN (σ.2.1 0) (6 * x + k)) = nI (prN (σ.2.1 0) (6 * x + k + 1))
            rw [es, if_neg (by decide), Nat.or_zero]
          | false =>
            rw [qo, if_neg Bool.false_ne_true] at er
            rw [qo] at es
            refine ⟨(nI (prN (σ.2.1 0) (6 * x + k) ||| 2 ^ (6 * x + k)), nI (k + 1), m2), pre _ (by rw [if_neg (by decide), jcl2_e a1, er, if_pos rfl]), ?_, rfl, g.tr a4⟩
            show nI (prN (σ.2.1 0) (6 * x + k) ||| 2 ^ (6 * x + k)) = nI (prN (σ.2.1 0) (6 * x + k + 1))
            rw [es, if_pos (by decide)])
      (fun s hs => by
        obtain ⟨u, v, m1⟩ := s
        obtain ⟨hu, hv1, g⟩ := hs
        have hv1 : v = nI 6 := hv1
        subst hv1
        refine ⟨(u, m1), ?_, hu, g⟩
        dsimp only
        unfold f_X11_probes_L11
        rw [jlit 6, if_pos (nI_le (Nat.le_refl _) (by decide))])
      (i := 0) (n := jfu) (s := (nI (prN (σ.2.1 0) (6 * x)), (0 : Int32), m)) (by omega) ⟨rfl, rfl, jFr.rf⟩ (jfu_lt (by omega))
    exact ⟨e.2, by rw [he]; exact congrArg some (Prod.ext h1 rfl), h2⟩
  obtain ⟨e, he, h1, h2⟩ := jlpN (step := fun (s : Int32 × Int32 × jM) => f_X11_probes_L4 0 s.1 s.2.1 s.2.2) 5
    (fun k s => s.1 = nI (prN (σ.2.1 0) (6 * k)) ∧ s.2.1 = nI k ∧ jFr (fun q => q = 166) μ s.2.2)
    (fun e => e.1 = nI (prN (σ.2.1 0) 30) ∧ jFr (fun q => q = 166) μ e.2)
    (fun k s hk hs => by
      obtain ⟨u, v, m⟩ := s
      obtain ⟨hu, hv1, g⟩ := hs
      have hu : u = nI (prN (σ.2.1 0) (6 * k)) := hu
      have hv1 : v = nI k := hv1
      subst hu
      subst hv1
      have g : jFr (fun q => q = 166) μ m := g
      obtain ⟨m', a1, a2⟩ := inner k m hk (RS166 hS h9 g)
      refine ⟨(nI (prN (σ.2.1 0) (6 * (k + 1))), nI (k + 1), m'), ?_, rfl, rfl, g.tr a2⟩
      dsimp only
      unfold f_X11_probes_L4
      rw [jlit 5, if_neg (nI_ge hk (by decide)), jcl_e a1, nI_1])
    (fun s hs => by
      obtain ⟨u, v, m⟩ := s
      obtain ⟨hu, hv1, g⟩ := hs
      have hv1 : v = nI 5 := hv1
      subst hv1
      refine ⟨(u, m), ?_, hu, g⟩
      dsimp only
      unfold f_X11_probes_L4
      rw [jlit 5, if_pos (nI_le (Nat.le_refl _) (by decide))])
    (i := 0) (n := jfu) (s := ((0 : Int32), (0 : Int32), μ)) (by omega) ⟨rfl, rfl, jFr.rf⟩ (jfu_lt (by omega))
  have hp := prN_lt (σ.2.1 0) 30 (Nat.le_refl _)
  obtain ⟨m1, a1, a2, a3⟩ := c_only e.2 (nI (pc (prN (σ.2.1 0) 30))).toInt64
  have F : CFr μ m1 := (CF166 h2).r.tr (CFr.row a3)
  have hS1 : RS 5 σ m1 := (RS166 hS h9 h2).fc h9 a3 (fun c q z => by obtain ⟨q1, q2⟩ := q; omega)
  have hM1 : RM σ (jsi m1 201 0 0) := (hM.fc F).thr (by decide)
  -- the reference
  obtain ⟨e', he', h1', h2'⟩ := jlpN (step := fun (s : Int32 × Int32 × jM) => f_X12_probes_L9 201 s.1 s.2.1 s.2.2) 30
    (fun k s => s.1 = nI (prN (σ.2.1 0) k) ∧ s.2.1 = nI k ∧ jFr (fun q => q = 210) (jsi m1 201 0 0) s.2.2)
    (fun e => e.1 = nI (prN (σ.2.1 0) 30) ∧ jFr (fun q => q = 210) (jsi m1 201 0 0) e.2)
    (fun k s hk hs => by
      obtain ⟨u, v, m⟩ := s
      obtain ⟨hu, hv1, g⟩ := hs
      have hu : u = nI (prN (σ.2.1 0) k) := hu
      have hv1 : v = nI k := hv1
      subst hu
      subst hv1
      have g : jFr (fun q => q = 210) (jsi m1 201 0 0) m := g
      have hMm := RM210 hM1 g
      have hx : k / 6 < 5 := by omega
      have hw : k % 6 < 6 := by omega
      obtain ⟨m0, m64, em⟩ := vm_of h0 hx
      have e1 : nI k / (6 : Int32) = nI (k / 6) := pk_div (d := 6) (by omega) (by decide) (by decide)
      have e2 : nI k - nI k / (6 : Int32) * (6 : Int32) = nI (k % 6) := pk_rem (d := 6) (by omega) (by decide) (by decide)
      have hp : 2 ^ k < 2 ^ 30 := Nat.pow_lt_pow_right (by decide) (by omega)
      have hpl := prN_lt (σ.2.1 0) k (by omega)
      have es := prN_s (σ.2.1 0) k
      have pre : ∀ z, (if (if (vm (σ.2.1 0) (k / 6)).testBit (k % 6) = true then (1 : Int32) else 0) = 0 then some (.inl ((nI (prN (σ.2.1 0) k), nI (k + 1), m))) else jcl (f_X12_lays 201 m) (fun m11 => jin (nI (k / 6)) 5 (jbd (jsi m11 (201 + 9) (nI (k / 6)).toNatClampNeg ((1 : Int32) <<< (nI (k % 6) &&& 31))) (fun m14 => jcl2 (f_X12_spreadsBy 201 (201 + 9) (255 : Int32) m14) (fun v16 m17 => some (.inl ((nI (prN (σ.2.1 0) k) ||| (if v16 = (0 : Int32) then nI (2 ^ k) else (0 : Int32)), nI (k + 1), m17)))))))) = z → f_X12_probes_L9 201 (nI (prN (σ.2.1 0) k)) (nI k) m = z := fun z hz => by
        unfold f_X12_probes_L9
        rw [e2, e1, jlit 30, if_neg (nI_ge hk (by decide))]
        show jrd (m.1 204) _ _ _ = _
        rw [jlit 6, nI_add, jrd_n (by omega) (by decide), hMm.at (by omega), em, f_has (by omega) (by omega), nI_1, shl_n k (by omega)]
        exact hz
      cases q : (vm (σ.2.1 0) (k / 6)).testBit (k % 6) with
      | false =>
        rw [q] at es pre
        refine ⟨_, pre _ (if_pos rfl), ?_, rfl, g⟩
        show nI (prN (σ.2.1 0) k) = nI (prN (σ.2.1 0) (k + 1))
        rw [es, Bool.false_and, if_neg Bool.false_ne_true, Nat.or_zero]
      | true =>
        rw [q] at es pre
        have p64 : 2 ^ (k % 6) < 64 := Nat.pow_lt_pow_right (n := 6) (by decide) hw
        obtain ⟨n1, a1, a2, a3⟩ := r_lays (hMm.2.1 0 (Nat.zero_le _)) h0
        have hL1 : RLm 210 (fixL (σ.2.1 0) (k / 6) (k % 6)) (jsi n1 210 (k / 6) (nI (2 ^ (k % 6)))) := a2.up p64
        have f1 : jFr (fun q => q = 210) m (jsi n1 210 (k / 6) (nI (2 ^ (k % 6)))) := a3.tr (jFr.si _ _ _ rfl)
        obtain ⟨r, L, m2, b1, b2, b3, b4⟩ := r_spread (c := 210) (R := 255) (by decide) (by decide) ((hMm.2.1 0 (Nat.zero_le _)).fr (f1 204 (by decide)).1) h0 (by decide) hL1 (fixL_pos h0)
        have er := spEnd_ok b2
        refine ⟨(nI (prN (σ.2.1 0) k) ||| (if r = (0 : Int32) then nI (2 ^ k) else (0 : Int32)), nI (k + 1), m2), pre _ ?_, ?_, rfl, g.tr (f1.tr b4)⟩
        · rw [if_neg (by decide), jcl_e a1, jin_n hx (by decide), nI_clamp (by omega), shl_n _ (by omega), jbd_e]
          rw [jcl2_e (show f_X12_spreadsBy 201 (201 + 9) (255 : Int32) (jsi n1 (201 + 9) (k / 6) (nI (2 ^ (k % 6)))) = some (r, m2) from b1)]
        · show nI (prN (σ.2.1 0) k) ||| (if r = (0 : Int32) then nI (2 ^ k) else (0 : Int32)) = nI (prN (σ.2.1 0) (k + 1))
          rw [es]
          cases qo : okq (σ.2.1 0) 255 (fixL (σ.2.1 0) (k / 6) (k % 6)) with
          | true =>
            rw [qo, if_pos rfl] at er
            rw [er, if_neg (by decide), if_neg (by decide), jlit 0, nI_or (by omega) (by decide)]
          | false =>
            rw [qo, if_neg Bool.false_ne_true] at er
            rw [er, if_pos rfl, if_pos (by decide), nI_or (by omega) (by omega)])
    (fun s hs => by
      obtain ⟨u, v, m⟩ := s
      obtain ⟨hu, hv1, g⟩ := hs
      have hv1 : v = nI 30 := hv1
      subst hv1
      refine ⟨(u, m), ?_, hu, g⟩
      dsimp only
      unfold f_X12_probes_L9
      rw [jlit 30, if_pos (nI_le (Nat.le_refl _) (by decide))])
    (i := 0) (n := jfu) (s := ((0 : Int32), (0 : Int32), jsi m1 201 0 0)) (by omega) ⟨rfl, rfl, jFr.rf⟩ (jfu_lt (by omega))
  have hM2 := RM210 hM1 h2'
  obtain ⟨m3, b1, b2, b3, b4⟩ := r_enters (r_told0 e'.2) (by decide) (nI (pc (prN (σ.2.1 0) 30))).toInt64
  refine ⟨nI (prN (σ.2.1 0) 30), m1, m3, ?_, ?_, ?_⟩
  · unfold f_X11_probes
    rw [jcl_e he, h1, c_bitsAll (by omega)]
    exact jcl_e a1
  · unfold f_X12_probes
    rw [jbd_e, jcl_e he', h1', jbd_e, jcl_e (r_bits (by omega)), jcl_e b1]
  · exact rel_row h hv hS1 F ((hM2.thr (k := 1) (by decide)).fr (b4 9 (by decide)) (b3 204 (by decide)).1 (b3 205 (by decide)).1 (b3 206 (by decide)).1) ((((RCr.thr (by decide)).tr (RC210 h2').r).tr (RCr.thr (by decide))).tr (RCr.ent b3 b4)) a2 b2 (by show 1 ≤ 22; omega)
