/-! years, by both -/
theorem c_yearsL {S : Nat → SS × Int32} (hS : ∀ k, VS (S k).1 ∧ YS (S k).1 (S k).2 (S (k + 1)).1 (S (k + 1)).2) {n : Nat} (hn : n < 1000) {m : jM} (h0 : RS 85 (S 0).1 m) (hd : m.1 0 14 = (S 0).2) : ∃ w, jloop (fun (q : Int32 × jM) => f_X11_years_L31 0 (nI n) q.1 q.2) jfu (((0 : Int32), m)) = some w ∧ RS 85 (S n).1 w ∧ YC m w := by
  obtain ⟨w, hw, hr⟩ := jlpN (step := fun (q : Int32 × jM) => f_X11_years_L31 0 (nI n) q.1 q.2) n
    (fun k q => q.1 = nI k ∧ RS 85 (S k).1 q.2 ∧ q.2.1 0 14 = (S k).2 ∧ YC m q.2)
    (fun w => RS 85 (S n).1 w ∧ YC m w)
    (fun k q hk hq => by
      obtain ⟨u, w⟩ := q
      obtain ⟨hu, h1, h2, h3⟩ := hq
      have hu : u = nI k := hu
      subst hu
      obtain ⟨w', a1, a2, a3, a4⟩ := (hS k).2.1 w h1 h2
      refine ⟨(nI (k + 1), w'), ?_, rfl, a2, a3, jFr.tr h3 a4⟩
      dsimp only
      unfold f_X11_years_L31
      rw [if_neg (nI_ge hk (by omega)), jcl_e a1, nI_1])
    (fun q hq => by
      obtain ⟨u, w⟩ := q
      obtain ⟨hu, h1, h2, h3⟩ := hq
      have hu : u = nI n := hu
      subst hu
      refine ⟨w, ?_, h1, h3⟩
      dsimp only
      unfold f_X11_years_L31
      rw [if_pos (nI_le (Nat.le_refl _) (by omega))])
    (i := 0) (n := jfu) (s := ((0 : Int32), m)) (by omega) ⟨rfl, h0, hd, jFr.rf⟩ (jfu_lt (by omega))
  exact ⟨w, hw, hr⟩
theorem r_yearsL {S : Nat → SS × Int32} (hS : ∀ k, VS (S k).1 ∧ YS (S k).1 (S k).2 (S (k + 1)).1 (S (k + 1)).2) {n : Nat} (hn : n < 1000) {m : jM} (h0 : RM (S 0).1 m) (hd : m.1 201 38 = (S 0).2) : ∃ w, jloop (fun (q : Int32 × jM) => f_X12_years_L32 201 (nI n) q.1 q.2) jfu (((0 : Int32), m)) = some w ∧ RM (S n).1 w ∧ YR m w := by
  obtain ⟨w, hw, hr⟩ := jlpN (step := fun (q : Int32 × jM) => f_X12_years_L32 201 (nI n) q.1 q.2) n
    (fun k q => q.1 = nI k ∧ RM (S k).1 q.2 ∧ q.2.1 201 38 = (S k).2 ∧ YR m q.2)
    (fun w => RM (S n).1 w ∧ YR m w)
    (fun k q hk hq => by
      obtain ⟨u, w⟩ := q
      obtain ⟨hu, h1, h2, h3⟩ := hq
      have hu : u = nI k := hu
      subst hu
      obtain ⟨w', a1, a2, a3, a4⟩ := (hS k).2.2 w h1 h2
      refine ⟨(nI (k + 1), w'), ?_, rfl, a2, a3, YR.tr h3 a4⟩
      dsimp only
      unfold f_X12_years_L32
      rw [if_neg (nI_ge hk (by omega)), jcl_e a1, nI_1])
    (fun q hq => by
      obtain ⟨u, w⟩ := q
      obtain ⟨hu, h1, h2, h3⟩ := hq
      have hu : u = nI n := hu
      subst hu
      refine ⟨w, ?_, h1, h3⟩
      dsimp only
      unfold f_X12_years_L32
      rw [if_pos (nI_le (Nat.le_refl _) (by omega))])
    (i := 0) (n := jfu) (s := ((0 : Int32), m)) (by omega) ⟨rfl, h0, hd, YR.rf⟩ (jfu_lt (by omega))
  exact ⟨w, hw, hr⟩
theorem r_years52 {σ : SS} {μ : jM} (h : RM σ μ) : jloop (fun (s : Int32 × Int32) => f_X12_years_L52 201 μ s.1 s.2) jfu (((0 : Int32), (0 : Int32))) = some (smI (σ.2.1 0) 6) := by
  obtain ⟨e, he, hr⟩ := jlpN (step := fun (s : Int32 × Int32) => f_X12_years_L52 201 μ s.1 s.2) 6 (fun k s => s = (smI (σ.2.1 0) k, nI k)) (fun e => e = smI (σ.2.1 0) 6)
    (fun k s hk hs => by
      subst hs
      refine ⟨(smI (σ.2.1 0) (k + 1), nI (k + 1)), ?_, rfl⟩
      dsimp only
      unfold f_X12_years_L52
      rw [jlit 6, if_neg (nI_ge hk (by decide))]
      show jrd (μ.1 204) _ _ _ = _
      rw [jrd_n (by omega) (by decide), h.at (by omega), nI_1]
      rfl)
    (fun s hs => by
      subst hs
      refine ⟨_, ?_, rfl⟩
      dsimp only
      unfold f_X12_years_L52
      rw [jlit 6, if_pos (nI_le (Nat.le_refl _) (by decide))]) (i := 0) (n := jfu) (s := ((0 : Int32), (0 : Int32))) (by omega) rfl (jfu_lt (by omega))
  rw [he, hr]
theorem RM.er {σ : SS} {m m' : jM} (h : RM σ m) (hf : jFr (fun c => c = 201 ∨ c = 202) m m') (hk : ∀ k, k ≠ 1 → m'.1 201 k = m.1 201 k) : RM σ m' := h.fr (hk 9 (by decide)) (hf 204 (by decide)).1 (hf 205 (by decide)).1 (hf 206 (by decide)).1
theorem RS.r34 {s : Nat} {σ : SS} {m m' : jM} (h : RS s σ m) (hv : VS σ) (hs : 5 ≤ s) (hf : jFr (fun c => c = 3 ∨ c = 4) m m') : RS s σ m' := h.fr hv.1 (fun c hc => (hf c (by obtain ⟨q1, q2⟩ := hc; omega)).1)
theorem sim_years {μ : jM} (h : Rel μ) (x y : Int32) : ∃ r μ1 μ2, f_X11_years 0 x y μ = some (r, μ1) ∧ f_X12_years 201 x y μ1 = some (r, μ2) ∧ Rel μ2 := by
  obtain ⟨⟨σ, hv, hS, hM⟩, -⟩ := id h
  have i1 : (1 : Int32).toInt = 1 := by decide
  have i40 : (40 : Int32).toInt = 40 := by decide
  have l1 : (1 : Int64).toInt = 1 := by decide
  have l40 : (40 : Int64).toInt = 40 := by decide
  by_cases c : 1 ≤ y.toInt ∧ y.toInt ≤ 40
  · obtain ⟨n, hn, rfl⟩ := nI_iof (n := 41) (x := y) ⟨by omega, by omega⟩ (by decide)
    obtain ⟨S, S0, hSS⟩ := y_seq hv x
    obtain ⟨T, hT⟩ : ∃ T, T = ((S n).1).2.1 0 := ⟨_, rfl⟩
    have hvn := (hSS n).1
    have hTn : VT T := by rw [hT]; exact hvn.2.1 0 (Nat.zero_le _)
    -- the class
    obtain ⟨m3, a1, a2, a3⟩ := c_stBecome (a := 85) hS hv (by omega)
    obtain ⟨m5, hm5⟩ : ∃ m5, m5 = jsi m3 0 14 x := ⟨_, rfl⟩
    have h5 : RS 85 (S 0).1 m5 := by rw [hm5, S0]; exact a2.d85 hv
    have d5 : m5.1 0 14 = (S 0).2 := by rw [hm5, S0, jsi_at]
    obtain ⟨w12, b1, b2, b3⟩ := c_yearsL hSS (n := n) (by omega) h5 d5
    have t12 : RT 86 T w12 := by rw [hT]; exact b2.2.1
    obtain ⟨m18, g1, g2, g3⟩ := c_only w12 (smI T 6).toInt64
    have s18 := b2.r34 hvn (by omega) g3
    have t18 : RT 86 T m18 := by rw [hT]; exact s18.2.1
    obtain ⟨m22, g4, g5, g6⟩ := c_tellR g2 (show 1 < 22 by decide) (nI (smP T 5)).toInt64
    have s22 := s18.r34 hvn (by omega) g6
    have t22 : RT 86 T m22 := by rw [hT]; exact s22.2.1
    obtain ⟨m24, g7, g8, g9⟩ := c_tellR g5 (show 2 < 22 by decide) (T 11).toInt64
    have s24 := s22.r34 hvn (by omega) g9
    obtain ⟨m28, g10, g11, g12⟩ := c_tellR g8 (show 3 < 22 by decide) (nI (trs (S n).1 (S n).1.1)).toInt64
    have s28 := s24.r34 hvn (by omega) g12
    have fr34 : jFr (fun c => c = 3 ∨ c = 4) w12 m28 := ((g3.tr g6).tr g9).tr g12
    have F : CFr μ m28 := by
      refine (((a3.mono (fun c hc => ?_)).tr ?_).tr (jFr.mono b3 (fun c hc => ?_))).tr (fr34.mono (fun c hc => Or.inr hc))
      · obtain ⟨q1, q2⟩ := hc; unfold CFs; omega
      · rw [hm5]; exact jFr.si _ _ _ (Or.inl (Or.inl rfl))
      · rcases hc with q | ⟨q1, q2⟩ | q <;> (unfold CFs; omega)
    have hS28 : RS 5 σ m28 := by
      refine hS.fr hv.1 (fun c hc => ?_)
      obtain ⟨q1, q2⟩ := hc
      rw [(fr34 c (by omega)).1, (b3 c (by rintro (q | ⟨q3, q4⟩ | q) <;> omega)).1, hm5, jsi_ne (by omega), (a3 c (fun q => by obtain ⟨q3, q4⟩ := q; omega)).1]
    have hM28 : RM σ m28 := hM.fc F
    -- the reference
    obtain ⟨n4, hn4⟩ : ∃ n4, n4 = jsi (jsi m28 201 0 0) 201 38 x := ⟨_, rfl⟩
    have hM4 : RM σ n4 := by rw [hn4]; exact (hM28.thr (by decide)).thr (by decide)
    obtain ⟨n6, p1, p2, p3, p4, p5, p6⟩ := r_saves (b := 23) hM4 hv (by omega) (by omega)
    have d6 : n6.1 201 38 = (S 0).2 := by rw [p6 38 (by decide), hn4, jsi_at, S0]
    obtain ⟨w13, q1, q2, q3⟩ := r_yearsL hSS (n := n) (by omega) (m := n6) (by rw [S0]; exact p2) d6
    have e52 := r_years52 q2
    rw [← hT] at e52
    have o0 := r_told0 w13
    have q27 : RM (S n).1 (jsi w13 201 1 0) := q2.thr (by decide)
    obtain ⟨n29, u1, u2, u3, u4⟩ := r_enters o0 (by decide) (smI T 6).toInt64
    have q29 := q27.er u3 u4
    obtain ⟨n33, u5, u6, u7, u8⟩ := r_enters u2 (show 1 < 40 by decide) (nI (smP T 5)).toInt64
    have q33 := q29.er u7 u8
    obtain ⟨n38, u9, u10, u11, u12⟩ := r_enters u6 (show 2 < 40 by decide) (T 11).toInt64
    have q38 := q33.er u11 u12
    obtain ⟨n42, u13, u14, u15, u16⟩ := r_enters u10 (show 3 < 40 by decide) (nI (trs (S n).1 (S n).1.1)).toInt64
    have q42 := q38.er u15 u16
    have fe : jFr (fun c => c = 201 ∨ c = 202) w13 n42 := ((((jFr.si _ _ _ (Or.inl rfl)).tr u3).tr u7).tr u11).tr u15
    have ge : ∀ k, k ≠ 1 → n42.1 201 k = w13.1 201 k := fun k hk => by rw [u16 k hk, u12 k hk, u8 k hk, u4 k hk, jsi_pl hk]
    have sv : SV 23 σ n42 := by
      have sw : SV 23 σ w13 := p3.fr hv (by omega) (q3.2.2 14 (by decide) (by decide) (by decide) (by decide)) (q3.1 207 (by decide)).1 (q3.1 208 (by decide)).1 q3.2.1 (fun w hw _ => by omega)
      exact sw.fr hv (by omega) (ge 14 (by decide)) (fe 207 (by decide)).1 (fe 208 (by decide)).1 (MF.of (b := fun _ => False) (fe 204 (by decide)).1) (fun w _ _ z => z)
    obtain ⟨n44, z1, z2, z3, z4, z5⟩ := r_restores sv hv (by omega) (by omega)
    refine ⟨nI (S n).1.1, m28, n44, ?_, ?_, ?_⟩
    · unfold f_X11_years
      rw [if_neg (show ¬ nI n < (1 : Int32) by rw [i32_lt, i1]; omega), if_pos (show nI n ≤ (40 : Int32) by rw [i32_le, i40]; omega)]
      rw [show (0 : Nat) + 85 = 85 from rfl, show (0 : Nat) + 5 = 5 from rfl, show (0 : Nat) + 86 = 86 from rfl, show (0 : Nat) + 3 = 3 from rfl, jcl_e a1, ← hm5, jbd_e, jcl_e b1, jcl_e (c_sum t12), jcl_e g1, jcl_e (c_vals t18 hTn), jcl_e g4, t22.2.2.1, jcl_e g7, jcl_e (c_trs s24 hvn), jcl_e g10, s28.1]
    · unfold f_X12_years
      rw [in_i, l1, l40, if_pos c, jbd_e, if_neg (by decide), ← hn4, jbd_e, show (23 : Int32) = nI 23 from rfl, jcl_e p1, jcl_e q1, jcl_e e52, jbd_e, jcl_e u1]
      have ev := r_vals q29 hvn
      rw [← hT] at ev
      rw [jcl_e ev, jcl_e u5]
      show jrd (n33.1 204) _ _ _ = _
      have e11 := q33.at (k := 11) (by omega)
      rw [← hT] at e11
      rw [jlit 11, jrd_n (n := 2074) (by omega) (by decide), e11, jcl_e u9, jcl_e (r_trs q38 hvn), jcl_e u13, jcl_e z1, q42.1]
    · refine rel_row (l := [(smI T 6).toInt64, (nI (smP T 5)).toInt64, (T 11).toInt64, (nI (trs (S n).1 (S n).1.1)).toInt64]) h hv hS28 F z2 ?_ g11 (RwR.fr u14 (z5 1 (by decide)) (z4 202 (by omega)).2) (by show 4 ≤ 22; omega)
      have f4 : jFr (fun c => c = 201) m28 n4 := by rw [hn4]; exact jFr.tr (S := fun c => c = 201) (jFr.si _ _ _ rfl) (jFr.si _ _ _ rfl)
      refine ⟨((((f4.mono (fun c hc => by omega)).tr (p5.mono (fun c hc => by omega))).tr (q3.1.mono (fun c hc => by omega))).tr (fe.mono (fun c hc => by omega))).tr (z4.mono (fun c hc => by omega)), ((((MF.of (f4 204 (by decide)).1).tr (p4.mono (fun w hw => by omega))).tr (q3.2.1.mono (fun w hw => by omega))).tr (MF.of (fe 204 (by decide)).1)).tr (z3.mono (fun w hw => by omega)), fun k hk => ?_⟩
      rw [z5 k (by omega), ge k (by omega), q3.2.2 k (by omega) (by omega) (by omega) (by omega), p6 k (by omega), hn4, jsi_pl (by omega), jsi_pl (by omega)]
  · refine ⟨-1, μ, jsi μ 201 0 0, ?_, ?_, rel_mk h hv hS jFr.rf (hM.thr (by decide)) (RC.thr (by decide))⟩
    · unfold f_X11_years
      by_cases c1 : y < (1 : Int32)
      · rw [if_pos c1]
      · rw [if_neg c1, if_neg]
        rw [i32_le, i40]
        rw [i32_lt, i1] at c1
        omega
    · unfold f_X12_years
      rw [in_i, l1, l40, if_neg c, jbd_e, if_pos rfl]
