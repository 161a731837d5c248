/-! run, by both -/
theorem sim_run {μ : jM} (h : Rel μ) : ∃ r μ1 μ2, f_X11_run 0 μ = some (r, μ1) ∧ f_X12_run 201 μ1 = some (r, μ2) ∧ Rel μ2 := by
  obtain ⟨⟨σ, hv, hS, hM⟩, hT, -⟩ := id h
  have h0 := hv.2.1 0 (Nat.zero_le _)
  obtain ⟨n, s, c1, c2, c3'⟩ := hT.ct
  have n80 := c1.1
  obtain ⟨w, a1, a2⟩ := c_rfault c1
  have ref : ∀ m, jFr (fun c => CFs c ∨ c = 1 ∨ c = 3 ∨ c = 4) μ m → ∃ w, jFr (fun c => c = 201 ∨ (211 ≤ c ∧ c ≤ 215)) m w ∧ (∀ k, k ≠ 0 → k ≠ 4 → k ≠ 5 → k ≠ 6 → k ≠ 7 → k ≠ 24 → w.1 201 k = m.1 201 k) ∧ w.1 201 4 = 0 ∧ ((∃ q, q ≤ n ∧ sc n s 0 [] = some q ∧ f_X12_run 201 m = some (-1 - nI q, w)) ∨ (∃ l', sc n s 0 [] = none ∧ l' ≤ 160 ∧ RnR n s (PR w) 5 0 n 0 l' ∧ w.1 201 24 = nI l' ∧ f_X12_run 201 m = rtail w)) := fun m hm =>
    r_run (by rw [(hm 201 (by unfold CFs; omega)).1]; exact c2) n80 (fun i hi => by rw [(hm 203 (by unfold CFs; omega)).1]; exact c3' i hi)
  have rmw : ∀ m w : jM, RM σ m → jFr (fun c => c = 201 ∨ (211 ≤ c ∧ c ≤ 215)) m w → (∀ k, k ≠ 0 → k ≠ 4 → k ≠ 5 → k ≠ 6 → k ≠ 7 → k ≠ 24 → w.1 201 k = m.1 201 k) → RM σ w := fun m w z0 z1 z2 =>
    z0.fr (z2 9 (by decide) (by decide) (by decide) (by decide) (by decide) (by decide)) (z1 204 (by decide)).1 (z1 205 (by decide)).1 (z1 206 (by decide)).1
  have rmc : ∀ m : jM, jFr (fun c => CFs c ∨ c = 1 ∨ c = 3 ∨ c = 4) μ m → RM σ m := fun m z => hM.fr (by rw [(z 201 (by unfold CFs; omega)).1]) (z 204 (by unfold CFs; omega)).1 (z 205 (by unfold CFs; omega)).1 (z 206 (by unfold CFs; omega)).1
  have fw : jFr (fun c => CFs c ∨ c = 1 ∨ c = 3 ∨ c = 4) μ w := a2.mono (fun c hc => by unfold CFs; omega)
  have hSw : RS 5 σ w := hS.fr hv.1 (fun c hc => (a2 c (by obtain ⟨z1, z2⟩ := hc; omega)).1)
  have emp : ∀ m : jM, f_X8_empty 1 m = jsi m 1 1 0 := fun m => rfl
  unfold f_X11_run
  rw [show (0 : Nat) + 179 = 179 from rfl, jcl2_e a1, show (0 : Nat) + 85 = 85 from rfl, show (0 : Nat) + 5 = 5 from rfl, show (0 : Nat) + 1 = 1 from rfl, show (0 : Nat) + 6 = 6 from rfl, show (0 : Nat) + 86 = 86 from rfl, show (0 : Nat) + 3 = 3 from rfl]
  cases es : sc n s 0 [] with
  | some q =>
    have ft : jFr (fun c => CFs c ∨ c = 1) μ (jsi w 1 1 0) := (a2.mono (fun c hc => by unfold CFs; omega)).tr (jFr.si _ _ _ (Or.inr rfl))
    have ft' : jFr (fun c => CFs c ∨ c = 1 ∨ c = 3 ∨ c = 4) μ (jsi w 1 1 0) := ft.mono (fun c hc => hc.elim Or.inl (fun z => Or.inr (Or.inl z)))
    obtain ⟨w2, z1, z2, z3, z4⟩ := ref _ ft'
    rcases z4 with ⟨q', z5, z6, z7⟩ | ⟨l', z5, -⟩
    · rw [es] at z6
      cases z6
      rw [if_neg (oI_m1 (show q < 2 ^ 31 by omega)), emp, jbd_e]
      refine ⟨-1 - nI q, jsi w 1 1 0, w2, rfl, z7, rel_emp h hv (hSw.fr hv.1 (fun c hc => jsi_ne (by obtain ⟨z1, z2⟩ := hc; omega))) ft (jsi_at _ _ _ _) (rmw _ _ (rmc _ ft') z1 z2) ⟨z1.mono (fun c hc => by omega), MF.of (z1 204 (by decide)).1, fun k hk => z2 k (by omega) (by omega) (by omega) (by omega) (by omega) (by omega), z3⟩⟩
    · rw [es] at z5; cases z5
  | none =>
    rw [if_pos (show oI none = -1 from rfl)]
    obtain ⟨m5, b1, b2, b3⟩ := c_stBecome (a := 85) hSw hv (by omega)
    obtain ⟨m7, hm7⟩ : ∃ m7, m7 = jsi (jsi m5 179 4 0) 179 5 0 := ⟨_, rfl⟩
    have bg : f_X4_begin 179 m5 = m7 := hm7.symm
    have f7 : jFr (fun c => inS 85 c ∨ c = 179 ∨ c = 180) μ m7 := by
      rw [hm7]
      have x : jFr (fun c => inS 85 c ∨ c = 179 ∨ c = 180) μ m5 := jFr.tr (a2.mono (fun c hc => Or.inr (Or.inr hc))) (b3.mono (fun c hc => Or.inl hc))
      exact (x.tr (jFr.si _ _ _ (Or.inr (Or.inl rfl)))).tr (jFr.si _ _ _ (Or.inr (Or.inl rfl)))
    have n7 : ∀ c, (c < 85 ∨ 165 ≤ c) → c ≠ 179 → c ≠ 180 → ¬ (inS 85 c ∨ c = 179 ∨ c = 180) := fun c hc h1 h2 z => by
      rcases z with ⟨z1, z2⟩ | z | z <;> omega
    have f7' : jFr (fun c => CFs c ∨ c = 1 ∨ c = 3 ∨ c = 4) μ m7 := f7.mono (fun c hc => by
      rcases hc with ⟨z1, z2⟩ | z | z <;> (unfold CFs; omega))
    have C7 : CS n s σ 0 m7 := ⟨⟨c1.1, by rw [(f7 1 (n7 _ (by omega) (by omega) (by omega))).1]; exact c1.2.1, fun i hi => by rw [(f7 2 (n7 _ (by omega) (by omega) (by omega))).1]; exact c1.2.2 i hi⟩, hS.fr hv.1 (fun c hc => (f7 c (n7 _ (by obtain ⟨z1, z2⟩ := hc; omega) (by obtain ⟨z1, z2⟩ := hc; omega) (by obtain ⟨z1, z2⟩ := hc; omega))).1), by rw [hm7, jsi_at]; rfl⟩
    have A7 : m7.1 179 4 = nI 0 := by rw [hm7, jsi_pl (by decide), jsi_at]; rfl
    have S85 : RS 85 σ m7 := by
      rw [hm7]
      exact b2.fr hv.1 (fun c hc => by obtain ⟨z1, z2⟩ := hc; rw [jsi_ne (by omega), jsi_ne (by omega)])
    -- the class's end, whatever the lines are
    have run1 : ∃ (ok : Bool) (m10 : jM), f_X4_doRun 8 179 (0 : Int32) m7 = some ((if ok then (1 : Int32) else 0), m10) ∧ CX m7 m10 ∧ ∃ (σ1 : SS), VS σ1 ∧ RS 5 σ1 m10 := by
      obtain ⟨w2, z1, z2, z3, z4⟩ := ref _ f7'
      rcases z4 with ⟨q', z5, z6, z7⟩ | ⟨l', z5, z6, z7, z8, z9⟩
      · rw [es] at z6; cases z6
      · obtain ⟨ok, σ1, dn1, pr, lr, t1, t2, t3, t4, t5⟩ := ex_run n80 5 8 8 0 0 n 0 l' rfl (by decide) (by decide) z7 (Nat.zero_le _) (by omega) (Or.inl (Nat.le_refl _)) σ 0 hv
        obtain ⟨m10, y1, y2, y3, y4⟩ := t4 m7 C7 A7
        exact ⟨ok, m10, y1, y4, σ1, t1, y2.2.1⟩
    obtain ⟨ok, m10, d1, d2, σ1, d3, d4⟩ := run1
    have cxn : ∀ c, (c < 5 ∨ (85 ≤ c ∧ c ≠ 166 ∧ c ≠ 179)) → m10.1 c = m7.1 c ∧ m10.2 c = m7.2 c := fun c hc => d2 c (ca_no hc)
    have f10 : jFr (fun c => CFs c ∨ c = 1 ∨ c = 3 ∨ c = 4) μ m10 := f7'.tr (jFr.mono d2 (fun c hc => by
      rcases hc with (⟨z1, z2⟩ | z) | z <;> (unfold CFs; omega)))
    have S85' : RS 85 σ m10 := S85.fr hv.1 (fun c hc => by obtain ⟨z1, z2⟩ := hc; by_cases z : c = 166; (subst z; omega); exact (cxn c (by omega)).1)
    -- the reference, behind a memory of the class's
    have ref2 : ∀ m, jFr (fun c => CFs c ∨ c = 1 ∨ c = 3 ∨ c = 4) μ m → ∃ (w2 m11 m16 : jM) (σ2 : SS) (dn pr lr l' : Nat), f_X12_run 201 m = rtail w2 ∧ w2.1 201 4 = 0 ∧ jFr (fun c => c = 201 ∨ (211 ≤ c ∧ c ≤ 215)) m w2 ∧ (∀ k, k ≠ 0 → k ≠ 4 → k ≠ 5 → k ≠ 6 → k ≠ 7 → k ≠ 24 → w2.1 201 k = m.1 201 k) ∧ f_X12_saves 201 (13 : Int32) w2 = some m11 ∧ SV 13 σ m11 ∧ MF (fun w => 13 ≤ w ∧ w ≤ 22) w2 m11 ∧ jFr (fun c => c = 201 ∨ c = 204 ∨ c = 207 ∨ c = 208) w2 m11 ∧ (∀ k, k ≠ 14 → m11.1 201 k = w2.1 201 k) ∧ f_X12_does 8 201 (0 : Int32) ((jsi m11 201 25 0).1 201 24) (jsi m11 201 25 0) = some ((if ok then (-1 : Int32) else nI lr), m16) ∧ MX (jsi m11 201 25 0) m16 ∧ VS σ2 ∧ RM σ2 m16 ∧ m16.1 201 25 = nI dn ∧ m10.1 179 5 = nI dn ∧ RS 5 σ2 m10 ∧ (ok = false → lr < 168 ∧ m10.1 179 4 = nI pr ∧ m16.1 214 lr = nI pr) := fun m hm => by
      obtain ⟨w2, z1, z2, z3, z4⟩ := ref m hm
      rcases z4 with ⟨q', z5, z6, z7⟩ | ⟨l', z5, z6, z7, z8, z9⟩
      · rw [es] at z6; cases z6
      · obtain ⟨ok2, σ2, dn2, pr, lr, t1, t2, t3, t4, t5⟩ := ex_run n80 5 8 8 0 0 n 0 l' rfl (by decide) (by decide) z7 (Nat.zero_le _) (by omega) (Or.inl (Nat.le_refl _)) σ 0 hv
        obtain ⟨m10', y1, y2, y3, y4⟩ := t4 m7 C7 A7
        have y1 : f_X4_doRun 8 179 (0 : Int32) m7 = _ := y1
        rw [d1] at y1
        have y1 := Option.some.inj y1
        have e1 : (if ok then (1 : Int32) else 0) = (if ok2 then (1 : Int32) else 0) := congrArg Prod.fst y1
        have e2 : m10 = m10' := congrArg Prod.snd y1
        have e3 : ok = ok2 := by
          cases ok <;> cases ok2 <;> first | rfl | (exact absurd e1 (by decide))
        subst e2
        subst e3
        obtain ⟨m11, s1, s2, s3, s4, s5, s6⟩ := r_saves (b := 13) (rmw _ _ (rmc m hm) z1 z2) hv (by omega) (by omega)
        have p13 : PR (jsi m11 201 25 0) = PR w2 := by
          rw [pr_201]
          funext i
          unfold PR
          rw [(s5 211 (by decide)).1, (s5 212 (by decide)).1, (s5 213 (by decide)).1, (s5 214 (by decide)).1, (s5 215 (by decide)).1]
        obtain ⟨m16, v1, v2, v3⟩ := t5 (jsi m11 201 25 0) ⟨s2.thr (by decide), by rw [jsi_at]; rfl, p13⟩
        have e24 : (jsi m11 201 25 0).1 201 24 = nI l' := by rw [jsi_pl (by decide), s6 24 (by decide)]; exact z8
        refine ⟨w2, m11, m16, σ2, dn2, pr, lr, l', z9, z3, z1, z2, s1, s3, s4, s5, s6, by rw [e24]; exact v1, v3, t1, v2.1, v2.2.1, y2.2.2, y2.2.1, fun z => ?_⟩
        obtain ⟨x1, x2, x3⟩ := t3 z
        refine ⟨x1, ?_, ?_⟩
        · rw [y3, z]; rfl
        · rw [(pr_op v2.2.2 lr).2.2.2.1]; exact x3
    rw [jcl_e b1, bg, jbd_e, jcl2_e d1]
    cases ok with
    | true =>
      have v1 := hv.2.1 0 (Nat.zero_le _)
      have u1 := d3.2.1 0 (Nat.zero_le _)
      have ot := c_others (a := 6) (b := 86) d4.2.1 S85'.2.1 u1 v1
      obtain ⟨N, hN⟩ : ∃ N : Int32, N = nI (cntT (σ1.2.1 0) (σ.2.1 0) 31) := ⟨_, rfl⟩
      rw [← hN] at ot
      obtain ⟨m21, g1, g2, g3⟩ := c_only m10 N.toInt64
      rw [if_neg (show ¬ (if true = true then (1 : Int32) else 0) = 0 by decide), jcl_e ot, jcl_e g1, emp, jbd_e]
      have f21 : jFr (fun c => CFs c ∨ c = 1 ∨ c = 3 ∨ c = 4) μ (jsi m21 1 1 0) := (f10.tr (g3.mono (fun c hc => by omega))).tr (jFr.si _ _ _ (by omega))
      obtain ⟨w2, m11, m16, σ2, dn, pr, lr, l', k1, k2, k3, k4, k5, k6, k7, k8, k9, k10, k11, k12, k13, k14, k15, k16, -⟩ := ref2 _ f21
      have u2 := k12.2.1 0 (Nat.zero_le _)
      have ot2 := c_others (a := 6) (b := 86) k16.2.1 S85'.2.1 u2 v1
      have eN : N = nI (cntT (σ.2.1 0) (σ2.2.1 0) 31) := by
        rw [ot] at ot2
        rw [Option.some.inj ot2, cntT_sym u2 v1]
      have m19 : RM σ2 (jsi m16 201 1 0) := k13.thr (by decide)
      have w13 : RW 13 (σ.2.1 0) (jsi m16 201 1 0) := by
        have a := k6.2.1 0 (Nat.zero_le _)
        have b : RW 13 (σ.2.1 0) (jsi m11 201 25 0) := a.fr (jsi_ne (by decide))
        have c := b.mf k11.2.1 (by decide) (by decide)
        exact c.fr (jsi_ne (by decide))
      have rm := r_othersMany (v := 13) (w := 0) w13 (m19.2.1 0 (Nat.zero_le _)) (by decide) (by decide) v1 u2
      rw [← eN] at rm
      obtain ⟨m23, e1, e2, e3, e4⟩ := r_enters (r_told0 m16) (by decide) N.toInt64
      have dn25 : m23.1 201 25 = nI dn := by rw [e4 25 (by decide), jsi_pl (by decide)]; exact k14
      refine ⟨nI dn, jsi m21 1 1 0, m23, by rw [k15], ?_, ?_⟩
      · rw [k1]
        unfold rtail
        rw [jcl_e k5, jbd_e, jcl2_e k10, if_pos (show (if true = true then (-1 : Int32) else nI lr) < 0 from show (-1 : Int32) < 0 by decide), jbd_e, jcl_e (show f_X12_othersMany 201 (13 : Int32) (0 : Int32) (jsi m16 201 1 0) = _ from rm), jcl_e e1, dn25]
      · have F1 : jFr (fun c => c = 201 ∨ (204 ≤ c ∧ c ≤ 219)) (jsi m21 1 1 0) m16 := (((k3.mono (fun c hc => by omega)).tr (k8.mono (fun c hc => by omega))).tr (jFr.si _ _ _ (Or.inl rfl))).tr (k11.1.mono (fun c hc => by omega))
        have F2 : jFr (fun c => (201 ≤ c ∧ c ≤ 202) ∨ (204 ≤ c ∧ c ≤ 219)) (jsi m21 1 1 0) m23 := ((F1.mono (fun c hc => by omega)).tr (jFr.si _ _ _ (by omega))).tr (e3.mono (fun c hc => by omega))
        have gk : ∀ k, k = 4 ∨ k = 37 → m23.1 201 k = w2.1 201 k := fun k hk => by
          rw [e4 k (by omega), jsi_pl (by omega), k11.2.2 k (by omega) (by omega) (by omega) (by omega), jsi_pl (by omega), k9 k (by omega)]
        refine rel_gen h k12 (k16.fr k12.1 (fun c hc => ?_)) (m19.er e3 e4) (tx_emp hT f21 (jsi_at _ _ _ _) F2 ((gk 4 (by omega)).trans k2)) (RO.of (l := [N.toInt64]) ?_ e2 (by show 1 ≤ 22; omega)) ⟨fun c hc => ?_, ?_, ?_⟩
        · obtain ⟨q1, q2⟩ := hc
          rw [(F2 c (by omega)).1, jsi_ne (by omega), (g3 c (by omega)).1]
        · exact g2.fr (by rw [(F2 3 (by omega)).1, jsi_ne (by decide)]) (by rw [(F2 4 (by omega)).2]; rfl)
        · rw [(F2 c (by omega)).1, (f21 c (by unfold CFs; omega)).1]
        · have M1 : MF (fun w => w ≠ 11 ∧ w ≠ 12) μ (jsi m21 1 1 0) := MF.of (f21 204 (by unfold CFs; omega)).1
          have M2 : MF (fun w => w ≠ 11 ∧ w ≠ 12) (jsi m21 1 1 0) w2 := MF.of (k3 204 (by decide)).1
          have M3 : MF (fun w => w ≠ 11 ∧ w ≠ 12) m11 (jsi m11 201 25 0) := MF.of (jsi_ne (by decide))
          have M4 : MF (fun w => w ≠ 11 ∧ w ≠ 12) m16 m23 := (MF.of (jsi_ne (by decide))).tr (MF.of (e3 204 (by decide)).1)
          exact ((((M1.tr M2).tr (k7.mono (fun w hw => by omega))).tr M3).tr (k11.2.1.mono (fun w hw => by omega))).tr M4
        · rw [gk 37 (by omega), k4 37 (by decide) (by decide) (by decide) (by decide) (by decide) (by decide), (f21 201 (by unfold CFs; omega)).1]
    | false =>
      obtain ⟨m15, g1, g2, g3⟩ := c_stBecome (a := 5) S85' hv (by omega)
      rw [if_pos (show (if false = true then (1 : Int32) else 0) = 0 from rfl), jbd_e, jcl_e g1, emp, jbd_e]
      have f17 : jFr (fun c => CFs c ∨ c = 1) μ (jsi m15 1 1 0) := by
        have x : jFr (fun c => CFs c ∨ c = 1) μ m10 := (f7.mono (fun c hc => by rcases hc with ⟨z1, z2⟩ | z | z <;> (unfold CFs; omega))).tr (jFr.mono d2 (fun c hc => by rcases hc with (⟨z1, z2⟩ | z) | z <;> (unfold CFs; omega)))
        exact (x.tr (g3.mono (fun c hc => by obtain ⟨z1, z2⟩ := hc; unfold CFs; omega))).tr (jFr.si _ _ _ (Or.inr rfl))
      have f17' : jFr (fun c => CFs c ∨ c = 1 ∨ c = 3 ∨ c = 4) μ (jsi m15 1 1 0) := f17.mono (fun c hc => hc.elim Or.inl (fun z => Or.inr (Or.inl z)))
      obtain ⟨w2, m11, m16, σ2, dn, pr, lr, l', k1, k2, k3, k4, k5, k6, k7, k8, k9, k10, k11, k12, k13, k14, k15, k16, k17⟩ := ref2 _ f17'
      obtain ⟨x1, x2, x3⟩ := k17 rfl
      have sv : SV 13 σ m16 := by
        have a : SV 13 σ (jsi m11 201 25 0) := k6.fr hv (by omega) (jsi_pl (by decide)) (jsi_ne (by decide)) (jsi_ne (by decide)) (MF.of (b := fun _ => False) (jsi_ne (by decide))) (fun w _ _ z => z)
        exact a.fr hv (by omega) (k11.2.2 14 (by decide) (by decide) (by decide) (by decide)) (k11.1 207 (by decide)).1 (k11.1 208 (by decide)).1 k11.2.1 (fun w hw _ => by omega)
      obtain ⟨m25, y1, y2, y3, y4, y5⟩ := r_restores sv hv (by omega) (by omega)
      have b25 : m25.1 214 lr = nI pr := by rw [(y4 214 (by omega)).1]; exact x3
      refine ⟨-100 - nI pr, jsi m15 1 1 0, m25, by rw [x2], ?_, ?_⟩
      · rw [k1]
        unfold rtail
        rw [jcl_e k5, jbd_e, jcl2_e k10, if_neg (show ¬ (if false = true then (-1 : Int32) else nI lr) < 0 from nI_pos (by omega)), show (13 : Int32) = nI 13 from rfl, jcl_e y1]
        show jrd (m25.1 214) (nI lr) 168 _ = _
        rw [jrd_n x1 (by decide), b25]
      · have gk : ∀ k, k = 1 ∨ k = 4 ∨ k = 37 → m25.1 201 k = w2.1 201 k := fun k hk => by
          rw [y5 k (by omega), k11.2.2 k (by omega) (by omega) (by omega) (by omega), jsi_pl (by omega), k9 k (by omega)]
        refine rel_emp h hv (g2.fr hv.1 (fun c hc => jsi_ne (by obtain ⟨z1, z2⟩ := hc; omega))) f17 (jsi_at _ _ _ _) y2 ⟨?_, ?_, fun k hk => ?_, (gk 4 (by omega)).trans k2⟩
        · exact ((((k3.mono (fun c hc => by omega)).tr (k8.mono (fun c hc => by omega))).tr (jFr.si _ _ _ (Or.inl rfl))).tr (k11.1.mono (fun c hc => by omega))).tr (y4.mono (fun c hc => by omega))
        · have M2 : MF (fun w => w ≠ 11 ∧ w ≠ 12) (jsi m15 1 1 0) w2 := MF.of (k3 204 (by decide)).1
          have M3 : MF (fun w => w ≠ 11 ∧ w ≠ 12) m11 (jsi m11 201 25 0) := MF.of (jsi_ne (by decide))
          exact (((M2.tr (k7.mono (fun w hw => by omega))).tr M3).tr (k11.2.1.mono (fun w hw => by omega))).tr (y3.mono (fun w hw => by omega))
        · rw [gk k (by omega), k4 k (by omega) (by omega) (by omega) (by omega) (by omega) (by omega)]
