/-! years -/
theorem jsi_jsi (μ : jM) (a k : Nat) (v w : Int32) : jsi (jsi μ a k v) a k w = jsi μ a k w := by
  unfold jsi
  refine Prod.ext ?_ rfl
  funext c
  dsimp only
  by_cases e : c = a
  · subst e
    rw [va_up_self, va_up_self, va_up_self]
    funext j
    by_cases q : j = k
    · rw [q, pk_us, pk_us]
    · rw [pk_un q, pk_un q, pk_un q]
  · rw [va_up_ne _ _ e, va_up_ne _ _ e, va_up_ne _ _ e]
def dnx (d : Int32) : Int32 := d * (1103515245 : Int32) + (12345 : Int32)
def dvl (d n : Int32) : Int32 := jushr (dnx d) (16 : Int32) - jushr (dnx d) (16 : Int32) / n * n
theorem c_draw {μ : jM} {d n : Int32} (h : μ.1 0 14 = d) (h1 : (1 : Int32) ≤ n) (h0 : ¬ n = 0) : f_X11_draw 0 n μ = some (dvl d n, jsi μ 0 14 (dnx d)) := by
  unfold f_X11_draw
  rw [jbd_e, if_pos h1]
  unfold jnz
  rw [if_neg h0, jsi_at, h]
  rfl
theorem r_draws {μ : jM} {d n : Int32} (h : μ.1 201 38 = d) (h0 : ¬ n = 0) : f_X12_draws 201 n μ = some (dvl d n, jsi μ 201 38 (dnx d)) := by
  unfold f_X12_draws
  rw [jbd_e]
  unfold jnz
  rw [if_neg h0, jsi_at, h]
  rfl
def YC (μ μ' : jM) : Prop := jFr (fun c => c = 0 ∨ inS 85 c ∨ c = 166) μ μ'
def YR (m m' : jM) : Prop := jFr (fun c => c = 201 ∨ (204 ≤ c ∧ c ≤ 206) ∨ c = 210) m m' ∧ MF (fun w => w ≤ 10) m m' ∧ ∀ k, k ≠ 0 → k ≠ 9 → k ≠ 15 → k ≠ 38 → m'.1 201 k = m.1 201 k
theorem YR.rf {m : jM} : YR m m := ⟨jFr.rf, MF.rf, fun _ _ _ _ _ => rfl⟩
theorem YR.tr {m w z : jM} (h : YR m w) (h2 : YR w z) : YR m z := ⟨h.1.tr h2.1, h.2.1.tr h2.2.1, fun k a b c d => (h2.2.2 k a b c d).trans (h.2.2 k a b c d)⟩
theorem YR.of {m w : jM} (h : RA m w) : YR m w := ⟨h.1, h.2.1, fun k a b c _ => h.2.2 k a b c⟩
theorem YR.d {m : jM} {v : Int32} : YR m (jsi m 201 38 v) := ⟨jFr.si _ _ _ (Or.inl rfl), MF.of (jsi_ne (by decide)), fun k _ _ _ a => jsi_pl a⟩
def YS (σ : SS) (d : Int32) (σ' : SS) (d' : Int32) : Prop := (∀ μ, RS 85 σ μ → μ.1 0 14 = d → ∃ μ', f_X11_dreamYear 0 μ = some μ' ∧ RS 85 σ' μ' ∧ μ'.1 0 14 = d' ∧ YC μ μ') ∧ (∀ m, RM σ m → m.1 201 38 = d → ∃ m', f_X12_drawnAct 201 m = some m' ∧ RM σ' m' ∧ m'.1 201 38 = d' ∧ YR m m')
def dact (m1 : jM) : Option jM := jcl2 (f_X12_draws 201 (8 : Int32) m1) (fun v3 m4 => (if v3 = (0 : Int32) then jcl2 (f_X12_draws 201 (6 : Int32) m4) (fun v7 m8 => jcl2 (f_X12_draws 201 (41 : Int32) m8) (fun v10 m11 => jcl2 (f_X12_addsOne 201 v7 (v10 - (20 : Int32)) m11) (fun v13 m14 => jcl2 (f_X12_ends 201 v13 m14) (fun _ m17 => some m17)))) else (if v3 = (1 : Int32) then jcl2 (f_X12_draws 201 (5 : Int32) m4) (fun v20 m21 => jcl2 (f_X12_draws 201 (6 : Int32) m21) (fun v23 m24 => jcl2 (f_X12_removesOne 201 v20 v23 m24) (fun v26 m27 => jcl2 (f_X12_ends 201 v26 m27) (fun _ m30 => some m30)))) else (if v3 = (2 : Int32) then jcl2 (f_X12_draws 201 (10 : Int32) m4) (fun v33 m34 => jcl2 (f_X12_draws 201 (100 : Int32) m34) (fun v36 m37 => jcl2 (f_X12_putsOne 201 v33 v36 m37) (fun v39 m40 => jcl2 (f_X12_ends 201 v39 m40) (fun _ m43 => some m43)))) else (if v3 = (3 : Int32) then jcl2 (f_X12_draws 201 (10 : Int32) m4) (fun v46 m47 => jcl2 (f_X12_dropsOne 201 v46 m47) (fun v49 m50 => jcl2 (f_X12_ends 201 v49 m50) (fun _ m53 => some m53))) else (if v3 = (4 : Int32) then jcl2 (f_X12_opensOne 201 m4) (fun _ m57 => some m57) else (if v3 = (5 : Int32) then jcl2 (f_X12_closesOne 201 m4) (fun _ m61 => some m61) else (if v3 = (6 : Int32) then jcl2 (f_X12_commitsOne 201 m4) (fun _ m65 => some m65) else jcl2 (f_X12_spreadsOne 201 m4) (fun v67 m68 => jcl2 (f_X12_ends 201 v67 m68) (fun _ m71 => some m71))))))))))
theorem dact_e (m : jM) : f_X12_drawnAct 201 m = jcl (f_X12_begins 201 m) dact := rfl
theorem n0_85 {c : Nat} (h : c = 0) : ¬ inS 85 c := fun q => by obtain ⟨q1, q2⟩ := q; omega
theorem RS.d85 {σ : SS} {μ : jM} {v : Int32} (h : RS 85 σ μ) (hv : VS σ) : RS 85 σ (jsi μ 0 14 v) := h.fr hv.1 (fun c hc => jsi_ne (by obtain ⟨q1, q2⟩ := hc; omega))
/-- a year that is an act -/
theorem y_act {σ : SS} {d d' : Int32} {fc : Nat → jM → Option (Int32 × jM)} {one : jM → Option (Int32 × jM)} (hv : VS σ) (ha : ActOK σ fc one)
    (hc : ∀ μ, μ.1 0 14 = d → f_X11_dreamYear 0 μ = jcl2 (fc 85 (jsi μ 0 14 d')) (fun _ m => some m))
    (hr : ∀ m, m.1 201 38 = d → dact m = jcl2 (one (jsi m 201 38 d')) (fun v m6 => jcl2 (f_X12_ends 201 v m6) (fun _ m7 => some m7))) :
    ∃ σ' d', VS σ' ∧ YS σ d σ' d' := by
  obtain ⟨r, T', hT, c1, c2⟩ := ha
  refine ⟨chg σ T', d', hv.chg hT, fun μ hS hd => ?_, fun m hM hd => ?_⟩
  · obtain ⟨μ1, a1, a2, a3⟩ := c1 85 (jsi μ 0 14 d') (Or.inr rfl) (hS.d85 hv)
    rw [hc μ hd, jcl2_e a1]
    refine ⟨μ1, rfl, a2, ?_, (jFr.si _ _ _ (Or.inl rfl)).tr (a3.mono (fun c hc => Or.inr hc))⟩
    rw [(a3 0 (fun q => by rcases q with q | q; exact n0_85 rfl q; exact absurd q (by decide))).1, jsi_at]
  · obtain ⟨m1, b1, b2, b3, b4, b5⟩ := r_begins hM hv.1
    have f1 : YR m m1 := ⟨b5.mono (fun c hc => by omega), b4.mono (fun w hw => by omega), fun k _ _ _ _ => by rw [(b5 201 (by decide)).1]⟩
    have hd1 : m1.1 201 38 = d := by rw [(b5 201 (by decide)).1]; exact hd
    obtain ⟨m2, e1, e2, e3, e4⟩ := c2 (jsi m1 201 38 d') (b2.thr (by decide)) (fun k hk => by rw [jsi_ne (by decide)]; exact b3 k hk)
    obtain ⟨m3, g1, g2, g3⟩ := r_ends e2 e3 hv hT r
    have f3 : YR m2 m3 := ⟨g3.mono (fun c hc => by omega), MF.of (g3 204 (by decide)).1, fun k _ _ _ _ => by rw [(g3 201 (by decide)).1]⟩
    rw [dact_e, jcl_e b1, hr m1 hd1, jcl2_e e1, jcl2_e g1]
    refine ⟨m3, rfl, g2, ?_, ((f1.tr YR.d).tr (YR.of e4)).tr f3⟩
    rw [(g3 201 (by decide)).1, e4.2.2 38 (by decide) (by decide) (by decide), jsi_at]
/-- a year that is none -/
theorem y_lev {σ σ' : SS} {d : Int32} (hv : VS σ) (hv' : VS σ')
    (hc : ∀ μ, μ.1 0 14 = d → RS 85 σ (jsi μ 0 14 (dnx d)) → ∃ μ1, f_X11_dreamYear 0 μ = some μ1 ∧ RS 85 σ' μ1 ∧ jFr (inS 85) (jsi μ 0 14 (dnx d)) μ1)
    (hr : ∀ m, m.1 201 38 = d → RM σ (jsi m 201 38 (dnx d)) → ∃ m1, dact m = some m1 ∧ RM σ' m1 ∧ RA (jsi m 201 38 (dnx d)) m1) :
    ∃ σ' d', VS σ' ∧ YS σ d σ' d' := by
  refine ⟨σ', dnx d, hv', fun μ hS hd => ?_, fun m hM hd => ?_⟩
  · obtain ⟨μ1, a1, a2, a3⟩ := hc μ hd (hS.d85 hv)
    refine ⟨μ1, a1, a2, ?_, (jFr.si _ _ _ (Or.inl rfl)).tr (a3.mono (fun c hc => Or.inr (Or.inl hc)))⟩
    rw [(a3 0 (n0_85 rfl)).1, jsi_at]
  · obtain ⟨m1, b1, b2, b3, b4, b5⟩ := r_begins hM hv.1
    have f1 : YR m m1 := ⟨b5.mono (fun c hc => by omega), b4.mono (fun w hw => by omega), fun k _ _ _ _ => by rw [(b5 201 (by decide)).1]⟩
    have hd1 : m1.1 201 38 = d := by rw [(b5 201 (by decide)).1]; exact hd
    obtain ⟨m2, e1, e2, e3⟩ := hr m1 hd1 (b2.thr (by decide))
    rw [dact_e, jcl_e b1, e1]
    refine ⟨m2, rfl, e2, ?_, (f1.tr YR.d).tr (YR.of e3)⟩
    rw [e3.2.2 38 (by decide) (by decide) (by decide), jsi_at]
theorem year_step {σ : SS} (hv : VS σ) (d : Int32) : ∃ σ' d', VS σ' ∧ YS σ d σ' d' := by
  have l9 := hv.1
  have dc : ∀ (n : Int32), (1 : Int32) ≤ n → ¬ n = 0 → ∀ (μ : jM) (d : Int32), μ.1 0 14 = d → f_X11_draw 0 n μ = some (dvl d n, jsi μ 0 14 (dnx d)) := fun n h1 h0 μ d h => c_draw h h1 h0
  have dr : ∀ (n : Int32), ¬ n = 0 → ∀ (μ : jM) (d : Int32), μ.1 201 38 = d → f_X12_draws 201 n μ = some (dvl d n, jsi μ 201 38 (dnx d)) := fun n h0 μ d h => r_draws h h0
  obtain ⟨v, ev⟩ : ∃ v, dvl d 8 = v := ⟨_, rfl⟩
  have c8 : ∀ μ : jM, μ.1 0 14 = d → f_X11_draw 0 8 μ = some (v, jsi μ 0 14 (dnx d)) := fun μ h => by rw [← ev]; exact dc 8 (by decide) (by decide) μ d h
  have r8 : ∀ μ : jM, μ.1 201 38 = d → f_X12_draws 201 8 μ = some (v, jsi μ 201 38 (dnx d)) := fun μ h => by rw [← ev]; exact dr 8 (by decide) μ d h
  by_cases v0 : v = 0
  · refine y_act (d' := dnx (dnx (dnx d))) hv (ok_adds hv (dvl (dnx d) 6) (dvl (dnx (dnx d)) 41 - 20)) (fun μ h => ?_) (fun m h => ?_)
    · unfold f_X11_dreamYear
      rw [jcl2_e (c8 μ h), if_pos v0, jcl2_e (dc 6 (by decide) (by decide) _ _ (jsi_at _ _ _ _)), jcl2_e (dc 41 (by decide) (by decide) _ _ (jsi_at _ _ _ _)), jsi_jsi, jsi_jsi]
    · unfold dact
      rw [jcl2_e (r8 m h), if_pos v0, jcl2_e (dr 6 (by decide) _ _ (jsi_at _ _ _ _)), jcl2_e (dr 41 (by decide) _ _ (jsi_at _ _ _ _)), jsi_jsi, jsi_jsi]
  by_cases v1 : v = 1
  · refine y_act (d' := dnx (dnx (dnx d))) hv (ok_removes hv (dvl (dnx d) 5) (dvl (dnx (dnx d)) 6)) (fun μ h => ?_) (fun m h => ?_)
    · unfold f_X11_dreamYear
      rw [jcl2_e (c8 μ h), if_neg v0, if_pos v1, jcl2_e (dc 5 (by decide) (by decide) _ _ (jsi_at _ _ _ _)), jcl2_e (dc 6 (by decide) (by decide) _ _ (jsi_at _ _ _ _)), jsi_jsi, jsi_jsi]
    · unfold dact
      rw [jcl2_e (r8 m h), if_neg v0, if_pos v1, jcl2_e (dr 5 (by decide) _ _ (jsi_at _ _ _ _)), jcl2_e (dr 6 (by decide) _ _ (jsi_at _ _ _ _)), jsi_jsi, jsi_jsi]
  by_cases v2 : v = 2
  · refine y_act (d' := dnx (dnx (dnx d))) hv (ok_puts hv (dvl (dnx d) 10) (dvl (dnx (dnx d)) 100)) (fun μ h => ?_) (fun m h => ?_)
    · unfold f_X11_dreamYear
      rw [jcl2_e (c8 μ h), if_neg v0, if_neg v1, if_pos v2, jcl2_e (dc 10 (by decide) (by decide) _ _ (jsi_at _ _ _ _)), jcl2_e (dc 100 (by decide) (by decide) _ _ (jsi_at _ _ _ _)), jsi_jsi, jsi_jsi]
    · unfold dact
      rw [jcl2_e (r8 m h), if_neg v0, if_neg v1, if_pos v2, jcl2_e (dr 10 (by decide) _ _ (jsi_at _ _ _ _)), jcl2_e (dr 100 (by decide) _ _ (jsi_at _ _ _ _)), jsi_jsi, jsi_jsi]
  by_cases v3 : v = 3
  · refine y_act (d' := dnx (dnx d)) hv (ok_drops hv (dvl (dnx d) 10)) (fun μ h => ?_) (fun m h => ?_)
    · unfold f_X11_dreamYear
      rw [jcl2_e (c8 μ h), if_neg v0, if_neg v1, if_neg v2, if_pos v3, jcl2_e (dc 10 (by decide) (by decide) _ _ (jsi_at _ _ _ _)), jsi_jsi]
    · unfold dact
      rw [jcl2_e (r8 m h), if_neg v0, if_neg v1, if_neg v2, if_pos v3, jcl2_e (dr 10 (by decide) _ _ (jsi_at _ _ _ _)), jsi_jsi]
  by_cases v4 : v = 4
  · have hc : ∀ μ : jM, μ.1 0 14 = d → f_X11_dreamYear 0 μ = jcl2 (f_X7_openLevel 85 (jsi μ 0 14 (dnx d))) (fun _ m => some m) := fun μ h => by
      unfold f_X11_dreamYear
      rw [jcl2_e (c8 μ h), if_neg v0, if_neg v1, if_neg v2, if_neg v3, if_pos v4]
    have hr : ∀ m : jM, m.1 201 38 = d → dact m = jcl2 (f_X12_opensOne 201 (jsi m 201 38 (dnx d))) (fun _ m => some m) := fun m h => by
      unfold dact
      rw [jcl2_e (r8 m h), if_neg v0, if_neg v1, if_neg v2, if_neg v3, if_pos v4]
    by_cases q : σ.1 < 9
    · refine y_lev hv (hv.opn q) (fun μ h hS => ?_) (fun m h hM => ?_)
      · obtain ⟨μ1, a1, a2, a3⟩ := c_open hS hv q
        exact ⟨μ1, by rw [hc μ h, jcl2_e a1], a2, a3⟩
      · obtain ⟨m1, a1, a2, a3, a4, a5⟩ := r_open hM hv q
        exact ⟨m1, by rw [hr m h, jcl2_e a1], a2, a4.mono (fun c hc => by omega), a3.mono (fun w hw => by omega), fun k _ b _ => a5 k b⟩
    · have q9 : σ.1 = 9 := by omega
      exact y_lev hv hv (fun μ h hS => ⟨_, by rw [hc μ h, jcl2_e (c_open9 hS q9)], hS, jFr.rf⟩) (fun m h hM => ⟨_, by rw [hr m h, jcl2_e (r_open9 hM q9)], hM, RA.rf⟩)
  by_cases v5 : v = 5
  · have hc : ∀ μ : jM, μ.1 0 14 = d → RS 85 σ (jsi μ 0 14 (dnx d)) → f_X11_dreamYear 0 μ = f_X7_closeTo 85 (nI σ.1 - 1) (jsi μ 0 14 (dnx d)) := fun μ h hS => by
      unfold f_X11_dreamYear
      rw [jcl2_e (c8 μ h), if_neg v0, if_neg v1, if_neg v2, if_neg v3, if_neg v4, if_pos v5, jcl_id]
      show f_X7_closeTo 85 ((jsi μ 0 14 (dnx d)).1 85 2 - 1) _ = _
      rw [hS.1]
    have hr : ∀ m : jM, m.1 201 38 = d → dact m = jcl2 (f_X12_closesOne 201 (jsi m 201 38 (dnx d))) (fun _ m => some m) := fun m h => by
      unfold dact
      rw [jcl2_e (r8 m h), if_neg v0, if_neg v1, if_neg v2, if_neg v3, if_neg v4, if_pos v5]
    by_cases q : 0 < σ.1
    · refine y_lev hv (hv.clo (n := σ.1 - 1) (by omega)) (fun μ h hS => ?_) (fun m h hM => ?_)
      · obtain ⟨μ1, a1, a2, a3⟩ := c_close (n := σ.1 - 1) hS hv (by omega)
        refine ⟨μ1, ?_, a2, a3⟩
        rw [hc μ h hS, jlit 1, pk_sub (by omega)]
        exact a1
      · obtain ⟨m1, a1, a2, a3, a4, a5⟩ := r_close hM hv q
        exact ⟨m1, by rw [hr m h, jcl2_e a1], a2, a4.mono (fun c hc => by omega), a3.mono (fun w hw => by omega), fun k _ b _ => a5 k b⟩
    · have q0 : σ.1 = 0 := by omega
      refine y_lev hv hv (fun μ h hS => ⟨_, ?_, hS, jFr.rf⟩) (fun m h hM => ⟨_, ?_, hM, RA.rf⟩)
      · rw [hc μ h hS, q0]
        unfold f_X7_closeTo
        rw [if_pos (by decide)]
      · have e : f_X12_closesOne 201 (jsi m 201 38 (dnx d)) = some (-2, jsi m 201 38 (dnx d)) := by
          unfold f_X12_closesOne
          rw [hM.1, q0, if_pos (by rfl)]
        rw [hr m h, jcl2_e e]
  by_cases v6 : v = 6
  · have hc : ∀ μ : jM, μ.1 0 14 = d → f_X11_dreamYear 0 μ = jcl2 (f_X7_commitLevel 85 (jsi μ 0 14 (dnx d))) (fun _ m => some m) := fun μ h => by
      unfold f_X11_dreamYear
      rw [jcl2_e (c8 μ h), if_neg v0, if_neg v1, if_neg v2, if_neg v3, if_neg v4, if_neg v5, if_pos v6]
    have hr : ∀ m : jM, m.1 201 38 = d → dact m = jcl2 (f_X12_commitsOne 201 (jsi m 201 38 (dnx d))) (fun _ m => some m) := fun m h => by
      unfold dact
      rw [jcl2_e (r8 m h), if_neg v0, if_neg v1, if_neg v2, if_neg v3, if_neg v4, if_neg v5, if_pos v6]
    by_cases q : 0 < σ.1
    · refine y_lev hv (hv.com q) (fun μ h hS => ?_) (fun m h hM => ?_)
      · obtain ⟨μ1, a1, a2, a3⟩ := c_commit hS hv q
        exact ⟨μ1, by rw [hc μ h, jcl2_e a1], a2, a3⟩
      · obtain ⟨m1, a1, a2, a3, a4, a5, a6⟩ := r_commit hM hv q
        exact ⟨m1, by rw [hr m h, jcl2_e a1], a2, a5.mono (fun c hc => by omega), MF.of a4, fun k _ b c => a6 k b c⟩
    · have q0 : σ.1 = 0 := by omega
      refine y_lev hv hv (fun μ h hS => ⟨_, ?_, hS, jFr.rf⟩) (fun m h hM => ⟨_, ?_, hM, RA.rf⟩)
      · have e : f_X7_commitLevel 85 (jsi μ 0 14 (dnx d)) = some (0, jsi μ 0 14 (dnx d)) := by
          unfold f_X7_commitLevel
          rw [hS.1, q0, if_pos (by rfl)]
        rw [hc μ h, jcl2_e e]
      · have e : f_X12_commitsOne 201 (jsi m 201 38 (dnx d)) = some (-2, jsi m 201 38 (dnx d)) := by
          unfold f_X12_commitsOne
          rw [hM.1, q0, if_pos (by rfl)]
        rw [hr m h, jcl2_e e]
  · refine y_act (d' := dnx d) hv (ok_spreads hv) (fun μ h => ?_) (fun m h => ?_)
    · unfold f_X11_dreamYear
      rw [jcl2_e (c8 μ h), if_neg v0, if_neg v1, if_neg v2, if_neg v3, if_neg v4, if_neg v5, if_neg v6]
    · unfold dact
      rw [jcl2_e (r8 m h), if_neg v0, if_neg v1, if_neg v2, if_neg v3, if_neg v4, if_neg v5, if_neg v6]
theorem y_seq {σ : SS} (hv : VS σ) (d : Int32) : ∃ S : Nat → SS × Int32, S 0 = (σ, d) ∧ ∀ k, VS (S k).1 ∧ YS (S k).1 (S k).2 (S (k + 1)).1 (S (k + 1)).2 := by
  have step : ∀ x : {x : SS × Int32 // VS x.1}, ∃ y : {x : SS × Int32 // VS x.1}, YS x.1.1 x.1.2 y.1.1 y.1.2 := fun x => by
    obtain ⟨σ', d', h1, h2⟩ := year_step x.2 x.1.2
    exact ⟨⟨(σ', d'), h1⟩, h2⟩
  obtain ⟨F, F0, Fs⟩ : ∃ F : Nat → {x : SS × Int32 // VS x.1}, F 0 = ⟨(σ, d), hv⟩ ∧ ∀ k, YS (F k).1.1 (F k).1.2 (F (k + 1)).1.1 (F (k + 1)).1.2 := ⟨fun k => Nat.rec (motive := fun _ => {x : SS × Int32 // VS x.1}) ⟨(σ, d), hv⟩ (fun _ x => Classical.choose (step x)) k, rfl, fun k => Classical.choose_spec (step _)⟩
  exact ⟨fun k => (F k).1, by show (F 0).1 = _; rw [F0], fun k => ⟨(F k).2, Fs k⟩⟩
