/-! levels opened, closed, committed; what was heard; the text -/
theorem sim_opens {μ : jM} (h : Rel μ) : ∃ r μ1 μ2, f_X11_opens 0 μ = some (r, μ1) ∧ f_X12_opens 201 μ1 = some (r, μ2) ∧ Rel μ2 := by
  obtain ⟨⟨σ, hv, hS, hM⟩, -⟩ := id h
  have h9 := hv.1
  unfold f_X11_opens f_X12_opens
  simp only [jcl2_id, jbd_e]
  by_cases c : σ.1 < 9
  · obtain ⟨μ1, a1, a2, a3⟩ := c_open hS hv c
    have F : CF μ μ1 := CA5 (a3.mono (fun c hc => Or.inl hc))
    have hM1 : RM σ (jsi μ1 201 0 0) := (hM.fc F.r).thr (by decide)
    obtain ⟨m1, b1, b2, b3, b4, b5⟩ := r_open hM1 hv c
    exact ⟨_, μ1, m1, a1, b1, rel_mk h (hv.opn c) a2 F b2 ((RC.thr (by decide)).tr ⟨b4.mono (fun c hc => by omega), b3.mono (fun w hw => by omega), fun k hk => b5 k (by omega)⟩)⟩
  · have c9 : σ.1 = 9 := by omega
    have hM1 : RM σ (jsi μ 201 0 0) := hM.thr (by decide)
    exact ⟨_, μ, _, c_open9 hS c9, r_open9 hM1 c9, rel_mk h hv hS jFr.rf hM1 (RC.thr (by decide))⟩
theorem clo_now (n : Nat) (σ : SS) : (clo n σ).2.1 0 = σ.2.1 (n + 1) := va_up_self σ.2.1 0 _
theorem RT.fc {t : Nat} {T : TT} {μ μ' : jM} {S : Nat → Prop} (h : RT t T μ) (f : jFr S μ μ') (hs : ∀ c, t ≤ c → c ≤ t + 5 → ¬ S c) : RT t T μ' := h.fr (fun c q1 q2 => (f c (hs c q1 q2)).1)
theorem RS.fc {s : Nat} {σ : SS} {μ μ' : jM} {S : Nat → Prop} (h : RS s σ μ) (hd : σ.1 ≤ 9) (f : jFr S μ μ') (hs : ∀ c, inS s c → ¬ S c) : RS s σ μ' := h.fr hd (fun c q => (f c (hs c q)).1)
/-- closing and telling, the class -/
theorem c_cat {n : Nat} {σ : SS} {μ : jM} (hS : RS 5 σ μ) (hv : VS σ) (hn : n < σ.1) : ∃ μ1, f_X11_closeAndTell 0 (nI n) μ = some μ1 ∧ RS 5 (clo n σ) μ1 ∧ RwC [(nI (cntT (σ.2.1 0) (σ.2.1 (n + 1)) 31)).toInt64] μ1 ∧ CFr μ μ1 := by
  have h9 := hv.1
  have ho := c_others hS.2.1 (hS.2.2 n hn).1 (hv.2.1 0 (Nat.zero_le _)) (hv.2.1 (n + 1) (by omega))
  obtain ⟨m1, a1, a2, a3⟩ := c_only μ (nI (cntT (σ.2.1 0) (σ.2.1 (n + 1)) 31)).toInt64
  have hS1 : RS 5 σ m1 := hS.fc h9 a3 (fun c q => by obtain ⟨q1, q2⟩ := q; omega)
  obtain ⟨m2, b1, b2, b3⟩ := c_close hS1 hv hn
  refine ⟨m2, ?_, b2, a2.fr (b3 3 (by rintro ⟨q1, q2⟩; omega)).1 (b3 4 (by rintro ⟨q1, q2⟩; omega)).2, (CFr.row a3).tr (CF.r (CA5 (b3.mono (fun c hc => Or.inl hc))))⟩
  unfold f_X11_closeAndTell
  have e2 : μ.1 (0 + 5) 2 = nI σ.1 := hS.1
  have ho' : f_X9_otherThings (0 + 6) (0 + 13 + 8 * n + 1) μ = some (nI (cntT (σ.2.1 0) (σ.2.1 (n + 1)) 31)) := ho
  rw [jbd_e, e2, if_neg (nI_ge hn (by omega)), jin_n (by omega) (by decide), nI_clamp (by omega), jcl_e ho']
  show jcl (f_X3_only 3 _ μ) (fun m5 => jcl (f_X7_closeTo 5 (nI n) m5) _) = _
  rw [jcl_e a1, jcl_e b1]
/-- what differs is as many the other way -/
theorem dpar_sym (T T' : TT) (n : Nat) : dpar T T' n = dpar T' T n := by
  unfold dpar
  congr 1
  funext k
  by_cases c : T (29 + k) = T' (29 + k)
  · simp [c]
  · have c' : ¬ T' (29 + k) = T (29 + k) := fun q => c q.symm
    simp [c, c']
theorem othB_sym (T T' : TT) (t : Nat) (h : VT T) (h' : VT T') : othB T T' t = othB T' T t := by
  unfold othB
  by_cases c : tell T t = tell T' t
  · have e : decide (tell T t ≠ tell T' t) = decide (tell T' t ≠ tell T t) := by simp [c]
    rw [e]
    by_cases c2 : t = 30
    · subst c2
      have e28 : T 28 = T' 28 := by
        unfold tell at c
        rw [if_neg (by omega), if_neg (by omega), if_neg (by omega), if_neg (by omega), if_neg (by omega), if_neg (by omega)] at c
        exact c
      have en : nc T = nc T' := by unfold nc; rw [e28]
      rw [en, dpar_sym]
    · simp [c2]
  · have c' : ¬ tell T' t = tell T t := fun q => c q.symm
    simp [c, c']
theorem cntT_sym {T T' : TT} (h : VT T) (h' : VT T') : ∀ n, cntT T T' n = cntT T' T n
  | 0 => rfl
  | n + 1 => by rw [cntT_s, cntT_s, cntT_sym h h' n, othB_sym T T' n h h']
theorem r_toldO {μ : jM} {T T' : TT} (h : RW 10 T μ) (h' : RW 0 T' μ) (hv : VT T) (hv' : VT T') : ∃ m, jbd (jsi μ 201 1 (0 : Int32)) (fun m9 => jcl (f_X12_othersMany 201 (10 : Int32) (0 : Int32) m9) (fun v11 => jcl (f_X12_enters 201 v11.toInt64 m9) (fun m13 => some m13))) = some m ∧ RwR [(nI (cntT T T' 31)).toInt64] m ∧ jFr (fun c => c = 201 ∨ c = 202) μ m ∧ ∀ k, k ≠ 1 → m.1 201 k = μ.1 201 k := by
  have h1 : RW 10 T (jsi μ 201 1 (0 : Int32)) := h.fr (jsi_ne (by decide))
  have h2 : RW 0 T' (jsi μ 201 1 (0 : Int32)) := h'.fr (jsi_ne (by decide))
  have ho : f_X12_othersMany 201 (10 : Int32) (0 : Int32) (jsi μ 201 1 (0 : Int32)) = some (nI (cntT T T' 31)) := r_othersMany h1 h2 (by decide) (by decide) hv hv'
  obtain ⟨m, a1, a2, a3, a4⟩ := r_enters (r_told0 μ) (by decide) (nI (cntT T T' 31)).toInt64
  rw [jbd_e, jcl_e ho, jcl_e a1]
  exact ⟨m, rfl, a2, (jFr.si _ _ _ (Or.inl rfl)).tr a3, fun k hk => by rw [a4 k hk, jsi_pl hk]⟩
theorem sim_closes {μ : jM} (h : Rel μ) : ∃ r μ1 μ2, f_X11_closes 0 μ = some (r, μ1) ∧ f_X12_closes 201 μ1 = some (r, μ2) ∧ Rel μ2 := by
  obtain ⟨⟨σ, hv, hS, hM⟩, -⟩ := id h
  have h9 := hv.1
  have e5 : μ.1 (0 + 5) 2 = nI σ.1 := hS.1
  unfold f_X11_closes f_X12_closes
  simp only [jbd_e]
  rw [e5]
  by_cases c : σ.1 = 0
  · have hM1 : RM σ (jsi μ 201 0 0) := hM.thr (by decide)
    obtain ⟨m1, b1, b2, b3, b4, b5⟩ := r_begins hM1 hv.1
    refine ⟨-2, μ, m1, by rw [c, if_pos (by decide)], ?_, rel_mk h hv hS jFr.rf b2 ((RC.thr (by decide)).tr ⟨b5.mono (fun c hc => by omega), b4.mono (fun w hw => by omega), fun k _ => by rw [(b5 201 (by decide)).1]⟩)⟩
    have ec : f_X12_closesOne 201 m1 = some (-2, m1) := by
      unfold f_X12_closesOne
      rw [b2.1, c, if_pos (by decide)]
    rw [jcl_e b1, jcl2_e ec, if_pos (by decide)]
  · have e1 : nI σ.1 - (1 : Int32) = nI (σ.1 - 1) := pk_sub (b := 1) (by omega)
    obtain ⟨μ1, a1, a2, a3, F⟩ := c_cat (n := σ.1 - 1) hS hv (by omega)
    have hM1 : RM σ (jsi μ1 201 0 0) := (hM.fc F).thr (by decide)
    obtain ⟨m1, b1, b2, b3, b4, b5⟩ := r_begins hM1 hv.1
    obtain ⟨m2, c1, c2, c3, c4, c5⟩ := r_close b2 hv (by omega)
    have hN : RW 0 (σ.2.1 (σ.1 - 1 + 1)) m2 := by
      have := c2.2.1 0 (Nat.zero_le _)
      rw [clo_now] at this
      exact this
    have v0 := hv.2.1 0 (Nat.zero_le _)
    have v1 := hv.2.1 (σ.1 - 1 + 1) (by omega)
    obtain ⟨m3, d1, d2, d3, d4⟩ := r_toldO (b3.mf c3 (by decide) (by omega)) hN v0 v1
    simp only [jbd_e] at d1
    refine ⟨nI (σ.1 - 1), μ1, m3, ?_, ?_, ?_⟩
    · have e7 : μ1.1 (0 + 5) 2 = nI (σ.1 - 1) := a2.1
      rw [if_neg (nI_ne0 (by omega) (by omega)), e1, jcl_e a1, e7]
    · rw [jcl_e b1, jcl2_e c1, if_neg (nI_pos (by omega))]
      cases q : f_X12_othersMany 201 (10 : Int32) (0 : Int32) (jsi m2 201 1 (0 : Int32)) with
      | none => rw [q] at d1; cases d1
      | some v =>
        rw [q] at d1
        have d1 : jcl (f_X12_enters 201 v.toInt64 (jsi m2 201 1 0)) (fun m13 => some m13) = some m3 := d1
        rw [jcl_id] at d1
        rw [jcl_e rfl, jcl_e d1]
    · have hRM : RM (clo (σ.1 - 1) σ) m3 := c2.fr (d4 9 (by decide)) (d3 204 (by decide)).1 (d3 205 (by decide)).1 (d3 206 (by decide)).1
      refine rel_row h (hv.clo (by omega)) a2 F hRM ?_ a3 d2 (by show 1 ≤ 22; omega)
      exact (((RCr.thr (by decide)).tr (RC.r ⟨b5.mono (fun c hc => by omega), b4.mono (fun w hw => by omega), fun k _ => by rw [(b5 201 (by decide)).1]⟩)).tr (RC.r ⟨c4.mono (fun c hc => by omega), c3.mono (fun w hw => by omega), fun k hk => c5 k (by omega)⟩)).tr (RCr.ent d3 d4)
theorem clo_clo (n k : Nat) (σ : SS) (h : n < k) : clo n (clo k σ) = clo n σ := by
  unfold clo
  congr 2
  funext j
  by_cases c : j = 0
  · rw [c, va_up_self, va_up_self]
    show va_up σ.2.1 0 (σ.2.1 (k + 1)) (n + 1) = _
    rw [va_up_ne _ _ (Nat.succ_ne_zero n)]
  · rw [va_up_ne _ _ c, va_up_ne _ _ c]
    exact va_up_ne _ _ c
theorem sim_back {μ : jM} (h : Rel μ) (x : Int32) : ∃ r μ1 μ2, f_X11_back 0 x μ = some (r, μ1) ∧ f_X12_back 201 x μ1 = some (r, μ2) ∧ Rel μ2 := by
  obtain ⟨⟨σ, hv, hS, hM⟩, -⟩ := id h
  have h9 := hv.1
  have e5 : μ.1 (0 + 5) 2 = nI σ.1 := hS.1
  have e0 : (0 : Int32).toInt = 0 := by decide
  have e00 : (0 : Int64).toInt = 0 := by decide
  have ed := nI_toInt (n := σ.1) (by omega)
  unfold f_X11_back f_X12_back
  simp only [jbd_e]
  rw [e5]
  by_cases c : 0 ≤ x.toInt ∧ x.toInt ≤ σ.1
  · obtain ⟨n, hn, rfl⟩ := nI_iof (n := σ.1 + 1) (x := x) ⟨c.1, by omega⟩ (by omega)
    rw [if_neg (nI_pos (by omega)), if_pos (nI_le (by omega) (by omega)), pk_sub (by omega)]
    -- the class
    have hcl : ∃ μ1, f_X11_closeAndTell 0 (nI n) μ = some μ1 ∧ RS 5 (if n = σ.1 then σ else clo n σ) μ1 ∧ RwC [(nI (if n = σ.1 then 0 else cntT (σ.2.1 0) (σ.2.1 (n + 1)) 31)).toInt64] μ1 ∧ CFr μ μ1 := by
      by_cases cn : n = σ.1
      · rw [if_pos cn, if_pos cn]
        obtain ⟨m1, a1, a2, a3⟩ := c_only μ (nI 0).toInt64
        have hS1 : RS 5 σ m1 := hS.fc h9 a3 (fun c q => by obtain ⟨q1, q2⟩ := q; omega)
        refine ⟨m1, ?_, hS1, a2, CFr.row a3⟩
        unfold f_X11_closeAndTell
        have e2 : μ.1 (0 + 5) 2 = nI σ.1 := hS.1
        have eb : f_X7_closeTo (0 + 5) (nI n) m1 = some m1 := by
          unfold f_X7_closeTo
          have e3 : m1.1 (0 + 5) 2 = nI σ.1 := hS1.1
          rw [if_neg (nI_pos (by omega)), e3, cn, if_pos (nI_le (Nat.le_refl _) (by omega))]
        have a1' : f_X3_only (0 + 3) (0 : Int64) μ = some m1 := a1
        rw [jbd_e, e2, cn, if_pos (nI_le (Nat.le_refl _) (by omega)), ← cn]
        dsimp only
        rw [jcl_e a1', jcl_e eb]
      · rw [if_neg cn, if_neg cn]
        exact c_cat hS hv (by omega)
    obtain ⟨μ1, a1, a2, a3, F⟩ := hcl
    have hM1 : RM σ (jsi μ1 201 0 0) := (hM.fc F).thr (by decide)
    obtain ⟨m1, b1, b2, b3, b4, b5⟩ := r_begins hM1 hv.1
    -- closing one by one
    obtain ⟨w, hw, w1, w2, w3, w4, w5⟩ := jlpN (step := fun (q : Int32 × jM) => f_X12_back_L27 201 (nI n) q.1 q.2) (σ.1 - n)
      (fun k q => q.1 = nI k ∧ RM (if k = 0 then σ else clo (σ.1 - k) σ) q.2 ∧ MF (fun w => w ≤ 9) m1 q.2 ∧ jFr (fun c => c = 201 ∨ c = 204) m1 q.2 ∧ ∀ i, i ≠ 9 → q.2.1 201 i = m1.1 201 i)
      (fun q => q.1 = nI (σ.1 - n) ∧ RM (if σ.1 - n = 0 then σ else clo n σ) q.2 ∧ MF (fun w => w ≤ 9) m1 q.2 ∧ jFr (fun c => c = 201 ∨ c = 204) m1 q.2 ∧ ∀ i, i ≠ 9 → q.2.1 201 i = m1.1 201 i)
      (fun k q hk hq => by
        obtain ⟨u, m⟩ := q
        obtain ⟨hu, hR, g1, g2, g3⟩ := hq
        have hu : u = nI k := hu
        subst hu
        have hvk : VS (if k = 0 then σ else clo (σ.1 - k) σ) := by
          by_cases z : k = 0
          · rw [if_pos z]; exact hv
          · rw [if_neg z]; exact hv.clo (by omega)
        have hdk : (if k = 0 then σ else clo (σ.1 - k) σ).1 = σ.1 - k := by
          by_cases z : k = 0
          · rw [if_pos z, z]; rfl
          · rw [if_neg z]; rfl
        have hR : RM (if k = 0 then σ else clo (σ.1 - k) σ) m := hR
        obtain ⟨m', c1, c2, c3, c4, c5⟩ := r_close hR hvk (by rw [hdk]; omega)
        have hcc : clo ((if k = 0 then σ else clo (σ.1 - k) σ).1 - 1) (if k = 0 then σ else clo (σ.1 - k) σ) = clo (σ.1 - (k + 1)) σ := by
          rw [hdk, show σ.1 - k - 1 = σ.1 - (k + 1) by omega]
          by_cases z : k = 0
          · rw [if_pos z]
          · rw [if_neg z]; exact clo_clo _ _ _ (by omega)
        rw [hcc] at c2
        refine ⟨(nI (k + 1), m'), ?_, rfl, by rw [if_neg (by omega)]; exact c2, g1.tr c3, g2.tr c4, fun i hi => (c5 i hi).trans (g3 i hi)⟩
        dsimp only
        unfold f_X12_back_L27
        rw [hR.1, hdk, if_neg (nI_ge (by omega) (by omega)), jcl2_e c1, nI_1])
      (fun q hq => by
        obtain ⟨u, m⟩ := q
        obtain ⟨hu, hR, g1, g2, g3⟩ := hq
        have hu : u = nI (σ.1 - n) := hu
        subst hu
        have hR : RM (if σ.1 - n = 0 then σ else clo (σ.1 - (σ.1 - n)) σ) m := hR
        have hdk : (if σ.1 - n = 0 then σ else clo (σ.1 - (σ.1 - n)) σ).1 = n := by
          by_cases z : σ.1 - n = 0
          · rw [if_pos z]; omega
          · rw [if_neg z]; show σ.1 - (σ.1 - n) = n; omega
        refine ⟨(nI (σ.1 - n), m), ?_, rfl, by rw [show σ.1 - (σ.1 - n) = n by omega] at hR; exact hR, g1, g2, g3⟩
        dsimp only
        unfold f_X12_back_L27
        rw [hR.1, hdk, if_pos (nI_le (Nat.le_refl _) (by omega))])
      (i := 0) (n := jfu) (s := ((0 : Int32), m1)) (by omega) ⟨rfl, b2, MF.rf, jFr.rf, fun _ _ => rfl⟩ (jfu_lt (by omega))
    have v0 := hv.2.1 0 (Nat.zero_le _)
    have hN : RW 0 (if n = σ.1 then σ.2.1 0 else σ.2.1 (n + 1)) w.2 := by
      have := w2.2.1 0 (Nat.zero_le _)
      by_cases z : n = σ.1
      · rw [if_pos (by omega)] at this
        rw [if_pos z]; exact this
      · rw [if_neg (by omega), clo_now] at this
        rw [if_neg z]; exact this
    have vN : VT (if n = σ.1 then σ.2.1 0 else σ.2.1 (n + 1)) := by
      by_cases z : n = σ.1
      · rw [if_pos z]; exact v0
      · rw [if_neg z]; exact hv.2.1 _ (by omega)
    obtain ⟨m3, d1, d2, d3, d4⟩ := r_toldO (b3.mf w3 (by decide) (by omega)) hN v0 vN
    simp only [jbd_e] at d1
    have hcnt : cntT (σ.2.1 0) (if n = σ.1 then σ.2.1 0 else σ.2.1 (n + 1)) 31 = (if n = σ.1 then 0 else cntT (σ.2.1 0) (σ.2.1 (n + 1)) 31) := by
      by_cases z : n = σ.1
      · rw [if_pos z, if_pos z]
        have : ∀ k, cntT (σ.2.1 0) (σ.2.1 0) k = 0 := by
          intro k
          induction k with
          | zero => rfl
          | succ k ih => rw [cntT_s, ih]; simp [othB, dpar]
        exact this 31
      · rw [if_neg z, if_neg z]
    rw [hcnt] at d2
    refine ⟨nI (σ.1 - n), μ1, m3, ?_, ?_, ?_⟩
    · rw [jcl_e a1]
    · have e9 : (jsi μ1 201 0 (0 : Int32)).1 201 9 = nI σ.1 := hM1.1
      rw [e9, in_l, Int32.toInt_toInt64, Int32.toInt_toInt64, e00, ed, if_pos c, if_neg (by decide), jcl_e b1, jcl_e hw]
      cases q : f_X12_othersMany 201 (10 : Int32) (0 : Int32) (jsi w.2 201 1 (0 : Int32)) with
      | none => rw [q] at d1; cases d1
      | some v =>
        rw [q] at d1
        have d1 : jcl (f_X12_enters 201 v.toInt64 (jsi w.2 201 1 0)) (fun m13 => some m13) = some m3 := d1
        rw [jcl_id] at d1
        rw [jcl_e rfl, jcl_e d1, w1]
    · have hvn : VS (if n = σ.1 then σ else clo n σ) := by
        by_cases z : n = σ.1
        · rw [if_pos z]; exact hv
        · rw [if_neg z]; exact hv.clo (by omega)
      have hRM : RM (if n = σ.1 then σ else clo n σ) m3 := by
        have q : RM (if σ.1 - n = 0 then σ else clo n σ) m3 := w2.fr (d4 9 (by decide)) (d3 204 (by decide)).1 (d3 205 (by decide)).1 (d3 206 (by decide)).1
        by_cases z : n = σ.1
        · rw [if_pos (by omega)] at q
          rw [if_pos z]; exact q
        · rw [if_neg (by omega)] at q
          rw [if_neg z]; exact q
      refine rel_row h hvn a2 F hRM ?_ a3 d2 (by show 1 ≤ 22; omega)
      exact (((RCr.thr (by decide)).tr (RC.r ⟨b5.mono (fun c hc => by omega), b4.mono (fun w hw => by omega), fun k _ => by rw [(b5 201 (by decide)).1]⟩)).tr (RC.r ⟨w4.mono (fun c hc => by omega), w3.mono (fun w hw => by omega), fun k hk => w5 k (by omega)⟩)).tr (RCr.ent d3 d4)
  · have hM1 : RM σ (jsi μ 201 0 0) := hM.thr (by decide)
    refine ⟨-1, μ, jsi μ 201 0 0, ?_, ?_, rel_mk h hv hS jFr.rf hM1 (RC.thr (by decide))⟩
    · by_cases c1 : x < 0
      · rw [if_pos c1]
      · rw [if_neg c1, if_neg]
        intro z
        rw [i32_lt] at c1
        rw [i32_le] at z
        rw [e0] at c1
        rw [ed] at z
        exact c ⟨by omega, z⟩
    · have e9 : (jsi μ 201 0 (0 : Int32)).1 201 9 = nI σ.1 := hM1.1
      rw [e9, in_l, Int32.toInt_toInt64, Int32.toInt_toInt64, e00, ed, if_neg c, if_pos (by decide)]
