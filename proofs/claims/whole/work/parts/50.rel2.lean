/-! frames, the ROW, acts of both -/
theorem jcl2_id (o : Option (Int32 × jM)) : jcl2 o (fun v m => some (v, m)) = o := by cases o <;> rfl
theorem jcl_id {α : Type} (o : Option α) : jcl o (fun v => some v) = o := by cases o <;> rfl
/-- the ROW of the class, of the reference -/
def RwC (l : List Int64) (μ : jM) : Prop := μ.1 3 1 = nI l.length ∧ ∀ i, i < l.length → μ.2 4 i = l.getD i 0
def RwR (l : List Int64) (μ : jM) : Prop := μ.1 201 1 = nI l.length ∧ ∀ i, i < l.length → μ.2 202 i = l.getD i 0
theorem RwC.fr {l : List Int64} {μ μ' : jM} (h : RwC l μ) (h1 : μ'.1 3 = μ.1 3) (h2 : μ'.2 4 = μ.2 4) : RwC l μ' := by unfold RwC; rw [h1, h2]; exact h
theorem RwR.fr {l : List Int64} {μ μ' : jM} (h : RwR l μ) (h1 : μ'.1 201 1 = μ.1 201 1) (h2 : μ'.2 202 = μ.2 202) : RwR l μ' := by unfold RwR; rw [h1, h2]; exact h
theorem RO.of {l : List Int64} {μ : jM} (h : RwC l μ) (h2 : RwR l μ) (hl : l.length ≤ 22) : RO μ := ⟨l.length, hl, h.1, h2.1, fun i hi => (h.2 i hi).trans (h2.2 i hi).symm⟩
theorem c_empty (μ : jM) : RwC [] (f_X3_empty 3 μ) ∧ jFr (fun c => c = 3 ∨ c = 4) μ (f_X3_empty 3 μ) := by
  unfold f_X3_empty
  rw [jbd_e]
  exact ⟨⟨jsi_at _ _ _ _, fun i hi => absurd hi (Nat.not_lt_zero i)⟩, jFr.si _ _ _ (Or.inl rfl)⟩
theorem app_get {l : List Int64} {y : Int64} {i : Nat} : (l ++ [y]).getD i 0 = if i = l.length then y else l.getD i 0 := by
  by_cases c : i = l.length
  · rw [if_pos c, c]; simp
  · rw [if_neg c]
    rcases Nat.lt_or_ge i l.length with q | q
    · simp [List.getElem?_append_left q]
    · have h1 : (l ++ [y]).length ≤ i := by rw [List.length_append, List.length_singleton]; omega
      simp [List.getElem?_eq_none h1, List.getElem?_eq_none q]
theorem c_tellR {l : List Int64} {μ : jM} (h : RwC l μ) (hl : l.length < 22) (y : Int64) : ∃ μ', f_X3_tell 3 y μ = some μ' ∧ RwC (l ++ [y]) μ' ∧ jFr (fun c => c = 3 ∨ c = 4) μ μ' := by
  unfold f_X3_tell
  rw [h.1, if_neg (nI_ge hl (by decide)), jin_n hl (by decide), nI_clamp (by omega), jbd_e, jbd_e]
  refine ⟨_, rfl, ⟨?_, fun i hi => ?_⟩, (jFr.sl _ _ _ (Or.inr rfl)).tr (jFr.si _ _ _ (Or.inl rfl))⟩
  · rw [jsi_at, jsl_1, h.1, nI_1, List.length_append]; rfl
  · rw [List.length_append, List.length_singleton] at hi
    show (jsl μ (3 + 1) l.length y).2 4 i = _
    have e : (jsl μ (3 + 1) l.length y).2 4 = vp_updL (μ.2 4) l.length y := jsl_self _ _ _ _
    rw [e, app_get]
    by_cases c : i = l.length
    · rw [if_pos c, c, pk_uLs]
    · rw [if_neg c, pk_uLn c]; exact h.2 i (by omega)
theorem c_only (μ : jM) (y : Int64) : ∃ μ', f_X3_only 3 y μ = some μ' ∧ RwC [y] μ' ∧ jFr (fun c => c = 3 ∨ c = 4) μ μ' := by
  have h0 := c_empty μ
  unfold f_X3_empty at h0
  rw [jbd_e] at h0
  obtain ⟨μ', e1, e2, e3⟩ := c_tellR h0.1 (by decide) y
  unfold f_X3_only
  rw [jbd_e, jcl_e e1]
  exact ⟨μ', rfl, e2, h0.2.tr e3⟩
theorem r_enters {l : List Int64} {μ : jM} (h : RwR l μ) (hl : l.length < 40) (y : Int64) : ∃ μ', f_X12_enters 201 y μ = some μ' ∧ RwR (l ++ [y]) μ' ∧ jFr (fun c => c = 201 ∨ c = 202) μ μ' ∧ ∀ k, k ≠ 1 → μ'.1 201 k = μ.1 201 k := by
  unfold f_X12_enters
  rw [h.1, jin_n hl (by decide), nI_clamp (by omega), jbd_e, jbd_e]
  refine ⟨_, rfl, ⟨?_, fun i hi => ?_⟩, (jFr.sl _ _ _ (Or.inr rfl)).tr (jFr.si _ _ _ (Or.inl rfl)), fun k hk => ?_⟩
  · rw [jsi_at, jsl_1, h.1, nI_1, List.length_append]; rfl
  · rw [List.length_append, List.length_singleton] at hi
    show (jsl μ (201 + 1) l.length y).2 202 i = _
    have e : (jsl μ (201 + 1) l.length y).2 202 = vp_updL (μ.2 202) l.length y := jsl_self _ _ _ _
    rw [e, app_get]
    by_cases c : i = l.length
    · rw [if_pos c, c, pk_uLs]
    · rw [if_neg c, pk_uLn c]; exact h.2 i (by omega)
  · rw [jsi_pl hk, jsl_1]
theorem r_told0 (μ : jM) : RwR [] (jsi μ 201 1 (0 : Int32)) := ⟨jsi_at _ _ _ _, fun i hi => absurd hi (Nat.not_lt_zero i)⟩
/-- what stays for what was heard and kept -/
def KF (μ μ' : jM) : Prop := (∀ c, (181 ≤ c ∧ c ≤ 184) ∨ c = 186 ∨ (189 ≤ c ∧ c ≤ 200) ∨ (220 ≤ c ∧ c ≤ 223) → μ'.1 c = μ.1 c) ∧ MF (fun w => w ≠ 11 ∧ w ≠ 12) μ μ' ∧ μ'.1 201 37 = μ.1 201 37
theorem KF.rf {μ : jM} : KF μ μ := ⟨fun _ _ => rfl, MF.rf, rfl⟩
theorem KF.tr {μ μ1 μ2 : jM} (h : KF μ μ1) (h2 : KF μ1 μ2) : KF μ μ2 := ⟨fun c hc => (h2.1 c hc).trans (h.1 c hc), h.2.1.tr h2.2.1, h2.2.2.trans h.2.2⟩
theorem KP.fr2 {μ μ' : jM} (h : KP μ) (f : KF μ μ') : KP μ' := by
  intro i hi
  obtain ⟨q1, q2⟩ := h i hi
  rw [f.1 186 (by omega), f.1 223 (by omega)]
  refine ⟨q1, ?_⟩
  rcases q2 with q2 | ⟨q2, T, q3, q4, q5⟩
  · exact Or.inl q2
  · exact Or.inr ⟨q2, T, q3, q4.fr (fun c c1 c2 => f.1 c (by omega)), q5.mf f.2.1 (by omega) (by omega)⟩
theorem HR.fr2 {μ μ' : jM} (h : HR μ) (f : KF μ μ') : HR μ' := h.fr (fun c hc => f.1 c (by omega)) f.2.2
theorem rel_gen {σ' : SS} {μ μ2 : jM} (h : Rel μ) (hv : VS σ') (h1 : RS 5 σ' μ2) (h2 : RM σ' μ2) (ht : TX μ2) (hr : RO μ2) (f : KF μ μ2) : Rel μ2 := by
  obtain ⟨-, -, -, hh, hk⟩ := h
  exact ⟨⟨σ', hv, h1, h2⟩, ht, hr, hh.fr2 f, hk.fr2 f⟩
/-- the class's part of a call: CF; the reference's: RC -/
def CFs (c : Nat) : Prop := c = 0 ∨ (5 ≤ c ∧ c ≤ 180) ∨ c = 187 ∨ c = 188
def CF (μ μ' : jM) : Prop := jFr CFs μ μ'
def CFr (μ μ' : jM) : Prop := jFr (fun c => CFs c ∨ c = 3 ∨ c = 4) μ μ'
def RC (μ μ' : jM) : Prop := jFr (fun c => c = 201 ∨ (204 ≤ c ∧ c ≤ 219)) μ μ' ∧ MF (fun w => w ≠ 11 ∧ w ≠ 12) μ μ' ∧ ∀ k, k = 1 ∨ k = 4 ∨ k = 37 → μ'.1 201 k = μ.1 201 k
def RCr (μ μ' : jM) : Prop := jFr (fun c => (201 ≤ c ∧ c ≤ 202) ∨ (204 ≤ c ∧ c ≤ 219)) μ μ' ∧ MF (fun w => w ≠ 11 ∧ w ≠ 12) μ μ' ∧ ∀ k, k = 4 ∨ k = 37 → μ'.1 201 k = μ.1 201 k
theorem RC.rf {μ : jM} : RC μ μ := ⟨jFr.rf, MF.rf, fun _ _ => rfl⟩
theorem RC.tr {μ μ1 μ2 : jM} (h : RC μ μ1) (h2 : RC μ1 μ2) : RC μ μ2 := ⟨h.1.tr h2.1, h.2.1.tr h2.2.1, fun k a => (h2.2.2 k a).trans (h.2.2 k a)⟩
theorem RCr.rf {μ : jM} : RCr μ μ := ⟨jFr.rf, MF.rf, fun _ _ => rfl⟩
theorem RCr.tr {μ μ1 μ2 : jM} (h : RCr μ μ1) (h2 : RCr μ1 μ2) : RCr μ μ2 := ⟨h.1.tr h2.1, h.2.1.tr h2.2.1, fun k a => (h2.2.2 k a).trans (h.2.2 k a)⟩
theorem RC.r {μ μ1 : jM} (h : RC μ μ1) : RCr μ μ1 := ⟨h.1.mono (fun c hc => by omega), h.2.1, fun k a => h.2.2 k (by omega)⟩
theorem CF.r {μ μ1 : jM} (h : CF μ μ1) : CFr μ μ1 := h.mono (fun c hc => Or.inl hc)
theorem CFr.row {μ μ1 : jM} (h : jFr (fun c => c = 3 ∨ c = 4) μ μ1) : CFr μ μ1 := h.mono (fun c hc => Or.inr hc)
theorem RF.c {μ μ1 : jM} (h : RF μ μ1) : RC μ μ1 := ⟨h.1.mono (fun c hc => by omega), h.2.1.mono (fun w hw => by omega), fun k a => h.2.2 k (by omega) (by omega) (by omega)⟩
theorem RCr.ent {μ μ1 : jM} (h : jFr (fun c => c = 201 ∨ c = 202) μ μ1) (h2 : ∀ k, k ≠ 1 → μ1.1 201 k = μ.1 201 k) : RCr μ μ1 := ⟨h.mono (fun c hc => by omega), MF.of (h 204 (by decide)).1, fun k a => h2 k (by omega)⟩
theorem RC.thr {μ : jM} {k : Nat} {v : Int32} (h : k ≠ 1 ∧ k ≠ 4 ∧ k ≠ 37) : RC μ (jsi μ 201 k v) := ⟨jFr.si _ _ _ (Or.inl rfl), MF.of (jsi_ne (by decide)), fun i a => jsi_pl (by omega)⟩
theorem RCr.thr {μ : jM} {k : Nat} {v : Int32} (h : k ≠ 4 ∧ k ≠ 37) : RCr μ (jsi μ 201 k v) := ⟨jFr.si _ _ _ (by omega), MF.of (jsi_ne (by decide)), fun i a => jsi_pl (by omega)⟩
theorem CFs_out {c : Nat} (h : ¬ (c = 0 ∨ (5 ≤ c ∧ c ≤ 180) ∨ c = 187 ∨ c = 188)) : ¬ CFs c := h
/-- a call that leaves the ROW -/
theorem rel_mk {σ' : SS} {μ μ1 μ2 : jM} (h : Rel μ) (hv : VS σ') (h1 : RS 5 σ' μ1) (f1 : CF μ μ1) (h2 : RM σ' μ2) (f2 : RC μ1 μ2) : Rel μ2 := by
  have k1 : ∀ c, ¬ CFs c → ¬ (c = 201 ∨ (204 ≤ c ∧ c ≤ 219)) → μ2.1 c = μ.1 c ∧ μ2.2 c = μ.2 c := fun c c1 c2 => ⟨(f2.1 c c2).1.trans (f1 c c1).1, (f2.1 c c2).2.trans (f1 c c1).2⟩
  have k3 : ∀ k, k = 1 ∨ k = 4 ∨ k = 37 → μ2.1 201 k = μ.1 201 k := fun k a => (f2.2.2 k a).trans (by rw [(f1 201 (by unfold CFs; omega)).1])
  refine rel_gen h hv (h1.fr hv.1 (fun c hc => (f2.1 c (by obtain ⟨q1, q2⟩ := hc; omega)).1)) h2 ?_ ?_ ⟨fun c hc => (k1 c (by unfold CFs; omega) (by omega)).1, (MF.of (f1 204 (by unfold CFs; omega)).1).tr f2.2.1, k3 37 (by omega)⟩
  · exact h.2.1.fr (k1 1 (by unfold CFs; omega) (by omega)).1 (k1 2 (by unfold CFs; omega) (by omega)).1 (k1 203 (by unfold CFs; omega) (by omega)).1 (k3 4 (by omega))
  · exact h.2.2.1.fr (k1 3 (by unfold CFs; omega) (by omega)).1 (k1 4 (by unfold CFs; omega) (by omega)).2 (k1 202 (by unfold CFs; omega) (by omega)).2 (k3 1 (by omega))
/-- a call that tells a ROW -/
theorem rel_row {σ' : SS} {l : List Int64} {μ μ1 μ2 : jM} (h : Rel μ) (hv : VS σ') (h1 : RS 5 σ' μ1) (f1 : CFr μ μ1) (h2 : RM σ' μ2) (f2 : RCr μ1 μ2) (w1 : RwC l μ1) (w2 : RwR l μ2) (hl : l.length ≤ 22) : Rel μ2 := by
  have k1 : ∀ c, ¬ CFs c → ¬ (c = 3 ∨ c = 4) → ¬ ((201 ≤ c ∧ c ≤ 202) ∨ (204 ≤ c ∧ c ≤ 219)) → μ2.1 c = μ.1 c ∧ μ2.2 c = μ.2 c := fun c c1 c3 c2 => ⟨(f2.1 c c2).1.trans (f1 c (fun q => q.elim c1 c3)).1, (f2.1 c c2).2.trans (f1 c (fun q => q.elim c1 c3)).2⟩
  have k3 : ∀ k, k = 4 ∨ k = 37 → μ2.1 201 k = μ.1 201 k := fun k a => (f2.2.2 k a).trans (by rw [(f1 201 (by unfold CFs; omega)).1])
  refine rel_gen h hv (h1.fr hv.1 (fun c hc => (f2.1 c (by obtain ⟨q1, q2⟩ := hc; omega)).1)) h2 ?_ ?_ ⟨fun c hc => (k1 c (by unfold CFs; omega) (by omega) (by omega)).1, (MF.of (f1 204 (by unfold CFs; omega)).1).tr f2.2.1, k3 37 (by omega)⟩
  · exact h.2.1.fr (k1 1 (by unfold CFs; omega) (by omega) (by omega)).1 (k1 2 (by unfold CFs; omega) (by omega) (by omega)).1 (k1 203 (by unfold CFs; omega) (by omega) (by omega)).1 (k3 4 (by omega))
  · exact RO.of (w1.fr (f2.1 3 (by omega)).1 (f2.1 4 (by omega)).2) w2 hl
theorem RM.fc {σ : SS} {μ μ1 : jM} (h : RM σ μ) (f : jFr (fun c => CFs c ∨ c = 3 ∨ c = 4) μ μ1) : RM σ μ1 := h.fr (by rw [(f 201 (by unfold CFs; omega)).1]) (f 204 (by unfold CFs; omega)).1 (f 205 (by unfold CFs; omega)).1 (f 206 (by unfold CFs; omega)).1
theorem RM.thr {σ : SS} {μ : jM} {k : Nat} {v : Int32} (h : RM σ μ) (hk : k ≠ 9) : RM σ (jsi μ 201 k v) := h.fr (jsi_pl (fun q => hk q.symm)) (jsi_ne (by decide)) (jsi_ne (by decide)) (jsi_ne (by decide))
/-- acts -/
def CA (s : Nat) (c : Nat) : Prop := inS s c ∨ c = 166
def RA (μ μ' : jM) : Prop := jFr (fun c => c = 201 ∨ (204 ≤ c ∧ c ≤ 206) ∨ c = 210) μ μ' ∧ MF (fun w => w ≤ 10) μ μ' ∧ ∀ k, k ≠ 0 → k ≠ 9 → k ≠ 15 → μ'.1 201 k = μ.1 201 k
theorem RA.rf {μ : jM} : RA μ μ := ⟨jFr.rf, MF.rf, fun _ _ _ _ => rfl⟩
theorem RA.tr {μ μ1 μ2 : jM} (h : RA μ μ1) (h2 : RA μ1 μ2) : RA μ μ2 := ⟨h.1.tr h2.1, h.2.1.tr h2.2.1, fun k a b c => (h2.2.2 k a b c).trans (h.2.2 k a b c)⟩
theorem RA.of {μ μ1 : jM} (h : RF μ μ1) : RA μ μ1 := ⟨h.1.mono (fun c hc => by omega), h.2⟩
theorem RA.c {μ μ1 : jM} (h : RA μ μ1) : RC μ μ1 := ⟨h.1.mono (fun c hc => by omega), h.2.1.mono (fun w hw => by omega), fun k a => h.2.2 k (by omega) (by omega) (by omega)⟩
def ActOK (σ : SS) (fc : Nat → jM → Option (Int32 × jM)) (one : jM → Option (Int32 × jM)) : Prop :=
  ∃ r T', VT T' ∧ (∀ s μ, (s = 5 ∨ s = 85) → RS s σ μ → ∃ μ1, fc s μ = some (r, μ1) ∧ RS s (chg σ T') μ1 ∧ jFr (CA s) μ μ1) ∧ ∀ m, RM σ m → RW 10 (σ.2.1 0) m → ∃ m', one m = some (r, m') ∧ RM (nowT σ T') m' ∧ RW 10 (σ.2.1 0) m' ∧ RA m m'
/-- ends, behind an act -/
theorem r_actok {σ : SS} {T' : TT} {μ : jM} {r : Int32} (one : jM → Option (Int32 × jM)) (h : RM σ μ) (hv : VS σ) (hT : VT T') (hone : ∀ m, RM σ m → RW 10 (σ.2.1 0) m → ∃ m', one m = some (r, m') ∧ RM (nowT σ T') m' ∧ RW 10 (σ.2.1 0) m' ∧ RA m m') :
    ∃ μ', jcl (f_X12_begins 201 μ) (fun m3 => jcl2 (one m3) (fun v5 m6 => f_X12_ends 201 v5 m6)) = some (r, μ') ∧ RM (chg σ T') μ' ∧ RA μ μ' := by
  obtain ⟨m1, a1, a2, a3, a4, a5⟩ := r_begins h hv.1
  have f1 : RA μ m1 := ⟨a5.mono (fun c hc => by omega), a4.mono (fun w hw => by omega), fun k _ _ _ => by rw [(a5 201 (by decide)).1]⟩
  obtain ⟨m2, b1, b2, b3, b4⟩ := hone m1 a2 a3
  obtain ⟨m3, c1, c2, c3⟩ := r_ends b2 b3 hv hT r
  have f3 : RA m2 m3 := ⟨c3.mono (fun c hc => by omega), MF.of (c3 204 (by decide)).1, fun k _ _ _ => by rw [(c3 201 (by decide)).1]⟩
  rw [jcl_e a1, jcl2_e b1, c1]
  exact ⟨m3, rfl, c2, (f1.tr b4).tr f3⟩
theorem CA5 {μ μ1 : jM} (h : jFr (CA 5) μ μ1) : CF μ μ1 := h.mono (fun c hc => by
  unfold CFs
  rcases hc with ⟨q1, q2⟩ | q
  · omega
  · omega)
theorem sim_ok {μ : jM} {fc : Nat → jM → Option (Int32 × jM)} {one : jM → Option (Int32 × jM)} {fa fr : jM → Option (Int32 × jM)} (h : Rel μ)
    (hfa : fa μ = fc 5 μ)
    (hfr : ∀ m, fr m = jbd (jsi m 201 0 (0 : Int32)) (fun m1 => jcl (f_X12_begins 201 m1) (fun m3 => jcl2 (one m3) (fun v5 m6 => f_X12_ends 201 v5 m6))))
    (hac : ∀ σ, VS σ → ActOK σ fc one) :
    ∃ r μ1 μ2, fa μ = some (r, μ1) ∧ fr μ1 = some (r, μ2) ∧ Rel μ2 := by
  obtain ⟨⟨σ, hv, hS, hM⟩, -⟩ := id h
  obtain ⟨r, T', hT, hc, hone⟩ := hac σ hv
  obtain ⟨μ1, a1, a2, a3⟩ := hc 5 μ (Or.inl rfl) hS
  have hM1 : RM σ (jsi μ1 201 0 0) := (hM.fc (CA5 a3).r).thr (by decide)
  obtain ⟨μ2, b1, b2, b3⟩ := r_actok one hM1 hv hT hone
  exact ⟨r, μ1, μ2, by rw [hfa]; exact a1, by rw [hfr, jbd_e]; exact b1, rel_mk h (hv.chg hT) a2 (CA5 a3) b2 ((RC.thr (by decide)).tr b3.c)⟩
theorem oneA {σ : SS} {T' : TT} {r : Int32} {one : jM → Option (Int32 × jM)} (h : ∀ m, RM σ m → RW 10 (σ.2.1 0) m → ∃ m', one m = some (r, m') ∧ RM (nowT σ T') m' ∧ RW 10 (σ.2.1 0) m' ∧ RF m m') : ∀ m, RM σ m → RW 10 (σ.2.1 0) m → ∃ m', one m = some (r, m') ∧ RM (nowT σ T') m' ∧ RW 10 (σ.2.1 0) m' ∧ RA m m' := fun m h1 h2 => by
  obtain ⟨m', a, b, c, d⟩ := h m h1 h2
  exact ⟨m', a, b, c, RA.of d⟩
/-- nothing is done by an act -/
theorem ok_none {σ : SS} {fc : Nat → jM → Option (Int32 × jM)} {one : jM → Option (Int32 × jM)} {r : Int32} (hv : VS σ) (h1 : ∀ s μ, RS s σ μ → fc s μ = some (r, μ)) (h2 : ∀ m, RM σ m → one m = some (r, m)) : ActOK σ fc one :=
  ⟨r, σ.2.1 0, hv.2.1 0 (Nat.zero_le _), fun s μ _ hS => ⟨μ, h1 s μ hS, by rw [chg_self]; exact hS, jFr.rf⟩, fun m hm hw => ⟨m, h2 m hm, by rw [nowT_self]; exact hm, hw, RA.rf⟩⟩
theorem ok_sets {σ : SS} (hv : VS σ) (x y : Int32) : ActOK σ (fun s => f_X7_setCell s x y) (f_X12_setsOne 201 x y) := by
  have e1 : (0 : Int64).toInt = 0 := by decide
  have e2 : (5 : Int64).toInt = 5 := by decide
  have e3 : (-999 : Int64).toInt = -999 := by decide
  have e4 : (999 : Int64).toInt = 999 := by decide
  have h0 := hv.2.1 0 (Nat.zero_le _)
  by_cases c : (0 ≤ x.toInt ∧ x.toInt < 6) ∧ (-999 ≤ y.toInt ∧ y.toInt ≤ 999)
  · obtain ⟨i, hi, rfl⟩ := nI_iof (n := 6) c.1 (by decide)
    refine ⟨nI 1000 + σ.2.1 0 i, upd (σ.2.1 0) i y, h0.cell hi c.2, fun s μ _ hS => ?_, oneA (one_set hv.1 (by omega) (fun m hm => ?_))⟩
    · obtain ⟨μ1, a1, a2, a3⟩ := c_cell hS hv hi c.2
      refine ⟨μ1, ?_, a2, a3.mono (fun c hc => Or.inl hc)⟩
      try dsimp only
      unfold f_X7_setCell
      rw [cell_i, if_pos c.1, num_i, if_pos c.2, if_neg (by decide), if_neg (by decide), jrd_n hi (by decide)]
      rw [jcl_e a1, show s + 2 = s + 1 + 1 from rfl, hS.2.1.1 i hi]
      rfl
    · unfold f_X12_setsOne
      rw [in_i, e1, e2, if_pos (show 0 ≤ (nI i).toInt ∧ (nI i).toInt ≤ 5 by omega), in_i, e3, e4, if_pos c.2, if_neg (by decide), if_neg (by decide)]
      show jrd (m.1 204) _ _ _ = _
      have := hm i (by omega)
      rw [show 61 * 0 + i = i by omega] at this
      rw [jrd_n (by omega) (by decide), jin_n (by omega) (by decide), nI_clamp (by omega), jbd_e, this]
      rfl
  · refine ok_none (r := -1) hv (fun s μ hS => ?_) (fun m hm => ?_)
    · try dsimp only
      unfold f_X7_setCell
      rw [cell_i, num_i]
      by_cases c1 : 0 ≤ x.toInt ∧ x.toInt < 6
      · rw [if_pos c1, if_neg (fun q => c ⟨c1, q⟩), if_neg (by decide), if_pos (by decide)]
      · rw [if_neg c1, if_pos (by decide)]
    · unfold f_X12_setsOne
      rw [in_i, e1, e2, in_i, e3, e4]
      by_cases c1 : 0 ≤ x.toInt ∧ x.toInt ≤ 5
      · rw [if_pos c1, if_neg (fun q => c ⟨by omega, q⟩), if_neg (by decide), if_pos (by decide)]
      · rw [if_neg c1, if_pos (by decide)]
theorem ok_adds {σ : SS} (hv : VS σ) (x y : Int32) : ActOK σ (fun s => f_X7_addToCell s x y) (f_X12_addsOne 201 x y) := by
  have e1 : (0 : Int64).toInt = 0 := by decide
  have e2 : (5 : Int64).toInt = 5 := by decide
  have e3 : (-999 : Int64).toInt = -999 := by decide
  have e4 : (999 : Int64).toInt = 999 := by decide
  have h0 := hv.2.1 0 (Nat.zero_le _)
  have rd : ∀ m : jM, RM σ m → ∀ i, i < 6 → m.1 204 i = σ.2.1 0 i := fun m hm i hi => by
    have := hm.2.1 0 (Nat.zero_le _) i (by omega)
    rw [show 61 * 0 + i = i by omega] at this
    exact this
  by_cases c : 0 ≤ x.toInt ∧ x.toInt < 6
  · obtain ⟨i, hi, rfl⟩ := nI_iof (n := 6) c (by decide)
    generalize hw : ((σ.2.1 0 i).toInt64 + y.toInt64 : Int64) = w
    by_cases c2 : -999 ≤ w.toInt ∧ w.toInt ≤ 999
    · have hwn : numOK w.toInt32 := by
        have e : w.toInt32.toInt = w.toInt := by
          rw [Int64.toInt_toInt32, Int.bmod_eq_of_le] <;> omega
        unfold numOK
        rw [e]; exact c2
      refine ⟨nI 1000 + w.toInt32, upd (σ.2.1 0) i w.toInt32, h0.cell hi hwn, fun s μ _ hS => ?_, oneA (one_set hv.1 (by omega) (fun m hm => ?_))⟩
      · obtain ⟨μ1, a1, a2, a3⟩ := c_cell hS hv hi hwn
        refine ⟨μ1, ?_, a2, a3.mono (fun c hc => Or.inl hc)⟩
        try dsimp only
        unfold f_X7_addToCell
        rw [cell_i, if_pos c, if_neg (by decide), jrd_n hi (by decide), show s + 2 = s + 1 + 1 from rfl, hS.2.1.1 i hi, hw, jbd_e, num_l, if_pos c2, if_neg (by decide), jcl_e a1]
        rfl
      · unfold f_X12_addsOne
        have := hm i (by omega)
        rw [show 61 * 0 + i = i by omega] at this
        rw [in_i, e1, e2, if_pos (show 0 ≤ (nI i).toInt ∧ (nI i).toInt ≤ 5 by omega), if_neg (by decide)]
        show jrd (m.1 204) _ _ _ = _
        rw [jrd_n (by omega) (by decide), this, hw, jbd_e, in_l, e3, e4, if_pos c2, if_neg (by decide), jin_n (by omega) (by decide), nI_clamp (by omega), jbd_e]
        show jrd ((jsi m 204 i w.toInt32).1 204) _ _ _ = _
        rw [jrd_n (by omega) (by decide), jsi_at]
        rfl
    · refine ok_none (r := -2) hv (fun s μ hS => ?_) (fun m hm => ?_)
      · try dsimp only
        unfold f_X7_addToCell
        rw [cell_i, if_pos c, if_neg (by decide), jrd_n hi (by decide), show s + 2 = s + 1 + 1 from rfl, hS.2.1.1 i hi, hw, jbd_e, num_l, if_neg c2, if_pos (by decide)]
      · unfold f_X12_addsOne
        rw [in_i, e1, e2, if_pos (show 0 ≤ (nI i).toInt ∧ (nI i).toInt ≤ 5 by omega), if_neg (by decide)]
        show jrd (m.1 204) _ _ _ = _
        rw [jrd_n (by omega) (by decide), rd m hm i hi, hw, jbd_e, in_l, e3, e4, if_neg c2, if_pos (by decide)]
  · refine ok_none (r := -1) hv (fun s μ hS => ?_) (fun m hm => ?_)
    · try dsimp only
      unfold f_X7_addToCell
      rw [cell_i, if_neg c, if_pos (by decide)]
    · unfold f_X12_addsOne
      rw [in_i, e1, e2, if_neg (show ¬ (0 ≤ x.toInt ∧ x.toInt ≤ 5) from fun q => c ⟨q.1, by omega⟩), if_pos (by decide)]
theorem sim_adds {μ : jM} (h : Rel μ) (x y : Int32) : ∃ r μ1 μ2, f_X11_adds 0 x y μ = some (r, μ1) ∧ f_X12_adds 201 x y μ1 = some (r, μ2) ∧ Rel μ2 :=
  sim_ok (fa := f_X11_adds 0 x y) (fr := f_X12_adds 201 x y) h (by unfold f_X11_adds; rw [jcl2_id]) (fun m => by unfold f_X12_adds; simp only [jcl2_id]) (fun σ hv => ok_adds hv x y)
