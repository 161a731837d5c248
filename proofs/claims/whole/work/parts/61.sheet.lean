/-! many cells, or variables, one by one -/
def mixT (T T' : TT) (a k : Nat) : TT := fun j => if a ≤ j ∧ j < k then T' j else T j
theorem mixT_in {T T' : TT} {a k j : Nat} (h : a ≤ j ∧ j < k) : mixT T T' a k j = T' j := if_pos h
theorem mixT_out {T T' : TT} {a k j : Nat} (h : ¬ (a ≤ j ∧ j < k)) : mixT T T' a k j = T j := if_neg h
theorem mixT_0 (T T' : TT) (a : Nat) : mixT T T' a a = T := by
  funext j
  exact mixT_out (by omega)
theorem mixT_s {T T' : TT} {a k : Nat} (h : a ≤ k) : upd (mixT T T' a k) k (T' k) = mixT T T' a (k + 1) := by
  funext j
  by_cases c : j = k
  · rw [c, pk_us, mixT_in (by omega)]
  · rw [pk_un c]
    by_cases d : a ≤ j ∧ j < k
    · rw [mixT_in d, mixT_in (by omega)]
    · rw [mixT_out d, mixT_out (by omega)]
def thn (j : Nat) : Nat := if j < 6 then j else j + 4
theorem oth_hi {T M : TT} (h : VT T) (hk : ∀ j, 11 ≤ j → M j = T j) {t : Nat} (ht : isTh t = true) (h15 : 15 ≤ t) : othB T M t = false := by
  refine oth_f ?_ (fun _ q _ => (hk _ (by omega)).symm)
  rcases isTh_cases ht with z | z | z | z
  · omega
  · omega
  · exact tell_key z.1 z.2 (hk _ (by omega)).symm (fun j hj => ⟨(hk _ (by omega)).symm, (hk _ (by omega)).symm⟩)
  · rw [z]; exact tell_con (hk _ (by omega)).symm
theorem oth_lo {T M : TT} {j : Nat} (hj : j < 11) : othB T M (thn j) = decide (T j ≠ M j) := by
  unfold othB tell thn
  by_cases c : j < 6
  · simp only [if_pos c]
    by_cases e : T j = M j
    · simp [e, show ¬ j = 30 by omega]
    · have e' : ¬ nI 1000 + T j = nI 1000 + M j := fun q => e ((i32_add_inj _ _ _).mp q)
      simp [e, e']
  · simp only [if_neg c, if_neg (show ¬ j + 4 < 6 by omega), if_pos (show j + 4 < 15 by omega), show j + 4 - 4 = j by omega]
    simp [show ¬ j + 4 = 30 by omega]
theorem th_of {t : Nat} (ht : isTh t = true) (h15 : t < 15) : ∃ j, j < 11 ∧ t = thn j := by
  rcases isTh_cases ht with z | z | z | z
  · exact ⟨t, by omega, by unfold thn; rw [if_pos z]⟩
  · exact ⟨t - 4, by omega, by unfold thn; rw [if_neg (by omega)]; omega⟩
  · omega
  · omega
theorem dfl_mix {T T' : TT} {a k : Nat} (h : VT T) (ha : a ≤ k) (hk : k < 11) : dfl T (mixT T T' a (k + 1)) 31 = dfl T (mixT T T' a k) 31 ++ (if T k = T' k then [] else [thn k]) := by
  have h1 : ∀ q, q ≤ 11 → ∀ j, 11 ≤ j → mixT T T' a q j = T j := fun q hq j hj => mixT_out (by omega)
  have key : ∀ n, n ≤ 31 → dfl T (mixT T T' a (k + 1)) n = dfl T (mixT T T' a k) n ++ (if n ≤ thn k ∨ T k = T' k then [] else [thn k]) := by
    intro n
    induction n with
    | zero => intro _; rw [if_pos (Or.inl (Nat.zero_le _))]; rfl
    | succ n ih =>
      intro hn
      rw [dfl_s, dfl_s, ih (by omega)]
      by_cases ct : isTh n = true
      · rw [ct, Bool.true_and, Bool.true_and]
        by_cases c15 : n < 15
        · obtain ⟨j, hj, rfl⟩ := th_of ct c15
          rw [oth_lo hj, oth_lo hj]
          have tm : ∀ i, i < 11 → (thn i ≤ thn k ↔ i ≤ k) := fun i hi => by unfold thn; split <;> split <;> omega
          have tm2 : ∀ i, i < 11 → (thn i + 1 ≤ thn k ↔ i < k) := fun i hi => by unfold thn; split <;> split <;> omega
          simp only [tm j hj, tm2 j hj]
          rcases Nat.lt_trichotomy j k with q | q | q
          · rw [if_pos (Or.inl (by omega)), if_pos (Or.inl q), List.append_nil, List.append_nil]
            by_cases d : a ≤ j
            · rw [mixT_in ⟨d, by omega⟩, mixT_in ⟨d, q⟩]
            · rw [mixT_out (by omega), mixT_out (by omega)]
          · subst q
            rw [if_pos (Or.inl (Nat.le_refl _)), List.append_nil, mixT_in ⟨ha, by omega⟩, mixT_out (show ¬ (a ≤ j ∧ j < j) by omega)]
            by_cases e : T j = T' j
            · rw [if_pos (Or.inr e)]; simp [e]
            · rw [if_neg (show ¬ (j < j ∨ T j = T' j) from fun z => z.elim (fun z => by omega) e)]; simp [e]
          · rw [mixT_out (by omega), mixT_out (by omega)]
            have e1 : (if j ≤ k ∨ T k = T' k then [] else [thn k]) = (if j < k ∨ T k = T' k then [] else [thn k]) := by
              by_cases e : T k = T' k
              · rw [if_pos (Or.inr e), if_pos (Or.inr e)]
              · rw [if_neg (fun z => z.elim (fun z => by omega) e), if_neg (fun z => z.elim (fun z => by omega) e)]
            rw [e1]
            simp
        · rw [oth_hi h (h1 _ (by omega)) ct (by omega), oth_hi h (h1 _ (by omega)) ct (by omega)]
          have ek : thn k < 15 := by unfold thn; split <;> omega
          have e1 : (if n ≤ thn k ∨ T k = T' k then [] else [thn k]) = (if n + 1 ≤ thn k ∨ T k = T' k then [] else [thn k]) := by
            by_cases e : T k = T' k
            · rw [if_pos (Or.inr e), if_pos (Or.inr e)]
            · rw [if_neg (fun z => z.elim (fun z => by omega) e), if_neg (fun z => z.elim (fun z => by omega) e)]
          rw [e1]
          simp
      · have ct : isTh n = false := by simpa using ct
        rw [ct, Bool.false_and, Bool.false_and, if_neg Bool.false_ne_true, if_neg Bool.false_ne_true]
        have nk : n ≠ thn k := by
          intro z
          have : isTh (thn k) = true := by unfold thn isTh; split <;> simp <;> omega
          rw [← z, ct] at this
          cases this
        have e1 : (if n ≤ thn k ∨ T k = T' k then [] else [thn k]) = (if n + 1 ≤ thn k ∨ T k = T' k then [] else [thn k]) := by
          have : (n ≤ thn k ∨ T k = T' k) = (n + 1 ≤ thn k ∨ T k = T' k) := propext (or_congr (by omega) Iff.rfl)
          simp only [this]
        rw [e1]
  rw [key 31 (Nat.le_refl _)]
  have ek : thn k < 31 := by unfold thn; split <;> omega
  by_cases e : T k = T' k
  · rw [if_pos (Or.inr e), if_pos e]
  · rw [if_neg (fun z => z.elim (fun z => by omega) e), if_neg e]
theorem VT.mix {T T' : TT} {a : Nat} (h : VT T) (h1 : ∀ j, a ≤ j → j < 6 → numOK (T' j)) (h2 : ∀ j, j < 5 → a ≤ 6 + j → ∃ m : Nat, 0 < m ∧ m < 64 ∧ T' (6 + j) = nI m) : ∀ k, a ≤ k → k ≤ 11 → VT (mixT T T' a k) := by
  intro k
  induction k with
  | zero => intro ha _; rw [show a = 0 by omega, mixT_0]; exact h
  | succ k ih =>
    intro ha hk
    by_cases c : a = k + 1
    · rw [c, mixT_0]; exact h
    · rw [← mixT_s (by omega)]
      have q := ih (by omega) (by omega)
      by_cases c6 : k < 6
      · exact q.cell c6 (h1 k (by omega) c6)
      · obtain ⟨m, m1, m2, m3⟩ := h2 (k - 6) (by omega) (by omega)
        rw [show 6 + (k - 6) = k by omega] at m3
        have := q.var (x := k - 6) (by omega) m1 m2
        rw [show 6 + (k - 6) = k by omega] at this
        rw [m3]; exact this
theorem chg_now0 (σ : SS) (T : TT) : (chg σ T).2.1 0 = T := va_up_self σ.2.1 0 T
theorem chg_mix {σ : SS} {T' : TT} {a k : Nat} (hv : VS σ) (hM : VT (mixT (σ.2.1 0) T' a k)) (ha : a ≤ k) (hk : k < 11) : chg (chg σ (mixT (σ.2.1 0) T' a k)) (mixT (σ.2.1 0) T' a (k + 1)) = chg σ (mixT (σ.2.1 0) T' a (k + 1)) := by
  have h0 := hv.2.1 0 (Nat.zero_le _)
  have e1 : dfl (mixT (σ.2.1 0) T' a k) (mixT (σ.2.1 0) T' a (k + 1)) 31 = if σ.2.1 0 k = T' k then [] else [thn k] := by
    rw [← mixT_s ha]
    have ek : mixT (σ.2.1 0) T' a k k = σ.2.1 0 k := mixT_out (by omega)
    by_cases c6 : k < 6
    · rw [oth_cell hM c6, ek]
      unfold thn
      rw [if_pos c6]
    · have := oth_var (x := k - 6) (v := T' k) hM (by omega)
      rw [show 6 + (k - 6) = k by omega, ek] at this
      rw [this]
      unfold thn
      rw [if_neg c6, show 10 + (k - 6) = k + 4 by omega]
  have e2 := dfl_mix (T' := T') h0 ha hk
  have e3 : (chg σ (mixT (σ.2.1 0) T' a k)).2.1 0 = mixT (σ.2.1 0) T' a k := chg_now0 _ _
  have p1 : va_up (chg σ (mixT (σ.2.1 0) T' a k)).2.1 0 (mixT (σ.2.1 0) T' a (k + 1)) = va_up σ.2.1 0 (mixT (σ.2.1 0) T' a (k + 1)) := by
    funext j
    by_cases c : j = 0
    · rw [c, va_up_self, va_up_self]
    · rw [va_up_ne _ _ c, va_up_ne _ _ c]
      exact va_up_ne _ _ c
  unfold chg at p1 e3 ⊢
  refine Prod.ext rfl (Prod.ext p1 ?_)
  dsimp only at e3 ⊢
  rw [e3, e1, e2]
  by_cases c : σ.1 = 0
  · rw [if_pos c, if_pos c, if_pos c]
  · rw [if_neg c, if_neg c, if_neg c, va_up_self, List.foldl_append]
    funext j
    by_cases z : j = σ.1
    · rw [z, va_up_self, va_up_self]
    · rw [va_up_ne _ _ z, va_up_ne _ _ z, va_up_ne _ _ z]
/-! the sheet -/
def shw (kind v : Int32) : Int32 := if kind = 0 then v.toInt8.toInt32 else if kind = 1 then v.toInt16.toInt32 else v
def she (kind n f step : Int32) (j : Nat) : Int32 := if kind = 3 ∨ ¬ nI j < n then 0 else f_X12_put (shw kind (f + nI j * step))
theorem put_ok (w : Int32) : numOK (f_X12_put w) ∧ jmax (-999 : Int32) (jmin (999 : Int32) w) = f_X12_put w := by
  have e1 : (-999 : Int32).toInt = -999 := by decide
  have e2 : (999 : Int32).toInt = 999 := by decide
  unfold f_X12_put jmin jmax numOK
  by_cases c : (-999 : Int32) ≤ w
  · rw [if_pos c]
    rw [i32_le, e1] at c
    by_cases c2 : w < (999 : Int32)
    · rw [if_pos c2]
      rw [i32_lt, e2] at c2
      refine ⟨⟨c, by omega⟩, ?_⟩
      by_cases c3 : (-999 : Int32) < w
      · rw [if_pos c3]
      · rw [if_neg c3]
        apply Int32.toInt_inj.mp
        rw [i32_lt, e1] at c3
        omega
    · rw [if_neg c2, e2, if_pos (by decide)]
      exact ⟨by omega, rfl⟩
  · rw [if_neg c, e1]
    rw [i32_le, e1] at c
    have c2 : w < (999 : Int32) := by rw [i32_lt, e2]; omega
    rw [if_pos c2, if_neg (by rw [i32_lt, e1]; omega)]
    exact ⟨by omega, rfl⟩
theorem she_ok (kind n f step : Int32) (j : Nat) : numOK (she kind n f step j) := by
  unfold she
  by_cases c : kind = 3 ∨ ¬ nI j < n
  · rw [if_pos c]; exact ⟨by decide, by decide⟩
  · rw [if_neg c]; exact (put_ok _).1
def sheT (T : TT) (kind n f step : Int32) : TT := fun j => if j < 6 then she kind n f step j else T j
theorem c_entry (kind v : Int32) : f_X11_sheetEntry kind v = f_X12_put (shw kind v) := by
  unfold f_X11_sheetEntry shw
  simp only [jbd_e, (put_ok _).2]
  by_cases c : kind = 0
  · simp only [if_pos c]
  · by_cases c1 : kind = 1
    · simp only [if_neg c, if_pos c1]
    · simp only [if_neg c, if_neg c1]
theorem smI_eq {f g : Nat → Int32} : ∀ k, (∀ j, j < k → f j = g j) → smI f k = smI g k
  | 0, _ => rfl
  | k + 1, h => by
    show smI f k + f k = smI g k + g k
    rw [smI_eq k (fun j hj => h j (by omega)), h k (by omega)]
theorem sim_sheet {μ : jM} (h : Rel μ) (kind n f step : Int32) : ∃ r μ1 μ2, f_X11_sheet 0 kind n f step μ = some (r, μ1) ∧ f_X12_sheet 201 kind n f step μ1 = some (r, μ2) ∧ Rel μ2 := by
  obtain ⟨⟨σ, hv, hS, hM⟩, -⟩ := id h
  have h9 := hv.1
  have h0 := hv.2.1 0 (Nat.zero_le _)
  have e0 : (0 : Int64).toInt = 0 := by decide
  have e3 : (3 : Int64).toInt = 3 := by decide
  have z0 : (0 : Int32).toInt = 0 := by decide
  have z3 : (3 : Int32).toInt = 3 := by decide
  by_cases ck : 0 ≤ kind.toInt ∧ kind.toInt ≤ 3
  · have k1 : ¬ kind < 0 := by rw [i32_lt, z0]; omega
    have k2 : ¬ (3 : Int32) < kind := by rw [i32_lt, z3]; omega
    by_cases cn : n ≤ (6 : Int32)
    · by_cases cr : ¬ kind = 3 ∧ ¬ (0 : Int32) ≤ n
      · refine ⟨-2, μ, jsi μ 201 0 0, ?_, ?_, sim_thr h⟩
        · unfold f_X11_sheet
          simp only [jbd_e]
          rw [if_neg k1, if_neg k2, if_pos cn, if_neg cr.1, if_pos rfl, if_neg cr.2]
        · unfold f_X12_sheet
          simp only [jbd_e]
          have k3 : ¬ (3 : Int32) ≤ kind := by
            intro z
            rw [i32_le, z3] at z
            exact cr.1 (Int32.toInt_inj.mp (by omega))
          rw [in_i, e0, e3, if_pos ck, if_neg (by decide), if_pos cn, if_neg k3, if_neg cr.2]
      · -- the cells become
        have hT : ∀ j, 0 ≤ j → j < 6 → numOK (sheT (σ.2.1 0) kind n f step j) := fun j _ hj => by unfold sheT; rw [if_pos hj]; exact she_ok _ _ _ _ _
        have hmx : ∀ k, k ≤ 6 → VT (mixT (σ.2.1 0) (sheT (σ.2.1 0) kind n f step) 0 k) := fun k hk => h0.mix hT (fun j hj _ => by
          unfold sheT
          rw [if_neg (by omega)]
          exact h0.2.2.2.1 j hj) k (Nat.zero_le _) (by omega)
        have hst : ∀ k, k < 6 → sheT (σ.2.1 0) kind n f step k = she kind n f step k := fun k hk => by unfold sheT; rw [if_pos hk]
        obtain ⟨m1, a1, a2, a3⟩ := jlpN (step := fun (s : Int32 × jM) => f_X11_sheet_L56 0 kind f step (if kind = 3 then 0 else n) s.1 s.2) 6
          (fun k s => s.1 = nI k ∧ RS 5 (chg σ (mixT (σ.2.1 0) (sheT (σ.2.1 0) kind n f step) 0 k)) s.2 ∧ jFr (inS 5) μ s.2)
          (fun m => RS 5 (chg σ (mixT (σ.2.1 0) (sheT (σ.2.1 0) kind n f step) 0 6)) m ∧ jFr (inS 5) μ m)
          (fun k s hk hs => by
            obtain ⟨u, m⟩ := s
            obtain ⟨hu, g1, g2⟩ := hs
            have hu : u = nI k := hu
            subst hu
            have hvk := hv.chg (hmx k (by omega))
            obtain ⟨m', b1, b2, b3⟩ := c_cell g1 hvk hk (she_ok kind n f step k)
            rw [chg_now0, ← hst k hk, mixT_s (Nat.zero_le _), chg_mix hv (hmx k (by omega)) (Nat.zero_le _) (by omega)] at b2
            refine ⟨(nI (k + 1), m'), ?_, rfl, b2, jFr.tr g2 b3⟩
            dsimp only
            unfold f_X11_sheet_L56
            rw [jlit 6, if_neg (nI_ge hk (by decide)), nI_1, c_entry]
            by_cases c3 : kind = 3
            · have es : she kind n f step k = 0 := by unfold she; rw [if_pos (Or.inl c3)]
              rw [es] at b1
              rw [if_pos c3, if_pos (nI_pos' (by omega))]
              exact jcl_e b1
            · rw [if_neg c3]
              by_cases cl : n ≤ nI k
              · have es : she kind n f step k = 0 := by unfold she; rw [if_pos (Or.inr (by rw [i32_le] at cl; rw [i32_lt]; omega))]
                rw [es] at b1
                rw [if_pos cl]
                exact jcl_e b1
              · have es : she kind n f step k = f_X12_put (shw kind (f + nI k * step)) := by
                  unfold she
                  rw [if_neg (fun z => z.elim c3 (fun z => z (by rw [i32_le] at cl; rw [i32_lt]; omega)))]
                rw [es] at b1
                rw [if_neg cl]
                exact jcl_e b1)
          (fun s hs => by
            obtain ⟨u, m⟩ := s
            obtain ⟨hu, g1, g2⟩ := hs
            have hu : u = nI 6 := hu
            subst hu
            refine ⟨m, ?_, g1, g2⟩
            dsimp only
            unfold f_X11_sheet_L56
            rw [jlit 6, if_pos (nI_le (Nat.le_refl _) (by decide))])
          (i := 0) (n := jfu) (s := ((0 : Int32), μ)) (by omega) ⟨rfl, by rw [mixT_0, chg_self]; exact hS, jFr.rf⟩ (jfu_lt (by omega))
        obtain ⟨a2, a3⟩ := a2, a3
        have F : CF μ m1 := CA5 (a3.mono (fun c hc => Or.inl hc))
        have hM1 : RM σ (jsi m1 201 0 0) := (hM.fc F.r).thr (by decide)
        obtain ⟨m2, b1, b2, b3, b4, b5⟩ := r_begins hM1 hv.1
        have f2 : RF (jsi m1 201 0 0) m2 := ⟨b5.mono (fun c hc => by omega), b4.mono (fun w hw => by omega), fun k _ _ _ => by rw [(b5 201 (by decide)).1]⟩
        obtain ⟨q, c1, c0, c2, c3, c4⟩ := jlpN (step := fun (s : Int32 × Int32 × jM) => f_X12_sheet_L49 201 kind n f step s.1 s.2.1 s.2.2) 6
          (fun k s => s.1 = nI 10000 + smI (sheT (σ.2.1 0) kind n f step) k ∧ s.2.1 = nI k ∧ RM (nowT σ (mixT (σ.2.1 0) (sheT (σ.2.1 0) kind n f step) 0 k)) s.2.2 ∧ RW 10 (σ.2.1 0) s.2.2 ∧ RF m2 s.2.2)
          (fun e => e.1 = nI 10000 + smI (sheT (σ.2.1 0) kind n f step) 6 ∧ RM (nowT σ (mixT (σ.2.1 0) (sheT (σ.2.1 0) kind n f step) 0 6)) e.2 ∧ RW 10 (σ.2.1 0) e.2 ∧ RF m2 e.2)
          (fun k s hk hs => by
            obtain ⟨u, v, m⟩ := s
            obtain ⟨hu, hv', g1, g2, g3⟩ := hs
            have hu : u = nI 10000 + smI (sheT (σ.2.1 0) kind n f step) k := hu
            have hv' : v = nI k := hv'
            subst hu
            subst hv'
            have q1 := RM.set2 (k := k) (v := sheT (σ.2.1 0) kind n f step k) g1 hv.1 (by omega)
            rw [mixT_s (Nat.zero_le _)] at q1
            refine ⟨(nI 10000 + smI (sheT (σ.2.1 0) kind n f step) (k + 1), nI (k + 1), jsi m 204 k (sheT (σ.2.1 0) kind n f step k)), ?_, rfl, rfl, q1.1, RW.set10 g2 (by omega), RF.tr g3 q1.2⟩
            dsimp only
            have fin : ∀ z : Int32, z = sheT (σ.2.1 0) kind n f step k → jin (nI k) 2074 (jbd (jsi m (201 + 3) (nI k).toNatClampNeg z) (fun m23 => jrd (m23.1 (201 + 3)) (nI k) 2074 (fun v26 => some (.inl ((nI 10000 + smI (sheT (σ.2.1 0) kind n f step) k + v26, nI k + (1 : Int32), m23)))))) = (some (.inl (nI 10000 + smI (sheT (σ.2.1 0) kind n f step) (k + 1), nI (k + 1), jsi m 204 k (sheT (σ.2.1 0) kind n f step k))) : Option ((Int32 × Int32 × jM) ⊕ (Int32 × jM))) := fun z hz => by
              subst hz
              rw [jin_n (by omega) (by decide), nI_clamp (by omega), jbd_e]
              show jrd ((jsi m 204 k _).1 204) _ _ _ = _
              rw [jrd_n (by omega) (by decide), jsi_at, nI_1, Int32.add_assoc]
              rfl
            unfold f_X12_sheet_L49
            simp only [jbd_e]
            simp only [jbd_e] at fin
            rw [jlit 6, if_neg (nI_ge hk (by decide))]
            rw [hst k hk] at fin ⊢
            have w3 : kind = 3 → (0 : Int32) = she kind n f step k := fun c3 => by unfold she; rw [if_pos (Or.inl c3)]
            have w4 : ¬ nI k < n → (0 : Int32) = she kind n f step k := fun cl => by unfold she; rw [if_pos (Or.inr cl)]
            have w5 : ¬ kind = 3 → nI k < n → f_X12_put (shw kind (f + nI k * step)) = she kind n f step k := fun c3 cl => by unfold she; rw [if_neg (fun z => z.elim c3 (fun z => z cl))]
            unfold shw at w5
            by_cases c0 : kind = 0
            · rw [if_pos c0]
              rw [if_pos c0] at w5
              by_cases c3 : kind = 3
              · rw [if_pos c3]; exact fin _ (w3 c3)
              · rw [if_neg c3]
                by_cases cl : nI k < n
                · rw [if_pos cl]; exact fin _ (w5 c3 cl)
                · rw [if_neg cl]; exact fin _ (w4 cl)
            · rw [if_neg c0]
              rw [if_neg c0] at w5
              by_cases c1 : kind = 1
              · rw [if_pos c1]
                rw [if_pos c1] at w5
                by_cases c3 : kind = 3
                · rw [if_pos c3]; exact fin _ (w3 c3)
                · rw [if_neg c3]
                  by_cases cl : nI k < n
                  · rw [if_pos cl]; exact fin _ (w5 c3 cl)
                  · rw [if_neg cl]; exact fin _ (w4 cl)
              · rw [if_neg c1]
                rw [if_neg c1] at w5
                by_cases c3 : kind = 3
                · rw [if_pos c3]; exact fin _ (w3 c3)
                · rw [if_neg c3]
                  by_cases cl : nI k < n
                  · rw [if_pos cl]; exact fin _ (w5 c3 cl)
                  · rw [if_neg cl]; exact fin _ (w4 cl))
          (fun s hs => by
            obtain ⟨u, v, m⟩ := s
            obtain ⟨hu, hv', g1, g2, g3⟩ := hs
            have hv' : v = nI 6 := hv'
            subst hv'
            refine ⟨(u, m), ?_, hu, g1, g2, g3⟩
            dsimp only
            unfold f_X12_sheet_L49
            rw [jlit 6, if_pos (nI_le (Nat.le_refl _) (by decide))])
          (i := 0) (n := jfu) (s := (((10000 : Int32), (0 : Int32), m2))) (by omega) ⟨by show (10000 : Int32) = nI 10000 + 0; rw [Int32.add_zero]; rfl, rfl, by rw [mixT_0, nowT_self]; exact b2, b3, RF.rf⟩ (jfu_lt (by omega))
        obtain ⟨m4, d1, d2, d3⟩ := r_ends c2 c3 hv (hmx 6 (by omega)) (if kind = 3 then -3 else q.1)
        have f3 : RF q.2 m4 := ⟨d3.mono (fun c hc => by omega), MF.of (d3 204 (by decide)).1, fun k _ _ _ => by rw [(d3 201 (by decide)).1]⟩
        have hsum : smI (mixT (σ.2.1 0) (sheT (σ.2.1 0) kind n f step) 0 6) 6 = smI (sheT (σ.2.1 0) kind n f step) 6 := smI_eq 6 (fun j hj => mixT_in ⟨Nat.zero_le _, hj⟩)
        refine ⟨if kind = 3 then -3 else q.1, m1, m4, ?_, ?_, rel_mk h (hv.chg (hmx 6 (by omega))) a2 F d2 ((RC.thr (by decide)).tr ((f2.tr c4).tr f3).c)⟩
        · unfold f_X11_sheet
          simp only [jbd_e]
          rw [if_neg k1, if_neg k2, if_pos cn]
          have hsm : f_X9_sumOfCells (0 + 6) m1 = some (smI (mixT (σ.2.1 0) (sheT (σ.2.1 0) kind n f step) 0 6) 6) := by
            have := c_sum a2.2.1
            rw [chg_now0] at this
            exact this
          by_cases c3 : kind = 3
          · rw [if_pos c3] at a1
            simp only [if_pos c3, i10, if_false]
            rw [jcl_e a1]
          · rw [if_neg c3] at a1
            have cn0 : (0 : Int32) ≤ n := Classical.byContradiction fun z => cr ⟨c3, z⟩
            simp only [if_neg c3, if_pos cn0, if_true]
            rw [jcl_e a1, jcl_e hsm, hsum, c0]
            rfl
        · unfold f_X12_sheet
          simp only [jbd_e, jcl2_id]
          rw [in_i, e0, e3, if_pos ck, if_neg (by decide), if_pos cn]
          have goal1 : jcl (f_X12_begins 201 (jsi m1 201 0 0)) (fun m8 => jcl (jloop (fun (s : Int32 × Int32 × jM) => f_X12_sheet_L49 201 kind n f step s.1 s.2.1 s.2.2) jfu (((10000 : Int32), (0 : Int32), m8))) (fun w35 => f_X12_ends 201 (if kind = (3 : Int32) then (-3 : Int32) else w35.1) w35.2)) = some (if kind = 3 then -3 else q.1, m4) := by
            rw [jcl_e b1, jcl_e c1, d1]
          by_cases k3 : (3 : Int32) ≤ kind
          · rw [if_pos k3]; exact goal1
          · have cn0 : (0 : Int32) ≤ n := Classical.byContradiction fun z => cr ⟨fun e => k3 (by rw [e]; decide), z⟩
            rw [if_neg k3, if_pos cn0]; exact goal1
    · refine ⟨-1, μ, jsi μ 201 0 0, ?_, ?_, sim_thr h⟩
      · unfold f_X11_sheet
        rw [if_neg k1, if_neg k2, if_neg cn]
      · unfold f_X12_sheet
        rw [jbd_e, in_i, e0, e3, if_pos ck, if_neg (by decide), if_neg cn]
  · refine ⟨-1, μ, jsi μ 201 0 0, ?_, ?_, sim_thr h⟩
    · unfold f_X11_sheet
      by_cases k1 : kind < 0
      · rw [if_pos k1]
      · rw [if_neg k1, if_pos]
        rw [i32_lt, z0] at k1
        rw [i32_lt, z3]
        omega
    · unfold f_X12_sheet
      rw [jbd_e, in_i, e0, e3, if_neg ck, if_pos (by decide)]
