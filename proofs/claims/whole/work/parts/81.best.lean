/-! best -/
def woP (T : TT) (r : Nat) : Nat → Int32
  | 0 => 0
  | k + 1 => woP T r k + T k * nI (val r k)
theorem woP_s (T : TT) (r k : Nat) : woP T r (k + 1) = woP T r k + T k * nI (val r k) := rfl
theorem c_worth {T : TT} {r : Nat} {m : jM} (hT : RT 6 T m) (hat : ∀ x, x < 5 → m.1 168 x = nI (val r x)) : f_X11_worthOfSolution 0 m = some (woP T r 5) := by
  obtain ⟨w, hw, h1⟩ := jlpN (step := fun (s : Int32 × Int32) => f_X11_worthOfSolution_L4 0 m s.1 s.2) 5
    (fun k s => s.1 = woP T r k ∧ s.2 = nI k) (fun w => w = woP T r 5)
    (fun k s hk hs => by
      obtain ⟨u, v⟩ := s
      obtain ⟨hu, hv⟩ := hs
      have hu : u = woP T r k := hu
      have hv : v = nI k := hv
      subst hu
      subst hv
      refine ⟨(woP T r (k + 1), nI (k + 1)), ?_, rfl, rfl⟩
      dsimp only
      unfold f_X11_worthOfSolution_L4
      rw [jlit 5, if_neg (nI_ge hk (by decide))]
      show jrd (m.1 7) _ _ _ = _
      rw [jrd_n (by omega) (by decide)]
      show jrd (m.1 168) _ _ _ = _
      rw [jrd_n hk (by decide), hat k hk, hT.1 k (by omega), nI_1, woP_s])
    (fun s hs => by
      obtain ⟨u, v⟩ := s
      obtain ⟨hu, hv⟩ := hs
      have hv : v = nI 5 := hv
      subst hv
      refine ⟨u, ?_, hu⟩
      dsimp only
      unfold f_X11_worthOfSolution_L4
      rw [jlit 5, if_pos (nI_le (Nat.le_refl _) (by decide))])
    (i := 0) (n := jfu) (s := ((0 : Int32), (0 : Int32))) (by omega) ⟨rfl, rfl⟩ (jfu_lt (by omega))
  unfold f_X11_worthOfSolution
  rw [jcl_e hw, h1]
theorem r_worth {T : TT} {r : Nat} {m : jM} (hr : r < 7776) (hT : RW 0 T m) : jloop (fun (s : Int32 × Int32) => f_X12_best_L45 201 m (nI r) s.1 s.2) jfu (((0 : Int32), (0 : Int32))) = some (woP T r 5) := by
  obtain ⟨w, hw, h1⟩ := jlpN (step := fun (s : Int32 × Int32) => f_X12_best_L45 201 m (nI r) s.1 s.2) 5
    (fun k s => s.1 = woP T r k ∧ s.2 = nI k) (fun w => w = woP T r 5)
    (fun k s hk hs => by
      obtain ⟨u, v⟩ := s
      obtain ⟨hu, hv⟩ := hs
      have hu : u = woP T r k := hu
      have hv : v = nI k := hv
      subst hu
      subst hv
      refine ⟨(woP T r (k + 1), nI (k + 1)), ?_, rfl, rfl⟩
      dsimp only
      unfold f_X12_best_L45
      rw [jlit 5, if_neg (nI_ge hk (by decide))]
      show jrd (m.1 204) _ _ _ = _
      rw [jrd_n (by omega) (by decide), jcl_e (r_valueOf hr hk), hT.at (by omega), nI_1, woP_s])
    (fun s hs => by
      obtain ⟨u, v⟩ := s
      obtain ⟨hu, hv⟩ := hs
      have hv : v = nI 5 := hv
      subst hv
      refine ⟨u, ?_, hu⟩
      dsimp only
      unfold f_X12_best_L45
      rw [jlit 5, if_pos (nI_le (Nat.le_refl _) (by decide))])
    (i := 0) (n := jfu) (s := ((0 : Int32), (0 : Int32))) (by omega) ⟨rfl, rfl⟩ (jfu_lt (by omega))
  rw [hw, h1]
def bs (w : Nat → Int32) (a : Nat × Int32 × Nat) (r : Nat) : Nat × Int32 × Nat := if a.1 = 0 ∨ ¬ w r ≤ a.2.1 then (1, w r, r) else if w r = a.2.1 then (a.1 + 1, a.2) else a
theorem bs_le (g : Nat → Bool) (w : Nat → Int32) (p : Nat) : (fo g (bs w) (0, 0, 0) p).1 ≤ p ∧ (fo g (bs w) (0, 0, 0) p).2.2 ≤ p :=
  fo_inv (fun p (a : Nat × Int32 × Nat) => a.1 ≤ p ∧ a.2.2 ≤ p) ⟨Nat.le_refl _, Nat.le_refl _⟩ (fun p a h => ⟨by omega, by omega⟩) (fun p a h _ => by
    unfold bs
    split
    · exact ⟨by show 1 ≤ p + 1; omega, by show p ≤ p + 1; omega⟩
    · split
      · exact ⟨by show a.1 + 1 ≤ p + 1; omega, by show a.2.2 ≤ p + 1; omega⟩
      · exact ⟨by omega, by omega⟩) p
theorem bs_lt (g : Nat → Bool) (w : Nat → Int32) (p : Nat) : 0 < (fo g (bs w) (0, 0, 0) p).1 → (fo g (bs w) (0, 0, 0) p).2.2 < p :=
  fo_inv (fun p (a : Nat × Int32 × Nat) => 0 < a.1 → a.2.2 < p) (fun z => absurd z (Nat.lt_irrefl _)) (fun p a h z => by have := h z; omega) (fun p a h _ => by
    unfold bs
    split
    · intro _; show p < p + 1; omega
    · rename_i c
      split
      · intro _; show a.2.2 < p + 1; have := h (by omega); omega
      · intro z; have := h z; omega) p
theorem sim_best {μ : jM} (h : Rel μ) : ∃ r μ1 μ2, f_X11_best 0 μ = some (r, μ1) ∧ f_X12_best 201 μ1 = some (r, μ2) ∧ Rel μ2 := by
  obtain ⟨⟨σ, hv, hS, hM⟩, -⟩ := id h
  have h0 := hv.2.1 0 (Nat.zero_le _)
  have h9 := hv.1
  have hn := h0.2.1.1
  let g := gdB (σ.2.1 0) true
  let w : Nat → Int32 := fun r => woP (σ.2.1 0) r 5
  obtain ⟨A, hA⟩ : ∃ A : Nat → Nat × Int32 × Nat, A = fo (gdB (σ.2.1 0) true) (bs w) (0, 0, 0) := ⟨_, rfl⟩
  have A_s : ∀ p, A (p + 1) = if g p then bs w (A p) p else A p := fun p => by rw [hA]; rfl
  obtain ⟨m1, a1, a2, a3⟩ := c_wbegin (T := σ.2.1 0) true μ
  obtain ⟨e, he, e1, e4, e2, e3⟩ := walkG (step := fun (s : Int32 × Int32 × Int32 × jM) => f_X11_best_L14 0 s.1 s.2.1 s.2.2.1 s.2.2.2) hS.2.1 h0 (h := true)
    (fun s => s.2.2.2) (fun s => s.2.2.1) (fun s m => (s.1, s.2.1, m)) (fun s m9 => jcl (f_X11_worthOfSolution 0 m9) (fun v12 => jbd (fun (t14 : Int32) (t15 : Int32) (m16 : jM) => (if v12 = t15 then some (.inl ((t14 + (1 : Int32), t15, s.2.2.1 + (1 : Int32), m16))) else some (.inl ((t14, t15, s.2.2.1 + (1 : Int32), m16))))) (fun k17 => jbd (jcl (f_X11_keepFirst 0 m9) (fun m24 => k17 (0 : Int32) v12 m24)) (fun k21 => (if s.1 = (0 : Int32) then k21 else (if v12 ≤ s.2.1 then k17 s.1 s.2.1 m9 else k21))))))
    (fun s => rfl) (bs w) (0, 0, 0) (fun a s => s.1 = nI a.1 ∧ s.2.1 = a.2.1 ∧ (0 < a.1 → ∀ x, x < 5 → s.2.2.2.1 188 x = nI (val a.2.2 x)))
    (fun a e => e.1 = nI a.1 ∧ e.2.1 = a.2.1 ∧ (0 < a.1 → ∀ x, x < 5 → e.2.2.1 188 x = nI (val a.2.2 x)) ∧ jFr WF μ e.2.2)
    (fun s m r hJ f1 f2 hr hg hat hbr => by
      obtain ⟨u, v, z, m0⟩ := s
      rw [← hA] at hJ ⊢
      obtain ⟨j1, j4, j2⟩ := hJ
      have j1 : u = nI (A r).1 := j1
      have j4 : v = (A r).2.1 := j4
      subst j1
      subst j4
      have j2 : 0 < (A r).1 → ∀ x, x < 5 → m0.1 188 x = nI (val (A r).2.2 x) := j2
      have sl : (A r).1 ≤ r := by rw [hA]; exact (bs_le g w r).1
      have f1 : jFr (fun c => c = 167 ∨ c = 168 ∨ c = 169) m0 m := f1
      dsimp only
      rw [jcl_e (show f_X11_worthOfSolution 0 m = some (w r) from c_worth (RT.wf hS.2.1 f2) hat)]
      simp only [jbd_e, if_true]
      show ∃ s' : Int32 × Int32 × Int32 × jM, _ ∧ _ ∧ _ ∧ (s'.1 = nI (bs w (A r) r).1 ∧ s'.2.1 = (bs w (A r) r).2.1 ∧ (0 < (bs w (A r) r).1 → ∀ x, x < 5 → s'.2.2.2.1 188 x = nI (val (bs w (A r) r).2.2 x)))
      have j3 : 0 < (A r).1 → ∀ x, x < 5 → m.1 188 x = nI (val (A r).2.2 x) := fun hc x hx => by rw [(f1 188 (by decide)).1]; exact j2 hc x hx
      obtain ⟨m2, k1, k2, k3⟩ := c_keepFirst hat
      unfold bs
      by_cases c : (A r).1 = 0 ∨ ¬ w r ≤ (A r).2.1
      · rw [if_pos c]
        refine ⟨(nI 1, w r, z + 1, m2), ?_, rfl, k3.mono (fun c hc => Or.inr hc), rfl, rfl, fun _ => k2⟩
        rw [jcl_e k1]
        by_cases cz : (A r).1 = 0
        · rw [if_pos (by rw [cz]; rfl)]; rfl
        · rw [if_neg (nI_ne0 (by omega) (by omega)), if_neg (c.resolve_left cz)]; rfl
      · rw [if_neg c]
        have c1 : ¬ (A r).1 = 0 := fun z => c (Or.inl z)
        have c2 : w r ≤ (A r).2.1 := Decidable.of_not_not (fun z => c (Or.inr z))
        rw [if_neg (show ¬ nI (A r).1 = (0 : Int32) from nI_ne0 (by omega) (by omega)), if_pos c2]
        by_cases d : w r = (A r).2.1
        · rw [if_pos d, if_pos d]
          exact ⟨(nI ((A r).1 + 1), (A r).2.1, z + 1, m), by rw [nI_1], rfl, jFr.rf, rfl, rfl, fun _ => j3 (by omega)⟩
        · rw [if_neg d, if_neg d]
          exact ⟨(nI (A r).1, (A r).2.1, z + 1, m), rfl, rfl, jFr.rf, rfl, rfl, j3⟩)
    (fun s m hJ f1 f2 => ⟨hJ.1, hJ.2.1, fun hc x hx => by show m.1 188 x = _; rw [(f1 188 (by decide)).1]; exact hJ.2.2 hc x hx, f2⟩)
    (s0 := ((0 : Int32), (0 : Int32), (0 : Int32), m1)) ⟨rfl, rfl, fun z => absurd z (by show ¬ 0 < 0; omega)⟩ rfl a2 (a3.mono (fun c hc => by unfold WF; omega))
  rw [← hA] at e1 e4 e2
  have e1 : e.1 = nI (A 7776).1 := e1
  have e4 : e.2.1 = (A 7776).2.1 := e4
  have e2 : 0 < (A 7776).1 → ∀ x, x < 5 → e.2.2.1 188 x = nI (val (A 7776).2.2 x) := e2
  have hSe : RS 5 σ e.2.2 := RS.wf hS h9 e3
  have sl : (A 7776).1 ≤ 7776 := by rw [hA]; exact (bs_le g w 7776).1
  have ref : ∀ m2 : jM, CFr μ m2 → ∃ m3, RM σ m3 ∧ RC m2 m3 ∧ ∀ K : Int32 × Int32 × Int32 → jM → Option (Int32 × jM), jbd (jsi m2 201 0 (0 : Int32)) (fun m1 => jcl (f_X12_tries 201 m1) (fun m3 => jcl (jloop (fun (s : Int32 × Int32 × Int32 × Int32) => f_X12_best_L18 201 m3 s.1 s.2.1 s.2.2.1 s.2.2.2) jfu (((0 : Int32), (0 : Int32), (-1 : Int32), (0 : Int32)))) (fun w => K w m3))) = K (nI (A 7776).1, (A 7776).2.1, if (A 7776).1 = 0 then -1 else nI (A 7776).2.2) m3 := by
    intro m2 F
    have hM1 : RM σ (jsi m2 201 0 0) := (hM.fc F).thr (by decide)
    obtain ⟨m3, t1, t2, t3⟩ := r_tries (hM1.2.1 0 (Nat.zero_le _)) h0
    have hM3 : RM σ m3 := RM216 hM1 t3
    obtain ⟨e', he', k1⟩ := jlpN (step := fun (s : Int32 × Int32 × Int32 × Int32) => f_X12_best_L18 201 m3 s.1 s.2.1 s.2.2.1 s.2.2.2) 7776
      (fun k s => s = (nI (A k).1, (A k).2.1, (if (A k).1 = 0 then -1 else nI (A k).2.2), nI k))
      (fun e => e = (nI (A 7776).1, (A 7776).2.1, if (A 7776).1 = 0 then -1 else nI (A 7776).2.2))
      (fun k s hk hs => by
        subst hs
        have al : (A k).1 ≤ k ∧ (A k).2.2 ≤ k := by rw [hA]; exact bs_le g w k
        have al1 : (A k).1 ≤ k := al.1
        have al2 : (A k).2.2 ≤ k := al.2
        have htr := TRI0 hn (t2 k hk)
        refine ⟨_, ?_, rfl⟩
        dsimp only
        unfold f_X12_best_L18
        rw [jlit 7776, if_neg (nI_ge hk (by decide))]
        show jrd (m3.1 216) _ _ _ = _
        rw [jrd_n hk (by decide), jcl_e (r_worth hk (hM3.2.1 0 (Nat.zero_le _)))]
        simp only [jbd_e]
        rw [nI_1 k, A_s]
        cases y : g k with
        | false =>
          have y : gdB (σ.2.1 0) true k = false := y
          rw [if_neg (fun z => by rw [htr.mp z] at y; cases y), if_neg Bool.false_ne_true]
        | true =>
          have f1 : f_X12_flag (1 : Int32) = 1 := by decide
          have f0 : f_X12_flag (0 : Int32) = 0 := by decide
          rw [if_pos (htr.mpr y), if_pos rfl]
          show (if _ then _ else (if w k ≤ _ then _ else _)) = _
          unfold bs
          by_cases c : (A k).1 = 0 ∨ ¬ w k ≤ (A k).2.1
          · rw [if_pos c]
            have : ∀ o : Option ((Int32 × Int32 × Int32 × Int32) ⊕ (Int32 × Int32 × Int32)), ∀ o2, (if (if (A k).1 = 0 then (-1 : Int32) else nI (A k).2.2) < 0 then o else (if w k ≤ (A k).2.1 then o2 else o)) = o := fun o o2 => by
              by_cases cz : (A k).1 = 0
              · rw [if_pos cz, if_pos (by decide)]
              · rw [if_neg (c.resolve_left cz)]; exact ite_self _
            refine (this _ _).trans ?_
            show some (Sum.inl ((0 : Int32) + f_X12_flag (if True then 1 else 0), w k, nI k, nI (k + 1))) = some (Sum.inl (nI 1, w k, if 1 = 0 then -1 else nI k, nI (k + 1)))
            rw [if_pos trivial, f1, if_neg (by decide)]
            rfl
          · rw [if_neg c]
            have c1 : ¬ (A k).1 = 0 := fun z => c (Or.inl z)
            have c2 : w k ≤ (A k).2.1 := Decidable.of_not_not (fun z => c (Or.inr z))
            rw [if_neg c1, if_neg (show ¬ nI (A k).2.2 < 0 from nI_nlt (b := 0) (Nat.zero_le _) (by omega)), if_pos c2]
            by_cases d : w k = (A k).2.1
            · rw [if_pos d, if_pos d]
              show some (Sum.inl (nI (A k).1 + f_X12_flag 1, (A k).2.1, nI (A k).2.2, nI (k + 1))) = some (Sum.inl (nI ((A k).1 + 1), (A k).2.1, if (A k).1 + 1 = 0 then -1 else nI (A k).2.2, nI (k + 1)))
              rw [f1, nI_1, if_neg (show ¬ (A k).1 + 1 = 0 by omega)]
            · rw [if_neg d, if_neg d]
              show some (Sum.inl (nI (A k).1 + f_X12_flag 0, (A k).2.1, nI (A k).2.2, nI (k + 1))) = some (Sum.inl (nI (A k).1, (A k).2.1, if (A k).1 = 0 then -1 else nI (A k).2.2, nI (k + 1)))
              rw [f0, Int32.add_zero, if_neg c1])
      (fun s hs => by
        subst hs
        refine ⟨_, ?_, rfl⟩
        dsimp only
        unfold f_X12_best_L18
        rw [jlit 7776, if_pos (nI_le (Nat.le_refl _) (by decide))])
      (i := 0) (n := jfu) (s := ((0 : Int32), (0 : Int32), (-1 : Int32), (0 : Int32))) (by omega) (by rw [hA]; rfl) (jfu_lt (by omega))
    refine ⟨m3, hM3, (RC.thr (by decide)).tr (RCr216 t3), fun K => ?_⟩
    rw [jbd_e, jcl_e t1, jcl_e he', k1]
  unfold f_X11_best f_X12_best
  by_cases cz : (A 7776).1 = 0
  · have F : CF μ e.2.2 := WF.cf e3
    obtain ⟨m3, r1, r2, r7⟩ := ref e.2.2 F.r
    refine ⟨-2, e.2.2, m3, ?_, ?_, rel_mk h hv hSe F r1 r2⟩
    · rw [jcl_e (show f_X10_begin (0 + 167) (1 : Int32) μ = some m1 from a1), jcl_e he, e1, if_pos (by rw [cz]; rfl)]
    · refine (r7 (fun w40 m3 => (if (0 : Int32) ≤ w40.2.2 then jbd (jsi m3 201 1 (0 : Int32)) (fun m47 => jcl (f_X12_enters 201 w40.2.1.toInt64 m47) (fun m49 => jcl (f_X12_entersRow 201 w40.2.2 m49) (fun m51 => some ((w40.1, m51))))) else some (((-2 : Int32), m3))))).trans ?_
      dsimp only
      rw [if_pos cz, if_neg (by decide)]
  · have rl : (A 7776).2.2 < 7776 := by
      have : 0 < (A 7776).1 := by omega
      rw [hA] at this ⊢
      exact bs_lt g w 7776 this
    obtain ⟨m2, d1, d2, d3⟩ := c_only e.2.2 (A 7776).2.1.toInt64
    obtain ⟨m3, f1, f2, f3⟩ := c_tellAll (c := 188) (f := fun x => nI (val (A 7776).2.2 x)) (by decide) (by decide) (by decide) (fun k hk => by rw [(d3 188 (by decide)).1]; exact e2 (by omega) k hk) d2 (by show 1 ≤ 17; omega)
    have F : CFr μ m3 := ((WF.cf e3).r.tr (CFr.row d3)).tr (CFr.row f3)
    have hS2 : RS 5 σ m3 := (hSe.fc h9 d3 (fun c q z => by obtain ⟨q1, q2⟩ := q; omega)).fc h9 f3 (fun c q z => by obtain ⟨q1, q2⟩ := q; omega)
    obtain ⟨m4, r1, r2, r7⟩ := ref m3 F
    obtain ⟨m5, u1, u2, u3, u4⟩ := r_enters (r_told0 m4) (by show 0 < 40; omega) (A 7776).2.1.toInt64
    have Q : Q9 m4 m5 := Q9.told.tr (Q9.ent u3 u4)
    obtain ⟨m6, w1, w2, w3, w4, w5⟩ := r_enterRow (σ := σ) rl u2 (by show 1 ≤ 17; omega) (Q.rm r1)
    have Q2 : Q9 m4 m6 := Q.tr (Q9.ent w4 w5)
    refine ⟨nI (A 7776).1, m3, m6, ?_, ?_, rel_row h hv hS2 F w3 (r2.r.tr Q2.rc) f2 w2 (by show ([_] ++ vrow _).length ≤ 22; rw [List.length_append, vrow_len]; show 1 + 5 ≤ 22; omega)⟩
    · rw [jcl_e (show f_X10_begin (0 + 167) (1 : Int32) μ = some m1 from a1), jcl_e he, e1, if_neg (nI_ne0 (by omega) (by omega)), e4, jcl_e (show f_X3_only (0 + 3) _ e.2.2 = some m2 from d1), jcl_e (show f_X3_tellAll (0 + 3) (0 + 188) m2 = some m3 from f1)]
    · refine (r7 (fun w40 m3 => (if (0 : Int32) ≤ w40.2.2 then jbd (jsi m3 201 1 (0 : Int32)) (fun m47 => jcl (f_X12_enters 201 w40.2.1.toInt64 m47) (fun m49 => jcl (f_X12_entersRow 201 w40.2.2 m49) (fun m51 => some ((w40.1, m51))))) else some (((-2 : Int32), m3))))).trans ?_
      dsimp only
      rw [if_neg cz, if_pos (show (0 : Int32) ≤ nI (A 7776).2.2 from nI_le (a := 0) (Nat.zero_le _) (by omega)), jbd_e, jcl_e u1, jcl_e w1]
