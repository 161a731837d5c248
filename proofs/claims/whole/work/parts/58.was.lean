/-! as it was -/
theorem isThing_i (x : Int32) : f_X11_isThing x = if (∃ t : Nat, t < 31 ∧ isTh t = true ∧ x = nI t) then 1 else 0 := by
  have em : ∀ t : Nat, t < 31 → (nI t).toInt = t := fun t ht => nI_toInt (by omega)
  by_cases c : 0 ≤ x.toInt ∧ x.toInt < 31
  · obtain ⟨t, ht, rfl⟩ := nI_iof (n := 31) c (by decide)
    rw [isThing_t t ht]
    by_cases c2 : isTh t = true
    · rw [if_pos c2, if_pos ⟨t, ht, c2, rfl⟩]
    · rw [if_neg c2, if_neg]
      rintro ⟨t', h1, h2, h3⟩
      have := (nI_eq (by omega) (by omega)).mp h3
      rw [this] at c2
      exact c2 h2
  · rw [if_neg (by rintro ⟨t, h1, h2, h3⟩; rw [h3, em t h1] at c; exact c ⟨by omega, by omega⟩)]
    have e10 : (x - (10 : Int32)).toInt = (x.toInt - 10).bmod (2 ^ 32) := Int32.toInt_sub x 10
    have e20 : (x - (20 : Int32)).toInt = (x.toInt - 20).bmod (2 ^ 32) := Int32.toInt_sub x 20
    have hx1 := Int32.le_toInt x
    have hx2 := Int32.toInt_lt x
    have b10 : ¬ (0 ≤ (x - (10 : Int32)).toInt ∧ (x - (10 : Int32)).toInt < 5) := by
      rw [e10, Int.bmod_def]; split <;> omega
    have b20 : ¬ (0 ≤ (x - (20 : Int32)).toInt ∧ (x - (20 : Int32)).toInt < 10) := by
      rw [e20, Int.bmod_def]; split <;> omega
    have c30 : ¬ x = (30 : Int32) := by
      intro z
      rw [z] at c
      exact c (by decide)
    have c6 : ¬ (0 ≤ x.toInt ∧ x.toInt < 6) := fun q => c ⟨q.1, by omega⟩
    unfold f_X11_isThing
    rw [cell_i, var_i, key_i, if_neg c6, if_neg b10, if_neg b20]
    simp [c30]
theorem isThingR_i (x : Int32) : f_X12_isThing x = if (∃ t : Nat, t < 31 ∧ isTh t = true ∧ x = nI t) then 1 else 0 := by
  have em : ∀ t : Nat, t < 31 → (nI t).toInt = t := fun t ht => nI_toInt (by omega)
  by_cases c : 0 ≤ x.toInt ∧ x.toInt < 31
  · obtain ⟨t, ht, rfl⟩ := nI_iof (n := 31) c (by decide)
    rw [isThing_r t ht]
    by_cases c2 : isTh t = true
    · rw [if_pos c2, if_pos ⟨t, ht, c2, rfl⟩]
    · rw [if_neg c2, if_neg]
      rintro ⟨t', h1, h2, h3⟩
      have := (nI_eq (by omega) (by omega)).mp h3
      rw [this] at c2
      exact c2 h2
  · rw [if_neg (by rintro ⟨t, h1, h2, h3⟩; rw [h3, em t h1] at c; exact c ⟨by omega, by omega⟩)]
    have e0 : (0 : Int64).toInt = 0 := by decide
    have e5 : (5 : Int64).toInt = 5 := by decide
    have e10 : (10 : Int64).toInt = 10 := by decide
    have e14 : (14 : Int64).toInt = 14 := by decide
    have e20 : (20 : Int64).toInt = 20 := by decide
    have e30 : (30 : Int64).toInt = 30 := by decide
    unfold f_X12_isThing
    rw [in_i, in_i, in_i, e0, e5, e10, e14, e20, e30, if_neg (show ¬ (0 ≤ x.toInt ∧ x.toInt ≤ 5) from fun q => c ⟨q.1, by omega⟩), if_neg (show ¬ (10 ≤ x.toInt ∧ x.toInt ≤ 14) from fun q => c ⟨by omega, by omega⟩), if_neg (show ¬ (20 ≤ x.toInt ∧ x.toInt ≤ 30) from fun q => c ⟨by omega, by omega⟩)]
    decide
theorem isOpen_i {σ : SS} {μ : jM} (hS : RS 5 σ μ) (h9 : σ.1 ≤ 9) (x : Int32) : f_X11_isOpen 0 x μ = if 1 ≤ x.toInt ∧ x.toInt ≤ σ.1 then 1 else 0 := by
  have e1 : (1 : Int32).toInt = 1 := by decide
  have ed := nI_toInt (n := σ.1) (by omega)
  unfold f_X11_isOpen
  show (if x < 1 then (0 : Int32) else if μ.1 5 2 < x then 0 else 1) = _
  rw [hS.1]
  by_cases c : 1 ≤ x.toInt ∧ x.toInt ≤ σ.1
  · rw [if_pos c, if_neg (by rw [i32_lt, e1]; omega), if_neg (by rw [i32_lt, ed]; omega)]
  · rw [if_neg c]
    by_cases c1 : x < 1
    · rw [if_pos c1]
    · rw [if_neg c1, if_pos]
      rw [i32_lt, e1] at c1
      rw [i32_lt, ed]
      omega
theorem inD {σ : SS} {μ : jM} (hM : RM σ μ) (h9 : σ.1 ≤ 9) (x : Int32) : f_X12_in x.toInt64 (1 : Int64) ((μ.1 201 9).toInt64) = if 1 ≤ x.toInt ∧ x.toInt ≤ σ.1 then 1 else 0 := by
  have e1 : (1 : Int64).toInt = 1 := by decide
  rw [hM.1, in_l, Int32.toInt_toInt64, Int32.toInt_toInt64, e1, nI_toInt (by omega)]
theorem r_tell {w : Nat} {T : TT} {μ : jM} (h : RW w T μ) (hw : w < 34) (hv : VT T) {t : Nat} (hb : t < 31) (ht : isTh t = true) (z : Option (Int32 × jM)) (hz : some (tell T t, μ) = z) : (if (10 : Int32) ≤ nI t then (if (20 : Int32) ≤ nI t then (if nI t = (30 : Int32) then jcl (f_X12_its 201 (nI w) (28 : Int32) μ) (fun v13 => some ((v13, μ))) else jcl (f_X12_placeOf 201 (nI w) (nI t - (20 : Int32)) μ) (fun v8 => (if (0 : Int32) ≤ v8 then jcl (f_X12_its 201 (nI w) ((20 : Int32) + v8) μ) (fun v11 => some (((1000 : Int32) + v11, μ))) else some (((0 : Int32), μ))))) else jcl (f_X12_its 201 (nI w) (((6 : Int32) + nI t) - (10 : Int32)) μ) (fun v15 => some ((v15, μ)))) else jcl (f_X12_its 201 (nI w) (nI t) μ) (fun v17 => some (((1000 : Int32) + v17, μ)))) = z := by
  rw [← hz]
  have hn := hv.1.1
  unfold tell
  rcases isTh_cases ht with q | q | q | q
  · rw [jlit 10, if_neg (nI_ge (by omega) (by decide)), jcl_e (r_its h hw (by omega)), if_pos q]
    rfl
  · rw [jlit 10, if_pos (nI_le q.1 (by omega)), jlit 20, if_neg (nI_ge (by omega) (by decide)), jlit 6, nI_add, pk_sub (by omega), jcl_e (r_its h hw (by omega)), if_neg (show ¬ t < 6 by omega), if_pos q.2, show 6 + t - 10 = t - 4 by omega]
  · rw [jlit 10, if_pos (nI_le (by omega) (by omega)), jlit 20, if_pos (nI_le q.1 (by omega)), jlit 30, if_neg (fun z => by have := (nI_eq (by omega) (by decide)).mp z; omega), pk_sub q.1, jcl_e (r_placeOf h hw hv _), if_neg (show ¬ t < 6 by omega), if_neg (show ¬ t < 15 by omega), if_pos q.2]
    cases hp : plc T (nI (t - 20)) with
    | none =>
      show (if (0 : Int32) ≤ -1 then _ else _) = _
      rw [if_neg (by decide)]
    | some i =>
      have hi := fnd_some hp
      show (if (0 : Int32) ≤ nI i then _ else _) = _
      rw [if_pos (nI_pos' (by omega))]
      show jcl (f_X12_its 201 (nI w) (nI 20 + nI i) μ) _ = _
      rw [nI_add, jcl_e (r_its h hw (by omega))]
      rfl
  · subst q
    rw [jlit 10, if_pos (nI_le (by omega) (by decide)), jlit 20, if_pos (nI_le (by omega) (by decide)), jlit 30, if_pos rfl, jlit 28, jcl_e (r_its h hw (by omega)), if_neg (show ¬ 30 < 6 by omega), if_neg (show ¬ 30 < 15 by omega), if_neg (show ¬ 30 < 30 by omega)]
theorem sim_was {μ : jM} (h : Rel μ) (x y : Int32) : ∃ r μ2, f_X11_was 0 x y μ = some r ∧ f_X12_was 201 x y μ = some (r, μ2) ∧ Rel μ2 := by
  obtain ⟨⟨σ, hv, hS, hM⟩, -⟩ := id h
  have h9 := hv.1
  have hM1 : RM σ (jsi μ 201 0 0) := hM.thr (by decide)
  unfold f_X11_was f_X12_was
  rw [jbd_e, inD hM1 h9, isOpen_i hS h9, isThing_i, isThingR_i]
  by_cases c : 1 ≤ x.toInt ∧ x.toInt ≤ σ.1
  · obtain ⟨d, hd, rfl⟩ := nI_iof (n := σ.1 + 1) (x := x) ⟨by omega, by omega⟩ (by omega)
    have ed := nI_toInt (n := d) (by omega)
    simp only [if_pos c, i10, if_false]
    by_cases c2 : ∃ t : Nat, t < 31 ∧ isTh t = true ∧ y = nI t
    · obtain ⟨t, t1, t2, rfl⟩ := c2
      have c3 : ∃ t' : Nat, t' < 31 ∧ isTh t' = true ∧ nI t = nI t' := ⟨t, t1, t2, rfl⟩
      simp only [if_pos c3, i10, if_false]
      have e1 : nI d - (1 : Int32) = nI (d - 1) := pk_sub (b := 1) (by omega)
      have hT := (hS.2.2 (d - 1) (by omega)).1
      rw [show d - 1 + 1 = d by omega] at hT
      have hc := c_tell hT (hv.2.1 d (by omega)) t1 t2
      refine ⟨tell (σ.2.1 d) t, jsi μ 201 0 0, ?_, ?_, sim_thr h⟩
      · rw [e1, jin_n (by omega) (by decide), nI_clamp (by omega), show 0 + 13 + 8 * (d - 1) + 1 = 5 + 8 + 8 * (d - 1) + 1 by omega, jcl_id]
        exact hc
      · exact r_tell (hM1.2.1 d (by omega)) (by omega) (hv.2.1 d (by omega)) t1 t2 _ rfl
    · simp only [if_neg c2, i00, if_true]
      exact ⟨-1, _, rfl, rfl, sim_thr h⟩
  · simp only [if_neg c, i00, if_true]
    exact ⟨-1, _, rfl, rfl, sim_thr h⟩
def lI (l : List Nat) : List Int64 := l.map (fun t => (nI t).toInt64)
theorem lI_len (l : List Nat) : (lI l).length = l.length := List.length_map _
theorem lI_app (l : List Nat) (t : Nat) : lI (l ++ [t]) = lI l ++ [(nI t).toInt64] := by unfold lI; rw [List.map_append]; rfl
theorem sim_trail {μ : jM} (h : Rel μ) (x : Int32) : ∃ r μ1 μ2, f_X11_trail 0 x μ = some (r, μ1) ∧ f_X12_trail 201 x μ1 = some (r, μ2) ∧ Rel μ2 := by
  obtain ⟨⟨σ, hv, hS, hM⟩, -⟩ := id h
  have h9 := hv.1
  unfold f_X11_trail f_X12_trail
  simp only [jbd_e]
  rw [isOpen_i hS h9]
  by_cases c : 1 ≤ x.toInt ∧ x.toInt ≤ σ.1
  · obtain ⟨d, hd, rfl⟩ := nI_iof (n := σ.1 + 1) (x := x) ⟨by omega, by omega⟩ (by omega)
    have ed := nI_toInt (n := d) (by omega)
    have e1 : nI d - (1 : Int32) = nI (d - 1) := pk_sub (b := 1) (by omega)
    have hO := hv.2.2 (d - 1) (by omega)
    rw [show d - 1 + 1 = d by omega] at hO
    have hlen := hO.len
    obtain ⟨w1, w2⟩ := c_empty μ
    have hL : ∀ m : jM, jFr (fun c => c = 3 ∨ c = 4) μ m → m.1 (0 + 13 + 8 * (d - 1)) 2 = nI (σ.2.2 d).length ∧ ∀ i, i < (σ.2.2 d).length → m.1 (0 + 13 + 8 * (d - 1) + 7) i = nI ((σ.2.2 d).getD i 0) := fun m hm => by
      have hm1 := (hS.fc h9 hm (fun c q => by obtain ⟨q1, q2⟩ := q; omega)).2.2 (d - 1) (by omega)
      rw [show d - 1 + 1 = d by omega] at hm1
      rw [show 0 + 13 + 8 * (d - 1) = 5 + 8 + 8 * (d - 1) by omega]
      exact ⟨hm1.2.1, hm1.2.2.2⟩
    obtain ⟨m1, a1, a2, a3⟩ := jlpN (step := fun (s : Int32 × jM) => f_X11_trail_L31 0 (nI d) s.1 s.2) (σ.2.2 d).length
      (fun k s => s.1 = nI k ∧ RwC (lI ((σ.2.2 d).take k)) s.2 ∧ jFr (fun c => c = 3 ∨ c = 4) μ s.2)
      (fun m => RwC (lI (σ.2.2 d)) m ∧ jFr (fun c => c = 3 ∨ c = 4) μ m)
      (fun k s hk hs => by
        obtain ⟨u, m⟩ := s
        obtain ⟨hu, g1, g2⟩ := hs
        have hu : u = nI k := hu
        subst hu
        obtain ⟨q1, q2⟩ := hL m g2
        have hl : (lI ((σ.2.2 d).take k)).length = k := by rw [lI_len, List.length_take]; omega
        obtain ⟨m', b1, b2, b3⟩ := c_tellR g1 (by rw [hl]; omega) (nI ((σ.2.2 d).getD k 0)).toInt64
        refine ⟨(nI (k + 1), m'), ?_, rfl, ?_, g2.tr b3⟩
        · dsimp only
          unfold f_X11_trail_L31
          rw [e1, nI_clamp (by omega), q1, if_neg (nI_ge hk (by omega)), jrd_n (n := 22) (by omega) (by decide), q2 k hk]
          rw [jcl_e (show f_X3_tell (0 + 3) _ m = some m' from b1), nI_1]
        · show RwC (lI ((σ.2.2 d).take (k + 1))) m'
          rw [← lI_app] at b2
          have : (σ.2.2 d).take (k + 1) = (σ.2.2 d).take k ++ [(σ.2.2 d).getD k 0] := by rw [List.take_succ]; simp [hk]
          rw [this]; exact b2)
      (fun s hs => by
        obtain ⟨u, m⟩ := s
        obtain ⟨hu, g1, g2⟩ := hs
        have hu : u = nI (σ.2.2 d).length := hu
        subst hu
        obtain ⟨q1, q2⟩ := hL m g2
        rw [List.take_length] at g1
        refine ⟨m, ?_, g1, g2⟩
        dsimp only
        unfold f_X11_trail_L31
        rw [e1, nI_clamp (by omega), q1, if_pos (nI_le (Nat.le_refl _) (by omega))])
      (i := 0) (n := jfu) (s := ((0 : Int32), f_X3_empty 3 μ)) (by omega) ⟨rfl, w1, w2⟩ (jfu_lt (by omega))
    obtain ⟨a2, a3⟩ := a2, a3
    have F : CFr μ m1 := CFr.row a3
    have hM1 : RM σ (jsi m1 201 0 0) := (hM.fc F).thr (by decide)
    have hM2 : RM σ (jsi (jsi m1 201 0 0) 201 1 0) := hM1.thr (by decide)
    have hT : ∀ m : jM, RM σ m → TRr d (σ.2.2 d) m := fun m hm => by
      have := hm.2.2 (d - 1) (by omega)
      rw [show d - 1 + 1 = d by omega] at this
      exact this
    obtain ⟨m2, b1, b2, b3, b4⟩ := jlpN (step := fun (s : Int32 × jM) => f_X12_trail_L28 201 (nI d) s.1 s.2) (σ.2.2 d).length
      (fun k s => s.1 = nI k ∧ RwR (lI ((σ.2.2 d).take k)) s.2 ∧ RM σ s.2 ∧ RCr (jsi (jsi m1 201 0 0) 201 1 0) s.2)
      (fun m => RwR (lI (σ.2.2 d)) m ∧ RM σ m ∧ RCr (jsi (jsi m1 201 0 0) 201 1 0) m)
      (fun k s hk hs => by
        obtain ⟨u, m⟩ := s
        obtain ⟨hu, g1, g2, g3⟩ := hs
        have hu : u = nI k := hu
        subst hu
        have g2 : RM σ m := g2
        obtain ⟨q1, q2⟩ := hT m g2
        have hl : (lI ((σ.2.2 d).take k)).length = k := by rw [lI_len, List.length_take]; omega
        obtain ⟨m', b1, b2, b3, b4⟩ := r_enters g1 (by rw [hl]; omega) (nI ((σ.2.2 d).getD k 0)).toInt64
        refine ⟨(nI (k + 1), m'), ?_, rfl, ?_, g2.fr (b4 9 (by decide)) (b3 204 (by decide)).1 (b3 205 (by decide)).1 (b3 206 (by decide)).1, RCr.tr g3 (RCr.ent b3 b4)⟩
        · dsimp only
          unfold f_X12_trail_L28
          show jrd (m.1 206) _ _ _ = _
          rw [jrd_n (n := 10) (by omega) (by decide), q1, if_neg (nI_ge hk (by omega))]
          show jrd (m.1 205) _ _ _ = _
          rw [jlit 22, pk_mul, nI_add, jrd_n (n := 220) (by omega) (by decide), q2 k hk, jcl_e b1, nI_1]
        · show RwR (lI ((σ.2.2 d).take (k + 1))) m'
          rw [← lI_app] at b2
          have : (σ.2.2 d).take (k + 1) = (σ.2.2 d).take k ++ [(σ.2.2 d).getD k 0] := by rw [List.take_succ]; simp [hk]
          rw [this]; exact b2)
      (fun s hs => by
        obtain ⟨u, m⟩ := s
        obtain ⟨hu, g1, g2, g3⟩ := hs
        have hu : u = nI (σ.2.2 d).length := hu
        subst hu
        have g2 : RM σ m := g2
        obtain ⟨q1, q2⟩ := hT m g2
        rw [List.take_length] at g1
        refine ⟨m, ?_, g1, g2, g3⟩
        dsimp only
        unfold f_X12_trail_L28
        show jrd (m.1 206) _ _ _ = _
        rw [jrd_n (n := 10) (by omega) (by decide), q1, if_pos (nI_le (Nat.le_refl _) (by omega))])
      (i := 0) (n := jfu) (s := ((0 : Int32), jsi (jsi m1 201 0 0) 201 1 0)) (by omega) ⟨rfl, r_told0 _, hM2, RCr.rf⟩ (jfu_lt (by omega))
    refine ⟨nI (σ.2.2 d).length, m1, m2, ?_, ?_, ?_⟩
    · rw [if_pos c, if_neg (by decide), e1, jin_n (by omega) (by decide)]
      rw [jcl_e (show jloop (fun (s : Int32 × jM) => f_X11_trail_L31 0 (nI d) s.1 s.2) jfu (((0 : Int32), f_X3_empty (0 + 3) μ)) = some m1 from a1), nI_clamp (by omega), (hL m1 a3).1]
    · rw [inD hM1 h9, if_pos c, if_neg (by decide), jcl_e b1, b2.1, lI_len]
    · exact rel_row h hv (hS.fc h9 a3 (fun c q => by obtain ⟨q1, q2⟩ := q; omega)) F b3 (((RCr.thr (by decide)).tr (RCr.thr (by decide))).tr b4) a2 b2 (by rw [lI_len]; omega)
  · refine ⟨-1, μ, jsi μ 201 0 0, ?_, ?_, sim_thr h⟩
    · rw [if_neg c, if_pos (by decide)]
    · have hM1 : RM σ (jsi μ 201 0 0) := hM.thr (by decide)
      rw [inD hM1 h9, if_neg c, if_pos (by decide)]
