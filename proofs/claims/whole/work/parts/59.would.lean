/-! what differs, told -/
theorem dfl_lt {T T' : TT} {n t : Nat} (h : t ∈ dfl T T' n) : t < n := List.mem_range.mp (List.mem_filter.mp h).1
theorem dfl_tr (T T' : TT) {n : Nat} (hn : n ≤ 31) : TrOK (dfl T T' n) := by
  refine ⟨List.Pairwise.filter _ List.nodup_range, fun t ht => ?_⟩
  have h2 := (List.mem_filter.mp ht).2
  simp only [Bool.and_eq_true] at h2
  exact ⟨h2.1, by have := dfl_lt ht; omega⟩
theorem dfl_22 (T T' : TT) : (dfl T T' 31).length ≤ 22 := (dfl_tr T T' (Nat.le_refl _)).len
theorem dfl_new {T T' : TT} {k : Nat} (hk : k < 31) (ht : isTh k = true) : (dfl T T' k).length < 22 := (dfl_tr T T' (by omega)).lt ht hk (fun q => by have := dfl_lt q; omega)
theorem dfl_sym {T T' : TT} (h : VT T) (h' : VT T') (n : Nat) : dfl T T' n = dfl T' T n := by
  unfold dfl
  congr 1
  funext t
  rw [othB_sym T T' t h h']
theorem c_tellO {a b : Nat} {T T' : TT} {μ : jM} (h : RT a T μ) (h' : RT b T' μ) (hv : VT T) (hv' : VT T') (ha : 5 ≤ a) (hb : 5 ≤ b) : ∃ μ1, f_X11_tellOtherThings 0 a b μ = some (nI (dfl T T' 31).length, μ1) ∧ RwC (lI (dfl T T' 31)) μ1 ∧ jFr (fun c => c = 3 ∨ c = 4) μ μ1 := by
  obtain ⟨w1, w2⟩ := c_empty μ
  obtain ⟨m1, a1, a2, a3⟩ := jlpN (step := fun (s : Int32 × jM) => f_X11_tellOtherThings_L9 0 a b s.1 s.2) 31
    (fun k s => s.1 = nI k ∧ RwC (lI (dfl T T' k)) s.2 ∧ jFr (fun c => c = 3 ∨ c = 4) μ s.2)
    (fun m => RwC (lI (dfl T T' 31)) m ∧ jFr (fun c => c = 3 ∨ c = 4) μ m)
    (fun k s hk hs => by
      obtain ⟨u, m⟩ := s
      obtain ⟨hu, g1, g2⟩ := hs
      have hu : u = nI k := hu
      subst hu
      have g2 : jFr (fun c => c = 3 ∨ c = 4) μ m := g2
      have hm := h.fc g2 (fun c q1 q2 => by omega)
      have hm' := h'.fc g2 (fun c q1 q2 => by omega)
      have st : ∀ z, (if (if isTh k = true then (1 : Int32) else 0) = 0 then some (.inl (nI (k + 1), m)) else jcl (f_X9_isOtherwise a (nI k) b m) (fun v7 => (if v7 = (0 : Int32) then some (.inl ((nI (k + 1), m))) else jcl (f_X3_tell 3 (nI k).toInt64 m) (fun m10 => some (.inl ((nI (k + 1), m10))))))) = z → f_X11_tellOtherThings_L9 0 a b (nI k) m = z := fun z hz => by
        rw [← hz]
        unfold f_X11_tellOtherThings_L9
        rw [jlit 30, if_neg (nI_nlt (by omega) (by omega)), isThing_t k hk, nI_1]
      by_cases c : isTh k = true
      · have ho := c_oth hm hm' hv hv' hk c
        by_cases c2 : othB T T' k = true
        · have hl := dfl_new (T := T) (T' := T') hk c
          obtain ⟨m', b1, b2, b3⟩ := c_tellR g1 (by rw [lI_len]; exact hl) (nI k).toInt64
          refine ⟨(nI (k + 1), m'), st _ ?_, rfl, ?_, g2.tr b3⟩
          · rw [if_pos c, if_neg (by decide), jcl_e ho, c2, if_pos rfl, if_neg (by decide), jcl_e b1]
          · show RwC (lI (dfl T T' (k + 1))) m'
            rw [dfl_s, c, c2]
            simp only [Bool.and_self, if_true]
            rw [lI_app]
            exact b2
        · have c2 : othB T T' k = false := by simpa using c2
          refine ⟨(nI (k + 1), m), st _ ?_, rfl, ?_, g2⟩
          · rw [if_pos c, if_neg (by decide), jcl_e ho, c2, if_pos (by decide)]
          · show RwC (lI (dfl T T' (k + 1))) m
            rw [dfl_s, c2]
            simpa using g1
      · have c : isTh k = false := by simpa using c
        refine ⟨(nI (k + 1), m), st _ ?_, rfl, ?_, g2⟩
        · rw [c, if_pos (by decide)]
        · show RwC (lI (dfl T T' (k + 1))) m
          rw [dfl_s, c]
          simpa using g1)
    (fun s hs => by
      obtain ⟨u, m⟩ := s
      obtain ⟨hu, g1, g2⟩ := hs
      have hu : u = nI 31 := hu
      subst hu
      refine ⟨m, ?_, g1, g2⟩
      dsimp only
      unfold f_X11_tellOtherThings_L9
      rw [jlit 30, if_pos (nI_lt (by omega) (by omega))])
    (i := 0) (n := jfu) (s := ((0 : Int32), f_X3_empty 3 μ)) (by omega) ⟨rfl, w1, w2⟩ (jfu_lt (by omega))
  obtain ⟨a2, a3⟩ := a2, a3
  refine ⟨m1, ?_, a2, a3⟩
  unfold f_X11_tellOtherThings
  rw [jbd_e, jcl_e (show jloop (fun (s : Int32 × jM) => f_X11_tellOtherThings_L9 0 a b s.1 s.2) jfu (((0 : Int32), f_X3_empty (0 + 3) μ)) = some m1 from a1)]
  show some (m1.1 3 1, m1) = _
  rw [a2.1, lI_len]
theorem r_others {σ : SS} {v w : Nat} {T T' : TT} {μ : jM} (h : RW v T μ) (h' : RW w T' μ) (hv1 : v < 34) (hw1 : w < 34) (hv : VT T) (hv' : VT T') (hM : RM σ μ) : ∃ μ2, f_X12_others 201 (nI v) (nI w) μ = some (nI (dfl T T' 31).length, μ2) ∧ RwR (lI (dfl T T' 31)) μ2 ∧ RM σ μ2 ∧ RCr μ μ2 := by
  have hfr : ∀ m : jM, m.1 204 = μ.1 204 → RW v T m ∧ RW w T' m := fun m hm => ⟨h.fr hm, h'.fr hm⟩
  obtain ⟨m1, a1, a2, a3, a4, a5⟩ := jlpN (step := fun (s : Int32 × jM) => f_X12_others_L7 201 (nI v) (nI w) s.1 s.2) 31
    (fun k s => s.1 = nI k ∧ RwR (lI (dfl T T' k)) s.2 ∧ RM σ s.2 ∧ RCr μ s.2 ∧ s.2.1 204 = μ.1 204)
    (fun m => RwR (lI (dfl T T' 31)) m ∧ RM σ m ∧ RCr μ m ∧ m.1 204 = μ.1 204)
    (fun k s hk hs => by
      obtain ⟨u, m⟩ := s
      obtain ⟨hu, g1, g2, g3, g4⟩ := hs
      have hu : u = nI k := hu
      subst hu
      have g2 : RM σ m := g2
      obtain ⟨hm, hm'⟩ := hfr m g4
      have st : ∀ z, (if (if isTh k = true then (1 : Int32) else 0) = 0 then some (.inl (nI (k + 1), m)) else jcl (f_X12_isOther 201 (nI v) (nI w) (nI k) m) (fun v7 => (if v7 = (0 : Int32) then some (.inl ((nI (k + 1), m))) else jcl (f_X12_enters 201 (nI k).toInt64 m) (fun m10 => some (.inl ((nI (k + 1), m10))))))) = z → f_X12_others_L7 201 (nI v) (nI w) (nI k) m = z := fun z hz => by
        rw [← hz]
        unfold f_X12_others_L7
        rw [jlit 30, if_neg (nI_nlt (by omega) (by omega)), isThing_r k hk, nI_1]
      by_cases c : isTh k = true
      · have ho := r_oth hm hm' hv1 hw1 hv hv' hk c
        by_cases c2 : othB T T' k = true
        · have hl := dfl_new (T := T) (T' := T') hk c
          obtain ⟨m', b1, b2, b3, b4⟩ := r_enters g1 (by rw [lI_len]; omega) (nI k).toInt64
          refine ⟨(nI (k + 1), m'), st _ ?_, rfl, ?_, g2.fr (b4 9 (by decide)) (b3 204 (by decide)).1 (b3 205 (by decide)).1 (b3 206 (by decide)).1, RCr.tr g3 (RCr.ent b3 b4), (b3 204 (by decide)).1.trans g4⟩
          · rw [if_pos c, if_neg (by decide), jcl_e ho, c2, if_pos rfl, if_neg (by decide), jcl_e b1]
          · show RwR (lI (dfl T T' (k + 1))) m'
            rw [dfl_s, c, c2]
            simp only [Bool.and_self, if_true]
            rw [lI_app]
            exact b2
        · have c2 : othB T T' k = false := by simpa using c2
          refine ⟨(nI (k + 1), m), st _ ?_, rfl, ?_, g2, g3, g4⟩
          · rw [if_pos c, if_neg (by decide), jcl_e ho, c2, if_pos (by decide)]
          · show RwR (lI (dfl T T' (k + 1))) m
            rw [dfl_s, c2]
            simpa using g1
      · have c : isTh k = false := by simpa using c
        refine ⟨(nI (k + 1), m), st _ ?_, rfl, ?_, g2, g3, g4⟩
        · rw [c, if_pos (by decide)]
        · show RwR (lI (dfl T T' (k + 1))) m
          rw [dfl_s, c]
          simpa using g1)
    (fun s hs => by
      obtain ⟨u, m⟩ := s
      obtain ⟨hu, g1, g2, g3, g4⟩ := hs
      have hu : u = nI 31 := hu
      subst hu
      refine ⟨m, ?_, g1, g2, g3, g4⟩
      dsimp only
      unfold f_X12_others_L7
      rw [jlit 30, if_pos (nI_lt (by omega) (by omega))])
    (i := 0) (n := jfu) (s := ((0 : Int32), jsi μ 201 1 0)) (by omega) ⟨rfl, r_told0 _, hM.thr (by decide), RCr.thr (by decide), jsi_ne (by decide)⟩ (jfu_lt (by omega))
  refine ⟨m1, ?_, a2, a3, a4⟩
  unfold f_X12_others
  rw [jbd_e, jcl_e a1, a2.1, lI_len]
theorem sim_would {μ : jM} (h : Rel μ) (x : Int32) : ∃ r μ1 μ2, f_X11_would 0 x μ = some (r, μ1) ∧ f_X12_would 201 x μ1 = some (r, μ2) ∧ Rel μ2 := by
  obtain ⟨⟨σ, hv, hS, hM⟩, -⟩ := id h
  have h9 := hv.1
  have e0 : (0 : Int64).toInt = 0 := by decide
  have e00 : (0 : Int32).toInt = 0 := by decide
  have ed := nI_toInt (n := σ.1) (by omega)
  have e5 : μ.1 (0 + 5) 2 = nI σ.1 := hS.1
  have v0 := hv.2.1 0 (Nat.zero_le _)
  unfold f_X11_would f_X12_would
  simp only [jbd_e, jcl2_id]
  rw [e5]
  by_cases c : 0 ≤ x.toInt ∧ x.toInt ≤ σ.1
  · obtain ⟨n, hn, rfl⟩ := nI_iof (n := σ.1 + 1) (x := x) ⟨c.1, by omega⟩ (by omega)
    rw [if_neg (nI_pos (by omega)), if_pos (nI_le (by omega) (by omega))]
    have vn : VT (σ.2.1 (if n = σ.1 then 0 else n + 1)) := hv.2.1 _ (by split <;> omega)
    have hc : ∃ μ1, (if nI n = nI σ.1 then f_X11_tellOtherThings 0 (0 + 6) (0 + 6) μ else jin (nI n) 9 (f_X11_tellOtherThings 0 (0 + 6) (0 + 13 + 8 * (nI n).toNatClampNeg + 1) μ)) = some (nI (dfl (σ.2.1 0) (σ.2.1 (if n = σ.1 then 0 else n + 1)) 31).length, μ1) ∧ RwC (lI (dfl (σ.2.1 0) (σ.2.1 (if n = σ.1 then 0 else n + 1)) 31)) μ1 ∧ jFr (fun c => c = 3 ∨ c = 4) μ μ1 := by
      by_cases cn : n = σ.1
      · rw [if_pos (by rw [cn]), if_pos cn]
        exact c_tellO hS.2.1 hS.2.1 v0 v0 (by omega) (by omega)
      · rw [if_neg (fun z => cn ((nI_eq (by omega) (by omega)).mp z)), if_neg cn, jin_n (by omega) (by decide), nI_clamp (by omega), show 0 + 13 + 8 * n + 1 = 5 + 8 + 8 * n + 1 by omega]
        exact c_tellO hS.2.1 (hS.2.2 n (by omega)).1 v0 (hv.2.1 _ (by omega)) (by omega) (by omega)
    obtain ⟨μ1, a1, a2, a3⟩ := hc
    have F : CFr μ μ1 := CFr.row a3
    have hM1 : RM σ (jsi μ1 201 0 0) := (hM.fc F).thr (by decide)
    have e9 : (jsi μ1 201 0 (0 : Int32)).1 201 9 = nI σ.1 := hM1.1
    obtain ⟨μ2, b1, b2, b3, b4⟩ := r_others (v := if n = σ.1 then 0 else n + 1) (w := 0) (hM1.2.1 _ (by split <;> omega)) (hM1.2.1 0 (Nat.zero_le _)) (by split <;> omega) (by decide) vn v0 hM1
    rw [dfl_sym vn v0] at b1 b2
    refine ⟨_, μ1, μ2, a1, ?_, rel_row h hv (hS.fc h9 a3 (fun c q => by obtain ⟨q1, q2⟩ := q; omega)) F b3 ((RCr.thr (by decide)).tr b4) a2 b2 (by rw [lI_len]; exact dfl_22 _ _)⟩
    rw [e9, in_l, Int32.toInt_toInt64, Int32.toInt_toInt64, e0, ed, if_pos c, if_neg (by decide)]
    have ei : (if nI n = nI σ.1 then (0 : Int32) else nI n + 1) = nI (if n = σ.1 then 0 else n + 1) := by
      by_cases cn : n = σ.1
      · rw [if_pos (by rw [cn]), if_pos cn]; rfl
      · rw [if_neg (fun z => cn ((nI_eq (by omega) (by omega)).mp z)), if_neg cn, nI_1]
    rw [ei]
    exact b1
  · refine ⟨-1, μ, jsi μ 201 0 0, ?_, ?_, sim_thr h⟩
    · by_cases c1 : x < 0
      · rw [if_pos c1]
      · rw [if_neg c1, if_neg]
        intro z
        rw [i32_lt, e00] at c1
        rw [i32_le, ed] at z
        exact c ⟨by omega, z⟩
    · have hM1 : RM σ (jsi μ 201 0 0) := hM.thr (by decide)
      have e9 : (jsi μ 201 0 (0 : Int32)).1 201 9 = nI σ.1 := hM1.1
      rw [e9, in_l, Int32.toInt_toInt64, Int32.toInt_toInt64, e0, ed, if_neg c, if_pos (by decide)]
theorem sim_between {μ : jM} (h : Rel μ) (x y : Int32) : ∃ r μ1 μ2, f_X11_between 0 x y μ = some (r, μ1) ∧ f_X12_between 201 x y μ1 = some (r, μ2) ∧ Rel μ2 := by
  obtain ⟨⟨σ, hv, hS, hM⟩, -⟩ := id h
  have h9 := hv.1
  unfold f_X11_between f_X12_between
  simp only [jbd_e, jcl2_id]
  rw [isOpen_i hS h9, isOpen_i hS h9]
  by_cases c : (1 ≤ x.toInt ∧ x.toInt ≤ σ.1) ∧ (1 ≤ y.toInt ∧ y.toInt ≤ σ.1)
  · obtain ⟨cx, cy⟩ := c
    obtain ⟨d, hd, rfl⟩ := nI_iof (n := σ.1 + 1) (x := x) ⟨by omega, by omega⟩ (by omega)
    obtain ⟨e, he, rfl⟩ := nI_iof (n := σ.1 + 1) (x := y) ⟨by omega, by omega⟩ (by omega)
    have ed := nI_toInt (n := d) (by omega)
    have ee := nI_toInt (n := e) (by omega)
    have e1 : nI d - (1 : Int32) = nI (d - 1) := pk_sub (b := 1) (by omega)
    have e2 : nI e - (1 : Int32) = nI (e - 1) := pk_sub (b := 1) (by omega)
    have hT := (hS.2.2 (d - 1) (by omega)).1
    have hT' := (hS.2.2 (e - 1) (by omega)).1
    rw [show d - 1 + 1 = d by omega] at hT
    rw [show e - 1 + 1 = e by omega] at hT'
    obtain ⟨μ1, a1, a2, a3⟩ := c_tellO hT hT' (hv.2.1 d (by omega)) (hv.2.1 e (by omega)) (by omega) (by omega)
    have F : CFr μ μ1 := CFr.row a3
    have hM1 : RM σ (jsi μ1 201 0 0) := (hM.fc F).thr (by decide)
    obtain ⟨μ2, b1, b2, b3, b4⟩ := r_others (hM1.2.1 d (by omega)) (hM1.2.1 e (by omega)) (by omega) (by omega) (hv.2.1 d (by omega)) (hv.2.1 e (by omega)) hM1
    refine ⟨nI (dfl (σ.2.1 d) (σ.2.1 e) 31).length, μ1, μ2, ?_, ?_, rel_row h hv (hS.fc h9 a3 (fun c q => by obtain ⟨q1, q2⟩ := q; omega)) F b3 ((RCr.thr (by decide)).tr b4) a2 b2 (by rw [lI_len]; exact dfl_22 _ _)⟩
    · simp only [if_pos cx, if_pos cy, i10, if_false]
      rw [e1, e2, jin_n (by omega) (by decide), jin_n (by omega) (by decide), nI_clamp (by omega), nI_clamp (by omega), show 0 + 13 + 8 * (d - 1) + 1 = 5 + 8 + 8 * (d - 1) + 1 by omega, show 0 + 13 + 8 * (e - 1) + 1 = 5 + 8 + 8 * (e - 1) + 1 by omega]
      exact a1
    · rw [inD hM1 h9, inD hM1 h9]
      simp only [if_pos cx, if_pos cy, i10, if_false]
      exact b1
  · have hM1 : RM σ (jsi μ 201 0 0) := hM.thr (by decide)
    refine ⟨-1, μ, jsi μ 201 0 0, ?_, ?_, sim_thr h⟩
    · by_cases c1 : 1 ≤ x.toInt ∧ x.toInt ≤ σ.1
      · rw [if_pos c1, if_neg (fun q => c ⟨c1, q⟩), if_neg (by decide), if_pos (by decide)]
      · rw [if_neg c1, if_pos (by decide)]
    · rw [inD hM1 h9, inD hM1 h9]
      by_cases c1 : 1 ≤ x.toInt ∧ x.toInt ≤ σ.1
      · rw [if_pos c1, if_neg (fun q => c ⟨c1, q⟩), if_neg (by decide), if_pos (by decide)]
      · rw [if_neg c1, if_pos (by decide)]
theorem sim_differs {μ : jM} (h : Rel μ) (x : Int32) : ∃ r μ1 μ2, f_X11_differs 0 x μ = some (r, μ1) ∧ f_X12_differs 201 x μ1 = some (r, μ2) ∧ Rel μ2 := by
  obtain ⟨⟨σ, hv, hS, hM⟩, ht, hr, hh, hk⟩ := id h
  have h9 := hv.1
  have e0 : (0 : Int64).toInt = 0 := by decide
  have e1 : (1 : Int64).toInt = 1 := by decide
  have e00 : (0 : Int32).toInt = 0 := by decide
  have e2 : (2 : Int32).toInt = 2 := by decide
  have v0 := hv.2.1 0 (Nat.zero_le _)
  unfold f_X11_differs f_X12_differs
  simp only [jbd_e, jcl2_id]
  by_cases c : 0 ≤ x.toInt ∧ x.toInt < 2
  · obtain ⟨i, hi, rfl⟩ := nI_iof (n := 2) c (by decide)
    obtain ⟨g1, g2⟩ := hk i hi
    have r1 : jrd (μ.1 (0 + 186)) (nI i) 2 = fun (k : Int32 → Option (Int32 × jM)) => k (μ.1 186 i) := by
      funext k
      exact jrd_n hi (by decide)
    rw [jlit 2, if_neg (nI_pos (by omega)), if_pos (nI_lt hi (by decide)), r1]
    dsimp only
    rw [in_i, e0, e1, if_pos (show 0 ≤ (nI i).toInt ∧ (nI i).toInt ≤ 1 by omega)]
    simp only [i10, if_false]
    rcases g2 with g2 | ⟨g2, T, g3, g4, g5⟩
    · refine ⟨-(nI 2), μ, jsi μ 201 0 0, by rw [g2, if_pos (by decide)], ?_, sim_thr h⟩
      show jrd ((jsi μ 201 0 (0 : Int32)).1 223) _ _ _ = _
      rw [jrd_n hi (by decide), jsi_ne (by decide), ← g1, g2, if_pos (by decide)]
    · obtain ⟨μ1, a1, a2, a3⟩ := c_tellO hS.2.1 g4 v0 g3 (by omega) (by omega)
      have F : CFr μ μ1 := CFr.row a3
      have hM1 : RM σ (jsi μ1 201 0 0) := (hM.fc F).thr (by decide)
      have hK : RW (11 + i) T (jsi μ1 201 0 0) := g5.fr (by rw [jsi_ne (by decide), (a3 204 (by decide)).1])
      obtain ⟨μ2, b1, b2, b3, b4⟩ := r_others hK (hM1.2.1 0 (Nat.zero_le _)) (by omega) (by decide) g3 v0 hM1
      rw [dfl_sym g3 v0] at b1 b2
      refine ⟨nI (dfl (σ.2.1 0) T 31).length, μ1, μ2, ?_, ?_, rel_row h hv (hS.fc h9 a3 (fun c q => by obtain ⟨q1, q2⟩ := q; omega)) F b3 ((RCr.thr (by decide)).tr b4) a2 b2 (by rw [lI_len]; exact dfl_22 _ _)⟩
      · rw [g2, if_neg (by decide), jin_n hi (by decide), nI_clamp (by omega), show 0 + 189 + 6 * i = 189 + 6 * i by omega]
        exact a1
      · show jrd ((jsi μ1 201 0 (0 : Int32)).1 223) _ _ _ = _
        rw [jrd_n hi (by decide), jsi_ne (by decide), (a3 223 (by decide)).1, ← g1, g2, if_neg (by decide), jlit 11, nI_add]
        exact b1
  · refine ⟨-1, μ, jsi μ 201 0 0, ?_, ?_, sim_thr h⟩
    · by_cases c1 : x < 0
      · rw [if_pos c1]
      · rw [if_neg c1, if_neg]
        intro z
        rw [i32_lt] at c1 z
        rw [e00] at c1
        rw [e2] at z
        exact c ⟨by omega, z⟩
    · rw [in_i, e0, e1, if_neg (show ¬ (0 ≤ x.toInt ∧ x.toInt ≤ 1) from fun q => c ⟨q.1, by omega⟩), if_pos (by decide)]
/-- levels on whose trail a thing is -/
def snn (σ : SS) (t : Nat) : Nat → Nat
  | 0 => 0
  | k + 1 => snn σ t k ||| (if t ∈ σ.2.2 (k + 1) then 2 ^ (k + 1) else 0)
theorem snn_lt (σ : SS) (t : Nat) : ∀ k, k ≤ 9 → snn σ t k < 1024
  | 0, _ => by show 0 < 1024; omega
  | k + 1, h => by
    have := snn_lt σ t k (by omega)
    unfold snn
    refine Nat.or_lt_two_pow (n := 10) this ?_
    by_cases c : t ∈ σ.2.2 (k + 1)
    · rw [if_pos c]; exact Nat.pow_lt_pow_right (by decide) (by omega)
    · rw [if_neg c]; decide
