/-! search -/
theorem sim_search {μ : jM} (h : Rel μ) (x : Int32) : ∃ r μ1 μ2, f_X11_search 0 x μ = some (r, μ1) ∧ f_X12_search 201 x μ1 = some (r, μ2) ∧ Rel μ2 := by
  obtain ⟨⟨σ, hv, hS, hM⟩, -⟩ := id h
  have h0 := hv.2.1 0 (Nat.zero_le _)
  have h9 := hv.1
  have e0 : (0 : Int64).toInt = 0 := by decide
  have e2 : (2 : Int64).toInt = 2 := by decide
  have i0 : (0 : Int32).toInt = 0 := by decide
  have i2 : (2 : Int32).toInt = 2 := by decide
  by_cases cx : 0 ≤ x.toInt ∧ x.toInt ≤ 2
  · obtain ⟨W, hW, hx⟩ := nI_iof (x := x) (n := 3) ⟨by omega, by omega⟩ (by decide)
    have n1 : ¬ x < (0 : Int32) := by rw [Int32.lt_iff_toInt_lt, i0]; omega
    have n2 : x ≤ (2 : Int32) := by rw [Int32.le_iff_toInt_le, i2]; omega
    have n3 : ¬ f_X12_in x.toInt64 (0 : Int64) (2 : Int64) = 0 := by rw [in_i, e0, e2, if_pos cx]; decide
    clear cx
    subst hx
    obtain ⟨r, wc, wr0, n, F, D, C, a1, a2, a3, a4, a5, a6, a7⟩ := joint hS hv hM hW
    obtain ⟨-, b2, b3, b4, b5, b6⟩ := a3
    have F0 : CF μ wc := a5.mono (fun c hc => by unfold CFs; omega)
    have hSc : RS 5 σ wc := hS.fc h9 a5 (fun c q z => by obtain ⟨q1, q2⟩ := q; omega)
    obtain ⟨m1, c1, c2, c3⟩ := c_only wc (nI n).toInt64
    obtain ⟨m2, d1, d2, d3⟩ := c_tellR c2 (by show 1 < 22; omega) F.toInt64
    obtain ⟨m3, f1, f2, f3⟩ := c_tellR d2 (by show 2 < 22; omega) D.toInt64
    obtain ⟨m4, g1, g2, g3⟩ := c_tellR f2 (by show 3 < 22; omega) C.toInt64
    have fm : jFr (fun c => c = 3 ∨ c = 4) wc m4 := ((c3.tr d3).tr f3).tr g3
    -- what the class tells at the end
    have clas : ∃ l M, (l = [] ∨ ∃ s : Nat → Nat, l = row5 (fun x => nI (s x))) ∧ (if r = (1 : Int32) then jcl (jloop (fun (s : Int32 × jM) => f_X11_search_L87 0 s.1 s.2) jfu (((0 : Int32), m4))) (fun w23 => some ((r, w23))) else some ((r, m4))) = some (r, M) ∧ RwC ([(nI n).toInt64] ++ [F.toInt64] ++ [D.toInt64] ++ [C.toInt64] ++ l) M ∧ jFr (fun c => c = 3 ∨ c = 4) m4 M ∧ (¬ r = 1 → l = []) ∧ (r = 1 → ∀ L, RLm 166 L wc → (∀ x, x < 5 → pc (L x) = 1) → l = row5 (fun x => f_J6_numberOfTrailingZeros_0f7a4 (nI (L x)))) := by
      by_cases cr : r = 1
      · rcases a7 with z | z | ⟨-, L, l1, -, l3⟩
        · rw [z] at cr; exact absurd cr (by decide)
        · rw [z] at cr; exact absurd cr (by decide)
        · obtain ⟨M, k1, k2, k3⟩ := jlpN (step := fun (s : Int32 × jM) => f_X11_search_L87 0 s.1 s.2) 5
            (fun k s => s.1 = nI k ∧ RwC ([(nI n).toInt64] ++ [F.toInt64] ++ [D.toInt64] ++ [C.toInt64] ++ (List.range k).map (fun x => (f_J6_numberOfTrailingZeros_0f7a4 (nI (L x))).toInt64)) s.2 ∧ jFr (fun c => c = 3 ∨ c = 4) m4 s.2)
            (fun w => RwC ([(nI n).toInt64] ++ [F.toInt64] ++ [D.toInt64] ++ [C.toInt64] ++ row5 (fun x => f_J6_numberOfTrailingZeros_0f7a4 (nI (L x)))) w ∧ jFr (fun c => c = 3 ∨ c = 4) m4 w)
            (fun k s hk hs => by
              obtain ⟨u, w⟩ := s
              obtain ⟨hu, t1, t2⟩ := hs
              have hu : u = nI k := hu
              subst hu
              have t1 : RwC _ w := t1
              have t2 : jFr (fun c => c = 3 ∨ c = 4) m4 w := t2
              obtain ⟨w2, v1, v2, v3⟩ := c_tellR t1 (by rw [List.length_append, List.length_map, List.length_range]; show 4 + k < 22; omega) (f_J6_numberOfTrailingZeros_0f7a4 (nI (L k))).toInt64
              refine ⟨(nI (k + 1), w2), ?_, rfl, by rw [rowk_s (fun x => f_J6_numberOfTrailingZeros_0f7a4 (nI (L x)))]; exact v2, t2.tr v3⟩
              dsimp only
              unfold f_X11_search_L87
              rw [jlit 5, if_neg (nI_ge hk (by decide))]
              show jrd (w.1 166) _ _ _ = _
              rw [jrd_n hk (by decide), (t2 166 (by decide)).1, (fm 166 (by decide)).1, (l1 k hk).1]
              show jcl (f_X3_tell 3 _ w) _ = _
              rw [jcl_e v1, nI_1])
            (fun s hs => by
              obtain ⟨u, w⟩ := s
              obtain ⟨hu, t1, t2⟩ := hs
              have hu : u = nI 5 := hu
              subst hu
              refine ⟨w, ?_, t1, t2⟩
              dsimp only
              unfold f_X11_search_L87
              rw [jlit 5, if_pos (nI_le (Nat.le_refl _) (by decide))])
            (i := 0) (n := jfu) (s := ((0 : Int32), m4)) (by omega) ⟨rfl, by simpa using g2, jFr.rf⟩ (jfu_lt (by omega))
          refine ⟨row5 (fun x => f_J6_numberOfTrailingZeros_0f7a4 (nI (L x))), M, Or.inr ⟨fun x => (f_J6_numberOfTrailingZeros_0f7a4 (nI (L x))).toNatClampNeg, ?_⟩, ?_, k2, k3, fun z => absurd cr z, fun _ L2 y1 y2 => ?_⟩
          · unfold row5
            refine List.map_congr_left (fun y hy => ?_)
            have hy := List.mem_range.mp hy
            obtain ⟨j, j1, -, j3⟩ := one_v (L y) (l1 y hy).2 (l3 y hy)
            dsimp only
            rw [j3, nI_clamp (by omega)]
          · rw [if_pos cr, jcl_e k1]
          · unfold row5
            refine List.map_congr_left (fun y hy => ?_)
            have hy := List.mem_range.mp hy
            have : nI (L y) = nI (L2 y) := (l1 y hy).1.symm.trans (y1 y hy).1
            dsimp only
            rw [this]
      · exact ⟨[], m4, Or.inl rfl, if_neg cr, by rw [List.append_nil]; exact g2, jFr.rf, fun _ => rfl, fun z => absurd z cr⟩
    obtain ⟨l, M, l0, l1, l2, l3, l4, l5⟩ := clas
    have F1 : CFr μ M := F0.r.tr (CFr.row (fm.tr l3))
    have hS2 : RS 5 σ M := hSc.fc h9 (fm.tr l3) (fun c q z => by obtain ⟨q1, q2⟩ := q; omega)
    have hM1 : RM σ (jsi M 201 0 0) := (hM.fc F1).thr (by decide)
    obtain ⟨r', wc', wr, n', F', D', C', p1, p2, p3, p4, p5, p6, p7⟩ := joint hS hv hM1 hW
    have ee := a1.symm.trans p1
    have ee1 : r = r' := congrArg (fun o : Option (Int32 × jM) => (o.getD (0, μ)).1) ee
    have ee2 : wc = wc' := congrArg (fun o : Option (Int32 × jM) => (o.getD (0, μ)).2) ee
    subst ee1
    subst ee2
    obtain ⟨-, -, o3, o4, o5, o6⟩ := p3
    have en : nI n' = nI n := o3.symm.trans b3
    have eF : F' = F := o4.symm.trans b4
    have eD : D' = D := o5.symm.trans b5
    have eC : C' = C := o6.symm.trans b6
    obtain ⟨-, w3, w4, w5, w6⟩ := p4
    rw [en] at w3
    rw [eF] at w4
    rw [eD] at w5
    rw [eC] at w6
    have hMr : RM σ wr := hM1.fr (p6.2.2 9 (by omega)) (p6.1 204 (by decide)).1 (p6.1 205 (by decide)).1 (p6.1 206 (by decide)).1
    have RCw : RCr M wr := (RCr.thr (k := 0) (v := 0) (by decide)).tr ⟨p6.1.mono (fun c hc => by omega), MF.of (p6.1 204 (by decide)).1, fun k hk => p6.2.2 k (by omega)⟩
    obtain ⟨x1, s1, s2, s3, s4⟩ := r_enters (r_told0 wr) (by show 0 < 40; omega) (nI n).toInt64
    obtain ⟨x2, t1, t2, t3, t4⟩ := r_enters s2 (by show 1 < 40; omega) F.toInt64
    obtain ⟨x3, u1, u2, u3, u4⟩ := r_enters t2 (by show 2 < 40; omega) D.toInt64
    obtain ⟨x4, v1, v2, v3, v4⟩ := r_enters u2 (by show 3 < 40; omega) C.toInt64
    have Q4 : Q9 wr x4 := (((Q9.told.tr (Q9.ent s3 s4)).tr (Q9.ent t3 t4)).tr (Q9.ent u3 u4)).tr (Q9.ent v3 v4)
    have refe : ∃ X, jloop (fun (s : Int32 × jM) => f_X12_search_L165 201 r s.1 s.2) jfu (((0 : Int32), x4)) = some X ∧ RwR ([(nI n).toInt64] ++ [F.toInt64] ++ [D.toInt64] ++ [C.toInt64] ++ l) X ∧ Q9 x4 X := by
      by_cases cr : r = 1
      · rcases p7 with z | z | ⟨-, L, y1, y2, y3⟩
        · rw [z] at cr; exact absurd cr (by decide)
        · rw [z] at cr; exact absurd cr (by decide)
        · rw [l5 cr L y1 y3]
          refine jlpN (step := fun (s : Int32 × jM) => f_X12_search_L165 201 r s.1 s.2) 5
            (fun k s => s.1 = nI k ∧ RwR ([(nI n).toInt64] ++ [F.toInt64] ++ [D.toInt64] ++ [C.toInt64] ++ (List.range k).map (fun x => (f_J6_numberOfTrailingZeros_0f7a4 (nI (L x))).toInt64)) s.2 ∧ Q9 x4 s.2)
            (fun w => RwR ([(nI n).toInt64] ++ [F.toInt64] ++ [D.toInt64] ++ [C.toInt64] ++ row5 (fun x => f_J6_numberOfTrailingZeros_0f7a4 (nI (L x)))) w ∧ Q9 x4 w)
            (fun k s hk hs => by
              obtain ⟨u, w⟩ := s
              obtain ⟨hu, t1, t2⟩ := hs
              have hu : u = nI k := hu
              subst hu
              have t1 : RwR _ w := t1
              have t2 : Q9 x4 w := t2
              obtain ⟨j, j1, j2, j3⟩ := one_v (L k) (y2 k hk).2 (y3 k hk)
              have ew : w.1 210 k = nI (2 ^ j) := by rw [((Q4.tr t2).1 210 (by decide)).1, (y2 k hk).1, j2]
              have p2j := pc_two j j1
              obtain ⟨vv, z1, z2⟩ := jlpN (step := fun (s : Int32) => f_X12_search_L178 201 (nI k) w s) j (fun i s => s = nI i) (fun s => s = nI j)
                (fun i s hi hs => by
                  subst hs
                  have p2i := pc_two i (by omega)
                  refine ⟨nI (i + 1), ?_, rfl⟩
                  try dsimp only
                  unfold f_X12_search_L178
                  show jrd (w.1 210) _ _ _ = _
                  rw [jrd_n hk (by decide), ew, shl_n _ (by omega), if_neg (fun z => by
                    have := (two_v j j1 i (by omega)).mp ((nI_eq (by omega) (by omega)).mp z)
                    omega), nI_1])
                (fun s hs => by
                  subst hs
                  refine ⟨nI j, ?_, rfl⟩
                  try dsimp only
                  unfold f_X12_search_L178
                  show jrd (w.1 210) _ _ _ = _
                  rw [jrd_n hk (by decide), ew, shl_n _ (by omega), if_pos rfl])
                (i := 0) (n := jfu) (s := (0 : Int32)) (by omega) rfl (jfu_lt (by omega))
              obtain ⟨w2, v1, v2, v3, v4⟩ := r_enters t1 (by rw [List.length_append, List.length_map, List.length_range]; show 4 + k < 40; omega) (f_J6_numberOfTrailingZeros_0f7a4 (nI (L k))).toInt64
              refine ⟨(nI (k + 1), w2), ?_, rfl, by rw [rowk_s (fun x => f_J6_numberOfTrailingZeros_0f7a4 (nI (L x)))]; exact v2, t2.tr (Q9.ent v3 v4)⟩
              dsimp only
              unfold f_X12_search_L165
              rw [j3] at v1
              rw [jlit 5, if_neg (nI_ge hk (by decide)), if_pos cr, jcl_e z1, z2, jcl_e v1, nI_1])
            (fun s hs => by
              obtain ⟨u, w⟩ := s
              obtain ⟨hu, t1, t2⟩ := hs
              have hu : u = nI 5 := hu
              subst hu
              refine ⟨w, ?_, t1, t2⟩
              dsimp only
              unfold f_X12_search_L165
              rw [jlit 5, if_pos (nI_le (Nat.le_refl _) (by decide))])
            (i := 0) (n := jfu) (s := ((0 : Int32), x4)) (by omega) ⟨rfl, by simpa using v2, Q9.rf⟩ (jfu_lt (by omega))
      · rw [l4 cr, List.append_nil]
        refine ⟨x4, ?_, v2, Q9.rf⟩
        refine jloop_x (n := 1999999) ?_
        dsimp only
        unfold f_X12_search_L165
        rw [if_neg (by decide), if_neg cr]
    obtain ⟨X, r1, r2, r3⟩ := refe
    have QX : Q9 wr X := Q4.tr r3
    refine ⟨r, M, X, ?_, ?_, rel_row h hv hS2 F1 (QX.rm hMr) (RCw.tr QX.rc) l2 r2 ?_⟩
    · unfold f_X11_search
      rw [if_neg n1, if_pos n2, jcl2_e (show f_X5_seek (0 + 170) (nI W) μ = some (r, wc) from a1)]
      show jcl (f_X3_only 3 ((wc.1 170 4).toInt64) wc) _ = _
      rw [b3, jcl_e c1]
      show jcl (f_X3_tell 3 ((m1.1 170 5).toInt64) m1) _ = _
      rw [(c3 170 (by decide)).1, b4, jcl_e d1]
      show jcl (f_X3_tell 3 ((m2.1 170 6).toInt64) m2) _ = _
      rw [((c3.tr d3) 170 (by decide)).1, b5, jcl_e f1]
      show jcl (f_X3_tell 3 ((m3.1 170 7).toInt64) m3) _ = _
      rw [(((c3.tr d3).tr f3) 170 (by decide)).1, b6, jcl_e g1]
      exact l1
    · unfold f_X12_search
      rw [jbd_e, if_neg n3]
      refine (p2 (fun t17 m18 => jbd (jsi m18 201 1 (0 : Int32)) (fun m22 => jcl (f_X12_enters 201 ((m22.1 201 28).toInt64) m22) (fun m24 => jcl (f_X12_enters 201 ((m24.1 201 29).toInt64) m24) (fun m26 => jcl (f_X12_enters 201 ((m26.1 201 30).toInt64) m26) (fun m28 => jcl (f_X12_enters 201 ((m28.1 201 31).toInt64) m28) (fun m30 => jcl (jloop (fun (s : Int32 × jM) => f_X12_search_L165 201 t17 s.1 s.2) jfu (((0 : Int32), m30))) (fun w47 => some ((t17, w47)))))))))).trans ?_
      try dsimp only
      rw [jbd_e, jsi_pl (by decide), w3, jcl_e s1, s4 29 (by decide), jsi_pl (by decide), w4, jcl_e t1, t4 30 (by decide), s4 30 (by decide), jsi_pl (by decide), w5, jcl_e u1, u4 31 (by decide), t4 31 (by decide), s4 31 (by decide), jsi_pl (by decide), w6, jcl_e v1, jcl_e r1]
    · rw [List.length_append]
      rcases l0 with z | ⟨s, z⟩
      · rw [z]; show 4 + 0 ≤ 22; omega
      · rw [z, row5_len]; show 4 + 5 ≤ 22; omega
  · refine ⟨-1, μ, _, ?_, ?_, sim_thr h⟩
    · unfold f_X11_search
      by_cases c1 : x < (0 : Int32)
      · rw [if_pos c1]
      · rw [if_neg c1, if_neg (by rw [Int32.le_iff_toInt_le, i2]; rw [Int32.lt_iff_toInt_lt, i0] at c1; omega)]
    · unfold f_X12_search
      rw [jbd_e, in_i, e0, e2, if_neg cx, if_pos rfl]
