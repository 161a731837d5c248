/-! commits; what was heard; the text; what was kept -/
theorem sim_commits {μ : jM} (h : Rel μ) : ∃ r μ1 μ2, f_X11_commits 0 μ = some (r, μ1) ∧ f_X12_commits 201 μ1 = some (r, μ2) ∧ Rel μ2 := by
  obtain ⟨⟨σ, hv, hS, hM⟩, -⟩ := id h
  have h9 := hv.1
  have e5 : μ.1 (0 + 5) 2 = nI σ.1 := hS.1
  unfold f_X11_commits f_X12_commits
  simp only [jbd_e]
  rw [e5]
  by_cases c : σ.1 = 0
  · have hM1 : RM σ (jsi μ 201 0 0) := hM.thr (by decide)
    refine ⟨-2, μ, jsi μ 201 0 0, by rw [c, if_pos (by decide)], ?_, rel_mk h hv hS jFr.rf hM1 (RC.thr (by decide))⟩
    have ec : f_X12_commitsOne 201 (jsi μ 201 0 0) = some (-2, jsi μ 201 0 0) := by
      unfold f_X12_commitsOne
      rw [hM1.1, c, if_pos (by decide)]
    rw [jcl2_e ec, if_pos (by decide)]
  · obtain ⟨m1, a1, a2, a3⟩ := c_commit hS hv (by omega)
    have hvc := hv.com (show 0 < σ.1 by omega)
    have dc : (com σ).1 = σ.1 - 1 := rfl
    have F1 : CF μ m1 := CA5 (a3.mono (fun c hc => Or.inl hc))
    -- how many things on that trail
    have hlen : ∀ j, j < (com σ).1 → ((com σ).2.2 (j + 1)).length ≤ 22 := fun j hj => (hvc.2.2 j hj).len
    have hz : ∃ z : Nat, z ≤ 22 ∧ (σ.1 = 1 → z = 0) ∧ (σ.1 ≠ 1 → z = ((com σ).2.2 (σ.1 - 1)).length) := by
      by_cases c1 : σ.1 = 1
      · exact ⟨0, by omega, fun _ => rfl, fun q => absurd c1 q⟩
      · refine ⟨((com σ).2.2 (σ.1 - 1)).length, ?_, fun q => absurd q c1, fun _ => rfl⟩
        have := hlen (σ.1 - 2) (by rw [dc]; omega)
        rw [show σ.1 - 2 + 1 = σ.1 - 1 by omega] at this
        exact this
    obtain ⟨z, hz22, hz1, hz2⟩ := hz
    obtain ⟨m2, b1, b2, b3⟩ := c_only m1 (nI z).toInt64
    obtain ⟨m3, c1, c2, c3⟩ := c_tellR b2 (by show 1 < 22; omega) (nI (shr σ)).toInt64
    have hS2 : RS 5 (com σ) m3 := (a2.fc hvc.1 b3 (fun c q => by obtain ⟨q1, q2⟩ := q; omega)).fc hvc.1 c3 (fun c q => by obtain ⟨q1, q2⟩ := q; omega)
    have F : CFr μ m3 := (F1.r.tr (CFr.row b3)).tr (CFr.row c3)
    have hM1 : RM σ (jsi m3 201 0 0) := (hM.fc F).thr (by decide)
    obtain ⟨r1, d1, d2, d3, d4, d5, d6⟩ := r_commit hM1 hv (by omega)
    have hw0 := r_told0 r1
    obtain ⟨r2, g1, g2, g3, g4⟩ := r_enters hw0 (by decide) (nI z).toInt64
    obtain ⟨r3, k1, k2, k3, k4⟩ := r_enters g2 (by show 1 < 40; omega) (nI (shr σ)).toInt64
    have e15 : r2.1 201 15 = nI (shr σ) := by rw [g4 15 (by decide), jsi_pl (by decide)]; exact d3
    refine ⟨nI (σ.1 - 1), m3, r3, ?_, ?_, ?_⟩
    · have e7 : m1.1 (0 + 5) 2 = nI (σ.1 - 1) := a2.1
      have e8 : m3.1 (0 + 5) 2 = nI (σ.1 - 1) := hS2.1
      have a1' : f_X7_commitLevel (0 + 5) μ = some (nI (shr σ), m1) := a1
      have c1' : f_X3_tell (0 + 3) (nI (shr σ)).toInt64 m2 = some m3 := c1
      have k : ∀ t : Int64, t = (nI z).toInt64 → jcl (f_X3_only (0 + 3) t m1) (fun m9 => jcl (f_X3_tell (0 + 3) ((nI (shr σ)).toInt64) m9) (fun m11 => some ((m11.1 (0 + 5) 2, m11)))) = some (nI (σ.1 - 1), m3) := fun t ht => by
        rw [ht, jcl_e (show f_X3_only (0 + 3) (nI z).toInt64 m1 = some m2 from b1), jcl_e c1', e8]
      rw [if_neg (nI_ne0 (by omega) (by omega)), jcl2_e a1', e7]
      by_cases q : σ.1 = 1
      · rw [q, if_pos (by decide)]
        rw [q] at k
        exact k _ (by rw [hz1 q]; rfl)
      · have e2 : nI (σ.1 - 1) - (1 : Int32) = nI (σ.1 - 2) := by rw [jlit 1, pk_sub (by omega)]; congr 1
        rw [if_neg (nI_ne0 (by omega) (by omega)), e2, jin_n (by omega) (by decide), nI_clamp (by omega)]
        refine k _ ?_
        have := (a2.2.2 (σ.1 - 2) (by rw [dc]; omega)).2.1
        rw [show σ.1 - 2 + 1 = σ.1 - 1 by omega] at this
        rw [hz2 q, show 0 + 13 + 8 * (σ.1 - 2) = 5 + 8 + 8 * (σ.1 - 2) by omega, this]
    · rw [jcl2_e d1, if_neg (nI_pos (by omega))]
      have k : ∀ t : Int64, t = (nI z).toInt64 → jcl (f_X12_enters 201 t (jsi r1 201 1 0)) (fun m13 => jcl (f_X12_enters 201 ((m13.1 201 15).toInt64) m13) (fun m15 => some ((nI (σ.1 - 1), m15)))) = some (nI (σ.1 - 1), r3) := fun t ht => by
        rw [ht, jcl_e g1, e15, jcl_e k1]
      by_cases q : σ.1 = 1
      · rw [if_pos (by rw [q]; rfl)]
        exact k _ (by rw [hz1 q]; rfl)
      · rw [if_neg (nI_ne0 (by omega) (by omega))]
        show jrd ((jsi r1 201 1 (0 : Int32)).1 206) _ _ _ = _
        rw [jrd_n (n := 10) (by omega) (by decide), jsi_ne (by decide)]
        refine k _ ?_
        have := (d2.2.2 (σ.1 - 2) (by rw [dc]; omega)).1
        rw [show σ.1 - 2 + 1 = σ.1 - 1 by omega] at this
        rw [hz2 q, this]
    · have q0 : RM (com σ) (jsi r1 201 1 0) := d2.thr (by decide)
      have q1 : RM (com σ) r2 := q0.fr (g4 9 (by decide)) (g3 204 (by decide)).1 (g3 205 (by decide)).1 (g3 206 (by decide)).1
      have q2 : RM (com σ) r3 := q1.fr (k4 9 (by decide)) (k3 204 (by decide)).1 (k3 205 (by decide)).1 (k3 206 (by decide)).1
      refine rel_row h hvc hS2 F q2 ?_ c2 k2 (by show 2 ≤ 22; omega)
      exact ((((RCr.thr (by decide)).tr (RC.r ⟨d5.mono (fun c hc => by omega), MF.of d4, fun k hk => d6 k (by omega) (by omega)⟩)).tr (RCr.thr (by decide))).tr (RCr.ent g3 g4)).tr (RCr.ent k3 k4)
theorem one_i (x : Int32) : (0 ≤ x.toInt ∧ x.toInt ≤ 1) ↔ (¬ x < 0 ∧ x ≤ 1) := by
  have e0 : (0 : Int32).toInt = 0 := by decide
  have e1 : (1 : Int32).toInt = 1 := by decide
  rw [i32_lt, i32_le, e0, e1]
  omega
/-- what HR wants of the rest -/
theorem rel_hr {μ μ2 : jM} (h : Rel μ) (hs : ∀ c, c ≠ 201 → ¬ (181 ≤ c ∧ c ≤ 184) → ¬ (220 ≤ c ∧ c ≤ 222) → μ2.1 c = μ.1 c ∧ μ2.2 c = μ.2 c) (hf : ∀ k, k ≠ 0 → k ≠ 37 → μ2.1 201 k = μ.1 201 k) (hh : HR μ2) : Rel μ2 := by
  obtain ⟨⟨σ, hv, hS, hM⟩, ht, hr, -, hk⟩ := h
  refine ⟨⟨σ, hv, hS.fr hv.1 (fun c hc => (hs c (by obtain ⟨q1, q2⟩ := hc; omega) (by obtain ⟨q1, q2⟩ := hc; omega) (by obtain ⟨q1, q2⟩ := hc; omega)).1), hM.fr (hf 9 (by decide) (by decide)) (hs 204 (by decide) (by decide) (by decide)).1 (hs 205 (by decide) (by decide) (by decide)).1 (hs 206 (by decide) (by decide) (by decide)).1⟩, ?_, ?_, hh, ?_⟩
  · exact ht.fr (hs 1 (by decide) (by decide) (by decide)).1 (hs 2 (by decide) (by decide) (by decide)).1 (hs 203 (by decide) (by decide) (by decide)).1 (hf 4 (by decide) (by decide))
  · exact hr.fr (hs 3 (by decide) (by decide) (by decide)).1 (hs 4 (by decide) (by decide) (by decide)).2 (hs 202 (by decide) (by decide) (by decide)).2 (hf 1 (by decide) (by decide))
  · exact hk.fr (fun c hc => (hs c (by omega) (by omega) (by omega)).1) (MF.of (hs 204 (by decide) (by decide) (by decide)).1)
theorem sim_thr {μ : jM} (h : Rel μ) : Rel (jsi μ 201 0 (0 : Int32)) := by
  obtain ⟨⟨σ, hv, hS, hM⟩, -⟩ := id h
  exact rel_mk h hv hS jFr.rf (hM.thr (by decide)) (RC.thr (by decide))
theorem sim_heard {μ : jM} (h : Rel μ) (x v b : Int32) : ∃ r μ1 μ2, f_X11_heard 0 x v b μ = some (r, μ1) ∧ f_X12_heard 201 x v b μ1 = some (r, μ2) ∧ Rel μ2 := by
  obtain ⟨n, hn, n1, n2, n3⟩ := h.2.2.2.1
  have e0 : (0 : Int64).toInt = 0 := by decide
  have e1 : (1 : Int64).toInt = 1 := by decide
  have n2' : (jsi μ 201 0 (0 : Int32)).1 201 37 = nI n := by rw [jsi_pl (by decide)]; exact n2
  unfold f_X11_heard f_X12_heard
  simp only [jbd_e, jcl2_id]
  rw [var_i, value_i]
  by_cases c : (0 ≤ x.toInt ∧ x.toInt < 5) ∧ (0 ≤ v.toInt ∧ v.toInt < 6) ∧ (0 ≤ b.toInt ∧ b.toInt ≤ 1)
  · obtain ⟨ca, cb, cc⟩ := c
    have cc' := (one_i b).mp cc
    rw [if_pos ca, if_pos cb, if_neg (by decide), if_neg (by decide), if_neg cc'.1, if_pos cc'.2]
    rw [rvar_i, rvalue_i, in_i, e0, e1, if_pos ca, if_pos cb, if_pos cc]
    simp only [i10, if_false]
    obtain ⟨x', hx, rfl⟩ := nI_iof (n := 5) ca (by decide)
    obtain ⟨v', hv', rfl⟩ := nI_iof (n := 6) cb (by decide)
    obtain ⟨b', hb, rfl⟩ := nI_iof (n := 2) (x := b) ⟨cc.1, by omega⟩ (by decide)
    by_cases c10 : n = 10
    · refine ⟨-1, μ, jsi μ 201 0 0, ?_, ?_, sim_thr h⟩
      · unfold f_X0_add
        show (if μ.1 181 3 < (10 : Int32) then _ else _) = _
        rw [n1, c10, if_neg (by decide)]
      · rw [n2', c10, if_pos (by rfl)]
    · have hc : f_X0_add (0 + 181) (nI x') (nI v') (nI b') μ = some (nI (n + 1), jsi (jsi (jsi (jsi μ 182 n (nI x')) 183 n (nI v')) 184 n (nI b')) 181 3 (nI (n + 1))) := by
        unfold f_X0_add
        show (if μ.1 181 3 < (10 : Int32) then jin (μ.1 181 3) _ _ else _) = _
        rw [n1, jlit 10, if_pos (nI_lt (by omega) (by decide)), jin_n (by omega) (by decide), nI_clamp (by omega), jbd_e]
        show jin ((jsi μ 182 n (nI x')).1 181 3) _ _ = _
        rw [jsi_ne (by decide), n1, jin_n (by omega) (by decide), nI_clamp (by omega), jbd_e]
        show jin ((jsi (jsi μ 182 n (nI x')) 183 n (nI v')).1 181 3) _ _ = _
        rw [jsi_ne (by decide), jsi_ne (by decide), n1, jin_n (by omega) (by decide), nI_clamp (by omega), jbd_e]
        show jbd (jsi _ 181 3 ((jsi (jsi (jsi μ 182 n (nI x')) 183 n (nI v')) 184 n (nI b')).1 181 3 + 1)) _ = _
        rw [jsi_ne (by decide), jsi_ne (by decide), jsi_ne (by decide), n1, nI_1, jbd_e]
        show some ((jsi _ 181 3 _).1 181 3, _) = _
        rw [jsi_at]
      rw [hc]
      refine ⟨_, _, jsi (jsi (jsi (jsi (jsi (jsi (jsi (jsi (jsi μ 182 n (nI x')) 183 n (nI v')) 184 n (nI b')) 181 3 (nI (n + 1))) 201 0 0) 220 n (nI x')) 221 n (nI v')) 222 n (nI b')) 201 37 (nI (n + 1)), rfl, ?_, ?_⟩
      · generalize hm : jsi (jsi (jsi (jsi μ 182 n (nI x')) 183 n (nI v')) 184 n (nI b')) 181 3 (nI (n + 1)) = m
        have q : m.1 201 37 = nI n := by rw [← hm, jsi_ne (by decide), jsi_ne (by decide), jsi_ne (by decide), jsi_ne (by decide)]; exact n2
        rw [jsi_pl (by decide), q, jlit 10, if_neg (fun z => c10 ((nI_eq (by omega) (by decide)).mp z)), jin_n (by omega) (by decide), nI_clamp (by omega)]
        show jin ((jsi (jsi m 201 0 0) 220 n (nI x')).1 201 37) _ _ = _
        rw [jsi_ne (by decide), jsi_pl (by decide), q, jin_n (by omega) (by decide), nI_clamp (by omega)]
        show jin ((jsi (jsi (jsi m 201 0 0) 220 n (nI x')) 221 n (nI v')).1 201 37) _ _ = _
        rw [jsi_ne (by decide), jsi_ne (by decide), jsi_pl (by decide), q, jin_n (by omega) (by decide), nI_clamp (by omega)]
        rw [jsi_at]
        show some ((jsi (jsi (jsi (jsi m 201 0 0) 220 n (nI x')) 221 n (nI v')) 222 n (nI b')).1 201 37 + 1, jsi (jsi (jsi (jsi (jsi m 201 0 0) 220 n (nI x')) 221 n (nI v')) 222 n (nI b')) 201 37 ((jsi (jsi (jsi (jsi m 201 0 0) 220 n (nI x')) 221 n (nI v')) 222 n (nI b')).1 201 37 + 1)) = _
        rw [jsi_ne (by decide), jsi_ne (by decide), jsi_ne (by decide), jsi_pl (by decide), q, nI_1]
      · refine rel_hr h (fun c q1 q2 q3 => ⟨?_, rfl⟩) (fun k k1 k2 => ?_) ⟨n + 1, by omega, ?_, jsi_at _ _ _ _, fun i hi => ?_⟩
        · rw [jsi_ne q1, jsi_ne (by omega), jsi_ne (by omega), jsi_ne (by omega), jsi_ne q1, jsi_ne (by omega), jsi_ne (by omega), jsi_ne (by omega), jsi_ne (by omega)]
        · rw [jsi_pl k2, jsi_ne (by decide), jsi_ne (by decide), jsi_ne (by decide), jsi_pl k1, jsi_ne (by decide), jsi_ne (by decide), jsi_ne (by decide), jsi_ne (by decide)]
        · rw [jsi_ne (by decide), jsi_ne (by decide), jsi_ne (by decide), jsi_ne (by decide), jsi_ne (by decide), jsi_at]
        · have ne : ∀ (c : Nat), c ≠ 201 → c ≠ 181 → ∀ (m : jM) (u w z : Int32), True := fun _ _ _ _ _ _ _ => trivial
          by_cases ci : i = n
          · subst ci
            refine ⟨x', v', b', hx, hv', hb, ?_, ?_, ?_, ?_, ?_, ?_⟩
            · rw [jsi_ne (by decide), jsi_ne (by decide), jsi_ne (by decide), jsi_ne (by decide), jsi_ne (by decide), jsi_ne (by decide), jsi_ne (by decide), jsi_ne (by decide), jsi_at]
            · rw [jsi_ne (by decide), jsi_ne (by decide), jsi_ne (by decide), jsi_ne (by decide), jsi_ne (by decide), jsi_ne (by decide), jsi_ne (by decide), jsi_at]
            · rw [jsi_ne (by decide), jsi_ne (by decide), jsi_ne (by decide), jsi_ne (by decide), jsi_ne (by decide), jsi_ne (by decide), jsi_at]
            · rw [jsi_ne (by decide), jsi_ne (by decide), jsi_ne (by decide), jsi_at]
            · rw [jsi_ne (by decide), jsi_ne (by decide), jsi_at]
            · rw [jsi_ne (by decide), jsi_at]
          · obtain ⟨y1, y2, y3, g1, g2, g3, g4, g5, g6, g7, g8, g9⟩ := n3 i (by omega)
            refine ⟨y1, y2, y3, g1, g2, g3, ?_, ?_, ?_, ?_, ?_, ?_⟩
            · rw [jsi_ne (by decide), jsi_ne (by decide), jsi_ne (by decide), jsi_ne (by decide), jsi_ne (by decide), jsi_ne (by decide), jsi_ne (by decide), jsi_ne (by decide), jsi_pl ci]; exact g4
            · rw [jsi_ne (by decide), jsi_ne (by decide), jsi_ne (by decide), jsi_ne (by decide), jsi_ne (by decide), jsi_ne (by decide), jsi_ne (by decide), jsi_pl ci, jsi_ne (by decide)]; exact g5
            · rw [jsi_ne (by decide), jsi_ne (by decide), jsi_ne (by decide), jsi_ne (by decide), jsi_ne (by decide), jsi_ne (by decide), jsi_pl ci, jsi_ne (by decide), jsi_ne (by decide)]; exact g6
            · rw [jsi_ne (by decide), jsi_ne (by decide), jsi_ne (by decide), jsi_pl ci, jsi_ne (by decide), jsi_ne (by decide), jsi_ne (by decide), jsi_ne (by decide), jsi_ne (by decide)]; exact g7
            · rw [jsi_ne (by decide), jsi_ne (by decide), jsi_pl ci, jsi_ne (by decide), jsi_ne (by decide), jsi_ne (by decide), jsi_ne (by decide), jsi_ne (by decide), jsi_ne (by decide)]; exact g8
            · rw [jsi_ne (by decide), jsi_pl ci, jsi_ne (by decide), jsi_ne (by decide), jsi_ne (by decide), jsi_ne (by decide), jsi_ne (by decide), jsi_ne (by decide), jsi_ne (by decide)]; exact g9
  · refine ⟨-1, μ, jsi μ 201 0 0, ?_, ?_, sim_thr h⟩
    · by_cases c1 : 0 ≤ x.toInt ∧ x.toInt < 5
      · by_cases c2 : 0 ≤ v.toInt ∧ v.toInt < 6
        · rw [if_pos c1, if_pos c2, if_neg (by decide), if_neg (by decide)]
          by_cases c3 : b < 0
          · rw [if_pos c3]
          · rw [if_neg c3, if_neg (fun q => c ⟨c1, c2, (one_i b).mpr ⟨c3, q⟩⟩)]
        · rw [if_pos c1, if_neg c2, if_neg (by decide), if_pos (by decide)]
      · rw [if_neg c1, if_pos (by decide)]
    · rw [rvar_i, rvalue_i, in_i, e0, e1]
      by_cases c1 : 0 ≤ x.toInt ∧ x.toInt < 5
      · by_cases c2 : 0 ≤ v.toInt ∧ v.toInt < 6
        · rw [if_pos c1, if_pos c2, if_neg (by decide), if_neg (by decide), if_neg (fun q => c ⟨c1, c2, q⟩), if_pos (by decide)]
        · rw [if_pos c1, if_neg c2, if_neg (by decide), if_pos (by decide)]
      · rw [if_neg c1, if_pos (by decide)]
theorem sim_forget {μ : jM} (h : Rel μ) : ∃ r μ1 μ2, f_X11_forget 0 μ = (r, μ1) ∧ f_X12_forget 201 μ1 = (r, μ2) ∧ Rel μ2 := by
  obtain ⟨n, hn, n1, n2, n3⟩ := h.2.2.2.1
  unfold f_X11_forget f_X12_forget
  simp only [jbd_e]
  refine ⟨nI n, jsi μ 181 3 0, jsi (jsi (jsi μ 181 3 0) 201 0 0) 201 37 0, ?_, ?_, ?_⟩
  · show (μ.1 181 3, _) = _
    rw [n1]
  · rw [jsi_pl (by decide), jsi_ne (by decide), n2]
  · refine rel_hr h (fun c q1 q2 q3 => ⟨?_, rfl⟩) (fun k k1 k2 => ?_) ⟨0, by omega, ?_, jsi_at _ _ _ _, fun i hi => absurd hi (Nat.not_lt_zero i)⟩
    · rw [jsi_ne q1, jsi_ne q1, jsi_ne (by omega)]
    · rw [jsi_pl k2, jsi_pl k1, jsi_ne (by decide)]
    · rw [jsi_ne (by decide), jsi_ne (by decide), jsi_at]; rfl
theorem sim_keep {μ : jM} (h : Rel μ) (x : Int32) : ∃ r μ1 μ2, f_X11_keep 0 x μ = some (r, μ1) ∧ f_X12_keep 201 x μ1 = some (r, μ2) ∧ Rel μ2 := by
  obtain ⟨⟨σ, hv, hS, hM⟩, ht, hr, hh, hk⟩ := id h
  have e0 : (0 : Int64).toInt = 0 := by decide
  have e1 : (1 : Int64).toInt = 1 := by decide
  have e00 : (0 : Int32).toInt = 0 := by decide
  have e2 : (2 : Int32).toInt = 2 := by decide
  unfold f_X11_keep f_X12_keep
  simp only [jbd_e]
  by_cases c : 0 ≤ x.toInt ∧ x.toInt < 2
  · obtain ⟨i, hi, rfl⟩ := nI_iof (n := 2) c (by decide)
    obtain ⟨m1, a1, a2, a3⟩ := c_become (a := 189 + 6 * i) hS.2.1 (by omega)
    have a1' : f_X9_become (0 + 189 + 6 * i) (0 + 6) μ = some m1 := by rw [show 0 + 189 + 6 * i = 189 + 6 * i by omega]; exact a1
    have hM1 : RM σ (jsi (jsi m1 186 i 1) 201 0 0) := by
      refine (hM.fr ?_ ?_ ?_ ?_).thr (by decide)
      · rw [jsi_ne (by decide), (a3 201 (by omega)).1]
      · rw [jsi_ne (by decide), (a3 204 (by omega)).1]
      · rw [jsi_ne (by decide), (a3 205 (by omega)).1]
      · rw [jsi_ne (by decide), (a3 206 (by omega)).1]
    have hM2 : RM σ (jsi (jsi (jsi m1 186 i 1) 201 0 0) 223 i 1) := hM1.fr (by rw [jsi_ne (by decide)]) (jsi_ne (by decide)) (jsi_ne (by decide)) (jsi_ne (by decide))
    obtain ⟨m2, b1, b2, b3, b4⟩ := r_copies2 (b := 11 + i) (hM2.2.1 0 (Nat.zero_le _)) (by decide) (by omega) (by omega)
    have b1' : f_X12_copies 201 (0 : Int32) ((11 : Int32) + nI i) (jsi (jsi (jsi m1 186 i 1) 201 0 0) 223 i 1) = some m2 := by rw [jlit 11, nI_add]; exact b1
    refine ⟨1, jsi m1 186 i 1, m2, ?_, ?_, ?_⟩
    · rw [if_neg (nI_pos (by omega)), jlit 2, if_pos (nI_lt hi (by decide)), jin_n hi (by decide), nI_clamp (by omega), jcl_e a1', jin_n hi (by decide)]
    · rw [in_i, e0, e1, if_pos (show 0 ≤ (nI i).toInt ∧ (nI i).toInt ≤ 1 by omega), if_neg (by decide), jin_n hi (by decide), nI_clamp (by omega)]
      rw [jcl_e b1']
    · have kc : ∀ c, c ≠ 204 → c ≠ 223 → c ≠ 201 → c ≠ 186 → ¬ (189 + 6 * i ≤ c ∧ c ≤ 189 + 6 * i + 5) → m2.1 c = μ.1 c ∧ m2.2 c = μ.2 c := fun c q1 q2 q3 q4 q5 => by
        refine ⟨?_, ?_⟩
        · rw [(b4 c q1).1, jsi_ne q2, jsi_ne q3, jsi_ne q4, (a3 c q5).1]
        · rw [(b4 c q1).2]
          exact (a3 c q5).2
      have k201 : ∀ k, k ≠ 0 → m2.1 201 k = μ.1 201 k := fun k hk => by rw [(b4 201 (by decide)).1, jsi_ne (by decide), jsi_pl hk, jsi_ne (by decide), (a3 201 (by omega)).1]
      have hw : ∀ w, w < 34 → w ≠ 11 + i → ∀ k, k < 61 → m2.1 204 (61 * w + k) = μ.1 204 (61 * w + k) := fun w hw hn k hk => by
        rw [b3 w hw hn k hk, jsi_ne (by decide), jsi_ne (by decide), jsi_ne (by decide), (a3 204 (by omega)).1]
      refine ⟨⟨σ, hv, ?_, ?_⟩, ?_, ?_, ?_, ?_⟩
      · exact hS.fr hv.1 (fun c hc => (kc c (by obtain ⟨q1, q2⟩ := hc; omega) (by obtain ⟨q1, q2⟩ := hc; omega) (by obtain ⟨q1, q2⟩ := hc; omega) (by obtain ⟨q1, q2⟩ := hc; omega) (by obtain ⟨q1, q2⟩ := hc; omega)).1)
      · refine ⟨by rw [k201 9 (by decide)]; exact hM.1, fun j hj => ?_, fun j hj => (hM.2.2 j hj).fr (kc 205 (by decide) (by decide) (by decide) (by decide) (by omega)).1 (kc 206 (by decide) (by decide) (by decide) (by decide) (by omega)).1⟩
        have := hv.1
        exact fun k hk => (hw j (by omega) (by omega) k hk).trans (hM.2.1 j hj k hk)
      · exact ht.fr (kc 1 (by decide) (by decide) (by decide) (by decide) (by omega)).1 (kc 2 (by decide) (by decide) (by decide) (by decide) (by omega)).1 (kc 203 (by decide) (by decide) (by decide) (by decide) (by omega)).1 (k201 4 (by decide))
      · exact hr.fr (kc 3 (by decide) (by decide) (by decide) (by decide) (by omega)).1 (kc 4 (by decide) (by decide) (by decide) (by decide) (by omega)).2 (kc 202 (by decide) (by decide) (by decide) (by decide) (by omega)).2 (k201 1 (by decide))
      · exact hh.fr (fun c hc => (kc c (by omega) (by omega) (by omega) (by omega) (by omega)).1) (k201 37 (by decide))
      · intro j hj
        have z186 : m2.1 186 = upd (μ.1 186) i 1 := by rw [(b4 186 (by decide)).1, jsi_ne (by decide), jsi_ne (by decide), jsi_self, (a3 186 (by omega)).1]
        have z223 : m2.1 223 = upd (μ.1 223) i 1 := by rw [(b4 223 (by decide)).1, jsi_self, jsi_ne (by decide), jsi_ne (by decide), (a3 223 (by omega)).1]
        rw [z186, z223]
        by_cases cj : j = i
        · subst cj
          rw [pk_us, pk_us]
          refine ⟨rfl, Or.inr ⟨rfl, σ.2.1 0, hv.2.1 0 (Nat.zero_le _), ?_, b2⟩⟩
          exact a2.fr (fun c q1 q2 => by rw [(b4 c (by omega)).1, jsi_ne (by omega), jsi_ne (by omega), jsi_ne (by omega)])
        · rw [pk_un cj, pk_un cj]
          obtain ⟨g1, g2⟩ := hk j hj
          refine ⟨g1, ?_⟩
          rcases g2 with g2 | ⟨g2, T, g3, g4, g5⟩
          · exact Or.inl g2
          · exact Or.inr ⟨g2, T, g3, g4.fr (fun c q1 q2 => (kc c (by omega) (by omega) (by omega) (by omega) (by omega)).1), fun k hk => (hw (11 + j) (by omega) (by omega) k hk).trans (g5 k hk)⟩
  · refine ⟨0, μ, jsi μ 201 0 0, ?_, ?_, sim_thr h⟩
    · by_cases c1 : x < 0
      · rw [if_pos c1]
      · rw [if_neg c1, if_neg]
        intro z
        rw [i32_lt] at c1 z
        rw [e00] at c1
        rw [e2] at z
        exact c ⟨by omega, z⟩
    · rw [in_i, e0, e1, if_neg (show ¬ (0 ≤ x.toInt ∧ x.toInt ≤ 1) from fun q => c ⟨q.1, by omega⟩), if_pos (by decide)]
