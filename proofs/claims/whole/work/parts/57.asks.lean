/-! again; the text; as it was -/
theorem sim_again {μ : jM} (h : Rel μ) (x : Int32) : ∃ r μ1 μ2, f_X11_again 0 x μ = some (r, μ1) ∧ f_X12_again 201 x μ1 = some (r, μ2) ∧ Rel μ2 := by
  obtain ⟨⟨σ, hv, hS, hM⟩, ht, hr, hh, hk⟩ := id h
  have e0 : (0 : Int64).toInt = 0 := by decide
  have e1 : (1 : Int64).toInt = 1 := by decide
  have e00 : (0 : Int32).toInt = 0 := by decide
  have e2 : (2 : Int32).toInt = 2 := by decide
  unfold f_X11_again f_X12_again
  simp only [jbd_e]
  by_cases c : 0 ≤ x.toInt ∧ x.toInt < 2
  · obtain ⟨i, hi, rfl⟩ := nI_iof (n := 2) c (by decide)
    obtain ⟨g1, g2⟩ := hk i hi
    have r1 : jrd (μ.1 (0 + 186)) (nI i) 2 = fun (k : Int32 → Option (Int32 × jM)) => k (μ.1 186 i) := by
      funext k
      exact jrd_n hi (by decide)
    rw [jlit 2, if_neg (nI_pos (by omega)), if_neg (nI_ge hi (by decide)), r1]
    dsimp only
    rw [in_i, e0, e1, if_pos (show 0 ≤ (nI i).toInt ∧ (nI i).toInt ≤ 1 by omega)]
    simp only [i10, if_false]
    rcases g2 with g2 | ⟨g2, T, g3, g4, g5⟩
    · refine ⟨0, μ, jsi μ 201 0 0, by rw [g2, if_pos (by decide)], ?_, sim_thr h⟩
      show jrd ((jsi μ 201 0 (0 : Int32)).1 223) _ _ _ = _
      rw [jrd_n hi (by decide), jsi_ne (by decide), ← g1, g2, if_pos (by decide)]
    · obtain ⟨m1, a1, a2, a3⟩ := c_become (a := 6) g4 (by omega)
      have a1' : f_X9_become (0 + 6) (0 + 189 + 6 * i) μ = some m1 := by rw [show 0 + 189 + 6 * i = 189 + 6 * i by omega]; exact a1
      generalize hm2 : jsi m1 5 2 (0 : Int32) = m2
      have F : CF μ m2 := by
        rw [← hm2]
        exact (a3.mono (fun c hc => by unfold CFs; omega)).tr (jFr.si _ _ _ (by unfold CFs; omega))
      have hK : RW (11 + i) T (jsi m2 201 0 0) := g5.fr (by rw [jsi_ne (by decide), (F 204 (by unfold CFs; omega)).1])
      obtain ⟨m3, b1, b2, b3, b4⟩ := r_copies2 (b := 0) hK (by omega) (by decide) (by omega)
      have b1' : f_X12_copies 201 ((11 : Int32) + nI i) (0 : Int32) (jsi m2 201 0 0) = some m3 := by rw [jlit 11, nI_add]; exact b1
      refine ⟨1, m2, jsi m3 201 9 0, ?_, ?_, ?_⟩
      · rw [g2, if_neg (by decide), jin_n hi (by decide), nI_clamp (by omega), jcl_e a1', ← hm2]
      · show jrd ((jsi m2 201 0 (0 : Int32)).1 223) _ _ _ = _
        rw [jrd_n hi (by decide), jsi_ne (by decide), (F 223 (by unfold CFs; omega)).1, ← g1, g2, if_neg (by decide), jcl_e b1']
      · refine rel_mk (σ' := (0, fun _ => T, fun _ => [])) h ⟨Nat.zero_le 9, fun _ _ => g3, fun j hj => absurd hj (Nat.not_lt_zero j)⟩ ?_ F ?_ ((RC.thr (by decide)).tr (RC.tr ⟨b4.mono (fun c hc => by omega), b3.mono (fun w hw => by omega), fun k _ => by rw [(b4 201 (by decide)).1]⟩ (RC.thr (by decide))))
        · refine ⟨by rw [← hm2, jsi_at]; rfl, ?_, fun j hj => absurd hj (Nat.not_lt_zero j)⟩
          rw [← hm2]
          exact a2.fr (fun c q1 q2 => jsi_ne (by omega))
        · refine ⟨jsi_at _ _ _ _, fun j hj => ?_, fun j hj => absurd hj (Nat.not_lt_zero j)⟩
          have hj : j = 0 := Nat.le_zero.mp hj
          rw [hj]
          exact b2.fr (jsi_ne (by decide))
  · refine ⟨0, μ, jsi μ 201 0 0, ?_, ?_, sim_thr h⟩
    · by_cases c1 : x < 0
      · rw [if_pos c1]
      · rw [if_neg c1, if_pos]
        rw [i32_lt] at c1
        rw [i32_le, e2]
        rw [e00] at c1
        omega
    · rw [in_i, e0, e1, if_neg (show ¬ (0 ≤ x.toInt ∧ x.toInt ≤ 1) from fun q => c ⟨q.1, by omega⟩), if_pos (by decide)]
theorem rel_tx {μ μ2 : jM} (h : Rel μ) (hs : ∀ c, c ≠ 201 → c ≠ 1 → c ≠ 2 → c ≠ 203 → μ2.1 c = μ.1 c ∧ μ2.2 c = μ.2 c) (hf : ∀ k, k ≠ 0 → k ≠ 4 → μ2.1 201 k = μ.1 201 k) (h4 : μ2.2 = μ.2) (hh : TX μ2) : Rel μ2 := by
  obtain ⟨⟨σ, hv, hS, hM⟩, ht, hr, hh', hk⟩ := h
  refine ⟨⟨σ, hv, hS.fr hv.1 (fun c hc => (hs c (by obtain ⟨q1, q2⟩ := hc; omega) (by obtain ⟨q1, q2⟩ := hc; omega) (by obtain ⟨q1, q2⟩ := hc; omega) (by obtain ⟨q1, q2⟩ := hc; omega)).1), hM.fr (hf 9 (by decide) (by decide)) (hs 204 (by decide) (by decide) (by decide) (by decide)).1 (hs 205 (by decide) (by decide) (by decide) (by decide)).1 (hs 206 (by decide) (by decide) (by decide) (by decide)).1⟩, hh, ?_, ?_, ?_⟩
  · exact hr.fr (hs 3 (by decide) (by decide) (by decide) (by decide)).1 (by rw [h4]) (by rw [h4]) (hf 1 (by decide) (by decide))
  · exact hh'.fr (fun c hc => (hs c (by omega) (by omega) (by omega) (by omega)).1) (hf 37 (by decide) (by decide))
  · exact hk.fr (fun c hc => (hs c (by omega) (by omega) (by omega) (by omega)).1) (MF.of (hs 204 (by decide) (by decide) (by decide) (by decide)).1)
theorem sim_end {μ : jM} (h : Rel μ) (x : Int32) : ∃ r μ1 μ2, f_X11_end 0 x μ = (r, μ1) ∧ f_X12_end 201 x μ1 = (r, μ2) ∧ Rel μ2 := by
  obtain ⟨n, hn, n1, n2, n3⟩ := h.2.1
  have e0 : (0 : Int64).toInt = 0 := by decide
  have e00 : (0 : Int32).toInt = 0 := by decide
  have en := nI_toInt (n := n) (by omega)
  unfold f_X11_end f_X12_end f_X8_cut
  simp only [jbd_e]
  show ∃ r μ1 μ2, ((if x < 0 then ((0 : Int32), μ) else if x ≤ μ.1 1 1 then (1, jsi μ 1 1 x) else (0, μ)).1 &&& 1, (if x < 0 then ((0 : Int32), μ) else if x ≤ μ.1 1 1 then (1, jsi μ 1 1 x) else (0, μ)).2) = (r, μ1) ∧ _
  rw [n1]
  by_cases c : 0 ≤ x.toInt ∧ x.toInt ≤ n
  · obtain ⟨k, hk, rfl⟩ := nI_iof (n := n + 1) (x := x) ⟨c.1, by omega⟩ (by omega)
    rw [if_neg (nI_pos (by omega)), if_pos (nI_le (by omega) (by omega))]
    refine ⟨1, jsi μ 1 1 (nI k), jsi (jsi (jsi μ 1 1 (nI k)) 201 0 0) 201 4 (nI k), by show ((1 : Int32) &&& 1, jsi μ 1 1 (nI k)) = _; rw [show ((1 : Int32) &&& 1) = 1 by decide], ?_, ?_⟩
    · rw [jsi_pl (by decide), jsi_ne (by decide), n2, in_l, Int32.toInt_toInt64, Int32.toInt_toInt64, e0, en, if_pos c, if_neg (by decide)]
    · refine rel_tx h (fun c q1 q2 q3 q4 => ⟨by rw [jsi_ne q1, jsi_ne q1, jsi_ne q2], rfl⟩) (fun k k1 k2 => by rw [jsi_pl k2, jsi_pl k1, jsi_ne (by decide)]) rfl ⟨k, by omega, by rw [jsi_ne (by decide), jsi_ne (by decide), jsi_at], jsi_at _ _ _ _, fun i hi => ?_⟩
      rw [jsi_ne (by decide), jsi_ne (by decide), jsi_ne (by decide), jsi_ne (by decide), jsi_ne (by decide), jsi_ne (by decide)]
      exact n3 i hi
  · have e : (if x < 0 then ((0 : Int32), μ) else if x ≤ nI n then (1, jsi μ 1 1 x) else (0, μ)) = (0, μ) := by
      by_cases c1 : x < 0
      · rw [if_pos c1]
      · rw [if_neg c1, if_neg]
        intro z
        rw [i32_lt, e00] at c1
        rw [i32_le, en] at z
        exact c ⟨by omega, z⟩
    rw [e]
    refine ⟨0, μ, jsi μ 201 0 0, by show ((0 : Int32) &&& 1, μ) = _; rw [show ((0 : Int32) &&& 1) = 0 by decide], ?_, sim_thr h⟩
    rw [jsi_pl (by decide), n2, in_l, Int32.toInt_toInt64, Int32.toInt_toInt64, e0, en, if_neg c, if_pos (by decide)]
/-- byte j of v, from the highest on -/
def byt (v : Int32) (j : Nat) : Nat := v.toBitVec.toNat / 2 ^ (24 - 8 * j) % 256
theorem byt_lt (v : Int32) (j : Nat) : byt v j < 256 := Nat.mod_lt _ (by decide)
theorem byt_u (v : Int32) : ∀ j, j < 4 → (jushr v (nI (24 - 8 * j)) &&& (255 : Int32)) = nI (byt v j) := by
  intro j hj
  unfold jushr byt
  have h := pk_ushr v (nI (24 - 8 * j)) (24 - 8 * j) (ush_k _ (by omega))
  rw [pk_and _ 8 (by decide), h]
theorem shr_emod (a : Int) (k : Nat) : True := trivial
theorem byt_s (v : Int32) : ∀ j, j < 4 → ((v >>> (((24 : Int32) - ((8 : Int32) * nI j)) &&& 31)) &&& (255 : Int32)) = nI (byt v j) := by
  intro j hj
  have e : ((24 : Int32) - ((8 : Int32) * nI j)) = nI (24 - 8 * j) := by rw [jlit 24, jlit 8, pk_mul, pk_sub (by omega)]
  rw [e]
  unfold byt
  have h : (v >>> (nI (24 - 8 * j) &&& 31)).toInt = v.toInt >>> (24 - 8 * j) := pk_shr v (nI (24 - 8 * j) &&& 31) (24 - 8 * j) (shr_k _ (by omega))
  rw [pk_and _ 8 (by decide)]
  congr 1
  have t1 : ∀ w : Int32, (w.toBitVec.toNat % 2 ^ 8 : Nat) = (w.toInt % 256).toNat := by
    intro w
    show _ = (w.toBitVec.toInt % 256).toNat
    rw [BitVec.toInt_eq_toNat_bmod]
    have := w.toBitVec.isLt
    rw [Int.bmod_def]
    split <;> omega
  have t2 : (v.toInt >>> (24 - 8 * j)) % 256 = ((v.toBitVec.toNat / 2 ^ (24 - 8 * j) % 256 : Nat) : Int) := by
    rw [Int.shiftRight_eq_div_pow]
    show (v.toBitVec.toInt / _) % 256 = _
    rw [BitVec.toInt_eq_toNat_bmod]
    have := v.toBitVec.isLt
    rw [Int.bmod_def]
    rcases (show j = 0 ∨ j = 1 ∨ j = 2 ∨ j = 3 by omega) with q | q | q | q <;> subst q <;> split <;> simp <;> omega
  rw [t1, h, t2]
  exact Int.toNat_natCast _
theorem c_sign {n : Nat} {μ : jM} (v : Int32) (hn : n ≤ 76) (h1 : μ.1 1 1 = nI n) : ∃ μ1, f_X11_sign 0 v μ = some (nI (n + 4), μ1) ∧ μ1.1 1 1 = nI (n + 4) ∧ (∀ j, j < 4 → μ1.1 2 (n + j) = nI (byt v j)) ∧ (∀ i, ¬ (n ≤ i ∧ i < n + 4) → μ1.1 2 i = μ.1 2 i) ∧ μ1.2 = μ.2 ∧ ∀ c, c ≠ 1 → c ≠ 2 → μ1.1 c = μ.1 c := by
  obtain ⟨w, hw, w1, w2, w3, w4, w5⟩ := jlpN (step := fun (s : Int32 × jM) => f_X8_append_L16 1 v s.1 s.2) 4
    (fun k s => s.1 = (if k < 4 then nI (24 - 8 * k) else -8) ∧ s.2.1 1 1 = nI (n + k) ∧ (∀ j, j < k → s.2.1 2 (n + j) = nI (byt v j)) ∧ (∀ i, ¬ (n ≤ i ∧ i < n + 4) → s.2.1 2 i = μ.1 2 i) ∧ s.2.2 = μ.2 ∧ ∀ c, c ≠ 1 → c ≠ 2 → s.2.1 c = μ.1 c)
    (fun m => m.1 1 1 = nI (n + 4) ∧ (∀ j, j < 4 → m.1 2 (n + j) = nI (byt v j)) ∧ (∀ i, ¬ (n ≤ i ∧ i < n + 4) → m.1 2 i = μ.1 2 i) ∧ m.2 = μ.2 ∧ ∀ c, c ≠ 1 → c ≠ 2 → m.1 c = μ.1 c)
    (fun k s hk hs => by
      obtain ⟨u, m⟩ := s
      obtain ⟨hu, g1, g2, g3, g4, g5⟩ := hs
      rw [if_pos hk] at hu
      have hu : u = nI (24 - 8 * k) := hu
      subst hu
      have g1 : m.1 1 1 = nI (n + k) := g1
      refine ⟨((if k + 1 < 4 then nI (24 - 8 * (k + 1)) else -8), jsi (jsi m 2 (n + k) (nI (byt v k))) 1 1 (nI (n + (k + 1)))), ?_, rfl, jsi_at _ _ _ _, fun j hj => ?_, fun i hi => ?_, g4, fun c q1 q2 => ?_⟩
      · dsimp only
        unfold f_X8_append_L16
        have e8 : nI (24 - 8 * k) + (-8 : Int32) = (if k + 1 < 4 then nI (24 - 8 * (k + 1)) else -8) := by
          rcases (show k = 0 ∨ k = 1 ∨ k = 2 ∨ k = 3 by omega) with q | q | q | q <;> subst q <;> decide
        rw [if_neg (nI_pos (by omega)), g1, jin_n (by omega) (by decide), nI_clamp (by omega), byt_u v k hk, jbd_e]
        show jbd (jsi (jsi m 2 (n + k) (nI (byt v k))) 1 1 ((jsi m 2 (n + k) (nI (byt v k))).1 1 1 + 1)) _ = _
        rw [jsi_ne (by decide), g1, nI_1, jbd_e, e8]
        rfl
      · show (jsi (jsi m 2 (n + k) (nI (byt v k))) 1 1 (nI (n + (k + 1)))).1 2 (n + j) = _
        rw [jsi_ne (by decide)]
        by_cases c : j = k
        · rw [c, jsi_at]
        · rw [jsi_pl (by omega)]; exact g2 j (by omega)
      · show (jsi (jsi m 2 (n + k) (nI (byt v k))) 1 1 (nI (n + (k + 1)))).1 2 i = _
        rw [jsi_ne (by decide), jsi_pl (by omega)]; exact g3 i hi
      · show (jsi (jsi m 2 (n + k) (nI (byt v k))) 1 1 (nI (n + (k + 1)))).1 c = _
        rw [jsi_ne q1, jsi_ne q2]; exact g5 c q1 q2)
    (fun s hs => by
      obtain ⟨u, m⟩ := s
      obtain ⟨hu, g1, g2, g3, g4, g5⟩ := hs
      have hu : u = -8 := hu
      subst hu
      refine ⟨m, ?_, g1, g2, g3, g4, g5⟩
      dsimp only
      unfold f_X8_append_L16
      rw [if_pos (by decide)])
    (i := 0) (n := jfu) (s := ((24 : Int32), μ)) (by omega) ⟨rfl, h1, fun j hj => absurd hj (Nat.not_lt_zero j), fun _ _ => rfl, rfl, fun _ _ _ => rfl⟩ (jfu_lt (by omega))
  refine ⟨w, ?_, w1, w2, w3, w4, w5⟩
  unfold f_X11_sign f_X8_append
  rw [jcl2_id]
  show (if μ.1 1 1 + (4 : Int32) ≤ (80 : Int32) then jcl (jloop (fun (s : Int32 × jM) => f_X8_append_L16 1 v s.1 s.2) jfu (((24 : Int32), μ))) (fun w10 => some ((w10.1 1 1, w10))) else _) = _
  rw [h1, jlit 4, nI_add, jlit 80, if_pos (nI_le (by omega) (by decide)), jcl_e hw, w1]
theorem r_sign {n : Nat} {μ : jM} (v : Int32) (hn : n ≤ 76) (h1 : μ.1 201 4 = nI n) : ∃ μ1, f_X12_sign 201 v μ = some (nI (n + 4), μ1) ∧ μ1.1 201 4 = nI (n + 4) ∧ (∀ j, j < 4 → μ1.1 203 (n + j) = nI (byt v j)) ∧ (∀ i, ¬ (n ≤ i ∧ i < n + 4) → μ1.1 203 i = μ.1 203 i) ∧ μ1.2 = μ.2 ∧ (∀ c, c ≠ 201 → c ≠ 203 → μ1.1 c = μ.1 c) ∧ ∀ k, k ≠ 0 → k ≠ 4 → μ1.1 201 k = μ.1 201 k := by
  have h1' : (jsi μ 201 0 (0 : Int32)).1 201 4 = nI n := by rw [jsi_pl (by decide)]; exact h1
  obtain ⟨w, hw, w1, w2, w3, w4, w5⟩ := jlpN (step := fun (s : Int32 × jM) => f_X12_sign_L18 201 v s.1 s.2) 4
    (fun k s => s.1 = nI k ∧ (∀ j, j < k → s.2.1 203 (n + j) = nI (byt v j)) ∧ (∀ i, ¬ (n ≤ i ∧ i < n + 4) → s.2.1 203 i = μ.1 203 i) ∧ s.2.2 = μ.2 ∧ (∀ c, c ≠ 201 → c ≠ 203 → s.2.1 c = μ.1 c) ∧ s.2.1 201 = (jsi μ 201 0 (0 : Int32)).1 201)
    (fun m => (∀ j, j < 4 → m.1 203 (n + j) = nI (byt v j)) ∧ (∀ i, ¬ (n ≤ i ∧ i < n + 4) → m.1 203 i = μ.1 203 i) ∧ m.2 = μ.2 ∧ (∀ c, c ≠ 201 → c ≠ 203 → m.1 c = μ.1 c) ∧ m.1 201 = (jsi μ 201 0 (0 : Int32)).1 201)
    (fun k s hk hs => by
      obtain ⟨u, m⟩ := s
      obtain ⟨hu, g2, g3, g4, g5, g6⟩ := hs
      have hu : u = nI k := hu
      subst hu
      have g1 : m.1 201 4 = nI n := by rw [show m.1 201 = _ from g6]; exact h1'
      refine ⟨(nI (k + 1), jsi m 203 (n + k) (nI (byt v k))), ?_, rfl, fun j hj => ?_, fun i hi => ?_, g4, fun c q1 q2 => ?_, ?_⟩
      · dsimp only
        unfold f_X12_sign_L18
        rw [byt_s v k hk, jlit 4, if_neg (nI_ge hk (by decide)), g1, nI_add, jin_n (by omega) (by decide), nI_clamp (by omega), jbd_e, nI_1]
      · show (jsi m 203 (n + k) (nI (byt v k))).1 203 (n + j) = _
        by_cases c : j = k
        · rw [c, jsi_at]
        · rw [jsi_pl (by omega)]; exact g2 j (by omega)
      · show (jsi m 203 (n + k) (nI (byt v k))).1 203 i = _
        rw [jsi_pl (by omega)]; exact g3 i hi
      · show (jsi m 203 (n + k) (nI (byt v k))).1 c = _
        rw [jsi_ne q2]; exact g5 c q1 q2
      · show (jsi m 203 (n + k) (nI (byt v k))).1 201 = _
        rw [jsi_ne (by decide)]; exact g6)
    (fun s hs => by
      obtain ⟨u, m⟩ := s
      obtain ⟨hu, g2, g3, g4, g5, g6⟩ := hs
      have hu : u = nI 4 := hu
      subst hu
      refine ⟨m, ?_, g2, g3, g4, g5, g6⟩
      dsimp only
      unfold f_X12_sign_L18
      rw [jlit 4, if_pos (nI_le (by omega) (by decide))])
    (i := 0) (n := jfu) (s := ((0 : Int32), jsi μ 201 0 (0 : Int32))) (by omega) ⟨rfl, fun j hj => absurd hj (Nat.not_lt_zero j), fun i _ => by rw [jsi_ne (by decide)], rfl, fun c q1 q2 => jsi_ne q1, rfl⟩ (jfu_lt (by omega))
  have e4 : w.1 201 4 = nI n := by rw [w5]; exact h1'
  refine ⟨jsi w 201 4 (nI (n + 4)), ?_, jsi_at _ _ _ _, fun j hj => by rw [jsi_ne (by decide)]; exact w1 j hj, fun i hi => by rw [jsi_ne (by decide)]; exact w2 i hi, w3, fun c q1 q2 => by rw [jsi_ne q1]; exact w4 c q1 q2, fun k k1 k2 => by rw [jsi_pl k2, w5, jsi_pl k1]⟩
  unfold f_X12_sign
  rw [jbd_e, h1', jlit 76, if_pos (nI_le (by omega) (by decide)), jcl_e hw, e4, jlit 4, nI_add, jbd_e, jsi_at]
theorem sim_sign {μ : jM} (h : Rel μ) (v : Int32) : ∃ r μ1 μ2, f_X11_sign 0 v μ = some (r, μ1) ∧ f_X12_sign 201 v μ1 = some (r, μ2) ∧ Rel μ2 := by
  obtain ⟨n, hn, n1, n2, n3⟩ := h.2.1
  by_cases c : n ≤ 76
  · obtain ⟨μ1, a1, a2, a3, a4, a5, a6⟩ := c_sign v c n1
    obtain ⟨μ2, b1, b2, b3, b4, b5, b6, b7⟩ := r_sign (μ := μ1) v c (by rw [a6 201 (by decide) (by decide)]; exact n2)
    refine ⟨_, μ1, μ2, a1, b1, rel_tx h (fun c q1 q2 q3 q4 => ⟨(b6 c q1 q4).trans (a6 c q2 q3), by rw [b5, a5]⟩) (fun k k1 k2 => (b7 k k1 k2).trans (by rw [a6 201 (by decide) (by decide)])) (b5.trans a5) ⟨n + 4, by omega, by rw [b6 1 (by decide) (by decide)]; exact a2, b2, fun i hi => ?_⟩⟩
    rw [b6 2 (by decide) (by decide)]
    by_cases ci : n ≤ i ∧ i < n + 4
    · obtain ⟨j, rfl⟩ : ∃ j, i = n + j := ⟨i - n, by omega⟩
      rw [a3 j (by omega), b3 j (by omega)]
      exact ⟨rfl, _, byt_lt v j, rfl⟩
    · rw [a4 i ci, b4 i ci, a6 203 (by decide) (by decide)]
      exact n3 i hi
  · refine ⟨-1, μ, jsi μ 201 0 0, ?_, ?_, sim_thr h⟩
    · unfold f_X11_sign f_X8_append
      rw [jcl2_id]
      show (if μ.1 1 1 + (4 : Int32) ≤ (80 : Int32) then _ else _) = _
      rw [n1, jlit 4, nI_add, jlit 80, if_neg (nI_ge (by omega) (by omega))]
    · unfold f_X12_sign
      rw [jbd_e, jsi_pl (by decide), n2, jlit 76, if_neg (nI_ge (by omega) (by omega))]
