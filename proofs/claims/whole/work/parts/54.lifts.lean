/-! a constraint goes; cells by a sheet -/
def mic (T : TT) (i k : Nat) : TT := fun j => if 29 + 4 * i ≤ j ∧ j < 29 + 4 * i + k then T (j + 4) else T j
theorem mic_in {T : TT} {i k j : Nat} (h : 29 + 4 * i ≤ j ∧ j < 29 + 4 * i + k) : mic T i k j = T (j + 4) := if_pos h
theorem mic_out {T : TT} {i k j : Nat} (h : ¬ (29 + 4 * i ≤ j ∧ j < 29 + 4 * i + k)) : mic T i k j = T j := if_neg h
theorem mic_0 (T : TT) (i : Nat) : mic T i 0 = T := by
  funext j
  exact mic_out (by omega)
theorem mic_s {T : TT} {i k : Nat} : upd (mic T i k) (29 + 4 * i + k) (T (29 + 4 * i + k + 4)) = mic T i (k + 1) := by
  funext j
  by_cases c : j = 29 + 4 * i + k
  · rw [c, pk_us, mic_in (by omega)]
  · rw [pk_un c]
    by_cases d : 29 + 4 * i ≤ j ∧ j < 29 + 4 * i + k
    · rw [mic_in d, mic_in (by omega)]
    · rw [mic_out d, mic_out (by omega)]
def liftT (T : TT) (i : Nat) : TT := upd (mic T i (4 * (nc T - 1 - i))) 28 (nI (nc T - 1))
theorem liftT_nc {T : TT} {i : Nat} (h : nc T ≤ 8) : nc (liftT T i) = nc T - 1 ∧ liftT T i 28 = nI (nc T - 1) := by
  have e : liftT T i 28 = nI (nc T - 1) := by unfold liftT; rw [pk_us]
  exact ⟨by show (liftT T i 28).toNatClampNeg = _; rw [e, nI_clamp (by omega)], e⟩
theorem liftT_o {T : TT} {i j : Nat} (hj : j < 28) : liftT T i j = T j := by
  unfold liftT
  rw [pk_un (by omega), mic_out (by omega)]
theorem liftT_k {T : TT} {i j r : Nat} (hj : j < nc T - 1) (hr : r < 4) : liftT T i (29 + (4 * j + r)) = T (29 + (4 * (if j < i then j else j + 1) + r)) := by
  unfold liftT
  rw [pk_un (by omega)]
  by_cases c : j < i
  · rw [if_pos c, mic_out (by omega)]
  · rw [if_neg c, mic_in (by omega)]
    congr 1
    omega
theorem VT.lift {T : TT} {i : Nat} (h : VT T) (hi : i < nc T) : VT (liftT T i) := by
  obtain ⟨h1, h2, h3, h4, h5, h6, h7, h8⟩ := h
  have hn := h1.1
  have hc := h2.1
  obtain ⟨e1, e2⟩ := liftT_nc (i := i) hc
  have k : ∀ j, j < 28 → liftT T i j = T j := fun j hj => liftT_o hj
  have en : np (liftT T i) = np T := by unfold np; rw [k _ (by omega)]
  unfold VT
  rw [e1, e2, en, k 11 (by omega)]
  refine ⟨h1, ⟨by omega, rfl⟩, fun j hj => ?_, fun j hj => ?_, fun j hj => ?_, fun a b ha hb => ?_, fun j hj => ?_, fun j hj => ?_⟩
  · rw [k _ (by omega)]; exact h3 j hj
  · rw [k _ (by omega)]; exact h4 j hj
  · rw [k _ (by omega)]; exact h5 j hj
  · rw [k _ (by omega), k _ (by omega)]; exact h6 a b ha hb
  · rw [k _ (by omega)]; exact h7 j hj
  · have q := @liftT_k T i j
    have q0 := q (r := 0) hj (by omega)
    rw [Nat.add_zero] at q0
    rw [q0, q hj (by omega), q hj (by omega), q hj (by omega)]
    exact h8 _ (by split <;> omega)
theorem dfl_con {T T' : TT} (h : VT T) (h28 : ¬ T 28 = T' 28) (hk : ∀ j, j < 28 → T' j = T j) : dfl T T' 31 = [30] := by
  have hn := h.1.1
  rw [dfl_one (a := 30) (fun t hb ht hne => ?_) (by decide) (by decide)]
  · have : othB T T' 30 = true := by
      unfold othB tell
      rw [if_neg (by omega), if_neg (by omega), if_neg (by omega), if_neg (by omega), if_neg (by omega), if_neg (by omega)]
      simp [h28]
    rw [this, if_pos rfl]
  · refine oth_f ?_ (fun z => absurd z hne)
    rcases isTh_cases ht with z | z | z | z
    · exact tell_cell z (hk _ (by omega)).symm
    · exact tell_var z.1 z.2 (hk _ (by omega)).symm
    · exact tell_key z.1 z.2 (hk _ (by omega)).symm (fun j hj => ⟨(hk _ (by omega)).symm, (hk _ (by omega)).symm⟩)
    · exact absurd z hne
theorem c_liftL {s i : Nat} {T : TT} {μ : jM} (h : RT (s + 1) T μ) (hv : VT T) (hi : i < nc T) : ∃ w, jloop (fun (q : Int32 × jM) => f_X7_liftConstraint_L23 s q.1 q.2) jfu ((nI (4 * (i + 1)), μ)) = some w ∧ RT (s + 1) (mic T i (4 * (nc T - 1 - i))) w ∧ jFr (fun c => c = s + 6) μ w := by
  have hc := hv.2.1.1
  obtain ⟨w, hw, hr⟩ := jlpN (step := fun (q : Int32 × jM) => f_X7_liftConstraint_L23 s q.1 q.2) (4 * (nc T - 1 - i))
    (fun k q => q.1 = nI (4 * (i + 1) + k) ∧ RT (s + 1) (mic T i k) q.2 ∧ jFr (fun c => c = s + 6) μ q.2)
    (fun m => RT (s + 1) (mic T i (4 * (nc T - 1 - i))) m ∧ jFr (fun c => c = s + 6) μ m)
    (fun k q hk hq => by
      obtain ⟨u, m⟩ := q
      obtain ⟨hu, hR, hf⟩ := hq
      have hu : u = nI (4 * (i + 1) + k) := hu
      subst hu
      have hR : RT (s + 1) (mic T i k) m := hR
      have e5 : m.1 (s + 1) 6 = nI (nc T) := by rw [hR.2.2.2.2.2.1, mic_out (by omega)]; exact hv.2.1.2
      have e1 : nI (4 * (i + 1) + k) - (4 : Int32) = nI (4 * i + k) := by rw [jlit 4, pk_sub (by omega)]; congr 1; omega
      have k1 : m.1 (s + 6) (4 * (i + 1) + k) = T (29 + 4 * i + k + 4) := by
        rw [show s + 6 = s + 1 + 5 from rfl, hR.2.2.2.2.2.2 _ (by omega), mic_out (by omega)]; congr 1; omega
      refine ⟨(nI (4 * (i + 1) + (k + 1)), jsi m (s + 6) (4 * i + k) (T (29 + 4 * i + k + 4))), ?_, rfl, ?_, hf.tr (jFr.si _ _ _ rfl)⟩
      · dsimp only
        unfold f_X7_liftConstraint_L23
        rw [e5, jlit 4, pk_mul, if_neg (nI_ge (by omega) (by omega)), jrd_n (n := 32) (by omega) (by decide), k1, ← jlit 4, e1, jin_n (n := 32) (by omega) (by decide), nI_clamp (by omega), jbd_e, nI_1]
        rfl
      · show RT (s + 1) _ (jsi m (s + 1 + 5) (4 * i + k) _)
        have q1 := hR.par (i := 4 * i + k) (v := T (29 + 4 * i + k + 4)) (by omega)
        rw [show 29 + (4 * i + k) = 29 + 4 * i + k by omega, mic_s] at q1
        exact q1)
    (fun q hq => by
      obtain ⟨u, m⟩ := q
      obtain ⟨hu, hR, hf⟩ := hq
      have hu : u = nI (4 * (i + 1) + 4 * (nc T - 1 - i)) := hu
      subst hu
      have hR : RT (s + 1) (mic T i (4 * (nc T - 1 - i))) m := hR
      have e5 : m.1 (s + 1) 6 = nI (nc T) := by rw [hR.2.2.2.2.2.1, mic_out (by omega)]; exact hv.2.1.2
      refine ⟨m, ?_, hR, hf⟩
      dsimp only
      unfold f_X7_liftConstraint_L23
      rw [e5, jlit 4, pk_mul, if_pos (nI_le (by omega) (by omega))])
    (i := 0) (n := jfu) (s := (nI (4 * (i + 1)), μ)) (by omega) ⟨rfl, by rw [mic_0]; exact h, jFr.rf⟩ (jfu_lt (by omega))
  exact ⟨w, hw, hr⟩
theorem r_liftL {i : Nat} {σ : SS} {μ : jM} (hv : VS σ) (hi : i < nc (σ.2.1 0)) (h : RM (nowT σ (upd (σ.2.1 0) 28 (nI (nc (σ.2.1 0) - 1)))) μ) (h10 : RW 10 (σ.2.1 0) μ) : ∃ w, jloop (fun (q : Int32 × jM) => f_X12_lifts_L45 201 q.1 q.2) jfu ((nI (4 * i), μ)) = some w ∧ RM (nowT σ (liftT (σ.2.1 0) i)) w ∧ RW 10 (σ.2.1 0) w ∧ RF μ w := by
  have h0 := hv.2.1 0 (Nat.zero_le _)
  have hc := h0.2.1.1
  obtain ⟨w, hw, hr⟩ := jlpN (step := fun (q : Int32 × jM) => f_X12_lifts_L45 201 q.1 q.2) (4 * (nc (σ.2.1 0) - 1 - i))
    (fun k q => q.1 = nI (4 * i + k) ∧ RM (nowT σ (upd (mic (σ.2.1 0) i k) 28 (nI (nc (σ.2.1 0) - 1)))) q.2 ∧ RW 10 (σ.2.1 0) q.2 ∧ RF μ q.2)
    (fun m => RM (nowT σ (liftT (σ.2.1 0) i)) m ∧ RW 10 (σ.2.1 0) m ∧ RF μ m)
    (fun k q hk hq => by
      obtain ⟨u, m⟩ := q
      obtain ⟨hu, hR, h1, hf⟩ := hq
      have hu : u = nI (4 * i + k) := hu
      subst hu
      have hR : RM (nowT σ (upd (mic (σ.2.1 0) i k) 28 (nI (nc (σ.2.1 0) - 1)))) m := hR
      have ra : ∀ j, j < 61 → m.1 204 j = upd (mic (σ.2.1 0) i k) 28 (nI (nc (σ.2.1 0) - 1)) j := fun j hj => by
        have := hR.at hj
        rw [nowT_0] at this
        exact this
      have e5 : m.1 204 28 = nI (nc (σ.2.1 0) - 1) := by rw [ra _ (by omega), pk_us]
      have k1 : m.1 204 (29 + (4 * i + k) + 4) = (σ.2.1 0) (29 + 4 * i + k + 4) := by
        rw [ra _ (by omega), pk_un (by omega), mic_out (by omega), show 29 + (4 * i + k) + 4 = 29 + 4 * i + k + 4 by omega]
      have q1 := hR.set2 (k := 29 + (4 * i + k)) (v := (σ.2.1 0) (29 + 4 * i + k + 4)) hv.1 (by omega)
      refine ⟨(nI (4 * i + (k + 1)), jsi m 204 (29 + (4 * i + k)) ((σ.2.1 0) (29 + 4 * i + k + 4))), ?_, rfl, ?_, h1.set10 (by omega), RF.tr hf q1.2⟩
      · dsimp only
        unfold f_X12_lifts_L45
        show jrd (m.1 204) _ _ _ = _
        rw [jlit 28, jrd_n (n := 2074) (by omega) (by decide), e5, jlit 4, pk_mul, if_neg (nI_ge (by omega) (by omega))]
        show jrd (m.1 204) _ _ _ = _
        rw [jlit 29, nI_add, nI_add, jrd_n (n := 2074) (by omega) (by decide), k1, jin_n (n := 2074) (by omega) (by decide), nI_clamp (by omega), jbd_e, nI_1]
        rfl
      · show RM (nowT σ (upd (mic (σ.2.1 0) i (k + 1)) 28 _)) _
        have ee : upd (upd (mic (σ.2.1 0) i k) 28 (nI (nc (σ.2.1 0) - 1))) (29 + (4 * i + k)) ((σ.2.1 0) (29 + 4 * i + k + 4)) = upd (mic (σ.2.1 0) i (k + 1)) 28 (nI (nc (σ.2.1 0) - 1)) := by
          rw [← mic_s]
          funext j
          rw [show 29 + (4 * i + k) = 29 + 4 * i + k by omega]
          by_cases c1 : j = 28
          · rw [c1, pk_us, pk_un (by omega), pk_us]
          · rw [pk_un c1]
            by_cases c2 : j = 29 + 4 * i + k
            · rw [c2, pk_us, pk_us]
            · rw [pk_un c2, pk_un c2, pk_un c1]
        rw [← ee]
        exact q1.1)
    (fun q hq => by
      obtain ⟨u, m⟩ := q
      obtain ⟨hu, hR, h1, hf⟩ := hq
      have hu : u = nI (4 * i + 4 * (nc (σ.2.1 0) - 1 - i)) := hu
      subst hu
      have hR : RM (nowT σ (upd (mic (σ.2.1 0) i (4 * (nc (σ.2.1 0) - 1 - i))) 28 (nI (nc (σ.2.1 0) - 1)))) m := hR
      have e5 : m.1 204 28 = nI (nc (σ.2.1 0) - 1) := by
        have := hR.at (k := 28) (by omega)
        rw [nowT_0, pk_us] at this
        exact this
      refine ⟨m, ?_, hR, h1, hf⟩
      dsimp only
      unfold f_X12_lifts_L45
      show jrd (m.1 204) _ _ _ = _
      rw [jlit 28, jrd_n (n := 2074) (by omega) (by decide), e5, jlit 4, pk_mul, if_pos (nI_le (by omega) (by omega))])
    (i := 0) (n := jfu) (s := (nI (4 * i), μ)) (by omega) ⟨rfl, by rw [mic_0]; exact h, h10, RF.rf⟩ (jfu_lt (by omega))
  exact ⟨w, hw, hr⟩
theorem sim_lifts {μ : jM} (h : Rel μ) (x : Int32) : ∃ r μ1 μ2, f_X11_lifts 0 x μ = some (r, μ1) ∧ f_X12_lifts 201 x μ1 = some (r, μ2) ∧ Rel μ2 := by
  obtain ⟨⟨σ, hv, hS, hM⟩, -⟩ := id h
  have h0 := hv.2.1 0 (Nat.zero_le _)
  have hc := h0.2.1.1
  have e6 : μ.1 (5 + 1) 6 = nI (nc (σ.2.1 0)) := by rw [hS.2.1.2.2.2.2.2.1]; exact h0.2.1.2
  have e0 : (0 : Int32).toInt = 0 := by decide
  have e00 : (0 : Int64).toInt = 0 := by decide
  have ec := nI_toInt (n := nc (σ.2.1 0)) (by omega)
  have e1 : ((nI (nc (σ.2.1 0)) - (1 : Int32)).toInt64).toInt = (nc (σ.2.1 0) : Int) - 1 := by
    rw [Int32.toInt_toInt64]
    exact pk_sub_toInt (b := 1) (by omega) (by omega)
  unfold f_X11_lifts f_X7_liftConstraint
  rw [jcl2_id]
  by_cases c : 0 ≤ x.toInt ∧ x.toInt < nc (σ.2.1 0)
  · obtain ⟨i, hi, rfl⟩ := nI_iof (n := nc (σ.2.1 0)) c (by omega)
    obtain ⟨w, w1, w2, w3⟩ := c_liftL hS.2.1 h0 hi
    have e5 : w.1 (5 + 1) 6 - (1 : Int32) = nI (nc (σ.2.1 0) - 1) := by
      rw [w2.2.2.2.2.2.1, mic_out (by omega), h0.2.1.2, jlit 1, pk_sub (by omega)]
    have r1 : RT (5 + 1) (liftT (σ.2.1 0) i) (jsi w (5 + 1) 6 (nI (nc (σ.2.1 0) - 1))) := w2.nc
    have f1 : jFr (fun c => 5 + 1 ≤ c ∧ c ≤ 5 + 6) μ (jsi w (5 + 1) 6 (nI (nc (σ.2.1 0) - 1))) := (w3.mono (fun c hc => ⟨by omega, by omega⟩)).tr (jFr.si _ _ _ ⟨by omega, by omega⟩)
    have hS1 := hS.now hv.1 r1 f1
    obtain ⟨μ1, a1, a2, a3⟩ := c_changed hS1 (hv.nowT (h0.lift hi)) (t := 30) (by decide) (by decide)
    have hd : dfl (σ.2.1 0) (liftT (σ.2.1 0) i) 31 = [30] := dfl_con h0 (by
      rw [(liftT_nc hc).2, h0.2.1.2]
      intro z
      have := (nI_eq (by omega) (by omega)).mp z
      omega) (fun j hj => liftT_o hj)
    have F : CF μ μ1 := (f1.mono (fun c hc => by unfold CFs; omega)).tr (a3.mono (fun c hc => by obtain ⟨⟨q1, q2⟩, q3⟩ := hc; unfold CFs; omega))
    have hM1 : RM σ (jsi μ1 201 0 0) := (hM.fc F.r).thr (by decide)
    obtain ⟨m1, b1, b2, b3, b4, b5⟩ := r_begins hM1 hv.1
    have q1 := b2.set (k := 28) (v := nI (nc (σ.2.1 0) - 1)) hv.1 (by omega)
    obtain ⟨m2, c1, c2, c3, c4⟩ := r_liftL hv hi q1.1 (b3.set10 (by omega))
    obtain ⟨m3, d1, d2, d3⟩ := r_ends c2 c3 hv (h0.lift hi) (nI (nc (σ.2.1 0) - 1))
    refine ⟨nI (nc (σ.2.1 0) - 1), μ1, m3, ?_, ?_, ?_⟩
    · show (if nI i < 0 then _ else if nI i < μ.1 (5 + 1) 6 then _ else _) = _
      have a1' : f_X7_changed (0 + 5) (30 : Int32) (jsi w (0 + 5 + 1) 6 (nI (nc (σ.2.1 0) - 1))) = some μ1 := a1
      have w1' : jloop (fun (q : Int32 × jM) => f_X7_liftConstraint_L23 (0 + 5) q.1 q.2) jfu ((nI (4 * (i + 1)), μ)) = some w := w1
      have e5' : w.1 (0 + 5 + 1) 6 - (1 : Int32) = nI (nc (σ.2.1 0) - 1) := e5
      have e7 : μ1.1 (0 + 5 + 1) 6 = nI (nc (σ.2.1 0) - 1) := by
        have := a2.2.1.2.2.2.2.2.1
        have z : (chT (nowT σ (liftT (σ.2.1 0) i)) 30).2.1 0 = liftT (σ.2.1 0) i := nowT_0 σ _
        rw [z, (liftT_nc hc).2] at this
        exact this
      rw [e6, if_neg (nI_pos (by omega)), if_pos (nI_lt hi (by omega)), nI_1, jlit 4, pk_mul, jbd_e, jcl_e w1', e5', jbd_e, jcl_e a1', e7]
    · unfold f_X12_lifts
      have z0 : (jsi μ1 201 0 (0 : Int32)).1 204 28 = nI (nc (σ.2.1 0)) := by rw [hM1.at (by omega)]; exact h0.2.1.2
      have z1 : m1.1 204 28 = nI (nc (σ.2.1 0)) := by rw [b2.at (by omega)]; exact h0.2.1.2
      have z2 : m2.1 204 28 = nI (nc (σ.2.1 0) - 1) := by
        have := c2.at (k := 28) (by omega)
        rw [nowT_0, (liftT_nc hc).2] at this
        exact this
      have e9 : nI (nc (σ.2.1 0)) - (1 : Int32) = nI (nc (σ.2.1 0) - 1) := pk_sub (b := 1) (by omega)
      rw [jbd_e]
      show jrd ((jsi μ1 201 0 (0 : Int32)).1 204) _ _ _ = _
      rw [jlit 28, jrd_n (n := 2074) (by omega) (by decide), z0, in_l, Int32.toInt_toInt64, e00, e1, if_pos (show 0 ≤ (nI i).toInt ∧ (nI i).toInt ≤ (nc (σ.2.1 0) : Int) - 1 by omega), if_neg (by decide), jcl_e b1]
      show jrd (m1.1 204) _ _ _ = _
      rw [jrd_n (n := 2074) (by omega) (by decide), z1, e9, jin_n (n := 2074) (by omega) (by decide), nI_clamp (by omega), jbd_e, jlit 4, pk_mul, jcl_e c1]
      show jrd (m2.1 204) _ _ _ = _
      rw [jrd_n (n := 2074) (by omega) (by decide), z2, jcl2_e d1]
    · have a2' : RS 5 (chg σ (liftT (σ.2.1 0) i)) μ1 := by rw [chg_one hd]; exact a2
      have f2 : RF (jsi μ1 201 0 0) m1 := ⟨b5.mono (fun c hc => by omega), b4.mono (fun w hw => by omega), fun k _ _ _ => by rw [(b5 201 (by decide)).1]⟩
      have f3 : RF m2 m3 := ⟨d3.mono (fun c hc => by omega), MF.of (d3 204 (by decide)).1, fun k _ _ _ => by rw [(d3 201 (by decide)).1]⟩
      exact rel_mk h (hv.chg (h0.lift hi)) a2' F d2 ((RC.thr (by decide)).tr (((f2.tr q1.2).tr c4).tr f3).c)
  · refine ⟨-1, μ, jsi μ 201 0 0, ?_, ?_, rel_mk h hv hS jFr.rf (hM.thr (by decide)) (RC.thr (by decide))⟩
    · show (if x < 0 then _ else if x < μ.1 (5 + 1) 6 then _ else _) = _
      by_cases c1 : x < 0
      · rw [if_pos c1]
      · rw [if_neg c1, e6, if_neg]
        intro z
        rw [i32_lt] at c1 z
        rw [e0] at c1
        rw [ec] at z
        exact c ⟨by omega, z⟩
    · unfold f_X12_lifts
      have z0 : (jsi μ 201 0 (0 : Int32)).1 204 28 = nI (nc (σ.2.1 0)) := by rw [jsi_ne (by decide), hM.at (by omega)]; exact h0.2.1.2
      rw [jbd_e]
      show jrd ((jsi μ 201 0 (0 : Int32)).1 204) _ _ _ = _
      rw [jlit 28, jrd_n (n := 2074) (by omega) (by decide), z0, in_l, Int32.toInt_toInt64, e00, e1, if_neg (show ¬ (0 ≤ x.toInt ∧ x.toInt ≤ (nc (σ.2.1 0) : Int) - 1) from fun q => c ⟨q.1, by omega⟩), if_pos (by decide)]
