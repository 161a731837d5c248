/-! since, count -/
theorem snn_s (σ : SS) (t k : Nat) : snn σ t (k + 1) = snn σ t k ||| (if t ∈ σ.2.2 (k + 1) then 2 ^ (k + 1) else 0) := rfl
theorem has_i {a : Nat} {T : TT} {l : List Nat} {μ : jM} (h : RLv a T l μ) (hl : TrOK l) {t : Nat} (hb : t < 31) : f_X1_has a (nI t) μ = if t ∈ l then 1 else 0 := by
  have hm : mk l < 2 ^ 31 := mk_lt fun x hx => (hl.2 x hx).2
  unfold f_X1_has
  rw [h.2.2.1, nI_bit hm (by omega), mk_bit]
  by_cases c : t ∈ l
  · simp [c]
  · simp [c]
theorem sim_since {μ : jM} (h : Rel μ) (x : Int32) : ∃ r μ1 μ2, f_X11_since 0 x μ = some (r, μ1) ∧ f_X12_since 201 x μ1 = some (r, μ2) ∧ Rel μ2 := by
  obtain ⟨⟨σ, hv, hS, hM⟩, -⟩ := id h
  have h9 := hv.1
  unfold f_X11_since f_X12_since
  simp only [jbd_e]
  rw [isThing_i, isThingR_i]
  by_cases c : ∃ t : Nat, t < 31 ∧ isTh t = true ∧ x = nI t
  · obtain ⟨t, t1, t2, rfl⟩ := id c
    simp only [if_pos c, i10, if_false]
    have hlt := snn_lt σ t σ.1 h9
    obtain ⟨e, he, hr⟩ := jlpN (step := fun (s : Int32 × Int32) => f_X11_since_L13 0 (nI t) μ s.1 s.2) σ.1 (fun k s => s = (nI (snn σ t k), nI (k + 1))) (fun e => e = nI (snn σ t σ.1))
      (fun k s hk hs => by
        subst hs
        refine ⟨(nI (snn σ t (k + 1)), nI (k + 1 + 1)), ?_, rfl⟩
        have e5 : μ.1 (0 + 5) 2 = nI σ.1 := hS.1
        have e1 : nI (k + 1) - (1 : Int32) = nI k := nI_pred k
        have q := has_i (hS.2.2 k hk) (hv.2.2 k hk) t1
        rw [show 5 + 8 + 8 * k = 0 + 13 + 8 * k by omega] at q
        have hl := snn_lt σ t k (by omega)
        dsimp only
        unfold f_X11_since_L13
        rw [e5, if_neg (nI_nlt (by omega) (by omega)), e1, jin_n (by omega) (by decide), nI_clamp (by omega), q]
        by_cases ci : t ∈ σ.2.2 (k + 1)
        · have hp : 2 ^ (k + 1) < 2 ^ 31 := Nat.pow_lt_pow_right (by decide) (by omega)
          rw [if_pos ci, if_neg (by decide), jbd_e, shl_n _ (by omega), nI_or (by omega) hp, nI_1]
          rw [snn_s, if_pos ci]
        · rw [if_neg ci, if_pos (by decide), nI_1]
          rw [snn_s, if_neg ci, Nat.or_zero])
      (fun s hs => by
        subst hs
        refine ⟨_, ?_, rfl⟩
        have e5 : μ.1 (0 + 5) 2 = nI σ.1 := hS.1
        dsimp only
        unfold f_X11_since_L13
        rw [e5, if_pos (nI_lt (by omega) (by omega))])
      (i := 0) (n := jfu) (s := ((0 : Int32), (1 : Int32))) (by omega) rfl (jfu_lt (by omega))
    obtain ⟨m1, a1, a2, a3⟩ := c_only μ (nI (pc (snn σ t σ.1))).toInt64
    have F : CFr μ m1 := CFr.row a3
    have hM1 : RM σ (jsi m1 201 0 0) := (hM.fc F).thr (by decide)
    obtain ⟨e', he', hr'⟩ := jlpN (step := fun (s : Int32 × Int32) => f_X12_since_L18 201 (nI t) (jsi m1 201 0 0) s.1 s.2) σ.1 (fun k s => s = (nI (snn σ t k), nI (k + 1))) (fun e => e = nI (snn σ t σ.1))
      (fun k s hk hs => by
        subst hs
        refine ⟨(nI (snn σ t (k + 1)), nI (k + 1 + 1)), ?_, rfl⟩
        have q := r_isOn (hM1.2.2 k hk) (by omega) (hv.2.2 k hk) t1
        have hl := snn_lt σ t k (by omega)
        dsimp only
        unfold f_X12_since_L18
        rw [hM1.1, if_neg (nI_nlt (by omega) (by omega)), jcl_e q]
        by_cases ci : t ∈ σ.2.2 (k + 1)
        · have hp : 2 ^ (k + 1) < 2 ^ 31 := Nat.pow_lt_pow_right (by decide) (by omega)
          rw [if_pos ci, if_neg (by decide), jbd_e, shl_n _ (by omega), nI_or (by omega) hp, nI_1]
          rw [snn_s, if_pos ci]
        · rw [if_neg ci, if_pos (by decide), jbd_e, jlit 0, nI_or (by omega) (by decide), nI_1]
          rw [snn_s, if_neg ci])
      (fun s hs => by
        subst hs
        refine ⟨_, ?_, rfl⟩
        dsimp only
        unfold f_X12_since_L18
        rw [hM1.1, if_pos (nI_lt (by omega) (by omega))])
      (i := 0) (n := jfu) (s := ((0 : Int32), (1 : Int32))) (by omega) rfl (jfu_lt (by omega))
    obtain ⟨m2, b1, b2, b3, b4⟩ := r_enters (r_told0 (jsi m1 201 0 0)) (by decide) (nI (pc (snn σ t σ.1))).toInt64
    refine ⟨nI (snn σ t σ.1), m1, m2, ?_, ?_, ?_⟩
    · rw [jcl_e he, hr, c_bits10 _ hlt]
      exact jcl_e a1
    · rw [jcl_e he', hr', jcl_e (r_bits (by omega)), jcl_e b1]
    · exact rel_row h hv (hS.fc h9 a3 (fun c q => by obtain ⟨q1, q2⟩ := q; omega)) F ((hM1.thr (k := 1) (by decide)).fr (b4 9 (by decide)) (b3 204 (by decide)).1 (b3 205 (by decide)).1 (b3 206 (by decide)).1) (((RCr.thr (by decide)).tr (RCr.thr (by decide))).tr (RCr.ent b3 b4)) a2 b2 (by show 1 ≤ 22; omega)
  · simp only [if_neg c, i00, if_true]
    exact ⟨-1, μ, _, rfl, rfl, sim_thr h⟩
/-- sums -/
def smI (f : Nat → Int32) : Nat → Int32
  | 0 => 0
  | k + 1 => smI f k + f k
def vm (T : TT) (x : Nat) : Nat := (T (6 + x)).toNatClampNeg
theorem vm_of {T : TT} (h : VT T) {x : Nat} (hx : x < 5) : 0 < vm T x ∧ vm T x < 64 ∧ T (6 + x) = nI (vm T x) := by
  obtain ⟨m, h1, h2, h3⟩ := h.2.2.2.1 x hx
  have : vm T x = m := by unfold vm; rw [h3, nI_clamp (by omega)]
  rw [this]
  exact ⟨h1, h2, h3⟩
def smP (T : TT) : Nat → Nat
  | 0 => 0
  | k + 1 => smP T k + pc (vm T k)
def stl (T : TT) : Nat → Nat
  | 0 => 0
  | k + 1 => stl T k ||| (if pc (vm T k) = 1 then 2 ^ k else 0)
theorem stl_s (T : TT) (k : Nat) : stl T (k + 1) = stl T k ||| (if pc (vm T k) = 1 then 2 ^ k else 0) := rfl
theorem stl_lt (T : TT) : ∀ k, k ≤ 5 → stl T k < 32
  | 0, _ => by show 0 < 32; omega
  | k + 1, h => by
    have := stl_lt T k (by omega)
    unfold stl
    refine Nat.or_lt_two_pow (n := 5) this ?_
    by_cases c : pc (vm T k) = 1
    · rw [if_pos c]; exact Nat.pow_lt_pow_right (by decide) (by omega)
    · rw [if_neg c]; decide
theorem c_sum {t : Nat} {T : TT} {μ : jM} (h : RT t T μ) : f_X9_sumOfCells t μ = some (smI T 6) := by
  obtain ⟨e, he, hr⟩ := jlpN (step := fun (s : Int32 × Int32) => f_X9_sumOfCells_L13 t μ s.1 s.2) 6 (fun k s => s = (smI T k, nI k)) (fun e => e = smI T 6)
    (fun k s hk hs => by
      subst hs
      refine ⟨(smI T (k + 1), nI (k + 1)), ?_, rfl⟩
      dsimp only
      unfold f_X9_sumOfCells_L13
      rw [if_neg (nI_ge hk (by decide)), jrd_n hk (by decide), h.1 k hk, nI_1]
      rfl)
    (fun s hs => by
      subst hs
      refine ⟨_, ?_, rfl⟩
      dsimp only
      unfold f_X9_sumOfCells_L13
      rw [if_pos (nI_le (Nat.le_refl _) (by decide))]) (i := 0) (n := jfu) (s := ((0 : Int32), (0 : Int32))) (by omega) rfl (jfu_lt (by omega))
  unfold f_X9_sumOfCells
  rw [jcl_e he, hr]
theorem c_vals {t : Nat} {T : TT} {μ : jM} (h : RT t T μ) (hv : VT T) : f_X9_valuesLeft t μ = some (nI (smP T 5)) := by
  obtain ⟨e, he, hr⟩ := jlpN (step := fun (s : Int32 × Int32) => f_X9_valuesLeft_L13 t μ s.1 s.2) 5 (fun k s => s = (nI (smP T k), nI k)) (fun e => e = nI (smP T 5))
    (fun k s hk hs => by
      subst hs
      refine ⟨(nI (smP T (k + 1)), nI (k + 1)), ?_, rfl⟩
      obtain ⟨q1, q2, q3⟩ := vm_of hv hk
      dsimp only
      unfold f_X9_valuesLeft_L13
      rw [if_neg (nI_ge hk (by decide)), jrd_n hk (by decide), h.2.1 k hk, q3, c_bits _ (by omega), jbd_e, nI_add, nI_1]
      rfl)
    (fun s hs => by
      subst hs
      refine ⟨_, ?_, rfl⟩
      dsimp only
      unfold f_X9_valuesLeft_L13
      rw [if_pos (nI_le (Nat.le_refl _) (by decide))]) (i := 0) (n := jfu) (s := ((0 : Int32), (0 : Int32))) (by omega) rfl (jfu_lt (by omega))
  unfold f_X9_valuesLeft
  rw [jcl_e he, hr]
theorem r_vals {σ : SS} {μ : jM} (h : RM σ μ) (hv : VS σ) : f_X12_valuesMany 201 μ = some (nI (smP (σ.2.1 0) 5)) := by
  obtain ⟨e, he, hr⟩ := jlpN (step := fun (s : Int32 × Int32) => f_X12_valuesMany_L4 201 μ s.1 s.2) 5 (fun k s => s = (nI (smP (σ.2.1 0) k), nI k)) (fun e => e = nI (smP (σ.2.1 0) 5))
    (fun k s hk hs => by
      subst hs
      refine ⟨(nI (smP (σ.2.1 0) (k + 1)), nI (k + 1)), ?_, rfl⟩
      obtain ⟨q1, q2, q3⟩ := vm_of (hv.2.1 0 (Nat.zero_le _)) hk
      dsimp only
      unfold f_X12_valuesMany_L4
      rw [jlit 5, if_neg (nI_ge hk (by decide))]
      show jrd (μ.1 204) _ _ _ = _
      rw [jlit 6, nI_add, jrd_n (by omega) (by decide), h.at (by omega), q3, jcl_e (r_bits (by omega)), nI_add, nI_1]
      rfl)
    (fun s hs => by
      subst hs
      refine ⟨_, ?_, rfl⟩
      dsimp only
      unfold f_X12_valuesMany_L4
      rw [jlit 5, if_pos (nI_le (Nat.le_refl _) (by decide))]) (i := 0) (n := jfu) (s := ((0 : Int32), (0 : Int32))) (by omega) rfl (jfu_lt (by omega))
  unfold f_X12_valuesMany
  rw [jcl_e he, hr]
theorem c_stl {t : Nat} {T : TT} {μ : jM} (h : RT t T μ) (hv : VT T) : f_X9_settled t μ = some (nI (stl T 5)) := by
  obtain ⟨e, he, hr⟩ := jlpN (step := fun (s : Int32 × Int32) => f_X9_settled_L4 t μ s.1 s.2) 5 (fun k s => s = (nI (stl T k), nI k)) (fun e => e = nI (stl T 5))
    (fun k s hk hs => by
      subst hs
      refine ⟨(nI (stl T (k + 1)), nI (k + 1)), ?_, rfl⟩
      obtain ⟨q1, q2, q3⟩ := vm_of hv hk
      have hl := stl_lt T k (by omega)
      have hp : 2 ^ k < 2 ^ 31 := Nat.pow_lt_pow_right (by decide) (by omega)
      have pl := pc_le (vm T k)
      dsimp only
      unfold f_X9_settled_L4
      rw [jlit 5, if_neg (nI_ge hk (by decide)), jrd_n hk (by decide), h.2.1 k hk, q3, c_bits _ (by omega), nI_1, shl_n _ (by omega), nI_or (by omega) hp]
      rw [stl_s]
      by_cases c : pc (vm T k) = 1
      · rw [c, if_pos (by rfl), if_pos rfl, jbd_e]
      · rw [jlit 1, if_neg (fun z => c ((nI_eq (by omega) (by decide)).mp z)), if_neg c, Nat.or_zero])
    (fun s hs => by
      subst hs
      refine ⟨_, ?_, rfl⟩
      dsimp only
      unfold f_X9_settled_L4
      rw [jlit 5, if_pos (nI_le (Nat.le_refl _) (by decide))]) (i := 0) (n := jfu) (s := ((0 : Int32), (0 : Int32))) (by omega) rfl (jfu_lt (by omega))
  unfold f_X9_settled
  rw [jcl_e he, hr]
theorem r_count12 {σ : SS} {μ : jM} (h : RM σ μ) : jloop (fun (s : Int32 × Int32) => f_X12_count_L12 201 μ s.1 s.2) jfu (((0 : Int32), (0 : Int32))) = some (smI (σ.2.1 0) 6) := by
  obtain ⟨e, he, hr⟩ := jlpN (step := fun (s : Int32 × Int32) => f_X12_count_L12 201 μ s.1 s.2) 6 (fun k s => s = (smI (σ.2.1 0) k, nI k)) (fun e => e = smI (σ.2.1 0) 6)
    (fun k s hk hs => by
      subst hs
      refine ⟨(smI (σ.2.1 0) (k + 1), nI (k + 1)), ?_, rfl⟩
      dsimp only
      unfold f_X12_count_L12
      rw [jlit 6, if_neg (nI_ge hk (by decide))]
      show jrd (μ.1 204) _ _ _ = _
      rw [jrd_n (by omega) (by decide), h.at (by omega), nI_1]
      rfl)
    (fun s hs => by
      subst hs
      refine ⟨_, ?_, rfl⟩
      dsimp only
      unfold f_X12_count_L12
      rw [jlit 6, if_pos (nI_le (Nat.le_refl _) (by decide))]) (i := 0) (n := jfu) (s := ((0 : Int32), (0 : Int32))) (by omega) rfl (jfu_lt (by omega))
  rw [he, hr]
theorem r_count38 {σ : SS} {μ : jM} (h : RM σ μ) (hv : VS σ) : jloop (fun (s : Int32 × Int32) => f_X12_count_L38 201 μ s.1 s.2) jfu (((0 : Int32), (0 : Int32))) = some (nI (stl (σ.2.1 0) 5)) := by
  obtain ⟨e, he, hr⟩ := jlpN (step := fun (s : Int32 × Int32) => f_X12_count_L38 201 μ s.1 s.2) 5 (fun k s => s = (nI (stl (σ.2.1 0) k), nI k)) (fun e => e = nI (stl (σ.2.1 0) 5))
    (fun k s hk hs => by
      subst hs
      refine ⟨(nI (stl (σ.2.1 0) (k + 1)), nI (k + 1)), ?_, rfl⟩
      obtain ⟨q1, q2, q3⟩ := vm_of (hv.2.1 0 (Nat.zero_le _)) hk
      have hl := stl_lt (σ.2.1 0) k (by omega)
      have hp : 2 ^ k < 2 ^ 31 := Nat.pow_lt_pow_right (by decide) (by omega)
      have pl := pc_le (vm (σ.2.1 0) k)
      dsimp only
      unfold f_X12_count_L38
      rw [jlit 5, if_neg (nI_ge hk (by decide))]
      show jrd (μ.1 204) _ _ _ = _
      rw [jlit 6, nI_add, jrd_n (by omega) (by decide), h.at (by omega), q3, jcl_e (r_bits (by omega)), nI_1, shl_n _ (by omega), jbd_e]
      rw [stl_s]
      by_cases c : pc (vm (σ.2.1 0) k) = 1
      · rw [c, if_pos (by rfl), if_pos rfl, nI_or (by omega) hp]
      · rw [jlit 1, if_neg (fun z => c ((nI_eq (by omega) (by decide)).mp z)), if_neg c, jlit 0, nI_or (by omega) (by decide)])
    (fun s hs => by
      subst hs
      refine ⟨_, ?_, rfl⟩
      dsimp only
      unfold f_X12_count_L38
      rw [jlit 5, if_pos (nI_le (Nat.le_refl _) (by decide))]) (i := 0) (n := jfu) (s := ((0 : Int32), (0 : Int32))) (by omega) rfl (jfu_lt (by omega))
  rw [he, hr]
theorem sim_count {μ : jM} (h : Rel μ) (x : Int32) : ∃ r μ2, f_X11_count 0 x μ = some r ∧ f_X12_count 201 x μ = some (r, μ2) ∧ Rel μ2 := by
  obtain ⟨⟨σ, hv, hS, hM⟩, ht, hr, hh, hk⟩ := id h
  have h9 := hv.1
  have v0 := hv.2.1 0 (Nat.zero_le _)
  have hM1 : RM σ (jsi μ 201 0 0) := hM.thr (by decide)
  unfold f_X11_count f_X12_count
  rw [jbd_e, jcl_e (r_count12 hM1), jcl_e (r_count38 hM1 hv)]
  by_cases c0 : x = 0
  · rw [if_pos c0, if_pos c0]
    refine ⟨_, _, congrArg some hS.1, ?_, sim_thr h⟩
    rw [hM1.1]
  rw [if_neg c0, if_neg c0]
  by_cases c1 : x = 1
  · rw [if_pos c1, if_pos c1, jcl_id, jcl_e (r_vals hM1 hv)]
    exact ⟨_, _, c_vals hS.2.1 v0, rfl, sim_thr h⟩
  rw [if_neg c1, if_neg c1]
  by_cases c2 : x = 2
  · rw [if_pos c2, if_pos c2]
    refine ⟨_, _, congrArg some hS.2.1.2.2.1, ?_, sim_thr h⟩
    show jrd ((jsi μ 201 0 (0 : Int32)).1 204) _ _ _ = _
    rw [jlit 11, jrd_n (by omega) (by decide), hM1.at (by omega)]
  rw [if_neg c2, if_neg c2]
  by_cases c3 : x = 3
  · rw [if_pos c3, if_pos c3]
    refine ⟨_, _, congrArg some hS.2.1.2.2.2.2.2.1, ?_, sim_thr h⟩
    show jrd ((jsi μ 201 0 (0 : Int32)).1 204) _ _ _ = _
    rw [jlit 28, jrd_n (by omega) (by decide), hM1.at (by omega)]
  rw [if_neg c3, if_neg c3]
  by_cases c4 : x = 4
  · rw [if_pos c4, if_pos c4, jcl_e (show f_X9_sumOfCells (0 + 6) μ = _ from c_sum hS.2.1)]
    exact ⟨_, _, rfl, by rw [Int32.add_comm], sim_thr h⟩
  rw [if_neg c4, if_neg c4]
  by_cases c5 : x = 5
  · rw [if_pos c5, if_pos c5, jcl_id, jcl_e (r_trs hM1 hv)]
    exact ⟨_, _, c_trs hS hv, rfl, sim_thr h⟩
  rw [if_neg c5, if_neg c5]
  by_cases c6 : x = 6
  · obtain ⟨n, -, n1, n2, -⟩ := hh
    rw [if_pos c6, if_pos c6]
    refine ⟨_, _, congrArg some n1, ?_, sim_thr h⟩
    rw [jsi_pl (by decide), n2]
  rw [if_neg c6, if_neg c6]
  by_cases c7 : x = 7
  · obtain ⟨n, -, n1, n2, -⟩ := hr
    rw [if_pos c7, if_pos c7]
    refine ⟨_, _, congrArg some n1, ?_, sim_thr h⟩
    rw [jsi_pl (by decide), n2]
  rw [if_neg c7, if_neg c7]
  by_cases c8 : x = 8
  · obtain ⟨n, -, n1, n2, -⟩ := ht
    rw [if_pos c8, if_pos c8]
    refine ⟨_, _, congrArg some n1, ?_, sim_thr h⟩
    rw [jsi_pl (by decide), n2]
  rw [if_neg c8, if_neg c8]
  by_cases c9 : x = 9
  · rw [if_pos c9, if_pos c9, jcl_id]
    exact ⟨_, _, c_stl hS.2.1 v0, rfl, sim_thr h⟩
  rw [if_neg c9, if_neg c9]
  exact ⟨_, _, rfl, rfl, sim_thr h⟩
