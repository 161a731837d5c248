/-- numbers of now, in the reference -/
theorem RM.at {σ : SS} {m : jM} (h : RM σ m) {k : Nat} (hk : k < 61) : m.1 204 k = σ.2.1 0 k := by
  have := h.2.1 0 (Nat.zero_le _) k hk
  rw [show 61 * 0 + k = k by omega] at this
  exact this
theorem RW.at {T : TT} {m : jM} (h : RW 0 T m) {k : Nat} (hk : k < 61) : m.1 204 k = T k := by
  have := h k hk
  rw [show 61 * 0 + k = k by omega] at this
  exact this
theorem c_hasV {t x v m : Nat} {T : TT} {μ : jM} (h : RT t T μ) (hx : x < 5) (hv : v < 6) (hm : m < 64) (e : T (6 + x) = nI m) : f_X9_hasValue t (nI x) (nI v) μ = some (if m.testBit v then 1 else 0) := by
  have ex := nI_toInt (n := x) (by omega)
  have ev := nI_toInt (n := v) (by omega)
  unfold f_X9_hasValue
  rw [var_i, if_pos (show 0 ≤ (nI x).toInt ∧ (nI x).toInt < 5 by omega), if_neg (by decide), value_i, if_pos (show 0 ≤ (nI v).toInt ∧ (nI v).toInt < 6 by omega), if_neg (by decide), jrd_n hx (by decide), h.2.1 x hx, e, nI_bit (by omega) (by omega)]
  cases m.testBit v <;> rfl
theorem c_var {s x m : Nat} {σ : SS} {μ : jM} (h : RS s σ μ) (hv : VS σ) (hx : x < 5) (hm : 0 < m) (hm2 : m < 64) : ∃ μ', f_X7_variableBecomes s (nI x) (nI m) μ = some (f_J6_bitCount_0f7a4 (σ.2.1 0 (6 + x) ^^^ nI m), μ') ∧ RS s (chg σ (upd (σ.2.1 0) (6 + x) (nI m))) μ' ∧ jFr (inS s) μ μ' := by
  have h0 := hv.2.1 0 (Nat.zero_le _)
  have hd := oth_var (v := nI m) h0 hx
  unfold f_X7_variableBecomes
  rw [jrd_n hx (by decide), show s + 3 = s + 1 + 2 from rfl, h.2.1.2.1 x hx]
  by_cases c : σ.2.1 0 (6 + x) = nI m
  · rw [if_pos c] at hd
    rw [if_pos c]
    refine ⟨μ, rfl, ?_, jFr.rf⟩
    have e : upd (σ.2.1 0) (6 + x) (nI m) = σ.2.1 0 := by
      funext j
      by_cases q : j = 6 + x
      · rw [q, pk_us, c]
      · exact pk_un q
    rw [e, chg_self]
    exact h
  · rw [if_neg c] at hd
    rw [if_neg c, jin_n hx (by decide), nI_clamp (by omega), jbd_e]
    have h1 : RS s (nowT σ (upd (σ.2.1 0) (6 + x) (nI m))) (jsi μ (s + 1 + 2) x (nI m)) := h.now hv.1 (h.2.1.var hx) (jFr.si _ _ _ ⟨by omega, by omega⟩)
    obtain ⟨μ1, e1, e2, e3⟩ := c_changed h1 (hv.nowT (h0.var hx hm hm2)) (t := 10 + x) (by unfold isTh; simp [show 10 + x < 15 by omega]) (by omega)
    have e1' : f_X7_changed s ((10 : Int32) + nI x) (jsi μ (s + 1 + 2) x (nI m)) = some μ1 := by rw [jlit 10, nI_add]; exact e1
    rw [jcl_e e1']
    refine ⟨μ1, rfl, ?_, (jFr.si _ _ _ ⟨by omega, by omega⟩).tr (e3.mono (fun c hc => hc.1))⟩
    rw [chg_one hd]
    exact e2
theorem ok_removes {σ : SS} (hv : VS σ) (x y : Int32) : ActOK σ (fun s => f_X7_takeValue s x y) (f_X12_removesOne 201 x y) := by
  have h0 := hv.2.1 0 (Nat.zero_le _)
  by_cases c : (0 ≤ x.toInt ∧ x.toInt < 5) ∧ (0 ≤ y.toInt ∧ y.toInt < 6)
  · have c0 := c
    obtain ⟨i, hi, rfl⟩ := nI_iof (n := 5) c.1 (by decide)
    obtain ⟨v, hvl, rfl⟩ := nI_iof (n := 6) c.2 (by decide)
    obtain ⟨m, hm0, hm, em⟩ := h0.2.2.2.1 i hi
    by_cases cb : m.testBit v = true
    · obtain ⟨b1, b3⟩ := rem_bits m hm v hvl cb
      have b2 : nI m - nI (2 ^ v) = nI (m - 2 ^ v) := pk_sub b3
      have bs : (1 : Int32) <<< (nI v &&& 31) = nI (2 ^ v) := shl_n v (by omega)
      by_cases c3 : m = 2 ^ v
      · refine ok_none (r := -3) hv (fun s μ hS => ?_) (fun q hq => ?_)
        · try dsimp only
          unfold f_X7_takeValue
          rw [var_i, if_pos c0.1, if_neg (by decide), value_i, if_pos c0.2, if_neg (by decide), jcl_e (c_hasV hS.2.1 hi hvl hm em), cb, if_neg (by decide), jrd_n hi (by decide), show s + 3 = s + 1 + 2 from rfl, hS.2.1.2.1 i hi, em, b1, jbd_e, show m - 2 ^ v = 0 by omega, if_pos (by decide)]
        · unfold f_X12_removesOne
          rw [rvar_i, if_pos c0.1, if_neg (by decide), rvalue_i, if_pos c0.2, if_neg (by decide)]
          show jrd (q.1 204) _ _ _ = _
          rw [jlit 6, nI_add, jrd_n (by omega) (by decide), hq.at (by omega), em, f_has (by omega) (by omega), cb, if_neg (by decide)]
          show jrd (q.1 204) _ _ _ = _
          rw [jrd_n (by omega) (by decide), hq.at (by omega), em, bs, if_pos (by rw [← c3])]
      · have hle : m - 2 ^ v < 64 := Nat.lt_of_le_of_lt (Nat.sub_le _ _) hm
        have hpos : 0 < m - 2 ^ v := by omega
        refine ⟨nI (pc (m - 2 ^ v)), upd (σ.2.1 0) (6 + i) (nI (m - 2 ^ v)), h0.var hi hpos hle, fun s μ _ hS => ?_, oneA (one_set hv.1 (by omega) (fun q hq => ?_))⟩
        · obtain ⟨μ1, a1, a2, a3⟩ := c_var hS hv hi hpos hle
          refine ⟨μ1, ?_, a2, a3.mono (fun c hc => Or.inl hc)⟩
          try dsimp only
          unfold f_X7_takeValue
          rw [var_i, if_pos c0.1, if_neg (by decide), value_i, if_pos c0.2, if_neg (by decide), jcl_e (c_hasV hS.2.1 hi hvl hm em), cb, if_neg (by decide), jrd_n hi (by decide), show s + 3 = s + 1 + 2 from rfl, hS.2.1.2.1 i hi, em, b1, jbd_e, if_neg (nI_ne0 hpos (by omega)), jcl2_e a1, c_bits _ (by omega)]
        · unfold f_X12_removesOne
          rw [rvar_i, if_pos c0.1, if_neg (by decide), rvalue_i, if_pos c0.2, if_neg (by decide)]
          show jrd (q.1 204) _ _ _ = _
          rw [jlit 6, nI_add, jrd_n (by omega) (by decide), hq.at (by omega), em, f_has (by omega) (by omega), cb, if_neg (by decide)]
          show jrd (q.1 204) _ _ _ = _
          rw [jrd_n (by omega) (by decide), hq.at (by omega), em, bs, if_neg (fun z => c3 ((nI_eq (by omega) (by have := b3; omega)).mp z))]
          show jrd (q.1 204) _ _ _ = _
          rw [jrd_n (by omega) (by decide), hq.at (by omega), em, jin_n (by omega) (by decide), nI_clamp (by omega), jbd_e, b2]
          show jrd ((jsi q 204 (6 + i) (nI (m - 2 ^ v))).1 204) _ _ _ = _
          rw [jrd_n (by omega) (by decide), jsi_at, jcl_e (r_bits (by omega))]
    · have cb : m.testBit v = false := by simpa using cb
      refine ok_none (r := -2) hv (fun s μ hS => ?_) (fun q hq => ?_)
      · try dsimp only
        unfold f_X7_takeValue
        rw [var_i, if_pos c0.1, if_neg (by decide), value_i, if_pos c0.2, if_neg (by decide), jcl_e (c_hasV hS.2.1 hi hvl hm em), cb, if_pos (by decide)]
      · unfold f_X12_removesOne
        rw [rvar_i, if_pos c0.1, if_neg (by decide), rvalue_i, if_pos c0.2, if_neg (by decide)]
        show jrd (q.1 204) _ _ _ = _
        rw [jlit 6, nI_add, jrd_n (by omega) (by decide), hq.at (by omega), em, f_has (by omega) (by omega), cb, if_pos (by decide)]
  · refine ok_none (r := -1) hv (fun s μ hS => ?_) (fun q hq => ?_)
    · try dsimp only
      unfold f_X7_takeValue
      rw [var_i, value_i]
      by_cases c1 : 0 ≤ x.toInt ∧ x.toInt < 5
      · rw [if_pos c1, if_neg (fun q => c ⟨c1, q⟩), if_neg (by decide), if_pos (by decide)]
      · rw [if_neg c1, if_pos (by decide)]
    · unfold f_X12_removesOne
      rw [rvar_i, rvalue_i]
      by_cases c1 : 0 ≤ x.toInt ∧ x.toInt < 5
      · rw [if_pos c1, if_neg (fun q => c ⟨c1, q⟩), if_neg (by decide), if_pos (by decide)]
      · rw [if_neg c1, if_pos (by decide)]
theorem ok_fixes {σ : SS} (hv : VS σ) (x y : Int32) : ActOK σ (fun s => f_X7_fixVariable s x y) (f_X12_fixesOne 201 x y) := by
  have h0 := hv.2.1 0 (Nat.zero_le _)
  by_cases c : (0 ≤ x.toInt ∧ x.toInt < 5) ∧ (0 ≤ y.toInt ∧ y.toInt < 6)
  · have c0 := c
    obtain ⟨i, hi, rfl⟩ := nI_iof (n := 5) c.1 (by decide)
    obtain ⟨v, hvl, rfl⟩ := nI_iof (n := 6) c.2 (by decide)
    obtain ⟨m, hm0, hm, em⟩ := h0.2.2.2.1 i hi
    have bs : (1 : Int32) <<< (nI v &&& 31) = nI (2 ^ v) := shl_n v (by omega)
    have p64 : 2 ^ v < 64 := Nat.pow_lt_pow_right (n := 6) (by decide) hvl
    have p0 : 0 < 2 ^ v := Nat.two_pow_pos v
    by_cases cb : m.testBit v = true
    · refine ⟨nI (pc m) - 1, upd (σ.2.1 0) (6 + i) (nI (2 ^ v)), h0.var hi p0 p64, fun s μ _ hS => ?_, oneA (one_set hv.1 (by omega) (fun q hq => ?_))⟩
      · obtain ⟨μ1, a1, a2, a3⟩ := c_var hS hv hi p0 p64
        refine ⟨μ1, ?_, a2, a3.mono (fun c hc => Or.inl hc)⟩
        rw [em, fix_bits m hm v hvl cb] at a1
        try dsimp only
        unfold f_X7_fixVariable
        rw [var_i, if_pos c0.1, if_neg (by decide), value_i, if_pos c0.2, if_neg (by decide), jcl_e (c_hasV hS.2.1 hi hvl hm em), cb, if_neg (by decide), bs, jcl2_e a1]
      · unfold f_X12_fixesOne
        rw [rvar_i, if_pos c0.1, if_neg (by decide), rvalue_i, if_pos c0.2, if_neg (by decide)]
        show jrd (q.1 204) _ _ _ = _
        rw [jlit 6, nI_add, jrd_n (by omega) (by decide), hq.at (by omega), em, f_has (by omega) (by omega), cb, if_neg (by decide)]
        show jrd (q.1 204) _ _ _ = _
        rw [jrd_n (by omega) (by decide), hq.at (by omega), em, jcl_e (r_bits (by omega)), jin_n (by omega) (by decide), nI_clamp (by omega), jbd_e, bs]
    · have cb : m.testBit v = false := by simpa using cb
      refine ok_none (r := -2) hv (fun s μ hS => ?_) (fun q hq => ?_)
      · try dsimp only
        unfold f_X7_fixVariable
        rw [var_i, if_pos c0.1, if_neg (by decide), value_i, if_pos c0.2, if_neg (by decide), jcl_e (c_hasV hS.2.1 hi hvl hm em), cb, if_pos (by decide)]
      · unfold f_X12_fixesOne
        rw [rvar_i, if_pos c0.1, if_neg (by decide), rvalue_i, if_pos c0.2, if_neg (by decide)]
        show jrd (q.1 204) _ _ _ = _
        rw [jlit 6, nI_add, jrd_n (by omega) (by decide), hq.at (by omega), em, f_has (by omega) (by omega), cb, if_pos (by decide)]
  · refine ok_none (r := -1) hv (fun s μ hS => ?_) (fun q hq => ?_)
    · try dsimp only
      unfold f_X7_fixVariable
      rw [var_i, value_i]
      by_cases c1 : 0 ≤ x.toInt ∧ x.toInt < 5
      · rw [if_pos c1, if_neg (fun q => c ⟨c1, q⟩), if_neg (by decide), if_pos (by decide)]
      · rw [if_neg c1, if_pos (by decide)]
    · unfold f_X12_fixesOne
      rw [rvar_i, rvalue_i]
      by_cases c1 : 0 ≤ x.toInt ∧ x.toInt < 5
      · rw [if_pos c1, if_neg (fun q => c ⟨c1, q⟩), if_neg (by decide), if_pos (by decide)]
      · rw [if_neg c1, if_pos (by decide)]
theorem limn_lt {m lo : Nat} (hm : m < 64) : ∀ k, limn m lo k < 64
  | 0 => Nat.zero_lt_succ 63
  | k + 1 => by
    unfold limn
    exact Nat.or_lt_two_pow (n := 6) (limn_lt hm k) (Nat.lt_of_le_of_lt Nat.and_le_left hm)
theorem r_lim {m lo hi i : Nat} {q : jM} (hm : m < 64) (hlo : lo < 6) (hhi : hi < 6) (h5 : i < 5) (e : q.1 204 (6 + i) = nI m) : jloop (fun (s : Int32 × Int32) => f_X12_limitsOne_L29 201 (nI i) (nI hi) q s.1 s.2) jfu (((0 : Int32), nI lo)) = some (nI (limn m lo (hi + 1 - lo))) := by
  obtain ⟨w, hw, hr⟩ := jlpN (step := fun (s : Int32 × Int32) => f_X12_limitsOne_L29 201 (nI i) (nI hi) q s.1 s.2) (hi + 1 - lo) (fun k s => s = (nI (limn m lo k), nI (lo + k))) (fun e => e = nI (limn m lo (hi + 1 - lo)))
    (fun k s hk hs => by
      subst hs
      refine ⟨(nI (limn m lo (k + 1)), nI (lo + (k + 1))), ?_, rfl⟩
      try dsimp only
      unfold f_X12_limitsOne_L29
      rw [if_neg (nI_nlt (by omega) (by omega))]
      show jrd (q.1 204) _ _ _ = _
      have hl := limn_lt (lo := lo) hm k
      have hp : 2 ^ (lo + k) < 2 ^ 31 := Nat.pow_lt_pow_right (by decide) (by omega)
      rw [jlit 6, nI_add, jrd_n (by omega) (by decide), e, shl_n _ (by omega), nI_and (by omega) hp, jbd_e, nI_or (by omega) (Nat.lt_of_le_of_lt Nat.and_le_left (by omega)), nI_1]
      rfl)
    (fun s hs => by
      subst hs
      refine ⟨_, ?_, rfl⟩
      try dsimp only
      unfold f_X12_limitsOne_L29
      rw [if_pos (nI_lt (by omega) (by omega))]) (i := 0) (n := jfu) (s := ((0 : Int32), nI lo)) (by omega) rfl (jfu_lt (by omega))
  rw [hw, hr]
theorem ok_limits {σ : SS} (hv : VS σ) (x y z : Int32) : ActOK σ (fun s => f_X7_limitVariable s x y z) (f_X12_limitsOne 201 x y z) := by
  have h0 := hv.2.1 0 (Nat.zero_le _)
  by_cases c : (0 ≤ x.toInt ∧ x.toInt < 5) ∧ (0 ≤ y.toInt ∧ y.toInt < 6) ∧ (0 ≤ z.toInt ∧ z.toInt < 6)
  · have c0 := c
    obtain ⟨i, hi, rfl⟩ := nI_iof (n := 5) c.1 (by decide)
    obtain ⟨lo, hlo, rfl⟩ := nI_iof (n := 6) c.2.1 (by decide)
    obtain ⟨h2, hhi, rfl⟩ := nI_iof (n := 6) c.2.2 (by decide)
    obtain ⟨m, hm0, hm, em⟩ := h0.2.2.2.1 i hi
    obtain ⟨b1, b2, b3⟩ := lim_bits m hm lo hlo h2 hhi
    generalize hw : limn m lo (h2 + 1 - lo) = w at b1 b2 b3
    have cl : ∀ (s : Nat) (μ : jM), RS s σ μ → f_X7_limitVariable s (nI i) (nI lo) (nI h2) μ = if nI w = 0 then some (-2, μ) else f_X7_variableBecomes s (nI i) (nI w) μ := fun s μ hS => by
      unfold f_X7_limitVariable
      rw [var_i, if_pos c0.1, if_neg (by decide), value_i, if_pos c0.2.1, if_neg (by decide), value_i, if_pos c0.2.2, if_neg (by decide), jrd_n hi (by decide), show s + 3 = s + 1 + 2 from rfl, hS.2.1.2.1 i hi, em, b1, jbd_e, jcl2_id]
    have rl : ∀ q : jM, q.1 204 (6 + i) = nI m → f_X12_limitsOne 201 (nI i) (nI lo) (nI h2) q = if nI w = 0 then some (-2, q) else some (nI (pc m) - nI (pc w), jsi q 204 (6 + i) (nI w)) := fun q hq => by
      unfold f_X12_limitsOne
      rw [rvar_i, if_pos c0.1, if_neg (by decide), rvalue_i, if_pos c0.2.1, if_neg (by decide), rvalue_i, if_pos c0.2.2, if_neg (by decide), jcl_e (r_lim hm hlo hhi hi hq), hw]
      by_cases cz : nI w = 0
      · rw [if_pos cz, if_pos cz]
      · rw [if_neg cz, if_neg cz]
        show jrd (q.1 204) _ _ _ = _
        rw [jlit 6, nI_add, jrd_n (by omega) (by decide), hq, jcl_e (r_bits (by omega)), jcl_e (r_bits (by omega)), jin_n (by omega) (by decide), nI_clamp (by omega), jbd_e]
    by_cases cz : w = 0
    · refine ok_none (r := -2) hv (fun s μ hS => ?_) (fun q hq => ?_)
      · try dsimp only
        rw [cl s μ hS, cz, if_pos (by decide)]
      · rw [rl q ((hq.at (by omega)).trans em), cz, if_pos (by decide)]
    · have hz : ¬ nI w = 0 := nI_ne0 (by omega) (by omega)
      refine ⟨nI (pc m) - nI (pc w), upd (σ.2.1 0) (6 + i) (nI w), h0.var hi (by omega) b2, fun s μ _ hS => ?_, oneA (one_set hv.1 (by omega) (fun q hq => ?_))⟩
      · obtain ⟨μ1, a1, a2, a3⟩ := c_var hS hv hi (by omega) b2
        refine ⟨μ1, ?_, a2, a3.mono (fun c hc => Or.inl hc)⟩
        rw [em, (sub_bits (by omega) (by omega) (and_sub b3)).1] at a1
        try dsimp only
        rw [cl s μ hS, if_neg hz, a1]
      · rw [rl q ((hq.at (by omega)).trans em), if_neg hz]
  · refine ok_none (r := -1) hv (fun s μ hS => ?_) (fun q hq => ?_)
    · try dsimp only
      unfold f_X7_limitVariable
      rw [var_i, value_i, value_i]
      by_cases c1 : 0 ≤ x.toInt ∧ x.toInt < 5
      · by_cases c2 : 0 ≤ y.toInt ∧ y.toInt < 6
        · rw [if_pos c1, if_pos c2, if_neg (fun q => c ⟨c1, c2, q⟩), if_neg (by decide), if_neg (by decide), if_pos (by decide)]
        · rw [if_pos c1, if_neg c2, if_neg (by decide), if_pos (by decide)]
      · rw [if_neg c1, if_pos (by decide)]
    · unfold f_X12_limitsOne
      rw [rvar_i, rvalue_i, rvalue_i]
      by_cases c1 : 0 ≤ x.toInt ∧ x.toInt < 5
      · by_cases c2 : 0 ≤ y.toInt ∧ y.toInt < 6
        · rw [if_pos c1, if_pos c2, if_neg (fun q => c ⟨c1, c2, q⟩), if_neg (by decide), if_neg (by decide), if_pos (by decide)]
        · rw [if_pos c1, if_neg c2, if_neg (by decide), if_pos (by decide)]
      · rw [if_neg c1, if_pos (by decide)]
theorem sim_removes {μ : jM} (h : Rel μ) (x y : Int32) : ∃ r μ1 μ2, f_X11_removes 0 x y μ = some (r, μ1) ∧ f_X12_removes 201 x y μ1 = some (r, μ2) ∧ Rel μ2 :=
  sim_ok (fa := f_X11_removes 0 x y) (fr := f_X12_removes 201 x y) h (by unfold f_X11_removes; rw [jcl2_id]) (fun m => by unfold f_X12_removes; simp only [jcl2_id]) (fun σ hv => ok_removes hv x y)
theorem sim_fixes {μ : jM} (h : Rel μ) (x y : Int32) : ∃ r μ1 μ2, f_X11_fixes 0 x y μ = some (r, μ1) ∧ f_X12_fixes 201 x y μ1 = some (r, μ2) ∧ Rel μ2 :=
  sim_ok (fa := f_X11_fixes 0 x y) (fr := f_X12_fixes 201 x y) h (by unfold f_X11_fixes; rw [jcl2_id]) (fun m => by unfold f_X12_fixes; simp only [jcl2_id]) (fun σ hv => ok_fixes hv x y)
theorem sim_limits {μ : jM} (h : Rel μ) (x y z : Int32) : ∃ r μ1 μ2, f_X11_limits 0 x y z μ = some (r, μ1) ∧ f_X12_limits 201 x y z μ1 = some (r, μ2) ∧ Rel μ2 :=
  sim_ok (fa := f_X11_limits 0 x y z) (fr := f_X12_limits 201 x y z) h (by unfold f_X11_limits; rw [jcl2_id]) (fun m => by unfold f_X12_limits; simp only [jcl2_id]) (fun σ hv => ok_limits hv x y z)
theorem chg_d0 {σ : SS} {T' : TT} (h : σ.1 = 0) : chg σ T' = nowT σ T' := by unfold chg nowT; rw [if_pos h]
theorem sim_renews {μ : jM} (h : Rel μ) (x : Int32) : ∃ r μ1 μ2, f_X11_renews 0 x μ = some (r, μ1) ∧ f_X12_renews 201 x μ1 = some (r, μ2) ∧ Rel μ2 := by
  obtain ⟨⟨σ, hv, hS, hM⟩, -⟩ := id h
  have h0 := hv.2.1 0 (Nat.zero_le _)
  have h9 := hv.1
  unfold f_X11_renews f_X12_renews f_X7_renewVariable
  rw [var_i, rvar_i, jcl2_id]
  by_cases c : 0 ≤ x.toInt ∧ x.toInt < 5
  · obtain ⟨i, hi, rfl⟩ := nI_iof (n := 5) c (by decide)
    obtain ⟨m, hm0, hm, em⟩ := h0.2.2.2.1 i hi
    rw [if_pos c, if_neg (by decide)]
    by_cases cd : σ.1 = 0
    · obtain ⟨μ1, a1, a2, a3⟩ := c_var (m := 63) hS hv hi (by decide) (by decide)
      have hM1 : RM σ (jsi μ1 201 0 0) := (hM.fc (CA5 (a3.mono (fun c hc => Or.inl hc))).r).thr (by decide)
      have e1 : μ.1 (0 + 5) 2 ≤ (0 : Int32) := by
        show μ.1 5 2 ≤ _
        rw [hS.1, cd]; decide
      have e2 : (jsi μ1 201 0 (0 : Int32)).1 201 9 ≤ (0 : Int32) := by rw [hM1.1, cd]; decide
      rw [em, ren_bits m hm] at a1
      have a1' : f_X7_variableBecomes (0 + 5) (nI i) (63 : Int32) μ = some ((6 : Int32) - nI (pc m), μ1) := a1
      rw [if_pos e1, jcl2_id, a1']
      refine ⟨_, μ1, jsi (jsi μ1 201 0 0) 204 (6 + i) (nI 63), rfl, ?_, ?_⟩
      · rw [jbd_e, if_neg (by decide), if_pos e2]
        show jrd ((jsi μ1 201 0 (0 : Int32)).1 204) _ _ _ = _
        rw [jlit 6, nI_add, jrd_n (by omega) (by decide), hM1.at (by omega), em, jcl_e (r_bits (by omega)), jin_n (by omega) (by decide), nI_clamp (by omega), jbd_e, jlit 63]
      · have q := hM1.set (k := 6 + i) (v := nI 63) h9 (by omega)
        have a2' : RS 5 (nowT σ (upd (σ.2.1 0) (6 + i) (nI 63))) μ1 := by rw [chg_d0 cd] at a2; exact a2
        exact rel_mk h (hv.nowT (h0.var hi (by decide) (by decide))) a2' (CA5 (a3.mono (fun c hc => Or.inl hc))) q.1 ((RC.thr (by decide)).tr q.2.c)
    · have e1 : ¬ μ.1 (0 + 5) 2 ≤ (0 : Int32) := by
        show ¬ μ.1 5 2 ≤ _
        rw [hS.1]; exact nI_nle (by omega) (by omega)
      have hM1 : RM σ (jsi μ 201 0 0) := hM.thr (by decide)
      have e2 : ¬ (jsi μ 201 0 (0 : Int32)).1 201 9 ≤ (0 : Int32) := by rw [hM1.1]; exact nI_nle (by omega) (by omega)
      rw [if_neg e1]
      refine ⟨-2, μ, jsi μ 201 0 0, rfl, ?_, rel_mk h hv hS jFr.rf hM1 (RC.thr (by decide))⟩
      rw [jbd_e, if_neg (by decide), if_neg e2]
  · rw [if_neg c, if_pos (by decide)]
    refine ⟨-1, μ, jsi μ 201 0 0, rfl, ?_, rel_mk h hv hS jFr.rf (hM.thr (by decide)) (RC.thr (by decide))⟩
    rw [jbd_e, if_pos (by decide)]
