/-! acts: what they do to the things -/
theorem plc_congr {T T' : TT} (h11 : T 11 = T' 11) (h : ∀ i, i < np T → T (12 + i) = T' (12 + i)) (key : Int32) : plc T key = plc T' key := by
  unfold plc
  have e : np T = np T' := by unfold np; rw [h11]
  rw [← e]
  exact fnd_congr (fun j _ hj => h j (by omega))
theorem tell_cell {T T' : TT} {t : Nat} (ht : t < 6) (h : T t = T' t) : tell T t = tell T' t := by unfold tell; rw [if_pos ht, if_pos ht, h]
theorem tell_var {T T' : TT} {t : Nat} (ht : 10 ≤ t) (ht2 : t < 15) (h : T (t - 4) = T' (t - 4)) : tell T t = tell T' t := by
  unfold tell
  simp only [if_neg (show ¬ t < 6 by omega), if_pos ht2, h]
theorem tell_key {T T' : TT} {t : Nat} (ht : 20 ≤ t) (ht2 : t < 30) (h11 : T 11 = T' 11) (hk : ∀ i, i < np T → T (12 + i) = T' (12 + i) ∧ T (20 + i) = T' (20 + i)) : tell T t = tell T' t := by
  unfold tell
  simp only [if_neg (show ¬ t < 6 by omega), if_neg (show ¬ t < 15 by omega), if_pos ht2, plc_congr h11 (fun i hi => (hk i hi).1)]
  cases hq : plc T' (nI (t - 20)) with
  | none => rfl
  | some i =>
    have hi := fnd_some hq
    have e : np T = np T' := by unfold np; rw [h11]
    show _ + T (20 + i) = _ + T' (20 + i)
    rw [(hk i (by omega)).2]
theorem tell_con {T T' : TT} (h : T 28 = T' 28) : tell T 30 = tell T' 30 := by
  unfold tell
  rw [if_neg (by omega), if_neg (by omega), if_neg (by omega), if_neg (by omega), if_neg (by omega), if_neg (by omega)]
  exact h
theorem dpar_f {T T' : TT} {n : Nat} (h : ∀ k, k < n → T (29 + k) = T' (29 + k)) : dpar T T' n = false := by
  unfold dpar
  rw [List.any_eq_false]
  intro k hk
  simp [h k (List.mem_range.mp hk)]
theorem oth_f {T T' : TT} {t : Nat} (h : tell T t = tell T' t) (h2 : t = 30 → ∀ k, k < 4 * nc T → T (29 + k) = T' (29 + k)) : othB T T' t = false := by
  unfold othB
  by_cases c : t = 30
  · rw [dpar_f (h2 c)]; simp [h]
  · simp [h, c]
/-- things that agree but at one cell, or variable -/
theorem isTh_cases {t : Nat} (h : isTh t = true) : t < 6 ∨ (10 ≤ t ∧ t < 15) ∨ (20 ≤ t ∧ t < 30) ∨ t = 30 := by
  unfold isTh at h
  simp only [Bool.or_eq_true, Bool.and_eq_true, decide_eq_true_eq] at h
  omega
theorem oth_cell {T : TT} {i : Nat} {v : Int32} (hv : VT T) (hi : i < 6) : dfl T (upd T i v) 31 = if T i = v then [] else [i] := by
  have hn := hv.1.1
  have hc := hv.2.1.1
  have k : ∀ k, k ≠ i → (upd T i v) k = T k := fun k h => pk_un h
  rw [dfl_one (a := i) (fun t hb ht hne => ?_) (by unfold isTh; simp [hi]) (by omega)]
  · unfold othB tell
    rw [if_pos hi, if_pos hi, pk_us]
    by_cases c : T i = v
    · rw [if_pos c, c]; simp [show ¬ i = 30 by omega]
    · have c' : ¬ nI 1000 + T i = nI 1000 + v := fun q => c ((i32_add_inj _ _ _).mp q)
      rw [if_neg c]; simp [c']
  · refine oth_f ?_ (fun _ q hq => (k _ (by omega)).symm)
    rcases isTh_cases ht with q | q | q | q
    · exact tell_cell q (k t hne).symm
    · exact tell_var q.1 q.2 (k _ (by omega)).symm
    · exact tell_key q.1 q.2 (k _ (by omega)).symm (fun j hj => ⟨(k _ (by omega)).symm, (k _ (by omega)).symm⟩)
    · rw [q]; exact tell_con (k _ (by omega)).symm
theorem oth_var {T : TT} {x : Nat} {v : Int32} (hv : VT T) (hx : x < 5) : dfl T (upd T (6 + x) v) 31 = if T (6 + x) = v then [] else [10 + x] := by
  have hn := hv.1.1
  have hc := hv.2.1.1
  have k : ∀ k, k ≠ 6 + x → (upd T (6 + x) v) k = T k := fun k h => pk_un h
  rw [dfl_one (a := 10 + x) (fun t hb ht hne => ?_) (by unfold isTh; simp [show 10 + x < 15 by omega]) (by omega)]
  · unfold othB tell
    simp only [if_neg (show ¬ 10 + x < 6 by omega), if_pos (show 10 + x < 15 by omega), show 10 + x - 4 = 6 + x by omega, pk_us]
    by_cases c : T (6 + x) = v
    · rw [if_pos c, c]; simp [show ¬ 10 + x = 30 by omega]
    · rw [if_neg c]; simp [c]
  · refine oth_f ?_ (fun _ q hq => (k _ (by omega)).symm)
    rcases isTh_cases ht with q | q | q | q
    · exact tell_cell q (k t (by omega)).symm
    · exact tell_var q.1 q.2 (k _ (by omega)).symm
    · exact tell_key q.1 q.2 (k _ (by omega)).symm (fun j hj => ⟨(k _ (by omega)).symm, (k _ (by omega)).symm⟩)
    · rw [q]; exact tell_con (k _ (by omega)).symm
theorem VT.cell {T : TT} {i : Nat} {v : Int32} (h : VT T) (hi : i < 6) (hv : numOK v) : VT (upd T i v) := by
  obtain ⟨h1, h2, h3, h4, h5, h6, h7, h8⟩ := h
  have k : ∀ k, k ≠ i → (upd T i v) k = T k := fun k h => pk_un h
  have en : np (upd T i v) = np T := by unfold np; rw [k _ (by omega)]
  have ec : nc (upd T i v) = nc T := by unfold nc; rw [k _ (by omega)]
  unfold VT
  rw [en, ec, k 11 (by omega), k 28 (by omega)]
  refine ⟨h1, h2, fun j hj => ?_, fun j hj => ?_, fun j hj => ?_, fun a b ha hb => ?_, fun j hj => ?_, fun j hj => ?_⟩
  · by_cases c : j = i
    · rw [c, pk_us]; exact hv
    · rw [k _ c]; exact h3 j hj
  · rw [k _ (by omega)]; exact h4 j hj
  · rw [k _ (by omega)]; exact h5 j hj
  · rw [k _ (by omega), k _ (by omega)]; exact h6 a b ha hb
  · rw [k _ (by omega)]; exact h7 j hj
  · rw [k _ (by omega), k _ (by omega), k _ (by omega), k _ (by omega)]; exact h8 j hj
theorem VT.var {T : TT} {x m : Nat} (h : VT T) (hx : x < 5) (hm : 0 < m) (hm2 : m < 64) : VT (upd T (6 + x) (nI m)) := by
  obtain ⟨h1, h2, h3, h4, h5, h6, h7, h8⟩ := h
  have k : ∀ k, k ≠ 6 + x → (upd T (6 + x) (nI m)) k = T k := fun k h => pk_un h
  have en : np (upd T (6 + x) (nI m)) = np T := by unfold np; rw [k _ (by omega)]
  have ec : nc (upd T (6 + x) (nI m)) = nc T := by unfold nc; rw [k _ (by omega)]
  unfold VT
  rw [en, ec, k 11 (by omega), k 28 (by omega)]
  refine ⟨h1, h2, fun j hj => ?_, fun j hj => ?_, fun j hj => ?_, fun a b ha hb => ?_, fun j hj => ?_, fun j hj => ?_⟩
  · rw [k _ (by omega)]; exact h3 j hj
  · by_cases c : j = x
    · rw [c, pk_us]; exact ⟨m, hm, hm2, rfl⟩
    · rw [k _ (by omega)]; exact h4 j hj
  · rw [k _ (by omega)]; exact h5 j hj
  · rw [k _ (by omega), k _ (by omega)]; exact h6 a b ha hb
  · rw [k _ (by omega)]; exact h7 j hj
  · rw [k _ (by omega), k _ (by omega), k _ (by omega), k _ (by omega)]; exact h8 j hj
theorem dfl_self (T : TT) (n : Nat) : dfl T T n = [] := by
  unfold dfl
  rw [List.filter_eq_nil_iff]
  intro t _
  simp [othB, dpar]
theorem nowT_self (σ : SS) : nowT σ (σ.2.1 0) = σ := by
  unfold nowT
  congr 2
  funext j
  by_cases c : j = 0
  · rw [c, va_up_self]
  · rw [va_up_ne _ _ c]
theorem chg_self (σ : SS) : chg σ (σ.2.1 0) = σ := by rw [chg_none (dfl_self _ _), nowT_self]
theorem RT.cell {t i : Nat} {T : TT} {v : Int32} {μ : jM} (h : RT t T μ) (hi : i < 6) : RT t (upd T i v) (jsi μ (t + 1) i v) := by
  obtain ⟨h1, h2, h3, h4, h5, h6, h7⟩ := h
  have k : ∀ k, k ≠ i → (upd T i v) k = T k := fun k h => pk_un h
  refine ⟨fun j hj => ?_, fun j hj => ?_, ?_, fun j hj => ?_, fun j hj => ?_, ?_, fun j hj => ?_⟩
  · by_cases c : j = i
    · rw [c, jsi_at, pk_us]
    · rw [jsi_pl c, k _ c]; exact h1 j hj
  · rw [jsi_ne (by omega), k _ (by omega)]; exact h2 j hj
  · rw [jsi_ne (by omega), k _ (by omega)]; exact h3
  · rw [jsi_ne (by omega), k _ (by omega)]; exact h4 j hj
  · rw [jsi_ne (by omega), k _ (by omega)]; exact h5 j hj
  · rw [jsi_ne (by omega), k _ (by omega)]; exact h6
  · rw [jsi_ne (by omega), k _ (by omega)]; exact h7 j hj
theorem RT.var {t x : Nat} {T : TT} {v : Int32} {μ : jM} (h : RT t T μ) (hx : x < 5) : RT t (upd T (6 + x) v) (jsi μ (t + 2) x v) := by
  obtain ⟨h1, h2, h3, h4, h5, h6, h7⟩ := h
  have k : ∀ k, k ≠ 6 + x → (upd T (6 + x) v) k = T k := fun k h => pk_un h
  refine ⟨fun j hj => ?_, fun j hj => ?_, ?_, fun j hj => ?_, fun j hj => ?_, ?_, fun j hj => ?_⟩
  · rw [jsi_ne (by omega), k _ (by omega)]; exact h1 j hj
  · by_cases c : j = x
    · rw [c, jsi_at, pk_us]
    · rw [jsi_pl c, k _ (by omega)]; exact h2 j hj
  · rw [jsi_ne (by omega), k _ (by omega)]; exact h3
  · rw [jsi_ne (by omega), k _ (by omega)]; exact h4 j hj
  · rw [jsi_ne (by omega), k _ (by omega)]; exact h5 j hj
  · rw [jsi_ne (by omega), k _ (by omega)]; exact h6
  · rw [jsi_ne (by omega), k _ (by omega)]; exact h7 j hj
/-- a cell of the class becomes v -/
theorem c_cell {s i : Nat} {σ : SS} {μ : jM} {v : Int32} (h : RS s σ μ) (hv : VS σ) (hi : i < 6) (hn : numOK v) : ∃ μ', f_X7_cellBecomes s (nI i) v μ = some μ' ∧ RS s (chg σ (upd (σ.2.1 0) i v)) μ' ∧ jFr (inS s) μ μ' := by
  have h0 := hv.2.1 0 (Nat.zero_le _)
  have hd := oth_cell (v := v) h0 hi
  unfold f_X7_cellBecomes
  rw [jrd_n hi (by decide), show s + 2 = s + 1 + 1 from rfl, h.2.1.1 i hi]
  by_cases c : σ.2.1 0 i = v
  · rw [if_pos c] at hd
    rw [if_pos c]
    refine ⟨μ, rfl, ?_, jFr.rf⟩
    have e : upd (σ.2.1 0) i v = σ.2.1 0 := by
      funext j
      by_cases q : j = i
      · rw [q, pk_us, c]
      · exact pk_un q
    rw [e, chg_self]
    exact h
  · rw [if_neg c] at hd
    rw [if_neg c, jin_n hi (by decide), nI_clamp (by omega), jbd_e]
    have h1 : RS s (nowT σ (upd (σ.2.1 0) i v)) (jsi μ (s + 1 + 1) i v) := h.now hv.1 (h.2.1.cell hi) (jFr.si _ _ _ ⟨by omega, by omega⟩)
    obtain ⟨μ1, e1, e2, e3⟩ := c_changed h1 (hv.nowT (h0.cell hi hn)) (t := i) (by unfold isTh; simp [hi]) (by omega)
    rw [jcl_e e1]
    refine ⟨μ1, rfl, ?_, (jFr.si _ _ _ ⟨by omega, by omega⟩).tr (e3.mono (fun c hc => hc.1))⟩
    rw [chg_one hd]
    exact e2
/-- the reference's memory: a number of now -/
theorem RM.set {σ : SS} {μ : jM} {k : Nat} {v : Int32} (h : RM σ μ) (hd : σ.1 ≤ 9) (hk : k < 61) : RM (nowT σ (upd (σ.2.1 0) k v)) (jsi μ 204 k v) ∧ RF μ (jsi μ 204 k v) := by
  obtain ⟨h1, h2, h3⟩ := h
  refine ⟨⟨?_, fun j hj => ?_, fun j hj => (h3 j hj).fr (jsi_ne (by decide)) (jsi_ne (by decide))⟩, jFr.si _ _ _ (Or.inr ⟨by decide, by decide⟩), fun w hw hn i hi => jsi_pl (by omega), fun i _ _ _ => by rw [jsi_ne (by decide)]⟩
  · rw [jsi_ne (by decide)]; exact h1
  · show RW j (va_up σ.2.1 0 (upd (σ.2.1 0) k v) j) _
    intro i hi
    by_cases c : j = 0
    · rw [c, va_up_self]
      by_cases e : i = k
      · rw [e, pk_us, show 61 * 0 + k = k by omega, jsi_at]
      · rw [pk_un e, jsi_pl (by omega)]; exact h2 0 (Nat.zero_le _) i hi
    · rw [va_up_ne _ _ c, jsi_pl (by omega)]; exact h2 j hj i hi
theorem RW.set10 {T : TT} {μ : jM} {k : Nat} {v : Int32} (h : RW 10 T μ) (hk : k < 61) : RW 10 T (jsi μ 204 k v) := fun i hi => by rw [jsi_pl (by omega)]; exact h i hi
/-- a call of the reference that is one act -/
theorem r_act {σ : SS} {T' : TT} {μ : jM} {r : Int32} (one : jM → Option (Int32 × jM)) (h : RM σ μ) (hv : VS σ) (hT : VT T') (hone : ∀ m, RM σ m → RW 10 (σ.2.1 0) m → ∃ m', one m = some (r, m') ∧ RM (nowT σ T') m' ∧ RW 10 (σ.2.1 0) m' ∧ RF m m') :
    ∃ μ', jbd (jsi μ 201 0 (0 : Int32)) (fun m1 => jcl (f_X12_begins 201 m1) (fun m3 => jcl2 (one m3) (fun v5 m6 => jcl2 (f_X12_ends 201 v5 m6) (fun v8 m9 => some (v8, m9))))) = some (r, μ') ∧ RM (chg σ T') μ' ∧ RF μ μ' := by
  have h0 : RM σ (jsi μ 201 0 0) := h.fr (jsi_pl (by decide)) (jsi_ne (by decide)) (jsi_ne (by decide)) (jsi_ne (by decide))
  have f0 : RF μ (jsi μ 201 0 0) := ⟨jFr.si _ _ _ (Or.inl rfl), MF.of (jsi_ne (by decide)), fun k q _ _ => jsi_pl q⟩
  obtain ⟨m1, a1, a2, a3, a4, a5⟩ := r_begins h0 hv.1
  have f1 : RF (jsi μ 201 0 0) m1 := ⟨a5.mono (fun c hc => by omega), a4.mono (fun w hw => by omega), fun k _ _ _ => by rw [(a5 201 (by decide)).1]⟩
  obtain ⟨m2, b1, b2, b3, b4⟩ := hone m1 a2 a3
  obtain ⟨m3, c1, c2, c3⟩ := r_ends b2 b3 hv hT r
  have f3 : RF m2 m3 := ⟨c3.mono (fun c hc => by omega), MF.of (c3 204 (by decide)).1, fun k _ _ _ => by rw [(c3 201 (by decide)).1]⟩
  rw [jbd_e, jcl_e a1, jcl2_e b1, jcl2_e c1]
  exact ⟨m3, rfl, c2, ((f0.tr f1).tr b4).tr f3⟩
/-- a call of both that is one act -/
theorem sim_act {μ : jM} {fc : jM → Option (Int32 × jM)} {one : jM → Option (Int32 × jM)} {fr : jM → Option (Int32 × jM)} (h : Rel μ)
    (hfr : ∀ m, fr m = jbd (jsi m 201 0 (0 : Int32)) (fun m1 => jcl (f_X12_begins 201 m1) (fun m3 => jcl2 (one m3) (fun v5 m6 => jcl2 (f_X12_ends 201 v5 m6) (fun v8 m9 => some (v8, m9))))))
    (hac : ∀ σ, VS σ → RS 5 σ μ → ∃ r T', VT T' ∧ (∃ μ1, fc μ = some (r, μ1) ∧ RS 5 (chg σ T') μ1 ∧ jFr (inS 5) μ μ1) ∧ ∀ m, RM σ m → RW 10 (σ.2.1 0) m → ∃ m', one m = some (r, m') ∧ RM (nowT σ T') m' ∧ RW 10 (σ.2.1 0) m' ∧ RF m m') :
    ∃ r μ1 μ2, fc μ = some (r, μ1) ∧ fr μ1 = some (r, μ2) ∧ Rel μ2 := by
  obtain ⟨⟨σ, hv, hS, hM⟩, -⟩ := id h
  obtain ⟨r, T', hT, ⟨μ1, a1, a2, a3⟩, hone⟩ := hac σ hv hS
  have n5 : ∀ c, 85 ≤ c → ¬ inS 5 c := fun c hc q => by obtain ⟨q1, q2⟩ := q; omega
  have hM1 : RM σ μ1 := hM.fr (by rw [(a3 201 (n5 _ (by omega))).1]) (a3 204 (n5 _ (by omega))).1 (a3 205 (n5 _ (by omega))).1 (a3 206 (n5 _ (by omega))).1
  obtain ⟨μ2, b1, b2, b3⟩ := r_act one hM1 hv hT hone
  exact ⟨r, μ1, μ2, a1, by rw [hfr]; exact b1, rel_act h (hv.chg hT) a2 a3 b2 b3⟩
/-- nothing is done -/
theorem one_none {σ : SS} {r : Int32} {one : jM → Option (Int32 × jM)} (h : ∀ m, one m = some (r, m)) : ∀ m, RM σ m → RW 10 (σ.2.1 0) m → ∃ m', one m = some (r, m') ∧ RM (nowT σ (σ.2.1 0)) m' ∧ RW 10 (σ.2.1 0) m' ∧ RF m m' := fun m h1 h2 => ⟨m, h m, by rw [nowT_self]; exact h1, h2, RF.rf⟩
theorem one_set {σ : SS} {r v : Int32} {k : Nat} {one : jM → Option (Int32 × jM)} (hd : σ.1 ≤ 9) (hk : k < 61) (h : ∀ m, RW 0 (σ.2.1 0) m → one m = some (r, jsi m 204 k v)) : ∀ m, RM σ m → RW 10 (σ.2.1 0) m → ∃ m', one m = some (r, m') ∧ RM (nowT σ (upd (σ.2.1 0) k v)) m' ∧ RW 10 (σ.2.1 0) m' ∧ RF m m' := fun m h1 h2 =>
  ⟨_, h m (h1.2.1 0 (Nat.zero_le _)), (h1.set hd hk).1, h2.set10 hk, (h1.set hd hk).2⟩
theorem sim_sets {μ : jM} (h : Rel μ) (x y : Int32) : ∃ r μ1 μ2, f_X11_sets 0 x y μ = some (r, μ1) ∧ f_X12_sets 201 x y μ1 = some (r, μ2) ∧ Rel μ2 := by
  refine sim_act (one := f_X12_setsOne 201 x y) (fc := f_X11_sets 0 x y) (fr := f_X12_sets 201 x y) h (fun m => rfl) (fun σ hv hS => ?_)
  have e1 : (0 : Int64).toInt = 0 := by decide
  have e2 : (5 : Int64).toInt = 5 := by decide
  have e3 : (-999 : Int64).toInt = -999 := by decide
  have e4 : (999 : Int64).toInt = 999 := by decide
  have h0 := hv.2.1 0 (Nat.zero_le _)
  by_cases c : (0 ≤ x.toInt ∧ x.toInt < 6) ∧ (-999 ≤ y.toInt ∧ y.toInt ≤ 999)
  · obtain ⟨i, hi, rfl⟩ := nI_iof (n := 6) c.1 (by decide)
    obtain ⟨μ1, a1, a2, a3⟩ := c_cell hS hv hi c.2
    refine ⟨nI 1000 + σ.2.1 0 i, upd (σ.2.1 0) i y, h0.cell hi c.2, ⟨μ1, ?_, a2, a3⟩, one_set hv.1 (by omega) (fun m hm => ?_)⟩
    · unfold f_X11_sets f_X7_setCell
      rw [cell_i, if_pos c.1, num_i, if_pos c.2, if_neg (by decide), if_neg (by decide), jrd_n hi (by decide)]
      show jcl2 (jcl (f_X7_cellBecomes 5 (nI i) y μ) _) _ = _
      rw [jcl_e a1]
      show some ((1000 : Int32) + μ.1 (0 + 5 + 2) i, μ1) = _
      rw [show 0 + 5 + 2 = 5 + 1 + 1 from rfl, hS.2.1.1 i hi]
      rfl
    · unfold f_X12_setsOne
      rw [in_i, e1, e2, if_pos (show 0 ≤ (nI i).toInt ∧ (nI i).toInt ≤ 5 by omega), in_i, e3, e4, if_pos c.2, if_neg (by decide), if_neg (by decide)]
      show jrd (m.1 204) _ _ _ = _
      have := hm i (by omega)
      rw [show 61 * 0 + i = i by omega] at this
      rw [jrd_n (by omega) (by decide), jin_n (by omega) (by decide), nI_clamp (by omega), jbd_e, this]
      rfl
  · refine ⟨-1, σ.2.1 0, h0, ⟨μ, ?_, by rw [chg_self]; exact hS, jFr.rf⟩, one_none (fun m => ?_)⟩
    · unfold f_X11_sets f_X7_setCell
      rw [cell_i, num_i]
      by_cases c1 : 0 ≤ x.toInt ∧ x.toInt < 6
      · rw [if_pos c1, if_neg (fun q => c ⟨c1, q⟩), if_neg (by decide), if_pos (by decide)]; rfl
      · rw [if_neg c1, if_pos (by decide)]; rfl
    · unfold f_X12_setsOne
      rw [in_i, e1, e2, in_i, e3, e4]
      by_cases c1 : 0 ≤ x.toInt ∧ x.toInt ≤ 5
      · rw [if_pos c1, if_neg (fun q => c ⟨by omega, q⟩), if_neg (by decide), if_pos (by decide)]
      · rw [if_neg c1, if_pos (by decide)]
