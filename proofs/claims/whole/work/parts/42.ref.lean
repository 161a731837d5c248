/-! things of the reference -/
theorem r_its {w k : Nat} {T : TT} {μ : jM} (h : RW w T μ) (hw : w < 34) (hk : k < 61) : f_X12_its 201 (nI w) (nI k) μ = some (T k) := by
  unfold f_X12_its
  show jrd (μ.1 204) _ _ _ = _
  rw [jlit 61, pk_mul, nI_add, jrd_n (by omega) (by decide), show w * 61 + k = 61 * w + k by omega, h k hk]
theorem r_placeOf {w : Nat} {T : TT} {μ : jM} (h : RW w T μ) (hw : w < 34) (hv : VT T) (key : Int32) : f_X12_placeOf 201 (nI w) key μ = some (fndI (plc T key)) := by
  obtain ⟨⟨hn8, hn⟩, -⟩ := hv
  have e11 : f_X12_its 201 (nI w) (11 : Int32) μ = some (nI (np T)) := by rw [← hn]; exact r_its h hw (k := 11) (by decide)
  have e12 : ∀ i, i < 8 → f_X12_its 201 (nI w) ((12 : Int32) + nI i) μ = some (T (12 + i)) := fun i hi => by rw [jlit 12, nI_add]; exact r_its h hw (by omega)
  have key0 : ∀ (m i fu : Nat), i + m = np T → m < fu → jloop (fun (s : Int32) => f_X12_placeOf_L2 201 (nI w) key μ s) fu (nI i) = some (match fnd (fun i => T (12 + i)) key m i with | some j => .inl (nI j) | none => .inr ()) := by
    intro m
    induction m with
    | zero =>
      intro i fu hi hf
      obtain ⟨fu, rfl⟩ : ∃ q, fu = q + 1 := ⟨fu - 1, by omega⟩
      refine jloop_x ?_
      unfold f_X12_placeOf_L2
      rw [jcl_e e11, if_pos (nI_le (by omega) (by omega))]
      rfl
    | succ m ih =>
      intro i fu hi hf
      obtain ⟨fu, rfl⟩ : ∃ q, fu = q + 1 := ⟨fu - 1, by omega⟩
      unfold fnd
      by_cases c : T (12 + i) = key
      · rw [if_pos c]
        refine jloop_x ?_
        unfold f_X12_placeOf_L2
        rw [jcl_e e11, if_neg (nI_ge (by omega) (by omega)), jcl_e (e12 i (by omega)), if_pos c]
      · rw [if_neg c, ← ih (i + 1) fu (by omega) (by omega)]
        refine jloop_s ?_
        unfold f_X12_placeOf_L2
        rw [jcl_e e11, if_neg (nI_ge (by omega) (by omega)), jcl_e (e12 i (by omega)), if_neg c, nI_1]
  unfold f_X12_placeOf
  refine (jcl_e (key0 (np T) 0 jfu (by omega) (jfu_lt (by omega)))).trans ?_
  unfold plc fndI
  cases fnd (fun i => T (12 + i)) key (np T) 0 <;> rfl
theorem i32_add_inj (c x y : Int32) : c + x = c + y ↔ x = y := by
  constructor
  · intro h
    have h1 : -c + (c + x) = -c + (c + y) := by rw [h]
    rw [← Int32.add_assoc, ← Int32.add_assoc, Int32.add_left_neg, Int32.zero_add, Int32.zero_add] at h1
    exact h1
  · intro h; rw [h]
theorem num_1000 {x : Int32} (h : numOK x) : ¬ nI 1000 + x = 0 := by
  intro q
  have h1 : x = -(nI 1000) := by
    have h2 : -(nI 1000) + (nI 1000 + x) = -(nI 1000) + 0 := by rw [q]
    rw [← Int32.add_assoc, Int32.add_left_neg, Int32.zero_add, Int32.add_zero] at h2
    exact h2
  have h3 : (-(nI 1000)).toInt = -1000 := by decide
  rw [h1] at h
  unfold numOK at h
  rw [h3] at h
  omega
theorem and1 (b : Bool) : ((if b then (1 : Int32) else 0) &&& 1) = if b then 1 else 0 := by cases b <;> decide
theorem r_oth {v w : Nat} {T T' : TT} {μ : jM} (h : RW v T μ) (h' : RW w T' μ) (hv1 : v < 34) (hw1 : w < 34) (hv : VT T) (hv' : VT T') {th : Nat} (hb : th < 31) (hth : isTh th = true) : f_X12_isOther 201 (nI v) (nI w) (nI th) μ = some (if othB T T' th then 1 else 0) := by
  have hp := r_placeOf h hv1 hv
  have hp' := r_placeOf h' hw1 hv'
  have hV := hv
  have hV' := hv'
  obtain ⟨⟨hn8, hn⟩, ⟨hc8, hc⟩, -, -, -, -, hnum, -⟩ := hV
  obtain ⟨⟨hn8', hn'⟩, ⟨hc8', hc'⟩, -, -, -, -, hnum', -⟩ := hV'
  unfold f_X12_isOther othB tell
  unfold isTh at hth
  rw [jlit 10, jlit 20, jlit 30]
  by_cases c1 : th < 6
  · rw [if_neg (nI_ge (by omega) (by omega)), jcl_e (r_its h hv1 (by omega)), jcl_e (r_its h' hw1 (by omega))]
    simp only [if_pos c1]
    by_cases c : T th = T' th
    · simp [c, show ¬ th = 30 by omega]
    · have c' : ¬ nI 1000 + T th = nI 1000 + T' th := fun q => c ((i32_add_inj _ _ _).mp q)
      simp [c, c']
  · by_cases c2 : 10 ≤ th ∧ th < 15
    · have e : nI 6 + nI th - nI 10 = nI (th - 4) := by rw [nI_add, pk_sub (by omega)]; congr 1; omega
      rw [if_pos (nI_le c2.1 (by omega)), if_neg (nI_ge (by omega) (by omega)), jlit 6, e, jcl_e (r_its h hv1 (by omega)), jcl_e (r_its h' hw1 (by omega))]
      simp only [if_neg c1, if_pos c2.2]
      by_cases c : T (th - 4) = T' (th - 4)
      · simp [c, show ¬ th = 30 by omega]
      · simp [c]
    · have c3 : ¬ th < 15 := by
        intro q
        simp [c1, show ¬ 10 ≤ th by omega, show ¬ 20 ≤ th by omega] at hth
      have c5 : 20 ≤ th := by
        rcases Nat.lt_or_ge th 20 with q | q
        · simp [c1, c3, show ¬ 20 ≤ th by omega] at hth
        · exact q
      rw [if_pos (nI_le (by omega) (by omega)), if_pos (nI_le c5 (by omega))]
      by_cases c4 : th < 30
      · have e : nI th - nI 20 = nI (th - 20) := pk_sub c5
        rw [if_neg (nI_ge c4 (by omega)), e, jcl_e (hp _), jcl_e (hp' _), jbd_e]
        simp only [if_neg c1, if_neg c3, if_pos c4]
        cases hq : plc T (nI (th - 20)) with
        | none =>
          cases hq' : plc T' (nI (th - 20)) with
          | none => simp [fndI, show ¬ th = 30 by omega]
          | some j =>
            have hj := fnd_some hq'
            have hz := num_1000 (hnum' j (by omega))
            have hz' : ¬ (0 : Int32) = nI 1000 + T' (20 + j) := fun q => hz q.symm
            simp [fndI, hz', nI_pos (show j < 2 ^ 31 by omega)]
        | some i =>
          have hi := fnd_some hq
          have e2 : fndI (some i) = nI i := rfl
          rw [e2, if_neg (nI_pos (by omega))]
          cases hq' : plc T' (nI (th - 20)) with
          | none =>
            have hz := num_1000 (hnum i (by omega))
            simp [fndI, hz, nI_pos' (show i < 2 ^ 31 by omega)]
          | some j =>
            have hj := fnd_some hq'
            have e3 : fndI (some j) = nI j := rfl
            rw [e3, if_pos (nI_pos' (by omega)), nI_add, nI_add, jcl_e (r_its h hv1 (by omega)), jcl_e (r_its h' hw1 (by omega))]
            by_cases c : T (20 + i) = T' (20 + j)
            · simp [c, show ¬ th = 30 by omega]
            · have c' : ¬ nI 1000 + T (20 + i) = nI 1000 + T' (20 + j) := fun q => c ((i32_add_inj _ _ _).mp q)
              simp [c, c']
      · have c6 : th = 30 := by omega
        subst c6
        have e28 : f_X12_its 201 (nI v) (28 : Int32) μ = some (nI (nc T)) := by rw [← hc]; exact r_its h hv1 (k := 28) (by decide)
        have e28' : f_X12_its 201 (nI w) (28 : Int32) μ = some (nI (nc T')) := by rw [← hc']; exact r_its h' hw1 (k := 28) (by decide)
        have key0 : ∀ (m i fu : Nat) (b : Bool), i + m = 4 * nc T → m < fu → jloop (fun (s : Int32 × Int32) => f_X12_isOther_L178 201 (nI v) (nI w) μ s.1 s.2) fu ((if b then 1 else 0), nI i) = some (if b || (List.range' i m).any (fun k => decide (T (29 + k) ≠ T' (29 + k))) then 1 else 0) := by
          intro m
          induction m with
          | zero =>
            intro i fu b hi hf
            obtain ⟨fu, rfl⟩ : ∃ q, fu = q + 1 := ⟨fu - 1, by omega⟩
            refine jloop_x ?_
            dsimp only
            unfold f_X12_isOther_L178
            rw [jcl_e e28, jlit 4, pk_mul, if_pos (nI_le (by omega) (by omega))]
            simp
          | succ m ih =>
            intro i fu b hi hf
            obtain ⟨fu, rfl⟩ : ∃ q, fu = q + 1 := ⟨fu - 1, by omega⟩
            cases b with
            | true =>
              refine jloop_x ?_
              dsimp only
              unfold f_X12_isOther_L178
              rw [jcl_e e28, jlit 4, pk_mul, if_neg (nI_ge (by omega) (by omega))]
              rfl
            | false =>
              rw [List.range'_succ, List.any_cons, Bool.false_or, ← ih (i + 1) fu _ (by omega) (by omega)]
              refine jloop_s ?_
              dsimp only
              unfold f_X12_isOther_L178
              rw [jcl_e e28, jlit 4, pk_mul, if_neg (nI_ge (by omega) (by omega))]
              show jcl (f_X12_its 201 (nI v) ((29 : Int32) + nI i) μ) _ = _
              rw [jlit 29, nI_add, jcl_e (r_its h hv1 (by omega)), jcl_e (r_its h' hw1 (by omega)), jbd_e, nI_1]
              by_cases c : T (29 + i) = T' (29 + i) <;> simp [c]
        rw [if_pos (nI_le (by omega) (by omega)), jcl_e e28, jcl_e e28', jbd_e]
        have eq : (if nI (nc T) = nI (nc T') then (0 : Int32) else 1) = if decide (T 28 ≠ T' 28) then 1 else 0 := by
          rw [hc, hc']
          by_cases c : nI (nc T) = nI (nc T') <;> simp [c]
        rw [eq]
        refine (jcl_e (key0 (4 * nc T) 0 jfu _ (by omega) (jfu_lt (by omega)))).trans ?_
        rw [and1]
        simp [dpar, List.range_eq_range']
theorem r_othersMany {v w : Nat} {T T' : TT} {μ : jM} (h : RW v T μ) (h' : RW w T' μ) (hv1 : v < 34) (hw1 : w < 34) (hv : VT T) (hv' : VT T') : f_X12_othersMany 201 (nI v) (nI w) μ = some (nI (cntT T T' 31)) := by
  obtain ⟨e, he, hr⟩ := jlpN (step := fun (s : Int32 × Int32) => f_X12_othersMany_L5 201 (nI v) (nI w) μ s.1 s.2) 31 (fun k s => s = (nI (cntT T T' k), nI k)) (fun e => e = nI (cntT T T' 31)) (fun k s hk hs => by
      subst hs
      dsimp only
      unfold f_X12_othersMany_L5
      simp only [jbd_e]
      rw [jlit 30, if_neg (nI_nlt (by omega) (by omega)), isThing_r k hk, cntT_s]
      by_cases c : isTh k = true
      · rw [c, if_neg (by decide), jcl_e (r_oth h h' hv1 hw1 hv hv' hk c), nI_1]
        cases othB T T' k
        · exact ⟨_, rfl, by simp [f_X12_flag]⟩
        · exact ⟨_, rfl, by simp [f_X12_flag, nI_1]⟩
      · have c : isTh k = false := by simpa using c
        rw [c, if_pos (by decide), nI_1]
        exact ⟨_, rfl, by simp [f_X12_flag]⟩) (fun s hs => by
      subst hs
      dsimp only
      unfold f_X12_othersMany_L5
      rw [jlit 30, if_pos (nI_lt (by omega) (by omega))]
      exact ⟨_, rfl, rfl⟩) (i := 0) (n := jfu) (s := ((0 : Int32), (0 : Int32))) (by omega) rfl (jfu_lt (by omega))
  unfold f_X12_othersMany
  rw [jcl_e he, hr]
