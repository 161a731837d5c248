/-! run: an act, found by the class -/
theorem racA_all : ∀ c0, c0 < 13 → racA c0 = true := by
  intro c0 h
  have : c0 = 0 ∨ c0 = 1 ∨ c0 = 2 ∨ c0 = 3 ∨ c0 = 4 ∨ c0 = 5 ∨ c0 = 6 ∨ c0 = 7 ∨ c0 = 8 ∨ c0 = 9 ∨ c0 = 10 ∨ c0 = 11 ∨ c0 = 12 := by omega
  rcases this with rfl | rfl | rfl | rfl | rfl | rfl | rfl | rfl | rfl | rfl | rfl | rfl | rfl
  · exact racA_0
  · exact racA_1
  · exact racA_2
  · exact racA_3
  · exact racA_4
  · exact racA_5
  · exact racA_6
  · exact racA_7
  · exact racA_8
  · exact racA_9
  · exact racA_10
  · exact racA_11
  · exact racA_12
theorem racP_all {c0 c1 c2 : Nat} (h0 : c0 < 13) (h1 : c1 < 13) (h2 : c2 < 13) (b3 b4 : Bool) : racP c0 c1 c2 b3 b4 = true := by
  have a := racA_all c0 h0
  unfold racA at a
  have a := List.all_eq_true.mp a c1 (List.mem_range.mpr h1)
  have a := List.all_eq_true.mp a c2 (List.mem_range.mpr h2)
  have a := List.all_eq_true.mp a b3 (by cases b3 <;> decide)
  exact List.all_eq_true.mp a b4 (by cases b4 <;> decide)
theorem clb_lt (b : Nat) : clb b < 13 := by
  unfold clb
  repeat' split
  all_goals omega
theorem cl_lt (n : Nat) (s : Nat → Nat) (p : Nat) : cl n s p < 13 := by
  unfold cl
  split
  · exact clb_lt _
  · omega
theorem cl_n {n p : Nat} {s : Nat → Nat} (h : cl n s p < 12) : p < n := by
  unfold cl at h
  by_cases c : p < n
  · exact c
  · rw [if_neg c] at h; omega
theorem cl_b {n p : Nat} {s : Nat → Nat} (h : p < n) : cl n s p = clb (s p) := if_pos h
theorem dgc_n {n p : Nat} {s : Nat → Nat} (h : dgc (cl n s p) = true) : p < n := by
  apply cl_n (s := s)
  unfold dgc at h
  rw [Bool.or_eq_true] at h
  rcases h with h | h
  · have := Nat.eq_of_beq_eq_true h; omega
  · have := Nat.eq_of_beq_eq_true h; omega
theorem c_may {n p w : Nat} {s : Nat → Nat} {m : jM} (h : CT n s m) (hw : w < 12) : f_X4_mayStand (sgn n s p) (nI (chw w)) = if mc w (cl n s p) then 1 else 0 := by
  unfold sgn cl
  by_cases c : p < n
  · rw [if_pos c, if_pos c]
    exact may_b _ (h.2.2 p (by have := h.1; omega)).2 w hw
  · rw [if_neg c, if_neg c]
    exact may_m w hw
/-- how many signs of the form k stand from p on -/
def sgs (n : Nat) (s : Nat → Nat) (p k : Nat) : Nat := pfx (fm k) (fun i => cl n s (p + i)) (fml k) 0
theorem c_signsOf {n p k : Nat} {s : Nat → Nat} {m : jM} (h : CT n s m) (hk : k < 15) (hp : p < 1000) : f_X4_signsOf 179 (nI k) (nI p) m = some (nI (sgs n s p k)) := by
  obtain ⟨e1, e2, e3, e4, e5⟩ := st_form k hk
  have key : ∀ (r i fu : Nat), i + r = fml k → r < fu → jloop (fun (z : Int32) => f_X4_signsOf_L8 (nI k) (nI p) m z) fu (nI i) = some (nI (pfx (fm k) (fun i => cl n s (p + i)) r i)) := by
    intro r
    induction r with
    | zero =>
      intro i fu hi hf
      obtain ⟨fu, rfl⟩ : ∃ q, fu = q + 1 := ⟨fu - 1, by omega⟩
      refine jloop_x ?_
      unfold f_X4_signsOf_L8
      rw [e1, e2, if_pos (nI_le (by omega) (by omega))]
      rfl
    | succ r ih =>
      intro i fu hi hf
      obtain ⟨fu, rfl⟩ : ∃ q, fu = q + 1 := ⟨fu - 1, by omega⟩
      obtain ⟨g1, g2⟩ := e5 i (by omega)
      have pre : ∀ o, (if (if mc (fm k i) (cl n s (p + i)) = true then (1 : Int32) else 0) = (0 : Int32) then some (.inr (nI i)) else some (.inl (nI (i + 1)))) = o → f_X4_signsOf_L8 (nI k) (nI p) m (nI i) = o := fun o ho => by
        unfold f_X4_signsOf_L8
        rw [e1, e2, if_neg (nI_ge (by omega) (by omega)), nI_add, jcl_e (c_sgn h (by omega)), e3, jrd_n (by omega) (by omega), g1, c_may h g2, nI_1]
        exact ho
      unfold pfx
      by_cases c : mc (fm k i) (cl n s (p + i)) = true
      · rw [if_pos c, ← ih (i + 1) fu (by omega) (by omega)]
        rw [if_pos c] at pre
        exact jloop_s (pre _ (if_neg (by decide)))
      · rw [if_neg c]
        rw [if_neg c] at pre
        exact jloop_x (pre _ (if_pos rfl))
  unfold f_X4_signsOf
  rw [jcl_id]
  exact key (fml k) 0 jfu (by omega) (jfu_lt (by omega))
def c3 (n : Nat) (s : Nat → Nat) (p : Nat) : Nat × Option Nat := rac (cl n s p) (cl n s (p + 1)) (cl n s (p + 2)) (dgc (cl n s (p + 3))) (dgc (cl n s (p + 4)))
/-- where it ends, or what can't stand, and which act it is -/
def ra (n : Nat) (s : Nat → Nat) (p : Nat) : Nat × Option Nat := (p + (c3 n s p).1, (c3 n s p).2)
theorem sgs_e {n p k : Nat} {s : Nat → Nat} (hk : k < 15) : sgs n s p k = pk5 (cl n s p) (cl n s (p + 1)) (cl n s (p + 2)) (dgc (cl n s (p + 3))) (dgc (cl n s (p + 4))) k := by
  unfold sgs pk5
  refine pfx_c (fun j _ hj => ?_)
  have l5 := (st_form k hk).2.2.2.1
  have d11 : ∀ b : Bool, mc 11 (if b = true then 10 else 12) = b := by decide
  have : j = 0 ∨ j = 1 ∨ j = 2 ∨ j = 3 ∨ j = 4 := by omega
  rcases this with rfl | rfl | rfl | rfl | rfl
  · rfl
  · rfl
  · rfl
  · rw [fm_d k hk 3 (by omega) (by omega)]
    exact (d11 _).symm
  · rw [fm_d k hk 4 (by omega) (by omega)]
    exact (d11 _).symm
theorem ra_some {n p k : Nat} {s : Nat → Nat} (h : (ra n s p).2 = some k) : k < 15 ∧ (ra n s p).1 = p + fml k ∧ sgs n s p k = fml k ∧ ∀ j, j < k → ¬ sgs n s p j = fml j := by
  have a := racP_all (cl_lt n s p) (cl_lt n s (p + 1)) (cl_lt n s (p + 2)) (dgc (cl n s (p + 3))) (dgc (cl n s (p + 4)))
  have h' : (rac (cl n s p) (cl n s (p + 1)) (cl n s (p + 2)) (dgc (cl n s (p + 3))) (dgc (cl n s (p + 4)))).2 = some k := h
  unfold racP at a
  rw [h'] at a
  dsimp only at a
  rw [Bool.and_eq_true, Bool.and_eq_true, Bool.and_eq_true, decide_eq_true_eq, beq_iff_eq, beq_iff_eq, List.all_eq_true] at a
  obtain ⟨a1, a2, a3, a4⟩ := a
  refine ⟨a1, ?_, ?_, fun j hj => ?_⟩
  · show p + _ = _
    unfold c3
    rw [a2]
  · rw [sgs_e a1]; exact a3
  · rw [sgs_e (by omega)]
    have := a4 j (List.mem_range.mpr hj)
    rw [bne_iff_ne] at this
    exact this
theorem ra_none {n p : Nat} {s : Nat → Nat} (h : (ra n s p).2 = none) : (∀ j, j < 15 → ¬ sgs n s p j = fml j) ∧ (ra n s p).1 = p + mxp (sgs n s p) 15 := by
  have a := racP_all (cl_lt n s p) (cl_lt n s (p + 1)) (cl_lt n s (p + 2)) (dgc (cl n s (p + 3))) (dgc (cl n s (p + 4)))
  have h' : (rac (cl n s p) (cl n s (p + 1)) (cl n s (p + 2)) (dgc (cl n s (p + 3))) (dgc (cl n s (p + 4)))).2 = none := h
  unfold racP at a
  rw [h'] at a
  dsimp only at a
  rw [Bool.and_eq_true, beq_iff_eq, List.all_eq_true] at a
  obtain ⟨a1, a2⟩ := a
  have mx : ∀ r, r ≤ 15 → mxp (sgs n s p) r = mxp (pk5 (cl n s p) (cl n s (p + 1)) (cl n s (p + 2)) (dgc (cl n s (p + 3))) (dgc (cl n s (p + 4)))) r := by
    intro r
    induction r with
    | zero => intro _; rfl
    | succ r ih =>
      intro hr
      unfold mxp
      rw [ih (by omega), sgs_e (by omega)]
  refine ⟨fun j hj => ?_, ?_⟩
  · rw [sgs_e hj]
    have := a1 j (List.mem_range.mpr hj)
    rw [bne_iff_ne] at this
    exact this
  · show p + _ = _
    unfold c3
    rw [a2, mx 15 (Nat.le_refl _)]
theorem c_actAt {n p : Nat} {s : Nat → Nat} {m : jM} (h : CT n s m) (hp : p < 1000) : f_X4_actAt 179 (nI p) m = some (oI (ra n s p).2) := by
  have key : ∀ (r i fu : Nat), i + r = 15 → r < fu → (∀ j, j < i → ¬ sgs n s p j = fml j) → jloop (fun (z : Int32) => f_X4_actAt_L2 179 (nI p) m z) fu (nI i) = some (match (ra n s p).2 with | some k => .inl (nI k) | none => .inr ()) := by
    intro r
    induction r with
    | zero =>
      intro i fu hi hf hj
      obtain ⟨fu, rfl⟩ : ∃ q, fu = q + 1 := ⟨fu - 1, by omega⟩
      have : (ra n s p).2 = none := by
        cases e : (ra n s p).2 with
        | none => rfl
        | some k =>
          obtain ⟨a1, a2, a3, a4⟩ := ra_some e
          exact absurd a3 (hj k (by omega))
      rw [this]
      refine jloop_x ?_
      unfold f_X4_actAt_L2
      rw [jlit 15, if_pos (nI_le (by omega) (by omega))]
    | succ r ih =>
      intro i fu hi hf hj
      obtain ⟨fu, rfl⟩ : ∃ q, fu = q + 1 := ⟨fu - 1, by omega⟩
      obtain ⟨e1, e2, e3, e4, -⟩ := st_form i (by omega)
      have l5 : sgs n s p i ≤ 0 + fml i := pfx_le.2
      have pre : ∀ o, (if nI (sgs n s p i) = nI (fml i) then some (.inr (.inl (nI i))) else some (.inl (nI (i + 1)))) = o → f_X4_actAt_L2 179 (nI p) m (nI i) = o := fun o ho => by
        unfold f_X4_actAt_L2
        rw [jlit 15, if_neg (nI_ge (by omega) (by omega)), jcl_e (c_signsOf h (by omega) hp), e1, e2, nI_1]
        exact ho
      by_cases c : sgs n s p i = fml i
      · have : (ra n s p).2 = some i := by
          cases e : (ra n s p).2 with
          | none => exact absurd c ((ra_none e).1 i (by omega))
          | some k =>
            obtain ⟨a1, a2, a3, a4⟩ := ra_some e
            have h1 : ¬ k < i := fun z => hj k z a3
            have h2 : ¬ i < k := fun z => a4 i z c
            rw [show k = i by omega]
        rw [this]
        exact jloop_x (pre _ (if_pos (by rw [c])))
      · rw [← ih (i + 1) fu (by omega) (by omega) (fun j hj2 => by
          by_cases z : j = i
          · rw [z]; exact c
          · exact hj j (by omega))]
        exact jloop_s (pre _ (if_neg (fun z => c ((nI_eq (by omega) (by omega)).mp z))))
  unfold f_X4_actAt
  refine (jcl_e (key 15 0 jfu (by omega) (jfu_lt (by omega)) (fun j hj => absurd hj (Nat.not_lt_zero j)))).trans ?_
  cases (ra n s p).2 <;> rfl
theorem c_faultIn {n p : Nat} {s : Nat → Nat} {m : jM} (h : CT n s m) (hp : p < 1000) (h0 : (ra n s p).2 = none) : f_X4_faultIn 179 (nI p) m = some (nI (ra n s p).1) := by
  have ml : ∀ r, r ≤ 15 → mxp (sgs n s p) r ≤ 5 := by
    intro r
    induction r with
    | zero => intro _; exact Nat.zero_le _
    | succ r ih =>
      intro hr
      have l5 : sgs n s p r ≤ 0 + fml r := pfx_le.2
      have := (st_form r (by omega)).2.2.2.1
      unfold mxp
      exact Nat.max_le.mpr ⟨ih (by omega), by omega⟩
  obtain ⟨e, he, hr⟩ := jlpN (step := fun (z : Int32 × Int32) => f_X4_faultIn_L4 179 (nI p) m z.1 z.2) 15 (fun k z => z = (nI (mxp (sgs n s p) k), nI k)) (fun e => e = nI (mxp (sgs n s p) 15))
    (fun k z hk hz => by
      subst hz
      have l5 : sgs n s p k ≤ 0 + fml k := pfx_le.2
      have := (st_form k hk).2.2.2.1
      have := ml k (by omega)
      refine ⟨(nI (mxp (sgs n s p) (k + 1)), nI (k + 1)), ?_, rfl⟩
      dsimp only
      unfold f_X4_faultIn_L4
      rw [jlit 15, if_neg (nI_ge hk (by decide)), jcl_e (c_signsOf h hk hp), jmax_n (by omega) (by omega), nI_1]
      rfl)
    (fun z hz => by
      subst hz
      refine ⟨_, ?_, rfl⟩
      dsimp only
      unfold f_X4_faultIn_L4
      rw [jlit 15, if_pos (nI_le (Nat.le_refl _) (by decide))]) (i := 0) (n := jfu) (s := ((0 : Int32), (0 : Int32))) (by omega) rfl (jfu_lt (by omega))
  unfold f_X4_faultIn
  rw [jcl_e he, hr, nI_add, (ra_none h0).2]
theorem rac_q {c0 c1 c2 : Nat} {b3 b4 : Bool} {r : Nat × Option Nat} (h : rac c0 c1 c2 b3 b4 = r) : (r.1 = 0 ∨ c0 < 12) ∧ (r.1 ≤ 1 ∨ c1 < 12) ∧ (r.1 ≤ 2 ∨ c2 < 12) ∧ (r.1 ≤ 3 ∨ b3 = true) ∧ (r.1 ≤ 4 ∨ b4 = true) ∧ r.1 ≤ 5 := by
  have d12 : ∀ c, dgc c = true → c < 12 := fun c hq => by
    unfold dgc at hq
    rw [Bool.or_eq_true] at hq
    rcases hq with hq | hq
    · have := Nat.eq_of_beq_eq_true hq; omega
    · have := Nat.eq_of_beq_eq_true hq; omega
  unfold rac at h
  repeat' split at h
  all_goals (subst h; dsimp only; refine ⟨?_, ?_, ?_, ?_, ?_, ?_⟩)
  all_goals first | omega | (left; omega) | (right; omega) | (right; assumption) | (right; exact d12 _ (by assumption))
theorem ra_b {n p : Nat} {s : Nat → Nat} (hp : p ≤ n) : p ≤ (ra n s p).1 ∧ (ra n s p).1 ≤ n ∧ (ra n s p).1 ≤ p + 5 ∧ ∀ q, p ≤ q → q < (ra n s p).1 → cl n s q < 12 := by
  obtain ⟨r, hr⟩ : ∃ r, r = rac (cl n s p) (cl n s (p + 1)) (cl n s (p + 2)) (dgc (cl n s (p + 3))) (dgc (cl n s (p + 4))) := ⟨_, rfl⟩
  have e : (ra n s p).1 = p + r.1 := by rw [hr]; rfl
  have a := rac_q hr.symm
  obtain ⟨a0, a1, a2, a3, a4, a5⟩ := a
  have d12 : ∀ q, dgc (cl n s q) = true → cl n s q < 12 := fun q hq => by
    unfold dgc at hq
    rw [Bool.or_eq_true] at hq
    rcases hq with hq | hq
    · have := Nat.eq_of_beq_eq_true hq; omega
    · have := Nat.eq_of_beq_eq_true hq; omega
  have all : ∀ q, p ≤ q → q < p + r.1 → cl n s q < 12 := fun q h1 h2 => by
    have : q = p ∨ q = p + 1 ∨ q = p + 2 ∨ q = p + 3 ∨ q = p + 4 := by omega
    rcases this with rfl | rfl | rfl | rfl | rfl
    · omega
    · omega
    · omega
    · rcases a3 with z | z
      · omega
      · exact d12 _ z
    · rcases a4 with z | z
      · omega
      · exact d12 _ z
  rw [e]
  refine ⟨by omega, ?_, by omega, all⟩
  by_cases c : r.1 = 0
  · omega
  · have := cl_n (all (p + r.1 - 1) (by omega) (by omega))
    omega
