/-! the class: all different -/
def unm (L : LV) (p : Nat) : Nat → Nat
  | 0 => 0
  | k + 1 => unm L p k ||| (if p.testBit k then L k else 0)
theorem unm_s (L : LV) (p k : Nat) : unm L p (k + 1) = unm L p k ||| (if p.testBit k then L k else 0) := rfl
theorem unm_b (L : LV) (p v : Nat) : ∀ k, (unm L p k).testBit v = true ↔ ∃ x, x < k ∧ p.testBit x = true ∧ (L x).testBit v = true
  | 0 => by
    show (0 : Nat).testBit v = true ↔ _
    rw [Nat.zero_testBit]
    exact ⟨fun h => (by cases h), fun ⟨x, h, _⟩ => absurd h (Nat.not_lt_zero x)⟩
  | k + 1 => by
    rw [unm_s, Nat.testBit_or, Bool.or_eq_true, unm_b L p v k]
    constructor
    · rintro (⟨x, h1, h2, h3⟩ | h)
      · exact ⟨x, by omega, h2, h3⟩
      · by_cases c : p.testBit k = true
        · rw [if_pos c] at h; exact ⟨k, by omega, c, h⟩
        · rw [if_neg c, Nat.zero_testBit] at h; cases h
    · rintro ⟨x, h1, h2, h3⟩
      by_cases c : x = k
      · rw [c] at h2 h3; exact Or.inr (by rw [if_pos h2]; exact h3)
      · exact Or.inl ⟨x, by omega, h2, h3⟩
theorem unm_lt {L : LV} (p : Nat) : ∀ k, (∀ x, x < k → L x < 64) → unm L p k < 64
  | 0, _ => by show 0 < 64; omega
  | k + 1, h => by
    rw [unm_s]
    refine Nat.or_lt_two_pow (n := 6) (unm_lt p k (fun x hx => h x (by omega))) ?_
    by_cases c : p.testBit k = true
    · rw [if_pos c]; exact h k (by omega)
    · rw [if_neg c]; decide
theorem unm_un (L : LV) (p v : Nat) : (unm L p 5).testBit v = un (fun z => p.testBit z) (fun z w => (L z).testBit w) v := by
  apply Bool.eq_iff_iff.mpr
  rw [unm_b, un_iff]
theorem c_union {p : Nat} {L : LV} {μ : jM} (hp : p < 32) (hL : RLm 166 L μ) : f_X6_unionOf 165 (nI p) μ = some (nI (unm L p 5)) := by
  obtain ⟨e, he, hr⟩ := jlpN (step := fun (s : Int32 × Int32) => f_X6_unionOf_L4 165 (nI p) μ s.1 s.2) 5 (fun k s => s = (nI (unm L p k), nI k)) (fun e => e = nI (unm L p 5))
    (fun k s hk hs => by
      subst hs
      refine ⟨(nI (unm L p (k + 1)), nI (k + 1)), ?_, rfl⟩
      obtain ⟨l1, l2⟩ := hL k hk
      have hu := unm_lt (L := L) p k (fun x hx => (hL x (by omega)).2)
      dsimp only
      unfold f_X6_unionOf_L4
      rw [jlit 5, if_neg (nI_ge hk (by decide)), nI_bit (by omega) (by omega), nI_1, unm_s]
      cases q : p.testBit k with
      | true =>
        rw [if_pos rfl, if_pos rfl, if_pos rfl]
        show jrd (μ.1 166) _ _ _ = _
        rw [jrd_n hk (by decide), l1, nI_or (by omega) (by omega)]
      | false =>
        rw [if_neg Bool.false_ne_true, if_neg (by decide), if_neg Bool.false_ne_true, Nat.or_zero])
    (fun s hs => by
      subst hs
      refine ⟨_, ?_, rfl⟩
      dsimp only
      unfold f_X6_unionOf_L4
      rw [jlit 5, if_pos (nI_le (Nat.le_refl _) (by decide))])
    (i := 0) (n := jfu) (s := ((0 : Int32), (0 : Int32))) (by omega) rfl (jfu_lt (by omega))
  unfold f_X6_unionOf
  rw [jcl_e he, hr]
def tk (L : LV) (o U k : Nat) : LV := fun x => if x < k ∧ o.testBit x = true then dif (L x) U else L x
theorem tk_in {L : LV} {o U k x : Nat} (h : x < k ∧ o.testBit x = true) : tk L o U k x = dif (L x) U := if_pos h
theorem tk_out {L : LV} {o U k x : Nat} (h : ¬ (x < k ∧ o.testBit x = true)) : tk L o U k x = L x := if_neg h
theorem c_take {o U : Nat} {L : LV} {μ : jM} (ho : o < 32) (hU : U < 64) (hL : RLm 166 L μ) (h0 : ∀ x, x < 5 → 0 < L x) : ∃ r m, f_X6_takeFrom 165 (nI o) (nI U) μ = some (r, m) ∧ jFr (fun q => q = 166) μ m ∧ ((r = 1 ∧ RLm 166 (tk L o U 5) m ∧ ∀ x, x < 5 → 0 < tk L o U 5 x) ∨ (r = 0 ∧ ∃ x, x < 5 ∧ o.testBit x = true ∧ dif (L x) U = 0)) := by
  obtain ⟨e, he, hr⟩ := jlp (step := fun (s : Int32 × jM) => f_X6_takeFrom_L2 165 (nI o) (nI U) s.1 s.2)
    (fun s => ∃ k, k ≤ 5 ∧ s.1 = nI k ∧ RLm 166 (tk L o U k) s.2 ∧ (∀ x, x < 5 → 0 < tk L o U k x) ∧ jFr (fun q => q = 166) μ s.2) (fun s => 5 - s.1.toNatClampNeg)
    (fun e => (∃ m, e = .inl m ∧ jFr (fun q => q = 166) μ m ∧ ∃ x, x < 5 ∧ o.testBit x = true ∧ dif (L x) U = 0) ∨ ∃ m, e = .inr m ∧ jFr (fun q => q = 166) μ m ∧ RLm 166 (tk L o U 5) m ∧ ∀ x, x < 5 → 0 < tk L o U 5 x)
    (fun s hs => by
      obtain ⟨u, m⟩ := s
      obtain ⟨k, hk, hu, hR, hpos, hf⟩ := hs
      have hu : u = nI k := hu
      subst hu
      have hR : RLm 166 (tk L o U k) m := hR
      have hf : jFr (fun q => q = 166) μ m := hf
      by_cases c5 : k < 5
      · have dec : 5 - (nI (k + 1)).toNatClampNeg < 5 - (nI k).toNatClampNeg := by rw [nI_clamp (by omega), nI_clamp (by omega)]; omega
        obtain ⟨l1, l2⟩ := hR k c5
        have lk := (hL k c5).2
        have ek : tk L o U k k = L k := tk_out (by omega)
        rw [ek] at l1 l2
        cases q : o.testBit k with
        | false =>
          have et : tk L o U (k + 1) = tk L o U k := by
            funext x
            by_cases z : x = k
            · rw [z, tk_out (by rw [q]; rintro ⟨-, z⟩; cases z), tk_out (by omega)]
            · by_cases z2 : x < k ∧ o.testBit x = true
              · rw [tk_in z2, tk_in ⟨by omega, z2.2⟩]
              · rw [tk_out z2, tk_out (fun w => z2 ⟨by omega, w.2⟩)]
          refine ⟨.inl (nI (k + 1), m), ?_, ⟨k + 1, by omega, rfl, by rw [et]; exact hR, by rw [et]; exact hpos, hf⟩, dec⟩
          dsimp only
          unfold f_X6_takeFrom_L2
          rw [jlit 5, if_neg (nI_ge c5 (by decide)), nI_bit (by omega) (by omega), q, if_neg Bool.false_ne_true, if_neg (by decide), nI_1]
        | true =>
          have et : tk L o U (k + 1) = va_up (tk L o U k) k (dif (L k) U) := by
            funext x
            by_cases z : x = k
            · rw [z, va_up_self, tk_in ⟨by omega, q⟩]
            · rw [va_up_ne _ _ z]
              by_cases z2 : x < k ∧ o.testBit x = true
              · rw [tk_in z2, tk_in ⟨by omega, z2.2⟩]
              · rw [tk_out z2, tk_out (fun w => z2 ⟨by omega, w.2⟩)]
          have hd := dif_lt (n := 64) U lk
          have pre : ∀ z, (if nI (dif (L k) U) = (0 : Int32) then some (.inr (.inl (jsi m 166 k (nI (dif (L k) U))))) else some (.inl (nI (k + 1), jsi m 166 k (nI (dif (L k) U))))) = z → f_X6_takeFrom_L2 165 (nI o) (nI U) (nI k) m = z := fun z hz => by
            unfold f_X6_takeFrom_L2
            rw [jlit 5, if_neg (nI_ge c5 (by decide)), nI_bit (by omega) (by omega), q, if_pos rfl, if_pos rfl]
            show jrd (m.1 166) _ _ _ = _
            rw [jrd_n c5 (by decide), l1, nI_dif (by omega) (by omega), jin_n c5 (by decide), nI_clamp (by omega), jbd_e]
            show jrd ((jsi m 166 k (nI (dif (L k) U))).1 166) _ _ _ = _
            rw [jrd_n c5 (by decide), jsi_at, nI_1]
            exact hz
          by_cases cz : dif (L k) U = 0
          · exact ⟨_, pre _ (if_pos (by rw [cz]; rfl)), Or.inl ⟨_, rfl, hf.tr (jFr.si _ _ _ rfl), k, c5, q, cz⟩⟩
          · refine ⟨.inl (nI (k + 1), jsi m 166 k (nI (dif (L k) U))), pre _ (if_neg (nI_ne0 (by omega) (by omega))), ⟨k + 1, by omega, rfl, by rw [et]; exact hR.up hd, fun x hx => ?_, hf.tr (jFr.si _ _ _ rfl)⟩, dec⟩
            rw [et]
            by_cases z : x = k
            · rw [z, va_up_self]; omega
            · rw [va_up_ne _ _ z]; exact hpos x hx
      · have : k = 5 := by omega
        subst this
        refine ⟨.inr (.inr m), ?_, Or.inr ⟨m, rfl, hf, hR, hpos⟩⟩
        dsimp only
        unfold f_X6_takeFrom_L2
        rw [jlit 5, if_pos (nI_le (Nat.le_refl _) (by decide))])
    jfu ((0 : Int32), μ) ⟨0, by omega, rfl, fun x hx => by rw [tk_out (by omega)]; exact hL x hx, fun x hx => by rw [tk_out (by omega)]; exact h0 x hx, jFr.rf⟩ (by show 5 - _ < 2000000; omega)
  unfold f_X6_takeFrom
  rw [jcl_e he]
  rcases hr with ⟨m, rfl, h1, h2⟩ | ⟨m, rfl, h1, h2, h3⟩
  · exact ⟨0, m, rfl, h1, Or.inr ⟨rfl, h2⟩⟩
  · exact ⟨1, m, rfl, h1, Or.inl ⟨rfl, h2, h3⟩⟩
def hc (L : LV) (set p : Nat) : Prop := cnt (fun z => p.testBit z) 5 ≤ cnt (un (fun z => p.testBit z) (fun z w => (L z).testBit w)) 6 ∧ (cnt (un (fun z => p.testBit z) (fun z w => (L z).testBit w)) 6 = cnt (fun z => p.testBit z) 5 → ∀ z, z < 5 → set.testBit z = true → p.testBit z = false → ∀ v, v < 6 → (L z).testBit v = true → un (fun z => p.testBit z) (fun z w => (L z).testBit w) v = false)
/-- a solution of one value -/
theorem sdr_of {T : TT} {i set x v : Nat} {M : LV} (hm : set < 32) (e0 : T (29 + 4 * i) = nI 3) (e1 : T (29 + (4 * i + 1)) = nI set) (hM : cli T i M) (hx : x < 5) (hs : set.testBit x = true) (hv : v < 6) (hb : (M x).testBit v = true) : ∃ s, sdr (fun z => set.testBit z) (fun z w => (M z).testBit w) s ∧ s x = v := by
  obtain ⟨s, s1, s2⟩ := (supp_set hm e0 e1).mp (hM x hx v hv hb) hs
  have key : ∀ z, z < 5 → set.testBit z = true → z ≠ x → s z < 6 ∧ (M z).testBit (s z) = true ∧ s z ≠ v := fun z hz h1 h2 => by
    obtain ⟨a, b⟩ := s1 z hz (by simp [h1, h2])
    simp only [Bool.and_eq_true, Bool.not_eq_true', beq_eq_false_iff_ne] at b
    exact ⟨a, b.1, b.2⟩
  refine ⟨fun z => if z = x then v else s z, ⟨fun z hz h1 => ?_, fun z y hz hy h1 h2 he => ?_⟩, if_pos rfl⟩
  · dsimp only
    by_cases c : z = x
    · rw [if_pos c, c]; exact ⟨hv, hb⟩
    · rw [if_neg c]; exact ⟨(key z hz h1 c).1, (key z hz h1 c).2.1⟩
  · dsimp only at he
    by_cases c : z = x
    · by_cases c' : y = x
      · rw [c, c']
      · rw [if_pos c, if_neg c'] at he
        exact absurd he.symm (key y hy h2 c').2.2
    · by_cases c' : y = x
      · rw [if_neg c, if_pos c'] at he
        exact absurd he (key z hz h1 c).2.2
      · rw [if_neg c, if_neg c'] at he
        exact s2 z y hz hy (by simp at h1; simp [h1, c]) (by simp at h2; simp [h2, c']) he
/-- all sets looked at: all is borne -/
theorem hall_done {T : TT} {i set : Nat} {L : LV} (hm : set < 32) (e0 : T (29 + 4 * i) = nI 3) (e1 : T (29 + (4 * i + 1)) = nI set) (h : ∀ p, 1 ≤ p → p < set + 1 → (∀ z, p.testBit z = true → set.testBit z = true) → hc L set p) : cli T i L := by
  intro x hx v hv hb
  rw [supp_set hm e0 e1]
  intro hs
  refine hall _ _ _ rfl (fun P hP => ?_)
  by_cases c0 : cnt P 5 = 0
  · omega
  · let p := mk ((List.range 5).filter P)
    have pb : ∀ z, p.testBit z = true ↔ z < 5 ∧ P z = true := fun z => by
      show (mk _).testBit z = true ↔ _
      rw [mk_bit, decide_eq_true_iff, List.mem_filter, List.mem_range]
    have pb5 : ∀ z, z < 5 → p.testBit z = P z := fun z hz => by
      apply Bool.eq_iff_iff.mpr
      rw [pb z]
      exact ⟨fun q => q.2, fun q => ⟨hz, q⟩⟩
    have psub : ∀ z, p.testBit z = true → set.testBit z = true := fun z hz => by
      have := hP z ((pb z).mp hz).2
      simp only [Bool.and_eq_true] at this
      exact this.1
    have pand : p &&& set = p := by
      apply Nat.eq_of_testBit_eq
      intro z
      rw [Nat.testBit_and]
      cases q : p.testBit z with
      | false => rfl
      | true => rw [psub z q]; rfl
    have ple : p ≤ set := by rw [← pand]; exact Nat.and_le_right
    have p1 : 1 ≤ p := by
      obtain ⟨z, z1, z2⟩ := cnt_pos (p := P) (k := 5) (by omega)
      have hz := (pb z).mpr ⟨z1, z2⟩
      rcases Nat.eq_zero_or_pos p with q | q
      · rw [q, Nat.zero_testBit] at hz; cases hz
      · exact q
    obtain ⟨g1, g2⟩ := h p p1 (by omega) psub
    have c1 : cnt (fun z => p.testBit z) 5 = cnt P 5 := cnt_congr pb5
    have eun : ∀ w, un (fun z => p.testBit z) (fun z w => (L z).testBit w) w = un P (fun z w => (L z).testBit w) w := fun w => by
      apply Bool.eq_iff_iff.mpr
      rw [un_iff, un_iff]
      constructor
      · rintro ⟨z, z1, z2, z3⟩; exact ⟨z, z1, by rw [← pb5 z z1]; exact z2, z3⟩
      · rintro ⟨z, z1, z2, z3⟩; exact ⟨z, z1, by rw [pb5 z z1]; exact z2, z3⟩
    have edel : cnt (fun w => un P (fun z w => (L z).testBit w) w && !(w == v)) 6 = cnt (un P (fun z w => (L z).testBit w && !(w == v))) 6 := cnt_congr (fun w _ => by
      apply Bool.eq_iff_iff.mpr
      rw [Bool.and_eq_true, un_iff, un_iff]
      constructor
      · rintro ⟨⟨z, z1, z2, z3⟩, z4⟩; exact ⟨z, z1, z2, by rw [z3, z4]; rfl⟩
      · rintro ⟨z, z1, z2, z3⟩
        simp only [Bool.and_eq_true] at z3
        exact ⟨⟨z, z1, z2, z3.1⟩, z3.2⟩)
    have cun : cnt (un (fun z => p.testBit z) (fun z w => (L z).testBit w)) 6 = cnt (un P (fun z w => (L z).testBit w)) 6 := cnt_congr (fun w _ => eun w)
    rw [c1, cun] at g1
    rw [← edel]
    by_cases ceq : cnt (un P (fun z w => (L z).testBit w)) 6 = cnt P 5
    · have px : p.testBit x = false := by
        cases q : p.testBit x with
        | false => rfl
        | true =>
          have := hP x ((pb x).mp q).2
          simp at this
      have hnv := g2 (by rw [c1, cun]; exact ceq) x hx hs px v hv hb
      rw [eun] at hnv
      have : cnt (fun w => un P (fun z w => (L z).testBit w) w && !(w == v)) 6 = cnt (un P (fun z w => (L z).testBit w)) 6 := cnt_congr (fun w _ => by
        by_cases z : w = v
        · rw [z, hnv]; rfl
        · simp [z])
      omega
    · have := (cnt_del (un P (fun z w => (L z).testBit w)) v 6).1
      omega
theorem c_alldiff {i set : Nat} {T : TT} {L : LV} {μ : jM} (hm : set < 32) (hs0 : set ≠ 0) (e0 : T (29 + 4 * i) = nI 3) (e1 : T (29 + (4 * i + 1)) = nI set) (h0 : ∀ x, x < 5 → 0 < L x ∧ L x < 64) (hL : RLm 166 L μ) : ∃ r L' μ', f_X6_bearAllDifferent 165 (nI set) μ = some (r, μ') ∧ (r = 1 → RLm 166 L' μ') ∧ BOK T i L r L' ∧ jFr (fun q => q = 166) μ μ' := by
  obtain ⟨e, he, hr⟩ := jlp (step := fun (s : Int32 × jM) => f_X6_bearAllDifferent_L2 165 (nI set) s.1 s.2)
    (fun s => ∃ p L1, 1 ≤ p ∧ p ≤ set + 1 ∧ s.1 = nI p ∧ RLm 166 L1 s.2 ∧ (∀ x, x < 5 → 0 < L1 x) ∧ subL L1 L ∧ (∀ M, subL M L → cli T i M → subL M L1) ∧ ((∀ x, x < 5 → L1 x = L x) → ∀ p', 1 ≤ p' → p' < p → (∀ z, p'.testBit z = true → set.testBit z = true) → hc L set p') ∧ jFr (fun q => q = 166) μ s.2)
    (fun s => set + 1 - s.1.toNatClampNeg)
    (fun e => (∃ m, e = .inl m ∧ jFr (fun q => q = 166) μ m ∧ ∃ x, x < 5 ∧ ∀ M, subL M L → cli T i M → ∀ v, v < 6 → (M x).testBit v = false) ∨ ∃ m L1, e = .inr m ∧ jFr (fun q => q = 166) μ m ∧ RLm 166 L1 m ∧ BOK T i L 1 L1)
    (fun s hs => by
      obtain ⟨u, m⟩ := s
      obtain ⟨p, L1, hp1, hp2, hu, hR, hpos, hsub, hmax, hD, hf⟩ := hs
      have hu : u = nI p := hu
      subst hu
      have hR : RLm 166 L1 m := hR
      have hf : jFr (fun q => q = 166) μ m := hf
      by_cases cp : p ≤ set
      · have p32 : p < 32 := by omega
        have dec : set + 1 - (nI (p + 1)).toNatClampNeg < set + 1 - (nI p).toNatClampNeg := by rw [nI_clamp (by omega), nI_clamp (by omega)]; omega
        have dl : dif p set < 32 := dif_lt _ p32
        have pre : ∀ z, (if nI (dif p set) = (0 : Int32) then (if nI (pc (unm L1 p 5)) - nI (pc p) < (0 : Int32) then some (.inr (.inl m)) else (if nI (pc (unm L1 p 5)) - nI (pc p) = (0 : Int32) then jcl2 (f_X6_takeFrom 165 (nI (dif set p)) (nI (unm L1 p 5)) m) (fun v11 m12 => (if v11 = (0 : Int32) then some (.inr (.inl m12)) else some (.inl ((nI (p + 1), m12))))) else some (.inl ((nI (p + 1), m))))) else some (.inl ((nI (p + 1), m)))) = z → f_X6_bearAllDifferent_L2 165 (nI set) (nI p) m = z := fun z hz => by
          unfold f_X6_bearAllDifferent_L2
          have hU := unm_lt (L := L1) p 5 (fun x hx => (hR x hx).2)
          rw [if_neg (nI_nlt cp (by omega)), nI_dif (by omega) (by omega), nI_1, nI_dif (by omega) (by omega)]
          by_cases c : nI (dif p set) = 0
          · rw [if_pos c]
            rw [if_pos c] at hz
            rw [jcl_e (c_union p32 hR), jbd_e, c_bits _ (by omega), c_bits _ (by omega)]
            exact hz
          · rw [if_neg c]
            rw [if_neg c] at hz
            exact hz
        by_cases cs : dif p set = 0
        · have psub : ∀ z, p.testBit z = true → set.testBit z = true := fun z hz => by
            have := dif_b p set z
            rw [cs, Nat.zero_testBit, hz] at this
            cases q : set.testBit z with
            | true => rfl
            | false => rw [q] at this; cases this
          have hU := unm_lt (L := L1) p 5 (fun x hx => (hR x hx).2)
          have pU : pc (unm L1 p 5) = cnt (un (fun z => p.testBit z) (fun z w => (L1 z).testBit w)) 6 := by
            rw [pc_cnt _ hU]
            exact cnt_congr (fun v _ => unm_un L1 p v)
          have pP : pc p = cnt (fun z => p.testBit z) 5 := pc_cnt5 p p32
          have lU := pc_le (unm L1 p 5)
          have lP := pc_le p
          -- what a solution says
          have inj : ∀ M, subL M L → cli T i M → ∀ x, x < 5 → set.testBit x = true → ∀ v, v < 6 → (M x).testBit v = true → pc p ≤ pc (unm L1 p 5) ∧ (pc (unm L1 p 5) ≤ pc p → p.testBit x = false → (unm L1 p 5).testBit v = false) := by
            intro M h1 h2 x hx hxs v hv hb
            have hM1 := hmax M h1 h2
            obtain ⟨s, ⟨s1, s2⟩, s3⟩ := sdr_of hm e0 e1 h2 hx hxs hv hb
            have a1 : ∀ z, z < 5 → p.testBit z = true → s z < 6 ∧ un (fun z => p.testBit z) (fun z w => (L1 z).testBit w) (s z) = true := fun z hz hpz => by
              obtain ⟨b1, b2⟩ := s1 z hz (psub z hpz)
              exact ⟨b1, un_iff.mpr ⟨z, hz, hpz, hM1 z hz _ b1 b2⟩⟩
            have a2 : ∀ z y, z < 5 → y < 5 → p.testBit z = true → p.testBit y = true → s z = s y → z = y := fun z y hz hy h1 h2 => s2 z y hz hy (psub z h1) (psub y h2)
            rw [pU, pP]
            refine ⟨pig 5 a1 a2, fun hle hpx => ?_⟩
            cases q : (unm L1 p 5).testBit v with
            | false => rfl
            | true =>
              rw [unm_un] at q
              obtain ⟨z, z1, z2, z3⟩ := pig_on a1 a2 hle hv q
              have := s2 z x z1 hx (psub z z2) hxs (z3.trans s3.symm)
              rw [this, hpx] at z2
              cases z2
          rcases Nat.lt_trichotomy (pc (unm L1 p 5)) (pc p) with c | c | c
          · -- fewer values than variables
            have hneg : nI (pc (unm L1 p 5)) - nI (pc p) < (0 : Int32) := pk_sneg (by omega) c
            obtain ⟨x, x1, x2, -⟩ := mask5 p p32 (by omega)
            refine ⟨.inr (.inl m), pre _ (by rw [if_pos (by rw [cs]; rfl), if_pos hneg]), Or.inl ⟨m, rfl, hf, x, x1, fun M h1 h2 v hv => ?_⟩⟩
            cases q : (M x).testBit v with
            | false => rfl
            | true => have := (inj M h1 h2 x x1 (psub x x2) v hv q).1; omega
          · -- as many
            have hz0 : nI (pc (unm L1 p 5)) - nI (pc p) = (0 : Int32) := by rw [c, pk_sub (Nat.le_refl _), Nat.sub_self]; rfl
            have ol : dif set p < 32 := dif_lt _ hm
            obtain ⟨r, m', t1, t2, t3⟩ := c_take ol hU hR hpos
            have body : ∀ z, (if r = (0 : Int32) then some (.inr (.inl m')) else some (.inl ((nI (p + 1), m')))) = z → f_X6_bearAllDifferent_L2 165 (nI set) (nI p) m = z := fun z hz => by
              apply pre
              rw [if_pos (by rw [cs]; rfl), hz0, if_neg (by decide), if_pos rfl, jcl2_e t1]
              exact hz
            have ob : ∀ z, (dif set p).testBit z = true ↔ set.testBit z = true ∧ p.testBit z = false := fun z => by
              rw [dif_b, Bool.and_eq_true, Bool.not_eq_true']
            have max2 : ∀ M, subL M L → cli T i M → subL M (tk L1 (dif set p) (unm L1 p 5) 5) := fun M h1 h2 x hx v hv q => by
              have h3 := hmax M h1 h2 x hx v hv q
              by_cases z : x < 5 ∧ (dif set p).testBit x = true
              · obtain ⟨o1, o2⟩ := (ob x).mp z.2
                rw [tk_in z, dif_b, h3, (inj M h1 h2 x hx o1 v hv q).2 (Nat.le_of_eq c) o2]
                rfl
              · rw [tk_out z]; exact h3
            rcases t3 with ⟨rfl, t4, t5⟩ | ⟨rfl, x, x1, x2, x3⟩
            · refine ⟨.inl (nI (p + 1), m'), body _ (by rw [if_neg (by decide)]), ⟨p + 1, tk L1 (dif set p) (unm L1 p 5) 5, by omega, by omega, rfl, t4, t5, fun x hx v hv q => ?_, max2, fun hE p' g1 g2 g3 => ?_, hf.tr t2⟩, dec⟩
              · by_cases z : x < 5 ∧ (dif set p).testBit x = true
                · rw [tk_in z, dif_b, Bool.and_eq_true] at q
                  exact hsub x hx v hv q.1
                · rw [tk_out z] at q; exact hsub x hx v hv q
              · have hE1 : ∀ x, x < 5 → L1 x = L x := fun x hx => mask_eq (hR x hx).2 (h0 x hx).2 (fun v hv => by
                  apply Bool.eq_iff_iff.mpr
                  refine ⟨hsub x hx v hv, fun q => ?_⟩
                  rw [← hE x hx] at q
                  by_cases z : x < 5 ∧ (dif set p).testBit x = true
                  · rw [tk_in z, dif_b, Bool.and_eq_true] at q; exact q.1
                  · rw [tk_out z] at q; exact q)
                by_cases cpp : p' = p
                · subst cpp
                  have eu : ∀ v, un (fun z => p'.testBit z) (fun z w => (L z).testBit w) v = (unm L1 p' 5).testBit v := fun v => by
                    rw [unm_un]
                    apply Bool.eq_iff_iff.mpr
                    rw [un_iff, un_iff]
                    constructor
                    · rintro ⟨z, z1, z2, z3⟩; exact ⟨z, z1, z2, by rw [hE1 z z1]; exact z3⟩
                    · rintro ⟨z, z1, z2, z3⟩; exact ⟨z, z1, z2, by rw [← hE1 z z1]; exact z3⟩
                  have ecu : cnt (un (fun z => p'.testBit z) (fun z w => (L z).testBit w)) 6 = pc (unm L1 p' 5) := by
                    rw [pc_cnt _ hU]
                    exact cnt_congr (fun v _ => eu v)
                  refine ⟨by rw [ecu, ← pP]; omega, fun _ z hz z1 z2 v hv z3 => ?_⟩
                  rw [eu]
                  have hin : z < 5 ∧ (dif set p').testBit z = true := ⟨hz, (ob z).mpr ⟨z1, z2⟩⟩
                  have := hE z hz
                  rw [tk_in hin] at this
                  rw [← this, dif_b, Bool.and_eq_true, Bool.not_eq_true'] at z3
                  exact z3.2
                · exact hD hE1 p' g1 (by omega) g3
            · refine ⟨.inr (.inl m'), body _ (if_pos rfl), Or.inl ⟨m', rfl, hf.tr t2, x, x1, fun M h1 h2 v hv => ?_⟩⟩
              cases q : (M x).testBit v with
              | false => rfl
              | true =>
                have := max2 M h1 h2 x x1 v hv q
                rw [tk_in ⟨x1, x2⟩, x3, Nat.zero_testBit] at this
                cases this
          · -- more values
            have hsb : nI (pc (unm L1 p 5)) - nI (pc p) = nI (pc (unm L1 p 5) - pc p) := pk_sub (by omega)
            refine ⟨.inl (nI (p + 1), m), pre _ ?_, ⟨p + 1, L1, by omega, by omega, rfl, hR, hpos, hsub, hmax, fun hE p' g1 g2 g3 => ?_, hf⟩, dec⟩
            · rw [if_pos (by rw [cs]; rfl), hsb, if_neg (nI_pos (by omega)), if_neg (nI_ne0 (by omega) (by omega))]
            · by_cases cpp : p' = p
              · subst cpp
                have ecu : cnt (un (fun z => p'.testBit z) (fun z w => (L z).testBit w)) 6 = pc (unm L1 p' 5) := by
                  rw [pU]
                  refine cnt_congr (fun v _ => ?_)
                  apply Bool.eq_iff_iff.mpr
                  rw [un_iff, un_iff]
                  constructor
                  · rintro ⟨z, z1, z2, z3⟩; exact ⟨z, z1, z2, by rw [hE z z1]; exact z3⟩
                  · rintro ⟨z, z1, z2, z3⟩; exact ⟨z, z1, z2, by rw [← hE z z1]; exact z3⟩
                refine ⟨by rw [ecu, ← pP]; omega, fun q => ?_⟩
                rw [ecu, ← pP] at q
                omega
              · exact hD hE p' g1 (by omega) g3
        · refine ⟨.inl (nI (p + 1), m), pre _ (by rw [if_neg (nI_ne0 (by omega) (by omega))]), ⟨p + 1, L1, by omega, by omega, rfl, hR, hpos, hsub, hmax, fun hE p' g1 g2 g3 => ?_, hf⟩, dec⟩
          by_cases cpp : p' = p
          · exfalso
            apply cs
            apply Nat.eq_of_testBit_eq
            intro z
            rw [dif_b, Nat.zero_testBit]
            cases q : p.testBit z with
            | false => rfl
            | true => rw [g3 z (by rw [cpp]; exact q)]; rfl
          · exact hD hE p' g1 (by omega) g3
      · have hp : p = set + 1 := by omega
        subst hp
        refine ⟨.inr (.inr m), ?_, Or.inr ⟨m, L1, rfl, hf, hR, Or.inl ⟨rfl, fun x hx => ⟨hpos x hx, (hR x hx).2⟩, hsub, hmax, fun hE => hall_done hm e0 e1 (hD hE)⟩⟩⟩
        dsimp only
        unfold f_X6_bearAllDifferent_L2
        rw [if_pos (nI_lt (by omega) (by omega))])
    jfu ((1 : Int32), μ) ⟨1, L, by omega, by omega, rfl, hL, fun x hx => (h0 x hx).1, subL.rf _, fun M h _ => h, fun _ p' g1 g2 => by omega, jFr.rf⟩ (by show set + 1 - _ < 2000000; omega)
  unfold f_X6_bearAllDifferent
  rw [jcl_e he]
  rcases hr with ⟨m, rfl, h1, h2⟩ | ⟨m, L1, rfl, h1, h2, h3⟩
  · exact ⟨0, L, m, rfl, fun q => absurd q (by decide), Or.inr ⟨rfl, h2⟩, h1⟩
  · exact ⟨1, L1, m, rfl, fun _ => h2, h3, h1⟩
