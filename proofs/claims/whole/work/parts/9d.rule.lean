/-! posts: a rule, whichever -/
def rl (n : Nat) (s : Nat → Nat) (p : Nat) : Nat × Option Q4 :=
  if p < n ∧ s p = 33 then ((sr n s 6 (p + 1) 0).2.1, if (sr n s 6 (p + 1) 0).2.2 = false ∧ 2 ≤ pc (sr n s 6 (p + 1) 0).1 then some (3, nI (sr n s 6 (p + 1) 0).1, 0, 0) else none) else two n s p
theorem rg_ge {c l n p t : Nat} {s : Nat → Nat} (h : rg c l n s p = some t) : c ≤ s p ∧ s p < c + l := by
  unfold rg at h
  by_cases q : p < n ∧ c ≤ s p ∧ s p < c + l
  · exact q.2
  · rw [if_neg q] at h; cases h
theorem sr_ok {n : Nat} {s : Nat → Nat} : ∀ f q M : Nat, M < 32 → 6 ≤ f + pc M → q ≤ n → (sr n s f q M).1 < 32 ∧ q ≤ (sr n s f q M).2.1 ∧ (sr n s f q M).2.1 ≤ n ∧ pc (sr n s f q M).1 + q = pc M + (sr n s f q M).2.1 ∧ ((sr n s f q M).2.2 = true → (sr n s f q M).2.1 < n ∧ 118 ≤ s (sr n s f q M).2.1) := by
  intro f
  induction f with
  | zero =>
    intro q M hM h6 hq
    have := (pc_5 M hM).1
    omega
  | succ f ih =>
    intro q M hM h6 hq
    rw [sr_s]
    cases e : rg 118 5 n s q with
    | none => exact ⟨hM, Nat.le_refl _, hq, rfl, fun z => absurd z Bool.false_ne_true⟩
    | some x =>
      have x5 := rg_lt e
      dsimp only
      cases y : M.testBit x with
      | true =>
        rw [if_pos rfl]
        exact ⟨hM, Nat.le_refl _, hq, rfl, fun _ => ⟨x5.2, (rg_ge e).1⟩⟩
      | false =>
        rw [if_neg Bool.false_ne_true]
        obtain ⟨p1, p2⟩ := pc_or M hM x x5.1 y
        obtain ⟨a1, a2, a3, a4, a5⟩ := ih (q + 1) (M ||| 2 ^ x) p2 (by omega) (by omega)
        exact ⟨a1, by omega, a3, by omega, a5⟩
theorem d_rng : ∀ d, d < 10 → (-9 ≤ (nI d).toInt ∧ (nI d).toInt ≤ 9) ∧ -9 ≤ (-nI d).toInt ∧ (-nI d).toInt ≤ 9 := by decide
theorem pc_fl : ∀ m, m < 32 → 2 ≤ pc m → 2 ≤ ((List.range 5).filter (fun i => m.testBit i)).length := by decide +kernel
theorem pm_lt {n p : Nat} {s : Nat → Nat} (h : ¬ pm n s p = 0) : p < n := by
  unfold pm at h
  by_cases c : p < n
  · exact c
  · rw [if_neg c] at h; exact absurd rfl h
def c4 (c : Q4) : Prop := conOK c.1 c.2.1 c.2.2.1 c.2.2.2
theorem two_ok {n p : Nat} {s : Nat → Nat} (hp : p ≤ n) : p ≤ (two n s p).1 ∧ (two n s p).1 ≤ n ∧ ∀ c, (two n s p).2 = some c → p + 3 ≤ (two n s p).1 ∧ c4 c := by
  unfold two
  cases e1 : rg 118 5 n s p with
  | none => exact ⟨Nat.le_refl _, hp, fun c z => by cases z⟩
  | some x =>
    have x5 := rg_lt e1
    dsimp only
    cases e2 : srt n s (p + 1) with
    | none => exact ⟨by show p ≤ p + 1; omega, x5.2, fun c z => by cases z⟩
    | some t =>
      have t3 := srt_lt e2
      dsimp only
      cases e3 : rg 118 5 n s (p + 2) with
      | none => exact ⟨by show p ≤ p + 2; omega, t3.2, fun c z => by cases z⟩
      | some y =>
        have y5 := rg_lt e3
        dsimp only
        by_cases c : y = x
        · rw [if_pos c]
          exact ⟨by show p ≤ p + 2; omega, by show p + 2 ≤ n; omega, fun c z => by cases z⟩
        · rw [if_neg c]
          by_cases z0 : pm n s (p + 3) = 0
          · rw [if_pos z0]
            refine ⟨by show p ≤ p + 3; omega, y5.2, fun c z => ⟨Nat.le_refl _, ?_⟩⟩
            cases z
            exact Or.inl ⟨t, x, y, t3.1, rfl, x5.1, y5.1, fun z => c z.symm, rfl, rfl, show -9 ≤ (0 : Int32).toInt by decide, show (0 : Int32).toInt ≤ 9 by decide⟩
          · rw [if_neg z0]
            have p3 := pm_lt z0
            cases e4 : rg 48 10 n s (p + 4) with
            | none => exact ⟨by show p ≤ p + 4; omega, p3, fun c z => by cases z⟩
            | some d =>
              have d10 := rg_lt e4
              obtain ⟨r1, r2⟩ := d_rng d d10.1
              dsimp only
              refine ⟨by omega, d10.2, fun c z => ⟨by omega, ?_⟩⟩
              cases z
              refine Or.inl ⟨t, x, y, t3.1, rfl, x5.1, y5.1, fun z => c z.symm, rfl, rfl, ?_⟩
              dsimp only
              split
              · exact r1
              · exact r2
theorem rl_ok {n p : Nat} {s : Nat → Nat} (hp : p ≤ n) : p ≤ (rl n s p).1 ∧ (rl n s p).1 ≤ n ∧ ∀ c, (rl n s p).2 = some c → p + 3 ≤ (rl n s p).1 ∧ c4 c := by
  unfold rl
  by_cases c : p < n ∧ s p = 33
  · rw [if_pos c]
    obtain ⟨a1, a2, a3, a4, a5⟩ := sr_ok (n := n) (s := s) 6 (p + 1) 0 (by omega) (by omega) (by omega)
    have z0 : pc 0 = 0 := by decide
    dsimp only
    refine ⟨by omega, a3, fun q hq => ?_⟩
    by_cases d : (sr n s 6 (p + 1) 0).2.2 = false ∧ 2 ≤ pc (sr n s 6 (p + 1) 0).1
    · rw [if_pos d] at hq
      cases hq
      exact ⟨by omega, Or.inr ⟨rfl, _, a1, rfl, pc_fl _ a1 d.2, rfl, rfl⟩⟩
    · rw [if_neg d] at hq; cases hq
  · rw [if_neg c]
    exact two_ok hp
theorem sgn_i {n p c : Nat} {s : Nat → Nat} {m : jM} (h : CT n s m) (hc : c < 256) : sgn n s p = nI c ↔ p < n ∧ s p = c := by
  unfold sgn
  by_cases d : p < n
  · have hs := (h.2.2 p (by have := h.1; omega)).2
    rw [if_pos d, nI_eq (by omega) (by omega)]
    exact ⟨fun z => ⟨d, z⟩, fun z => z.2⟩
  · rw [if_neg d]
    exact ⟨fun z => absurd z.symm (nI_m1 (by omega)), fun z => absurd z.1 d⟩
/-- a rule, by the class -/
theorem c_rule {n p : Nat} {s : Nat → Nat} {l : List Q4} {m : jM} (h : CT n s m) (hp : p ≤ n) (hl : l.length < 1000) (hH : HC l m) : ∃ a w, (if sgn n s p = (33 : Int32) then f_X2_readSet 177 (nI p) m else f_X2_readTwo 177 (nI p) m) = some (a, w) ∧ ((∃ c, (rl n s p).2 = some c ∧ a = nI (rl n s p).1 ∧ HC (l ++ [c]) w) ∨ ((rl n s p).2 = none ∧ (a = -1 - nI (rl n s p).1 ∨ (a = nI (rl n s p).1 ∧ (rl n s p).1 < n ∧ ¬ s (rl n s p).1 = 44)))) ∧ jFr (fun c => c = 177 ∨ c = 178) m w := by
  have n80 := h.1
  have e33 := sgn_i (p := p) (c := 33) h (by omega)
  unfold rl
  by_cases c : p < n ∧ s p = 33
  · rw [if_pos (show sgn n s p = (33 : Int32) from e33.mpr c), if_pos c]
    obtain ⟨a1, a2, a3, a4, a5⟩ := sr_ok (n := n) (s := s) 6 (p + 1) 0 (by omega) (by omega) (by omega)
    obtain ⟨w, b1, b2, b3⟩ := c_readSet h (p := p) (by omega) hl hH
    refine ⟨_, w, b1, ?_, b3⟩
    dsimp only
    by_cases d : 2 ≤ pc (sr n s 6 (p + 1) 0).1
    · rw [if_pos d] at b2
      rw [if_pos d]
      cases e : (sr n s 6 (p + 1) 0).2.2 with
      | false =>
        rw [if_pos ⟨rfl, d⟩]
        exact Or.inl ⟨_, rfl, rfl, b2⟩
      | true =>
        rw [if_neg (fun z => Bool.false_ne_true z.1.symm)]
        have := a5 e
        exact Or.inr ⟨rfl, Or.inr ⟨rfl, this.1, by omega⟩⟩
    · rw [if_neg d, if_neg (fun z => d z.2)]
      exact Or.inr ⟨rfl, Or.inl rfl⟩
  · rw [if_neg (show ¬ sgn n s p = (33 : Int32) from fun z => c (e33.mp z)), if_neg c]
    obtain ⟨w, b1, b2, b3⟩ := c_readTwo h (p := p) (by omega) hl hH
    refine ⟨_, w, b1, ?_, b3⟩
    unfold cadd at b2
    unfold cans
    cases e : (two n s p).2 with
    | none => exact Or.inr ⟨rfl, Or.inl rfl⟩
    | some q =>
      rw [e] at b2
      exact Or.inl ⟨q, rfl, rfl, b2⟩
/-- a rule, by the reference -/
theorem r_ruleX {n p : Nat} {s : Nat → Nat} {l : List Q4} {m : jM} (h : RU n s p l m) (hl : l.length < 80) : ∃ w, f_X12_readsRule 201 m = some ((if (rl n s p).2.isSome then 1 else 0), w) ∧ RP n s (rl n s p).1 w ∧ (∀ c, (rl n s p).2 = some c → HT (l ++ [c]) w) ∧ FRr m w := by
  unfold rl
  by_cases c : p < n ∧ s p = 33
  · rw [if_pos c]
    dsimp only
    obtain ⟨a1, a2, a3, a4, a5⟩ := sr_ok (n := n) (s := s) 6 (p + 1) 0 (by omega) (by omega) (by omega)
    obtain ⟨v, t1, t2⟩ := r_takes (c := 33) h.1 (by omega)
    rw [if_pos c] at t1 t2
    have u0 : RU n s (p + 1) l (jsi m 201 5 v) := h.at (by omega) t2
    have f0 : FRr m (jsi m 201 5 v) := FRr.at
    obtain ⟨e, e1, e2, e3⟩ := r_setL u0
    obtain ⟨R, hR⟩ : ∃ R, R = sr n s 6 (p + 1) 0 := ⟨_, rfl⟩
    rw [← hR] at a1 a2 a3 a4 a5 e2 e3 ⊢
    have p5 := (pc_5 R.1 e2).1
    have z01 : (0 : Int32) &&& 1 = 0 := by decide
    have z11 : (1 : Int32) &&& 1 = 1 := by decide
    obtain ⟨O, hO⟩ : ∃ O : Option Q4, O = if R.2.2 = false ∧ 2 ≤ pc R.1 then some (3, nI R.1, 0, 0) else none := ⟨_, rfl⟩
    rw [← hO]
    unfold f_X12_readsRule
    rw [jcl2_e (show f_X12_takes 201 (33 : Int32) m = _ from t1), if_neg (show ¬ (1 : Int32) = 0 by decide)]
    unfold f_X12_readsSet
    rw [jcl_e e1]
    rcases e3 with ⟨d1, w, rfl, w1, w2, w3⟩ | ⟨d1, w, rfl, w2, w3⟩
    · rw [d1, if_neg (fun z => Bool.false_ne_true z.1.symm)] at hO
      subst hO
      dsimp only
      have e5 : w.1 201 5 - (1 : Int32) = nI R.2.1 := by rw [w2.1.2.2.2.1, jlit 1, nI_subx (by omega), Nat.add_sub_cancel]
      rw [e5, jbd_e]
      exact ⟨_, by show some ((0 : Int32) &&& 1, _) = _; rw [z01]; rfl, (w2.at (q := R.2.1) (by omega) rfl).1, fun c z => by (cases z), (f0.tr w3).tr FRr.at⟩
    · dsimp only
      obtain ⟨w', b1, b2, b3⟩ := ru_tells (a := 3) (b := nI R.1) (c := 0) (d := 0) w2 hl
      rw [jcl_e b1]
      by_cases d : 2 ≤ pc R.1
      · rw [if_pos ⟨d1, d⟩] at hO
        subst hO
        rw [if_neg (show ¬ nI (pc R.1) ≤ (1 : Int32) from nI_ge (a := 1) (by omega) (by omega))]
        exact ⟨w', by show some (((1 : Int32) &&& 1) &&& 1, _) = _; rw [z11, z11]; rfl, b2.1, fun c z => by (cases z; exact b2.2), (f0.tr w3).tr b3⟩
      · rw [if_neg (fun z => d z.2)] at hO
        subst hO
        rw [if_pos (show nI (pc R.1) ≤ (1 : Int32) from nI_le (b := 1) (by omega) (by omega))]
        exact ⟨w', by show some (((0 : Int32) &&& 1) &&& 1, _) = _; rw [z01, z01]; rfl, b2.1, fun c z => by (cases z), (f0.tr w3).tr b3⟩
  · rw [if_neg c]
    obtain ⟨w, b1, b2, b3⟩ := r_rule2 h hl c
    refine ⟨w, b1, b2.1, fun q hq => ?_, b3⟩
    have := b2.2
    unfold cadd at this
    rw [hq] at this
    exact this
