/-! posts: the rules of a text -/
def rls (n : Nat) (s : Nat → Nat) : Nat → Nat → List Q4 → Nat × Option (List Q4)
  | 0, q, _ => (q, none)
  | f + 1, q, l => if q = n then (q, some l) else if s q = 44 then (match (rl n s (q + 1)).2 with
    | none => ((rl n s (q + 1)).1, none)
    | some c => rls n s f (rl n s (q + 1)).1 (l ++ [c])) else (q, none)
def rlp (n : Nat) (s : Nat → Nat) (f p : Nat) (l : List Q4) : Nat × Option (List Q4) := match (rl n s p).2 with
    | none => ((rl n s p).1, none)
    | some c => rls n s f (rl n s p).1 (l ++ [c])
theorem rls_s (n : Nat) (s : Nat → Nat) (f q : Nat) (l : List Q4) : rls n s (f + 1) q l = if q = n then (q, some l) else if s q = 44 then rlp n s f (q + 1) l else (q, none) := rfl
theorem rlp_n {n : Nat} {s : Nat → Nat} {f p : Nat} {l : List Q4} (h : (rl n s p).2 = none) : rlp n s f p l = ((rl n s p).1, none) := by unfold rlp; rw [h]
theorem rlp_s {n : Nat} {s : Nat → Nat} {f p : Nat} {l : List Q4} {c : Q4} (h : (rl n s p).2 = some c) : rlp n s f p l = rls n s f (rl n s p).1 (l ++ [c]) := by unfold rlp; rw [h]
def rdn (n : Nat) (s : Nat → Nat) : Nat × Option (List Q4) := if n = 0 then (0, some []) else rlp n s 81 0 []
theorem all4 {l : List Q4} {c : Q4} (h : ∀ q ∈ l, c4 q) (hc : c4 c) : ∀ q ∈ l ++ [c], c4 q := fun q hq => by
  rcases List.mem_append.mp hq with z | z
  · exact h q z
  · rw [List.mem_singleton.mp z]; exact hc
theorem rls_ok {n : Nat} {s : Nat → Nat} : ∀ f q l, q ≤ n → l.length ≤ q → (∀ c ∈ l, c4 c) → (rls n s f q l).1 ≤ n ∧ ∀ L, (rls n s f q l).2 = some L → (∀ c ∈ L, c4 c) ∧ L.length ≤ n := by
  intro f
  induction f with
  | zero => intro q l hq hl hc; exact ⟨hq, fun L z => by cases z⟩
  | succ f ih =>
    intro q l hq hl hc
    rw [rls_s]
    by_cases e : q = n
    · rw [if_pos e]
      exact ⟨hq, fun L z => by cases z; exact ⟨hc, by omega⟩⟩
    · rw [if_neg e]
      by_cases e2 : s q = 44
      · rw [if_pos e2]
        obtain ⟨a1, a2, a3⟩ := rl_ok (n := n) (s := s) (p := q + 1) (by omega)
        cases e3 : (rl n s (q + 1)).2 with
        | none => rw [rlp_n e3]; exact ⟨a2, fun L z => by cases z⟩
        | some c =>
          rw [rlp_s e3]
          obtain ⟨b1, b2⟩ := a3 c e3
          exact ih _ _ a2 (by rw [List.length_append, List.length_singleton]; omega) (all4 hc b2)
      · rw [if_neg e2]
        exact ⟨hq, fun L z => by cases z⟩
theorem rdn_ok (n : Nat) (s : Nat → Nat) : (rdn n s).1 ≤ n ∧ ∀ L, (rdn n s).2 = some L → (∀ c ∈ L, c4 c) ∧ L.length ≤ n := by
  unfold rdn
  by_cases e : n = 0
  · rw [if_pos e]
    exact ⟨Nat.zero_le _, fun L z => by cases z; exact ⟨fun c hc => absurd hc (List.not_mem_nil), Nat.zero_le _⟩⟩
  · rw [if_neg e]
    obtain ⟨a1, a2, a3⟩ := rl_ok (n := n) (s := s) (p := 0) (by omega)
    cases e3 : (rl n s 0).2 with
    | none => rw [rlp_n e3]; exact ⟨a2, fun L z => by cases z⟩
    | some c =>
      rw [rlp_s e3]
      obtain ⟨b1, b2⟩ := a3 c e3
      exact rls_ok 81 _ _ a2 (by show 1 ≤ _; omega) (all4 (fun q hq => absurd hq (List.not_mem_nil)) b2)
/-- the class's loop -/
theorem c_faultL {n : Nat} {s : Nat → Nat} {m : jM} (h : CT n s m) (hn : ¬ n = 0) (hH : HC [] m) : ∃ e, jloop (fun (z : Int32 × Int32 × jM) => f_X2_fault_L21 177 z.1 z.2.1 z.2.2) jfu (((0 : Int32), (0 : Int32), m)) = some e ∧ ∃ w, jFr (fun c => c = 177 ∨ c = 178) m w ∧ (((rdn n s).2 = none ∧ (e = .inl (-1 - nI (rdn n s).1, w) ∨ e = .inr (.inr (.inl (nI (rdn n s).1, w))))) ∨ (∃ L, (rdn n s).2 = some L ∧ e = .inr (.inl w) ∧ HC L w)) := by
  obtain ⟨R, hR⟩ : ∃ R, R = rdn n s := ⟨_, rfl⟩
  rw [← hR]
  have n80 := h.1
  unfold rdn at hR
  rw [if_neg hn] at hR
  refine jlp (step := fun (z : Int32 × Int32 × jM) => f_X2_fault_L21 177 z.1 z.2.1 z.2.2)
    (fun z => ∃ k p l w, z = (nI p, nI k, w) ∧ p ≤ n ∧ 2 * k ≤ p ∧ l.length = k ∧ HC l w ∧ jFr (fun c => c = 177 ∨ c = 178) m w ∧ R = rlp n s (81 - k) p l) (fun z => 81 - z.2.1.toNatClampNeg)
    (fun e => ∃ w, jFr (fun c => c = 177 ∨ c = 178) m w ∧ ((R.2 = none ∧ (e = .inl (-1 - nI R.1, w) ∨ e = .inr (.inr (.inl (nI R.1, w))))) ∨ (∃ L, R.2 = some L ∧ e = .inr (.inl w) ∧ HC L w)))
    (fun z hz => by
      obtain ⟨k, p, l, w, rfl, hp, hk, hl, hH, hf, hs⟩ := hz
      have hw : CT n s w := ⟨h.1, by rw [(hf 1 (by decide)).1]; exact h.2.1, fun i hi => by rw [(hf 2 (by decide)).1]; exact h.2.2 i hi⟩
      obtain ⟨a, w1, a1, a2, a3⟩ := c_rule hw hp (show l.length < 1000 by omega) hH
      have hw1 : CT n s w1 := ⟨h.1, by rw [(a3 1 (by decide)).1]; exact hw.2.1, fun i hi => by rw [(a3 2 (by decide)).1]; exact hw.2.2 i hi⟩
      obtain ⟨b1, b2, b3⟩ := rl_ok (n := n) (s := s) (p := p) hp
      have hf1 := hf.tr a3
      have pre : ∀ o, (if (0 : Int32) ≤ a then (if a = (w1.1 1 1) then some (.inr (.inr (.inl w1))) else jcl (f_X8_signAt 1 a w1) (fun v17 => (if v17 = (44 : Int32) then some (.inl ((a + (1 : Int32), nI k + (1 : Int32), w1))) else some (.inr (.inr (.inr (.inl ((a, w1))))))))) else some (.inr (.inl ((a, w1))))) = o → f_X2_fault_L21 177 (nI p) (nI k) w = o := fun o ho => by
        unfold f_X2_fault_L21
        rw [jlit 80, if_neg (nI_ge (by omega) (by decide)), jcl_e (c_sgn hw (by omega)), jbd_e]
        by_cases c : sgn n s p = (33 : Int32)
        · rw [if_pos c] at a1
          rw [if_pos c, jcl2_e a1]
          exact ho
        · rw [if_neg c] at a1
          rw [if_neg c, jcl2_e a1]
          exact ho
      have ng : ¬ (0 : Int32) ≤ -1 - nI (rl n s p).1 := by
        rw [i32_le]
        have : ∀ q, q ≤ 80 → (-1 - nI q).toInt < 0 := by decide
        have := this (rl n s p).1 (by omega)
        have e0 : (0 : Int32).toInt = 0 := by decide
        omega
      have pos : (0 : Int32) ≤ nI (rl n s p).1 := nI_pos' (by omega)
      rcases a2 with ⟨c, c1, c2, c3⟩ | ⟨c1, c2 | ⟨c2, c3, c4⟩⟩
      · rw [rlp_s c1] at hs
        obtain ⟨d1, d2⟩ := b3 c c1
        rw [show 81 - k = (80 - k) + 1 by omega, rls_s] at hs
        subst c2
        rw [if_pos pos, hw1.2.1] at pre
        by_cases e : (rl n s p).1 = n
        · rw [if_pos e] at hs
          rw [if_pos (by rw [e])] at pre
          subst hs
          exact ⟨.inr (.inr (.inl w1)), pre _ rfl, w1, hf1, Or.inr ⟨_, rfl, rfl, c3⟩⟩
        · rw [if_neg e] at hs
          rw [if_neg (fun z => e ((nI_eq (by omega) (by omega)).mp z)), jcl_e (c_sgn hw1 (by omega))] at pre
          have e44 := sgn_i (p := (rl n s p).1) (c := 44) hw1 (by omega)
          by_cases e2 : s (rl n s p).1 = 44
          · rw [if_pos e2] at hs
            rw [if_pos (show sgn n s (rl n s p).1 = (44 : Int32) from e44.mpr ⟨by omega, e2⟩), nI_1, nI_1] at pre
            refine ⟨.inl (nI ((rl n s p).1 + 1), nI (k + 1), w1), pre _ rfl, ⟨k + 1, (rl n s p).1 + 1, l ++ [c], w1, rfl, by omega, by omega, by rw [List.length_append, List.length_singleton]; omega, c3, hf1, ?_⟩, ?_⟩
            · rw [show 81 - (k + 1) = 80 - k by omega]; exact hs
            · show 81 - (nI (k + 1)).toNatClampNeg < 81 - (nI k).toNatClampNeg
              rw [nI_clamp (by omega), nI_clamp (by omega)]; omega
          · rw [if_neg e2] at hs
            rw [if_neg (show ¬ sgn n s (rl n s p).1 = (44 : Int32) from fun z => e2 (e44.mp z).2)] at pre
            subst hs
            exact ⟨.inr (.inr (.inr (.inl _))), pre _ rfl, w1, hf1, Or.inl ⟨rfl, Or.inr rfl⟩⟩
      · rw [rlp_n c1] at hs
        subst c2
        rw [if_neg ng] at pre
        subst hs
        exact ⟨.inr (.inl _), pre _ rfl, w1, hf1, Or.inl ⟨rfl, Or.inl rfl⟩⟩
      · rw [rlp_n c1] at hs
        subst c2
        rw [if_pos pos, hw1.2.1, if_neg (fun z => absurd ((nI_eq (by omega) (by omega)).mp z) (by omega)), jcl_e (c_sgn hw1 (by omega))] at pre
        have e44 := sgn_i (p := (rl n s p).1) (c := 44) hw1 (by omega)
        rw [if_neg (show ¬ sgn n s (rl n s p).1 = (44 : Int32) from fun z => c4 (e44.mp z).2)] at pre
        subst hs
        exact ⟨.inr (.inr (.inr (.inl _))), pre _ rfl, w1, hf1, Or.inl ⟨rfl, Or.inr rfl⟩⟩)
    jfu ((0 : Int32), (0 : Int32), m) ⟨0, 0, [], m, rfl, by omega, by omega, rfl, hH, jFr.rf, hR⟩ (by show 81 - _ < 2000000; omega)
theorem neg_neg1 (q : Nat) : (-1 : Int32) - (-1 - nI q) = nI q := by
  rw [Int32.sub_eq_add_neg, Int32.neg_sub, Int32.sub_eq_add_neg, Int32.add_comm (nI q), ← Int32.add_assoc, Int32.add_right_neg, Int32.zero_add]
theorem c_fault {n : Nat} {s : Nat → Nat} {m : jM} (h : CT n s m) : ∃ w, f_X2_fault 177 m = some ((match (rdn n s).2 with | none => nI (rdn n s).1 | some _ => -1), w) ∧ (∀ L, (rdn n s).2 = some L → HC L w) ∧ jFr (fun c => c = 177 ∨ c = 178) m w := by
  have h0 : HC [] (jsi m 177 1 0) := ⟨jsi_at _ _ _ _, fun j a _ => absurd a (Nat.not_lt_zero j)⟩
  have h1 : CT n s (jsi m 177 1 0) := ⟨h.1, by rw [jsi_ne (by decide)]; exact h.2.1, fun i hi => by rw [jsi_ne (by decide)]; exact h.2.2 i hi⟩
  have f0 : jFr (fun c => c = 177 ∨ c = 178) m (jsi m 177 1 0) := jFr.si _ _ _ (Or.inl rfl)
  have n80 := h.1
  unfold f_X2_fault
  rw [jbd_e, h1.2.1]
  by_cases hn : n = 0
  · rw [if_pos (by rw [hn]; rfl)]
    have e : rdn n s = (0, some []) := if_pos hn
    rw [e]
    exact ⟨_, rfl, fun L z => by (cases z; exact h0), f0⟩
  · rw [if_neg (show ¬ nI n = (0 : Int32) from fun z => hn ((nI_eq (b := 0) (by omega) (by decide)).mp z))]
    obtain ⟨e, e1, w, e2, e3⟩ := c_faultL h1 hn h0
    rw [jcl_e e1]
    rcases e3 with ⟨d1, rfl | rfl⟩ | ⟨L, d1, rfl, d3⟩
    · refine ⟨w, ?_, fun L z => by (rw [d1] at z; cases z), f0.tr e2⟩
      rw [d1]
      show some (_, _) = _
      rw [neg_neg1]
    · refine ⟨w, ?_, fun L z => by (rw [d1] at z; cases z), f0.tr e2⟩
      rw [d1]
    · refine ⟨w, ?_, fun L' z => by (rw [d1] at z; cases z; exact d3), f0.tr e2⟩
      rw [d1]
/-- the reference's loop, from behind a rule -/
theorem r_postL {n q : Nat} {s : Nat → Nat} {l : List Q4} {m : jM} (h : RU n s q l m) (hl : 3 * l.length ≤ q) : ∃ e, jloop (fun (z : Int32 × jM) => f_X12_posts_L34 201 z.1 z.2) jfu (((1 : Int32), m)) = some e ∧ ∃ w, FRr m w ∧ RP n s (rls n s 81 q l).1 w ∧ (((rls n s 81 q l).2 = none ∧ e = (0, w)) ∨ (∃ L, (rls n s 81 q l).2 = some L ∧ e = (1, w) ∧ HT L w)) := by
  obtain ⟨R, hR⟩ : ∃ R, R = rls n s 81 q l := ⟨_, rfl⟩
  rw [← hR]
  have n80 := h.1.1
  refine jlp (step := fun (z : Int32 × jM) => f_X12_posts_L34 201 z.1 z.2)
    (fun z => (∃ f p l w, z = (1, w) ∧ n < p + f ∧ 3 * l.length ≤ p ∧ RU n s p l w ∧ FRr m w ∧ R = rls n s f p l) ∨ (∃ w, z = (0, w) ∧ R.2 = none ∧ RP n s R.1 w ∧ FRr m w)) (fun z => if z.1 = 0 then 0 else 100 - (z.2.1 201 5).toNatClampNeg)
    (fun e => ∃ w, FRr m w ∧ RP n s R.1 w ∧ ((R.2 = none ∧ e = (0, w)) ∨ (∃ L, R.2 = some L ∧ e = (1, w) ∧ HT L w)))
    (fun z hz => by
      rcases hz with ⟨f, p, l, w, rfl, hfu, hl, hu, hf, hs⟩ | ⟨w, rfl, hd, hu, hf⟩
      · have hp := hu.1.2.1
        have e6 := hu.1.2.2.1
        have e5 := hu.1.2.2.2.1
        have hf0 : f = (f - 1) + 1 := by omega
        rw [hf0, rls_s] at hs
        have dec0 : ∀ w' : jM, (if ((0 : Int32), w').1 = 0 then 0 else 100 - (w'.1 201 5).toNatClampNeg) < (if ((1 : Int32), w).1 = 0 then 0 else 100 - (w.1 201 5).toNatClampNeg) := fun w' => by
          rw [if_pos rfl, if_neg (show ¬ (1 : Int32) = 0 by decide)]
          show 0 < 100 - (w.1 201 5).toNatClampNeg
          rw [e5, nI_clamp (by omega)]; omega
        by_cases e : p = n
        · rw [if_pos e] at hs
          subst hs
          refine ⟨.inr (1, w), ?_, w, hf, hu.1, Or.inr ⟨_, rfl, rfl, hu.2⟩⟩
          dsimp only
          unfold f_X12_posts_L34
          rw [if_neg (by decide), e6, e5, if_pos (nI_le (by omega) (by omega))]
        · rw [if_neg e] at hs
          obtain ⟨v, t1, t2⟩ := r_takes (c := 44) hu.1 (by omega)
          have pre : ∀ o, jcl2 (f_X12_takes 201 (44 : Int32) w) (fun v16 m17 => (if v16 = (0 : Int32) then some (.inl (((0 : Int32), m17))) else jcl2 (f_X12_readsRule 201 m17) (fun v20 m21 => (if v20 = (0 : Int32) then some (.inl (((0 : Int32), m21))) else some (.inl (((1 : Int32), m21))))))) = o → f_X12_posts_L34 201 1 w = o := fun o ho => by
            unfold f_X12_posts_L34
            rw [if_neg (by decide), e6, e5, if_neg (nI_ge (by omega) (by omega))]
            exact ho
          by_cases e2 : s p = 44
          · rw [if_pos e2] at hs
            rw [if_pos ⟨by omega, e2⟩] at t1 t2
            have u0 : RU n s (p + 1) l (jsi w 201 5 v) := hu.at (by omega) t2
            have f0 : FRr w (jsi w 201 5 v) := FRr.at
            obtain ⟨w1, a1, a2, a3, a4⟩ := r_ruleX u0 (by omega)
            obtain ⟨b1, b2, b3⟩ := rl_ok (n := n) (s := s) (p := p + 1) (by omega)
            rw [jcl2_e (show f_X12_takes 201 (44 : Int32) w = _ from t1), if_neg (by decide), jcl2_e a1] at pre
            cases c1 : (rl n s (p + 1)).2 with
            | none =>
              rw [rlp_n c1] at hs
              rw [c1] at pre
              subst hs
              exact ⟨.inl (0, w1), pre _ (if_pos rfl), Or.inr ⟨w1, rfl, rfl, a2, (hf.tr f0).tr a4⟩, dec0 w1⟩
            | some c =>
              rw [rlp_s c1] at hs
              rw [c1] at pre
              obtain ⟨d1, d2⟩ := b3 c c1
              refine ⟨.inl (1, w1), pre _ (if_neg (show ¬ (1 : Int32) = 0 by decide)), Or.inl ⟨f - 1, _, l ++ [c], w1, rfl, by omega, by rw [List.length_append, List.length_singleton]; omega, ⟨a2, a3 c c1⟩, (hf.tr f0).tr a4, hs⟩, ?_⟩
              show (if (1 : Int32) = 0 then 0 else 100 - (w1.1 201 5).toNatClampNeg) < (if (1 : Int32) = 0 then 0 else 100 - (w.1 201 5).toNatClampNeg)
              rw [if_neg (by decide), if_neg (by decide), e5, a2.2.2.2.1, nI_clamp (by omega), nI_clamp (by omega)]
              omega
          · rw [if_neg e2] at hs
            rw [if_neg (fun z => e2 z.2)] at t1 t2
            rw [jcl2_e (show f_X12_takes 201 (44 : Int32) w = _ from t1), if_pos rfl] at pre
            subst hs
            exact ⟨.inl (0, jsi w 201 5 v), pre _ rfl, Or.inr ⟨_, rfl, rfl, hu.1.at hp t2, hf.tr FRr.at⟩, dec0 _⟩
      · refine ⟨.inr (0, w), ?_, w, hf, hu, Or.inl ⟨hd, rfl⟩⟩
        dsimp only
        unfold f_X12_posts_L34
        rw [if_pos rfl])
    jfu ((1 : Int32), m) (Or.inl ⟨81, q, l, m, rfl, by omega, hl, h, FRr.rf, hR⟩) (by show (if (1 : Int32) = 0 then 0 else 100 - _) < 2000000; rw [if_neg (by decide)]; omega)
