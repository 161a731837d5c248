/-! run: runs -/
theorem ex_block {n p q l l' : Nat} {s : Nat → Nat} {P : PG} {RR : R4} {x : Int32} {rA : Nat → Int32 → jM → Option (Int32 × jM)} {rB : Nat → Int32 → Int32 → jM → Option (Int32 × jM)} (n80 : n ≤ 80) (hb : Bd n RR 0) (hps : Ps n s RR) (hx : ¬ (4 : Int32) < x) (hl' : l' ≤ 168)
    (hRR : ∀ p q1 l l1, RR p q1 (l + 1) l1 → p ≤ n → l1 ≤ 168 → q1 < n → (s q1 = 124 ∨ bc (s q1) = true) → EXR n s P (rA 179 x) (rB 201 (nI (l + 1)) (nI l1)) p q1)
    (hp : p ≤ n) (h : ItB n s P RR p q l l') : EXB n s P (fb_X4_doBlock rA 179 x) (fb_X12_doesBlock rB 201 (nI l)) p q := by
  obtain ⟨so, k, h1, h2, h3, h4, h5, h6, h7⟩ := h
  have bk := in_k hb so k _ _ _ _ h7 (by omega)
  have bi := bd_in hb so k _ _ _ _ h7 (by omega)
  have ec := in_cl hb hps so h1 k _ _ _ _ h7 (by omega)
  intro σ dn hv
  have l9 := hv.1
  by_cases h9 : σ.1 < 9
  · obtain ⟨ok, σ', dn', t1, t2, t3, t4⟩ := ex_in (x := x) (rA := rA) (rB := rB) n80 hb hps h1 hl' (show l < 168 by omega) h4 h6 hRR k (p + 1) (l + 1) 0 jfu σ dn h7 (by omega) (by omega) (by show k + 2 ≤ 2000000; omega) hv h9
    refine ⟨ok, σ', dn', t1, t2, fun μ hC hat => ?_, fun m hM => ?_⟩
    · obtain ⟨w', c1, c2, c3⟩ := t3 μ μ hC.2.2 hC
      have e0 : f_X4_endFrom 179 (nI (p + 1)) (0 : Int32) μ = some (nI (q - 1)) := by
        have := c_endFrom hC.1 (show p + 1 ≤ n by omega) false
        rw [show ef n s false 0 (p + 1) = q - 1 by omega] at this
        exact this
      have sg : sgn n s p = nI (opS so) := by
        unfold sgn
        rw [if_pos h2, h3]
      have pre : ∀ o, jcl (some (if ok then (.inl w' : jM ⊕ jM) else .inr w')) (fun w42 => match w42 with | .inl w42 => jbd (jsi w42 179 4 (nI (q - 1) + (1 : Int32))) (fun m46 => some (((1 : Int32), m46))) | .inr w42 => some (((0 : Int32), w42))) = o → fb_X4_doBlock rA 179 x μ = o := fun o ho => by
        unfold fb_X4_doBlock
        rw [if_neg hx, hC.2.1.1, if_pos (show nI σ.1 < (9 : Int32) from nI_lt (b := 9) h9 (by decide)), hat, jcl_e (c_sgn hC.1 (by omega)), sg, nI_1, jbd_e, jcl_e e0]
        rw [show (0 : Int32) = nI 0 from rfl, c1]
        exact ho
      cases ok with
      | true =>
        refine ⟨jsi w' 179 4 (nI q), pre _ ?_, ⟨c2.1.cx CX.si, c2.2.1.c179 t1, by rw [jsi_pl (by decide)]; exact c2.2.2⟩, fun _ => jsi_at _ _ _ _, c3.tr CX.si⟩
        rw [if_pos (rfl : true = true)]
        show some ((1 : Int32), jsi w' 179 4 (nI (q - 1) + (1 : Int32))) = _
        rw [nI_1, show q - 1 + 1 = q by omega]
        rfl
      | false => exact ⟨w', pre _ rfl, c2, fun z => absurd z Bool.false_ne_true, c3⟩
    · obtain ⟨m', c1, c2, c3⟩ := t4 m hM
      refine ⟨m', ?_, c2, c3⟩
      unfold fb_X12_doesBlock
      rw [hM.1.1, if_neg (show ¬ nI σ.1 = (9 : Int32) from fun z => by have := (nI_eq (b := 9) (by omega) (by decide)).mp z; omega), nI_1]
      exact c1
  · have q9 : σ.1 = 9 := by omega
    refine ⟨false, σ, dn, hv, rfl, fun μ hC hat => ⟨μ, ?_, hC, fun z => absurd z Bool.false_ne_true, CX.rf⟩, fun m hM => ⟨m, ?_, hM, MX.rf⟩⟩
    · unfold fb_X4_doBlock
      rw [if_neg hx, hC.2.1.1, if_neg (show ¬ nI σ.1 < (9 : Int32) from nI_nlt (b := 9) (by omega) (by omega))]
      rfl
    · unfold fb_X12_doesBlock
      rw [hM.1.1, q9, if_pos (by rfl)]
      rfl
theorem jcl_jcl2 {α : Type} {β : Type} (o : Option α) (f : α → Option (Int32 × jM)) (k : Int32 → jM → Option β) : jcl o (fun v => jcl2 (f v) k) = jcl2 (jcl o f) k := by cases o <;> rfl
/-- one of a run -/
theorem ex_it {n p p1 l l1 x : Nat} {s : Nat → Nat} {P : PG} {RR : R4} {rA : Nat → Int32 → jM → Option (Int32 × jM)} {rB : Nat → Int32 → Int32 → jM → Option (Int32 × jM)} (n80 : n ≤ 80) (hb : Bd n RR 0) (hps : Ps n s RR) (hx : ¬ (4 : Int32) < nI (x + 1) ∨ ∀ p q l l', ¬ RR p q l l') (hl1 : l1 ≤ 168)
    (hRR : ∀ p q1 l l1, RR p q1 (l + 1) l1 → p ≤ n → l1 ≤ 168 → q1 < n → (s q1 = 124 ∨ bc (s q1) = true) → EXR n s P (rA 179 (nI (x + 1))) (rB 201 (nI (l + 1)) (nI l1)) p q1)
    (hp : p ≤ n) (h : ItR n s P RR p p1 l l1) (σ : SS) (dn : Nat) (hv : VS σ) :
    ∃ (ok : Bool) (σ' : SS) (dn' : Nat), VS σ' ∧ σ'.1 = σ.1 ∧ (P l).2.2.2.1 = nI p ∧
    (∀ μ u, u ≤ 80 → CS n s σ dn μ → μ.1 179 4 = nI p → ∃ μ', f_X4_doRun_L2 179 (nI x) rA (nI u) μ = some (if ok then .inl (nI (u + 1), μ') else .inr (.inr (.inl (nI p, μ')))) ∧ CS n s σ' dn' μ' ∧ (ok = true → μ'.1 179 4 = nI p1) ∧ CX μ μ') ∧
    (∀ m x2, l < x2 → x2 ≤ 168 → MS P σ dn m → ∃ m', f_X12_does_L2 201 (nI x2) rB (nI l) m = some (if ok then .inl (nI l1, m') else .inr (.inl (nI l, m'))) ∧ MS P σ' dn' m' ∧ MX m m') := by
  have bi := bd_it (s := s) (P := P) hb _ _ _ _ h hp
  -- the class's step, at a sign that goes on
  have cst : ∀ (μ : jM) (u : Nat) (F : Option (Int32 × jM)) (ok : Bool) (μ' : jM), u ≤ 80 → CS n s σ dn μ → μ.1 179 4 = nI p → p < n → ¬ (s p = 124 ∨ bc (s p) = true) → F = some ((if ok then (1 : Int32) else 0), μ') → (F = if bo (s p) then fb_X4_doBlock rA 179 (nI (x + 1)) μ else jcl (f_X4_actAt 179 (nI p) μ) (fun v => f_X4_doAct 179 v μ)) → f_X4_doRun_L2 179 (nI x) rA (nI u) μ = some (if ok then .inl (nI (u + 1), μ') else .inr (.inr (.inl (nI p, μ')))) := fun μ u F ok μ' hu hC hat hpn hnc e1 e2 => by
    have hs256 := (hC.1.2.2 p (by omega)).2
    obtain ⟨o1, o2⟩ := op_b (s p) hs256
    have b2 : bc (s p) = false := by
      cases z : bc (s p) with
      | false => rfl
      | true => exact absurd (Or.inr z) hnc
    have sg : sgn n s p = nI (s p) := if_pos hpn
    have kk : (fun (t9 : Int32) (m10 : jM) => (if t9 = (0 : Int32) then (some (.inr (.inr (.inl ((nI p, m10))))) : Option ((Int32 × jM) ⊕ ((jM) ⊕ ((Int32 × jM) ⊕ (jM))))) else some (.inl ((nI u + (1 : Int32), m10))))) (if ok then (1 : Int32) else 0) μ' = some (if ok then .inl (nI (u + 1), μ') else .inr (.inr (.inl (nI p, μ')))) := by
      cases ok with
      | true => show some _ = some _; rw [nI_1]; rfl
      | false => rfl
    unfold f_X4_doRun_L2
    rw [jlit 80, if_neg (nI_nlt hu (by decide)), hat, jcl_e (c_sgn hC.1 (by omega)), sg, if_neg (nI_m1 (by omega)), if_neg (show ¬ nI (s p) = (124 : Int32) from fun z => hnc (Or.inl ((nI_eq (b := 124) (by omega) (by decide)).mp z))), o2, b2, if_pos (show (if false = true then (1 : Int32) else 0) = 0 from rfl), jbd_e, o1, nI_1 x]
    cases b : bo (s p) with
    | true =>
      rw [b, if_pos rfl] at e2
      rw [if_neg (show ¬ (if true = true then (1 : Int32) else 0) = 0 by decide), jcl2_e (e2.symm.trans e1)]
      exact kk
    | false =>
      rw [b, if_neg Bool.false_ne_true] at e2
      rw [if_pos (show (if false = true then (1 : Int32) else 0) = 0 from rfl), jcl_jcl2, jcl2_e (e2.symm.trans e1)]
      exact kk
  rcases h with h | h
  · obtain ⟨ok, σ', dn', t1, t2, t3, t4⟩ := ex_act (dn := dn) hv (show l < 168 by omega) h
    obtain ⟨k, h1, h2, h3, h4, h5, h6, h7, h8, h9, h10⟩ := h
    have hk := (ra_some h4).1
    refine ⟨ok, σ', dn', t1, t2, h10, fun μ u hu hC hat => ?_, fun m x2 hx2 hx3 hM => ?_⟩
    · obtain ⟨μ', c1, c2, c3, c4⟩ := t3 μ hC hat
      exact ⟨μ', cst μ u _ ok μ' hu hC hat h1 h3 c1 (by rw [h2, if_neg Bool.false_ne_true]), c2, c3, c4⟩
    · obtain ⟨m', c1, c2, c3⟩ := t4 m hM
      refine ⟨m', ?_, c2, c3⟩
      have r13 : rop k < 20 := by unfold rop; split <;> omega
      unfold f_X12_does_L2
      rw [if_neg (nI_ge hx2 (by omega))]
      show jrd (m.1 211) _ _ _ = _
      rw [jrd_n (by omega) (by decide), (pr_op hM.2.2 l).1, h7, jbd_e, if_neg (show ¬ (20 : Int32) ≤ nI (rop k) from nI_ge (b := 20) r13 (by decide))]
      refine (c1 _).trans ?_
      rw [nI_1, ← h6]
      cases ok <;> rfl
  · have hbl := h
    obtain ⟨so, k, h1, h2, h3, h4, h5, h6, h7⟩ := h
    have hx' : ¬ (4 : Int32) < nI (x + 1) := by
      rcases hx with z | z
      · exact z
      · exfalso
        cases k with
        | zero => obtain ⟨q1, i1, -⟩ := h7; exact z _ _ _ _ i1
        | succ k => obtain ⟨-, q1, l2, i1, -⟩ := h7; exact z _ _ _ _ i1
    obtain ⟨ok, σ', dn', t1, t2, t3, t4⟩ := ex_block n80 hb hps hx' hl1 hRR hp hbl σ dn hv
    obtain ⟨b1, b2, b3⟩ := opS_b so h1
    refine ⟨ok, σ', dn', t1, t2, h5, fun μ u hu hC hat => ?_, fun m x2 hx2 hx3 hM => ?_⟩
    · obtain ⟨μ', c1, c2, c3, c4⟩ := t3 μ hC hat
      exact ⟨μ', cst μ u _ ok μ' hu hC hat h2 (by rw [h3, b2]; exact fun z => z.elim b3 (fun q => Bool.false_ne_true q)) c1 (by rw [h3, b1, if_pos rfl]), c2, c3, c4⟩
    · obtain ⟨m', c1, c2, c3⟩ := t4 m hM
      refine ⟨m', ?_, c2, c3⟩
      unfold f_X12_does_L2
      rw [if_neg (nI_ge hx2 (by omega))]
      show jrd (m.1 211) _ _ _ = _
      rw [jrd_n (by omega) (by decide), (pr_op hM.2.2 l).1, h4, jbd_e, if_pos (show (20 : Int32) ≤ nI (20 + so) from nI_le (a := 20) (by omega) (by omega)), jcl2_e c1]
      show jrd (m'.1 215) _ _ _ = _
      rw [jrd_n (by omega) (by decide), (pr_op c2.2.2 l).2.2.2.2, h6]
      cases ok <;> rfl
theorem ex_sq {n q l' x : Nat} {s : Nat → Nat} {P : PG} {RR : R4} {rA : Nat → Int32 → jM → Option (Int32 × jM)} {rB : Nat → Int32 → Int32 → jM → Option (Int32 × jM)} (n80 : n ≤ 80) (hb : Bd n RR 0) (hps : Ps n s RR) (hx : ¬ (4 : Int32) < nI (x + 1) ∨ ∀ p q l l', ¬ RR p q l l') (hl' : l' ≤ 168) (hq : Ed n s q)
    (hRR : ∀ p q1 l l1, RR p q1 (l + 1) l1 → p ≤ n → l1 ≤ 168 → q1 < n → (s q1 = 124 ∨ bc (s q1) = true) → EXR n s P (rA 179 (nI (x + 1))) (rB 201 (nI (l + 1)) (nI l1)) p q1) :
    ∀ k p l u fu σ dn, SqR (ItR n s P RR) k p q l l' → p ≤ n → u + k ≤ 80 → k + 1 ≤ fu → VS σ →
    ∃ (ok : Bool) (σ' : SS) (dn' pr lr : Nat), VS σ' ∧ σ'.1 = σ.1 ∧ (ok = false → lr < 168 ∧ pr ≤ n ∧ (P lr).2.2.2.1 = nI pr) ∧
    (∀ μ, CS n s σ dn μ → μ.1 179 4 = nI p → ∃ μ', jloop (fun (z : Int32 × jM) => f_X4_doRun_L2 179 (nI x) rA z.1 z.2) fu ((nI u, μ)) = some (if ok then .inl μ' else .inr (.inl (nI pr, μ'))) ∧ CS n s σ' dn' μ' ∧ (ok = true → μ'.1 179 4 = nI q) ∧ CX μ μ') ∧
    (∀ m, MS P σ dn m → ∃ m', jloop (fun (z : Int32 × jM) => f_X12_does_L2 201 (nI l') rB z.1 z.2) fu ((nI l, m)) = some (if ok then .inr m' else .inl (nI lr, m')) ∧ MS P σ' dn' m' ∧ MX m m') := by
  intro k
  induction k with
  | zero =>
    intro p l u fu σ dn hS hp hu hfu hv
    obtain ⟨fu, rfl⟩ : ∃ f, fu = f + 1 := ⟨fu - 1, by omega⟩
    obtain ⟨h1, h2⟩ := hS
    subst h1
    subst h2
    refine ⟨true, σ, dn, 0, 0, hv, rfl, fun z => by (cases z), fun μ hC hat => ⟨μ, jloop_x ?_, hC, fun _ => hat, CX.rf⟩, fun m hM => ⟨m, jloop_x ?_, hM, MX.rf⟩⟩
    · dsimp only
      unfold f_X4_doRun_L2
      rw [jlit 80, if_neg (nI_nlt (by omega) (by decide)), hat, jcl_e (c_sgn hC.1 (by omega))]
      unfold sgn
      rcases hq with hq | ⟨hq, hq2⟩
      · rw [if_neg (show ¬ p < n by omega), if_pos rfl]
        rfl
      · have hs256 := (hC.1.2.2 p (by omega)).2
        rw [if_pos hq, if_neg (nI_m1 (by omega))]
        by_cases z : s p = 124
        · rw [if_pos (show nI (s p) = (124 : Int32) by rw [z]; rfl)]
          rfl
        · have b2 : bc (s p) = true := by
            rcases hq2 with y | y
            · exact absurd y z
            · exact y
          rw [if_neg (show ¬ nI (s p) = (124 : Int32) from fun y => z ((nI_eq (b := 124) (by omega) (by decide)).mp y)), (op_b _ hs256).2, b2, if_neg (show ¬ (if true = true then (1 : Int32) else 0) = 0 by decide)]
          rfl
    · dsimp only
      unfold f_X12_does_L2
      rw [if_pos (nI_le (Nat.le_refl _) (by omega))]
      rfl
  | succ k ih =>
    intro p l u fu σ dn hS hp hu hfu hv
    obtain ⟨fu, rfl⟩ : ∃ f, fu = f + 1 := ⟨fu - 1, by omega⟩
    obtain ⟨p1, l1, i1, i2⟩ := hS
    have b1 := bd_it (s := s) (P := P) hb _ _ _ _ i1 hp
    have b2 := bd_sq (bd_it (s := s) (P := P) hb) k _ _ _ _ i2 (by omega)
    obtain ⟨ok, σ1, dn1, t1, t2, t3, t4, t5⟩ := ex_it n80 hb hps hx (show l1 ≤ 168 by omega) hRR hp i1 σ dn hv
    cases ok with
    | false =>
      refine ⟨false, σ1, dn1, p, l, t1, t2, fun _ => ⟨by omega, hp, t3⟩, fun μ hC hat => ?_, fun m hM => ?_⟩
      · obtain ⟨μ', c1, c2, c3, c4⟩ := t4 μ u (by omega) hC hat
        exact ⟨μ', jloop_x c1, c2, fun z => by (cases z), c4⟩
      · obtain ⟨m', c1, c2, c3⟩ := t5 m l' (by omega) hl' hM
        exact ⟨m', jloop_x c1, c2, c3⟩
    | true =>
      obtain ⟨ok2, σ2, dn2, pr, lr, r1, r2, r3, r4, r5⟩ := ih p1 l1 (u + 1) fu σ1 dn1 i2 (by omega) (by omega) (by omega) t1
      refine ⟨ok2, σ2, dn2, pr, lr, r1, r2.trans t2, r3, fun μ hC hat => ?_, fun m hM => ?_⟩
      · obtain ⟨μ', c1, c2, c3, c4⟩ := t4 μ u (by omega) hC hat
        obtain ⟨μ2, d1, d2, d3, d4⟩ := r4 μ' c2 (c3 rfl)
        refine ⟨μ2, ?_, d2, d3, c4.tr d4⟩
        rw [jloop_s c1]
        exact d1
      · obtain ⟨m', c1, c2, c3⟩ := t5 m l' (by omega) hl' hM
        obtain ⟨m2, d1, d2, d3⟩ := r5 m' c2
        refine ⟨m2, ?_, d2, c3.tr d3⟩
        rw [jloop_s c1]
        exact d1
theorem ex_run {n : Nat} {s : Nat → Nat} {P : PG} (n80 : n ≤ 80) : ∀ d D E x p q l l', x + d = 5 → d ≤ D → d ≤ E → RnR n s P d p q l l' → p ≤ n → l' ≤ 168 → Ed n s q → EXR n s P (f_X4_doRun D 179 (nI x)) (f_X12_does E 201 (nI l) (nI l')) p q := by
  intro d
  induction d with
  | zero => intro D E x p q l l' _ _ _ h; exact h.elim
  | succ d ih =>
    intro D E x p q l l' hx hD hE hR hp hl' hq
    obtain ⟨D, rfl⟩ : ∃ f, D = f + 1 := ⟨D - 1, by omega⟩
    obtain ⟨E, rfl⟩ : ∃ f, E = f + 1 := ⟨E - 1, by omega⟩
    obtain ⟨k, hk⟩ := hR
    have bk := bd_sq (bd_it (s := s) (P := P) (bd_rn n s P d)) k _ _ _ _ hk hp
    have hx4 : ¬ (4 : Int32) < nI (x + 1) ∨ ∀ p q l l', ¬ RnR n s P d p q l l' := by
      cases d with
      | zero => exact Or.inr (fun _ _ _ _ z => z)
      | succ d => exact Or.inl (nI_nlt (a := 4) (b := x + 1) (by omega) (by decide))
    intro σ dn hv
    obtain ⟨ok, σ', dn', pr, lr, t1, t2, t3, t4, t5⟩ := ex_sq (x := x) (rA := f_X4_doRun D) (rB := f_X12_does E) n80 (bd_rn n s P d) (ps_rn n s P d) hx4 hl' hq (fun p q1 l l1 h1 h2 h3 h4 h5 => ih D E (x + 1) p q1 (l + 1) l1 (by omega) (by omega) (by omega) h1 h2 h3 (Or.inr ⟨h4, h5⟩)) k p l 0 jfu σ dn hk hp (by omega) (by show k + 1 ≤ 2000000; omega) hv
    refine ⟨ok, σ', dn', pr, lr, t1, t2, t3, fun μ hC hat => ?_, fun m hM => ?_⟩
    · obtain ⟨μ', c1, c2, c3, c4⟩ := t4 μ hC hat
      have pre : ∀ o, (match (if ok then .inl μ' else .inr (.inl (nI pr, μ')) : jM ⊕ ((Int32 × jM) ⊕ jM)) with | .inl w24 => some (((1 : Int32), w24)) | .inr w24 => match w24 with | .inl w24 => jbd (jsi w24.2 179 4 w24.1) (fun m30 => some (((0 : Int32), m30))) | .inr w24 => some (((1 : Int32), w24))) = o → f_X4_doRun (D + 1) 179 (nI x) μ = o := fun o ho => by
        show fb_X4_doRun (f_X4_doRun D) 179 (nI x) μ = o
        unfold fb_X4_doRun
        rw [show (0 : Int32) = nI 0 from rfl, jcl_e c1]
        exact ho
      cases ok with
      | true => exact ⟨μ', pre _ rfl, c2, c3 rfl, c4⟩
      | false => exact ⟨jsi μ' 179 4 (nI pr), pre _ rfl, ⟨c2.1.cx CX.si, c2.2.1.c179 t1, by rw [jsi_pl (by decide)]; exact c2.2.2⟩, jsi_at _ _ _ _, c4.tr CX.si⟩
    · obtain ⟨m', c1, c2, c3⟩ := t5 m hM
      refine ⟨m', ?_, c2, c3⟩
      show fb_X12_does (f_X12_does E) 201 (nI l) (nI l') m = _
      unfold fb_X12_does
      rw [jcl_e c1]
      cases ok <;> rfl
