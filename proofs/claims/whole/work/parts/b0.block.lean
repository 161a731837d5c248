/-! run: blocks -/
theorem opS_e : ∀ so, so < 3 → ((nI (opS so) = (40 : Int32)) ↔ so = 0) ∧ ((nI (opS so) = (91 : Int32)) ↔ so = 1) := by
  intro so h
  have : so = 0 ∨ so = 1 ∨ so = 2 := by omega
  rcases this with rfl | rfl | rfl <;> exact ⟨by decide, by decide⟩
def kB (p u so : Nat) (v19 : Int32) (m22 : jM) : Option ((Int32 × Int32 × jM) ⊕ ((jM) ⊕ (jM))) := if v19 = (0 : Int32) then (if nI (opS so) = (40 : Int32) then some (.inr (.inl m22)) else jcl (f_X4_endFrom 179 (nI p) (1 : Int32) m22) (fun v28 => some (.inl ((v28 + (1 : Int32), nI u + (1 : Int32), m22))))) else some (.inr (.inl m22))
def kR (l lb : Nat) (v18 : Int32) (m26 : jM) : Option ((Int32 × jM) ⊕ ((jM) ⊕ ((Int32 × jM) ⊕ (jM)))) := jrd (m26.1 (201 + 10)) (nI lb) 168 (fun v29 => (if v29 = (22 : Int32) then jrd (m26.1 (201 + 14)) (nI l) 168 (fun v33 => some (.inl ((v33, m26)))) else some (.inr (.inr (.inl ((v18, m26)))))))
/-- one try of the class -/
theorem c_it {n p q pr q9 u so dn dn2 : Nat} {s : Nat → Nat} {σ σ2 : SS} {ok : Bool} {x : Int32} {rA : Nat → Int32 → jM → Option (Int32 × jM)} {μ w : jM} (hv : VS σ) (h9 : σ.1 < 9) (hv2 : VS σ2) (e2 : σ2.1 = σ.1 + 1) (hso : so < 3) (hp : p ≤ n) (hq : p ≤ q9) (hq9 : q9 ≤ 80) (hu : u < 80) (hμ : μ.1 179 5 = nI dn) (hC : CS n s σ dn w)
    (hr : ∀ μ, CS n s (opn σ) dn μ → μ.1 179 4 = nI p → ∃ μ', rA 179 x μ = some ((if ok then (1 : Int32) else 0), μ') ∧ CS n s σ2 dn2 μ' ∧ μ'.1 179 4 = nI (if ok then q else pr) ∧ CX μ μ') :
    (ok = true → ¬ so = 1 → ∃ w', f_X4_doBlock_L55 179 x μ rA (nI (opS so)) (nI q9) (nI p) (nI u) w = some (.inr (.inl w')) ∧ CS n s (com σ2) dn2 w' ∧ CX w w') ∧
    ((ok = true ∧ so = 1) ∨ (ok = false ∧ so = 0) → ∃ w', f_X4_doBlock_L55 179 x μ rA (nI (opS so)) (nI q9) (nI p) (nI u) w = some (.inr (.inl w')) ∧ CS n s (clo σ.1 σ2) dn w' ∧ CX w w') ∧
    (ok = false → ¬ so = 0 → ∃ w', f_X4_doBlock_L55 179 x μ rA (nI (opS so)) (nI q9) (nI p) (nI u) w = some (.inl (nI (ef n s true 0 p + 1), nI (u + 1), w')) ∧ CS n s (clo σ.1 σ2) dn w' ∧ CX w w') := by
  obtain ⟨m20, a1, a2, a3⟩ := c_try hv h9 hC hr
  obtain ⟨m35, b1, b2, b3⟩ := c_back (dn := dn) hv2 (by omega) a1
  obtain ⟨m40, c1, c2, c3⟩ := c_keep hv2 (by omega) a1
  obtain ⟨o1, o2⟩ := opS_e so hso
  rw [show σ2.1 - 1 = σ.1 by omega] at b1
  have pre : ∀ o, (if (if ok then (1 : Int32) else 0) = (0 : Int32) then kB p u so (if ok then (1 : Int32) else 0) m35 else (if nI (opS so) = (91 : Int32) then kB p u so (if ok then (1 : Int32) else 0) m35 else kB p u so (if ok then (1 : Int32) else 0) m40)) = o → f_X4_doBlock_L55 179 x μ rA (nI (opS so)) (nI q9) (nI p) (nI u) w = o := fun o ho => by
    have e3 := a3 (fun v19 m20 => (if v19 = (0 : Int32) then jcl (f_X7_closeTo 5 ((m20.1 5 2) - (1 : Int32)) m20) (fun m33 => jbd (jsi m33 179 5 (nI dn)) (fun m35 => kB p u so v19 m35)) else (if nI (opS so) = (91 : Int32) then jcl (f_X7_closeTo 5 ((m20.1 5 2) - (1 : Int32)) m20) (fun m33 => jbd (jsi m33 179 5 (nI dn)) (fun m35 => kB p u so v19 m35)) else jcl2 (f_X7_commitLevel 5 m20) (fun _ m40 => kB p u so v19 m40))))
    try dsimp only at e3
    rw [b3 (fun m => kB p u so (if ok then (1 : Int32) else 0) m), c3 (fun m => kB p u so (if ok then (1 : Int32) else 0) m)] at e3
    unfold f_X4_doBlock_L55
    rw [jlit 80, if_neg (nI_ge hu (by decide)), if_neg (nI_nlt hq (by omega)), hμ]
    exact e3.trans ho
  unfold kB at pre
  refine ⟨fun h1 h2 => ⟨m40, pre _ ?_, c1, a2.tr c2⟩, fun h1 => ⟨m35, pre _ ?_, b1, a2.tr b2⟩, fun h1 h2 => ⟨m35, pre _ ?_, b1, a2.tr b2⟩⟩
  · rw [h1, if_neg (show ¬ (if true = true then (1 : Int32) else 0) = 0 by decide), if_neg (fun z => h2 (o2.mp z)), if_neg (show ¬ (if true = true then (1 : Int32) else 0) = 0 by decide)]
  · rcases h1 with ⟨h1, h2⟩ | ⟨h1, h2⟩
    · rw [h1, if_neg (show ¬ (if true = true then (1 : Int32) else 0) = 0 by decide), if_pos (o2.mpr h2), if_neg (show ¬ (if true = true then (1 : Int32) else 0) = 0 by decide)]
    · rw [h1, if_pos (show (if false = true then (1 : Int32) else 0) = 0 from rfl), if_pos (show (if false = true then (1 : Int32) else 0) = 0 from rfl), if_pos (o1.mpr h2)]
  · have ee := c_endFrom b1.1 hp true
    rw [h1, if_pos (show (if false = true then (1 : Int32) else 0) = 0 from rfl), if_pos (show (if false = true then (1 : Int32) else 0) = 0 from rfl), if_neg (fun z => h2 (o1.mp z)), jcl_e (show f_X4_endFrom 179 (nI p) (1 : Int32) m35 = _ from ee), nI_1, nI_1]
/-- one try of the reference -/
theorem r_it {l l1 lb l' so dn dn2 lr : Nat} {P : PG} {σ σ2 : SS} {ok : Bool} {rB : Nat → Int32 → Int32 → jM → Option (Int32 × jM)} {m : jM} (hv : VS σ) (h9 : σ.1 < 9) (hv2 : VS σ2) (e2 : σ2.1 = σ.1 + 1) (hso : so < 3) (hM : MS P σ dn m) (hl : l < l') (hl' : l' ≤ 168) (hlb : lb < 168) (hlr : lr < 168) (o1 : (P lb).1 = nI (20 + so)) (o5 : (P lb).2.2.2.2 = nI l') (hs : (P l).2.2.2.2 = nI l1)
    (hr : ∀ m, MS P (opn σ) dn m → ∃ m', rB 201 (nI (l + 1)) (nI l1) m = some ((if ok then (-1 : Int32) else nI lr), m') ∧ MS P σ2 dn2 m' ∧ MX m m') :
    (ok = true → ¬ so = 1 → ∃ m', f_X12_doesBlock_L15 201 (nI lb) rB (nI l) m = some (.inr (.inl m')) ∧ MS P σ2 dn2 m' ∧ MX m m') ∧
    (ok = true ∧ so = 1 → ∃ m', f_X12_doesBlock_L15 201 (nI lb) rB (nI l) m = some (.inr (.inr (.inl (1, m')))) ∧ MS P (clo σ.1 σ2) dn m' ∧ MX m m') ∧
    (ok = false → ¬ so = 2 → ∃ m', f_X12_doesBlock_L15 201 (nI lb) rB (nI l) m = some (.inr (.inr (.inl (0, m')))) ∧ MS P (clo σ.1 σ2) dn m' ∧ MX m m') ∧
    (ok = false → so = 2 → ∃ m', f_X12_doesBlock_L15 201 (nI lb) rB (nI l) m = some (.inl (nI l1, m')) ∧ MS P (clo σ.1 σ2) dn m' ∧ MX m m') := by
  obtain ⟨m15, a1, a2, a3⟩ := r_try hv h9 hM (by omega) hs hr
  obtain ⟨m26, b1, b2, b3⟩ := r_back (dn := dn) hv2 (by omega) a1
  rw [show σ2.1 - 1 = σ.1 by omega] at b1
  have es : (nI (20 + so) = (22 : Int32) ↔ so = 2) ∧ (nI (20 + so) = (21 : Int32) ↔ so = 1) := by
    have : so = 0 ∨ so = 1 ∨ so = 2 := by omega
    rcases this with rfl | rfl | rfl <;> exact ⟨by decide, by decide⟩
  have pre : ∀ o, (if (if (0 : Int32) ≤ (if ok then (-1 : Int32) else nI lr) then (0 : Int32) else 1) = (0 : Int32) then kR l lb (if (0 : Int32) ≤ (if ok then (-1 : Int32) else nI lr) then (0 : Int32) else 1) m26 else jrd (m15.1 (201 + 10)) (nI lb) 168 (fun v37 => (if v37 = (21 : Int32) then kR l lb (if (0 : Int32) ≤ (if ok then (-1 : Int32) else nI lr) then (0 : Int32) else 1) m26 else some (.inr (.inl m15))))) = o → f_X12_doesBlock_L15 201 (nI lb) rB (nI l) m = o := fun o ho => by
    have e3 := a3 (fun v14 m15 => (if (if (0 : Int32) ≤ v14 then (0 : Int32) else 1) = (0 : Int32) then jcl2 (f_X12_closesOne 201 m15) (fun _ m24 => jbd (jsi m24 201 25 (nI dn)) (fun m26 => kR l lb (if (0 : Int32) ≤ v14 then (0 : Int32) else 1) m26)) else jrd (m15.1 (201 + 10)) (nI lb) 168 (fun v37 => (if v37 = (21 : Int32) then jcl2 (f_X12_closesOne 201 m15) (fun _ m24 => jbd (jsi m24 201 25 (nI dn)) (fun m26 => kR l lb (if (0 : Int32) ≤ v14 then (0 : Int32) else 1) m26)) else some (.inr (.inl m15))))))
    try dsimp only at e3
    rw [b3 (fun m => kR l lb (if (0 : Int32) ≤ (if ok then (-1 : Int32) else nI lr) then (0 : Int32) else 1) m)] at e3
    unfold f_X12_doesBlock_L15
    show jrd (m.1 215) _ _ _ = _
    rw [jrd_n hlb (by decide), (pr_op hM.2.2 lb).2.2.2.2, o5, if_neg (nI_ge hl (by omega)), hM.2.1]
    exact e3.trans ho
  unfold kR at pre
  have q15 : m15.1 (201 + 10) lb = nI (20 + so) := (pr_op a1.2.2 lb).1.trans o1
  have q26 : m26.1 (201 + 10) lb = nI (20 + so) := (pr_op b1.2.2 lb).1.trans o1
  have s26 : m26.1 (201 + 14) l = nI l1 := (pr_op b1.2.2 l).2.2.2.2.trans hs
  simp only [jrd_n hlb (show 168 < 2 ^ 31 by decide), jrd_n (show l < 168 by omega) (show 168 < 2 ^ 31 by decide), q26, s26, q15] at pre
  have t1 : (if (0 : Int32) ≤ (if true = true then (-1 : Int32) else nI lr) then (0 : Int32) else 1) = 1 := rfl
  have t0 : (if (0 : Int32) ≤ (if false = true then (-1 : Int32) else nI lr) then (0 : Int32) else 1) = 0 := if_pos (nI_pos' (by omega))
  refine ⟨fun h1 h2 => ⟨m15, pre _ ?_, a1, a2⟩, fun h1 => ⟨m26, pre _ ?_, b1, a2.tr b2⟩, fun h1 h2 => ⟨m26, pre _ ?_, b1, a2.tr b2⟩, fun h1 h2 => ⟨m26, pre _ ?_, b1, a2.tr b2⟩⟩
  · rw [h1, t1, if_neg (by decide), if_neg (fun z => h2 (es.2.mp z))]
  · rw [h1.1, t1, if_neg (by decide), if_pos (es.2.mpr h1.2), if_neg (fun z => by have := es.1.mp z; omega)]
  · rw [h1, t0, if_pos rfl, if_neg (fun z => h2 (es.1.mp z))]
  · rw [h1, t0, if_pos rfl, if_pos (es.1.mpr h2)]
def tlB (lb : Nat) (e : jM ⊕ ((Int32 × jM) ⊕ jM)) : Option (Int32 × jM) := match e with
  | .inl w40 => jcl2 (f_X12_commitsOne 201 w40) (fun _ m45 => some (((1 : Int32), m45)))
  | .inr w40 => match w40 with
    | .inl w40 => (if w40.1 = (0 : Int32) then jrd (w40.2.1 (201 + 10)) (nI lb) 168 (fun v51 => (if v51 = (20 : Int32) then some (((1 : Int32), w40.2)) else some (((0 : Int32), w40.2)))) else some (((1 : Int32), w40.2)))
    | .inr w40 => some (((0 : Int32), w40))
theorem ex_in {n q l' lb so : Nat} {s : Nat → Nat} {P : PG} {RR : R4} {x : Int32} {rA : Nat → Int32 → jM → Option (Int32 × jM)} {rB : Nat → Int32 → Int32 → jM → Option (Int32 × jM)} (n80 : n ≤ 80) (hb : Bd n RR 0) (hps : Ps n s RR) (hso : so < 3) (hl' : l' ≤ 168) (hlb : lb < 168) (o1 : (P lb).1 = nI (20 + so)) (o5 : (P lb).2.2.2.2 = nI l')
    (hRR : ∀ p q1 l l1, RR p q1 (l + 1) l1 → p ≤ n → l1 ≤ 168 → q1 < n → (s q1 = 124 ∨ bc (s q1) = true) → EXR n s P (rA 179 x) (rB 201 (nI (l + 1)) (nI l1)) p q1) :
    ∀ k p l u fu σ dn, InR n s P RR so k p q l l' → p ≤ n → u < p → k + 2 ≤ fu → VS σ → σ.1 < 9 →
    ∃ (ok : Bool) (σ' : SS) (dn' : Nat), VS σ' ∧ σ'.1 = σ.1 ∧
    (∀ μ w, μ.1 179 5 = nI dn → CS n s σ dn w → ∃ w', jloop (fun (z : Int32 × Int32 × jM) => f_X4_doBlock_L55 179 x μ rA (nI (opS so)) (nI (q - 1)) z.1 z.2.1 z.2.2) fu ((nI p, nI u, w)) = some (if ok then .inl w' else .inr w') ∧ CS n s σ' dn' w' ∧ CX w w') ∧
    (∀ m, MS P σ dn m → ∃ m', jcl (jloop (fun (z : Int32 × jM) => f_X12_doesBlock_L15 201 (nI lb) rB z.1 z.2) fu ((nI l, m))) (tlB lb) = some ((if ok then (1 : Int32) else 0), m') ∧ MS P σ' dn' m' ∧ MX m m') := by
  have cS : ∀ so', so' < 3 → bc (clS so') = true := fun so' h => (clS_b so' h).1
  intro k
  induction k with
  | zero =>
    intro p l u fu σ dn hI hp hu hfu hv h9
    obtain ⟨fu, rfl⟩ : ∃ f, fu = f + 1 + 1 := ⟨fu - 2, by omega⟩
    obtain ⟨q1, i1, i2, i3, i4, i5⟩ := hI
    have b1 := hb _ _ _ _ i1 hp
    have hbc : bc (s q1) = true := by rw [i4]; exact cS so hso
    obtain ⟨ok, σ2, dn2, pr, lr, r1, r2, r3, r4, r5⟩ := hRR p q1 l l' i1 hp hl' i3 (Or.inr hbc) (opn σ) dn (hv.opn h9)
    have e2 : σ2.1 = σ.1 + 1 := r2
    have vc : VS (clo σ.1 σ2) := r1.clo (by omega)
    have hq9 : q - 1 = q1 := by omega
    rw [hq9]
    have eft : ef n s true 0 p = q1 := by
      rw [hps _ _ _ _ i1 hp, ef_at i3 (Or.inl hbc)]
    have C := fun μ w hμ hC => c_it (μ := μ) (w := w) (u := u) (so := so) (q9 := q1) hv h9 r1 e2 hso hp b1.1 (by omega) (by omega) hμ hC r4
    cases ok with
    | true =>
      have R := fun m hM => r_it (m := m) (lr := 0) (lb := lb) (l' := l') (ok := true) hv h9 r1 e2 hso hM (by omega) hl' hlb (by decide) o1 o5 i2 (fun m h => r5 m h)
      by_cases so1 : so = 1
      · refine ⟨true, clo σ.1 σ2, dn, vc, rfl, fun μ w hμ hC => ?_, fun m hM => ?_⟩
        · obtain ⟨w', c1, c2, c3⟩ := (C μ w hμ hC).2.1 (Or.inl ⟨rfl, so1⟩)
          exact ⟨w', jloop_x c1, c2, c3⟩
        · obtain ⟨m', c1, c2, c3⟩ := (R m hM).2.1 ⟨rfl, so1⟩
          exact ⟨m', by rw [jcl_e (jloop_x c1)]; rfl, c2, c3⟩
      · refine ⟨true, com σ2, dn2, r1.com (by omega), ?_, fun μ w hμ hC => ?_, fun m hM => ?_⟩
        · show σ2.1 - 1 = σ.1; omega
        · obtain ⟨w', c1, c2, c3⟩ := (C μ w hμ hC).1 rfl so1
          exact ⟨w', jloop_x c1, c2, c3⟩
        · obtain ⟨m', c1, c2, c3⟩ := (R m hM).1 rfl so1
          obtain ⟨m45, d1, d2, d3⟩ := r_keep r1 (by omega) c2
          exact ⟨m45, by rw [jcl_e (jloop_x c1)]; exact d3, d1, c3.tr d2⟩
    | false =>
      have R := fun m hM => r_it (m := m) (lr := lr) (lb := lb) (l' := l') (ok := false) hv h9 r1 e2 hso hM (by omega) hl' hlb (r3 rfl).1 o1 o5 i2 (fun m h => r5 m h)
      by_cases so0 : so = 0
      · refine ⟨true, clo σ.1 σ2, dn, vc, rfl, fun μ w hμ hC => ?_, fun m hM => ?_⟩
        · obtain ⟨w', c1, c2, c3⟩ := (C μ w hμ hC).2.1 (Or.inr ⟨rfl, so0⟩)
          exact ⟨w', jloop_x c1, c2, c3⟩
        · obtain ⟨m', c1, c2, c3⟩ := (R m hM).2.2.1 rfl (by omega)
          refine ⟨m', ?_, c2, c3⟩
          rw [jcl_e (jloop_x c1)]
          unfold tlB
          dsimp only
          have q26 : m'.1 (201 + 10) lb = nI (20 + so) := (pr_op c2.2.2 lb).1.trans o1
          rw [if_pos rfl, jrd_n hlb (by decide), q26, so0, if_pos (by decide)]
          rfl
      · refine ⟨false, clo σ.1 σ2, dn, vc, rfl, fun μ w hμ hC => ?_, fun m hM => ?_⟩
        · obtain ⟨w', c1, c2, c3⟩ := (C μ w hμ hC).2.2 rfl so0
          refine ⟨w', ?_, c2, c3⟩
          rw [jloop_s c1, eft]
          refine jloop_x ?_
          dsimp only
          unfold f_X4_doBlock_L55
          by_cases k80 : 80 ≤ u + 1
          · rw [jlit 80, if_pos (nI_le k80 (by omega))]; rfl
          · rw [jlit 80, if_neg (nI_ge (by omega) (by decide)), if_pos (nI_lt (by omega) (by omega))]; rfl
        · by_cases so2 : so = 2
          · obtain ⟨m', c1, c2, c3⟩ := (R m hM).2.2.2 rfl so2
            refine ⟨m', ?_, c2, c3⟩
            have x2 : f_X12_doesBlock_L15 201 (nI lb) rB (nI l') m' = some (.inr (.inr (.inr m'))) := by
              unfold f_X12_doesBlock_L15
              show jrd (m'.1 215) _ _ _ = _
              rw [jrd_n hlb (by decide), (pr_op c2.2.2 lb).2.2.2.2, o5, if_pos (nI_le (Nat.le_refl _) (by omega))]
            rw [jloop_s c1, jcl_e (jloop_x x2)]
            rfl
          · obtain ⟨m', c1, c2, c3⟩ := (R m hM).2.2.1 rfl so2
            refine ⟨m', ?_, c2, c3⟩
            rw [jcl_e (jloop_x c1)]
            unfold tlB
            dsimp only
            have q26 : m'.1 (201 + 10) lb = nI (20 + so) := (pr_op c2.2.2 lb).1.trans o1
            rw [if_pos rfl, jrd_n hlb (by decide), q26, show so = 1 by omega, if_neg (by decide)]
            rfl
  | succ k ih =>
    intro p l u fu σ dn hI hp hu hfu hv h9
    obtain ⟨fu, rfl⟩ : ∃ f, fu = f + 1 := ⟨fu - 1, by omega⟩
    obtain ⟨so2, q1, l1, i1, i2, i3, i4, i5⟩ := hI
    have b1 := hb _ _ _ _ i1 hp
    have b2 := bd_in hb so k _ _ _ _ i5 (by omega)
    obtain ⟨ok, σ2, dn2, pr, lr, r1, r2, r3, r4, r5⟩ := hRR p q1 l l1 i1 hp (by omega) i3 (Or.inl i4) (opn σ) dn (hv.opn h9)
    have e2 : σ2.1 = σ.1 + 1 := r2
    have vc : VS (clo σ.1 σ2) := r1.clo (by omega)
    have eft : ef n s true 0 p = q1 := by
      rw [hps _ _ _ _ i1 hp, ef_at i3 (Or.inr i4)]
    have C := fun μ w hμ hC => c_it (μ := μ) (w := w) (u := u) (so := so) (q9 := q - 1) hv h9 r1 e2 hso hp (by omega) (by omega) (by omega) hμ hC r4
    cases ok with
    | true =>
      have R := fun m hM => r_it (m := m) (lr := 0) (lb := lb) (l' := l') (ok := true) hv h9 r1 e2 hso hM (by omega) hl' hlb (by decide) o1 o5 i2 (fun m h => r5 m h)
      refine ⟨true, com σ2, dn2, r1.com (by omega), ?_, fun μ w hμ hC => ?_, fun m hM => ?_⟩
      · show σ2.1 - 1 = σ.1; omega
      · obtain ⟨w', c1, c2, c3⟩ := (C μ w hμ hC).1 rfl (by omega)
        exact ⟨w', jloop_x c1, c2, c3⟩
      · obtain ⟨m', c1, c2, c3⟩ := (R m hM).1 rfl (by omega)
        obtain ⟨m45, d1, d2, d3⟩ := r_keep r1 (by omega) c2
        exact ⟨m45, by rw [jcl_e (jloop_x c1)]; exact d3, d1, c3.tr d2⟩
    | false =>
      have R := fun m hM => r_it (m := m) (lr := lr) (lb := lb) (l' := l') (ok := false) hv h9 r1 e2 hso hM (by omega) hl' hlb (r3 rfl).1 o1 o5 i2 (fun m h => r5 m h)
      obtain ⟨ok3, σ3, dn3, t1, t2, t3, t4⟩ := ih (q1 + 1) l1 (u + 1) fu (clo σ.1 σ2) dn i5 (by omega) (by omega) (by omega) vc h9
      refine ⟨ok3, σ3, dn3, t1, t2, fun μ w hμ hC => ?_, fun m hM => ?_⟩
      · obtain ⟨w', c1, c2, c3⟩ := (C μ w hμ hC).2.2 rfl (by omega)
        obtain ⟨w2, d1, d2, d3⟩ := t3 μ w' hμ c2
        refine ⟨w2, ?_, d2, c3.tr d3⟩
        rw [jloop_s c1, eft]
        exact d1
      · obtain ⟨m', c1, c2, c3⟩ := (R m hM).2.2.2 rfl so2
        obtain ⟨m2, d1, d2, d3⟩ := t4 m' c2
        refine ⟨m2, ?_, d2, c3.tr d3⟩
        rw [jloop_s c1]
        exact d1
