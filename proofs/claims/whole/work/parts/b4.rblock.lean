/-! run: the reference reads a block -/
def RbR (n : Nat) (s : Nat → Nat) (P : PG) (RR : R4) (so : Nat) : R4 := fun p q l l' => so = 2 ∧ ∃ q1, RR p q1 (l + 1) l' ∧ (P l).2.2.2.2 = nI l' ∧ q1 < n ∧ s q1 = 124 ∧ q = q1 + 1
theorem in_of {n : Nat} {s : Nat → Nat} {P : PG} {RR : R4} {so : Nat} : ∀ {k p p1 q l l1 l'}, SqR (RbR n s P RR so) k p p1 l l1 → InR n s P RR so 0 p1 q l1 l' → InR n s P RR so k p q l l'
  | 0, p, p1, q, l, l1, l', h, h2 => by
    obtain ⟨h3, h4⟩ := h
    subst h3
    subst h4
    exact h2
  | k + 1, p, p1, q, l, l1, l', h, h2 => by
    obtain ⟨p2, l2, ⟨g0, q1, g1, g2, g3, g4, g5⟩, h4⟩ := h
    refine ⟨g0, q1, l2, g1, g2, g3, g4, ?_⟩
    rw [← g5]
    exact in_of h4 h2
theorem bd_rb {n : Nat} {s : Nat → Nat} {P : PG} {RR : R4} (h : Bd n RR 0) (so : Nat) : Bd n (RbR n s P RR so) 1 := by
  intro p q l l' hR hp
  obtain ⟨g0, q1, g1, g2, g3, g4, g5⟩ := hR
  have := h _ _ _ _ g1 hp
  omega
theorem fm_rb {n : Nat} {s : Nat → Nat} {P P' : PG} {RR RR' : R4} (hb : Bd n RR 0) (h : Fm n P P' RR RR') (so : Nat) : Fm n P P' (RbR n s P RR so) (RbR n s P' RR' so) := by
  intro p q l l' hR hp hP
  obtain ⟨g0, q1, g1, g2, g3, g4, g5⟩ := hR
  have b := hb _ _ _ _ g1 hp
  exact ⟨g0, q1, h _ _ _ _ g1 hp (fun i a c => hP i (by omega) c), by rw [hP l (Nat.le_refl _) (by omega)]; exact g2, g3, g4, g5⟩
theorem pr_st {m : jM} {l : Nat} {v : Int32} : (∀ i, i ≠ l → PR (jsi m 215 l v) i = PR m i) ∧ PR (jsi m 215 l v) l = ((PR m l).1, (PR m l).2.1, (PR m l).2.2.1, (PR m l).2.2.2.1, v) := by
  constructor
  · intro i hi
    unfold PR
    rw [jsi_ne (by decide), jsi_ne (by decide), jsi_ne (by decide), jsi_ne (by decide), jsi_pl hi]
  · unfold PR
    rw [jsi_ne (by decide), jsi_ne (by decide), jsi_ne (by decide), jsi_ne (by decide), jsi_at]
theorem RdF.stp {ln l : Nat} {m : jM} {v : Int32} (h : ln ≤ l) : RdF ln m (jsi m 215 l v) := ⟨jFr.si _ _ _ (by omega), fun k _ _ _ => by rw [jsi_ne (by decide)], fun i hi => pr_st.1 i (by omega)⟩
theorem RP.stp {n p l : Nat} {s : Nat → Nat} {m : jM} {v : Int32} (h : RP n s p m) : RP n s p (jsi m 215 l v) := ⟨h.1, h.2.1, by rw [jsi_ne (by decide)]; exact h.2.2.1, by rw [jsi_ne (by decide)]; exact h.2.2.2.1, fun i hi => by rw [jsi_ne (by decide)]; exact h.2.2.2.2 i hi⟩
theorem RP.nst {n p : Nat} {s : Nat → Nat} {m : jM} {v : Int32} (h : RP n s p m) : RP n s p (jsi m 201 7 v) := ⟨h.1, h.2.1, by rw [jsi_pl (by decide)]; exact h.2.2.1, by rw [jsi_pl (by decide)]; exact h.2.2.2.1, fun i hi => by rw [jsi_ne (by decide)]; exact h.2.2.2.2 i hi⟩
theorem pr_201 {m : jM} {k : Nat} {v : Int32} : PR (jsi m 201 k v) = PR m := by
  funext i
  unfold PR
  rw [jsi_ne (by decide), jsi_ne (by decide), jsi_ne (by decide), jsi_ne (by decide), jsi_ne (by decide)]
/-- a reader of runs -/
def RdOK (n : Nat) (s : Nat → Nat) (d : Nat) (f : jM → Option (Int32 × jM)) : Prop := ∀ p ln st m, RP n s p m → m.1 201 24 = nI ln → ln ≤ 2 * p → m.1 201 7 = nI st.length → st.length + d = 5 → (∀ o ∈ st, bo o = true) → ∃ (ok : Bool) (w : jM) (q ln' : Nat), f m = some ((if ok then (1 : Int32) else 0), w) ∧ RP n s q w ∧ p ≤ q ∧ RdF ln m w ∧
    (ok = true → w.1 201 24 = nI ln' ∧ ln ≤ ln' ∧ ln' ≤ 2 * q ∧ w.1 201 7 = nI st.length ∧ (q = n ∨ (0 < st.length ∧ (s q = 124 ∨ bc (s q) = true))) ∧ RnR n s (PR w) d p q ln ln' ∧ sc n s p st = sc n s q st) ∧ (ok = false → sc n s p st = some q)
theorem bl_no : ∀ so, so < 3 → ∀ x ∈ [41, 93, 125, 124], x ≠ clS so → (so = 2 → x ≠ 124) → bl x (opS so) = false := by decide
theorem bl_yes : ∀ so, so < 3 → bl (clS so) (opS so) = true := by decide
theorem st_25 : jsLn 25 = nI 3 ∧ jsLen.getD 25 0 = 3 ∧ ∀ i, i < 3 → jsCh 25 i = nI (opS i) ∧ opS i < 256 := by decide +kernel
/-- the runs of a block -/
theorem rd_in {n d so p0 l0 lb : Nat} {s : Nat → Nat} {st : List Nat} {rA : Nat → jM → Option (Int32 × jM)} {m : jM} (hd : RdOK n s d (rA 201)) (hso : so < 3) (hst : st.length + 1 + d = 5) (ho : ∀ o ∈ st, bo o = true) (hlb : lb < l0)
    (h : RP n s p0 m) (hl : m.1 201 24 = nI l0) (hl0 : l0 + 1 ≤ 2 * p0) (h7 : m.1 201 7 = nI (st.length + 1)) :
    ∃ e, jloop (fun (z : Int32 × jM) => f_X12_readsBlock_L54 201 rA (nI so) z.1 z.2) jfu (((1 : Int32), m)) = some e ∧
    ((∃ w q, e = .inl w ∧ RP n s q w ∧ p0 ≤ q ∧ RdF l0 m w ∧ sc n s p0 (opS so :: st) = some q) ∨
     (∃ w k p1 l1 q1 l', e = .inr w ∧ RP n s q1 w ∧ RdF l0 m w ∧ w.1 201 24 = nI l' ∧ l' ≤ 2 * q1 ∧ l0 < l' ∧ p0 ≤ q1 ∧ w.1 201 7 = nI (st.length + 1) ∧ (q1 = n ∨ (s q1 = 124 ∨ bc (s q1) = true)) ∧ (so = 2 → q1 < n → ¬ s q1 = 124) ∧ SqR (RbR n s (PR w) (RnR n s (PR w) d) so) k p0 p1 l0 l1 ∧ RnR n s (PR w) d p1 q1 (l1 + 1) l' ∧ (PR w l1).2.2.2.2 = nI l' ∧ l1 < l' ∧ p1 ≤ n ∧ sc n s p0 (opS so :: st) = sc n s q1 (opS so :: st))) := by
  have n80 := h.1
  have bo' : ∀ o ∈ opS so :: st, bo o = true := fun o hO => by
    rcases List.mem_cons.mp hO with z | z
    · rw [z]; exact (opS_b so hso).1
    · exact ho o z
  refine jlp (step := fun (z : Int32 × jM) => f_X12_readsBlock_L54 201 rA (nI so) z.1 z.2)
    (fun z => (∃ w k p1 l1, z = (1, w) ∧ RP n s p1 w ∧ RdF l0 m w ∧ w.1 201 24 = nI l1 ∧ l1 + 1 ≤ 2 * p1 ∧ p0 ≤ p1 ∧ w.1 201 7 = nI (st.length + 1) ∧ SqR (RbR n s (PR w) (RnR n s (PR w) d) so) k p0 p1 l0 l1 ∧ sc n s p0 (opS so :: st) = sc n s p1 (opS so :: st)) ∨
      (∃ w k p1 l1 q1 l', z = (0, w) ∧ RP n s q1 w ∧ RdF l0 m w ∧ w.1 201 24 = nI l' ∧ l' ≤ 2 * q1 ∧ l0 < l' ∧ p0 ≤ q1 ∧ w.1 201 7 = nI (st.length + 1) ∧ (q1 = n ∨ (s q1 = 124 ∨ bc (s q1) = true)) ∧ (so = 2 → q1 < n → ¬ s q1 = 124) ∧ SqR (RbR n s (PR w) (RnR n s (PR w) d) so) k p0 p1 l0 l1 ∧ RnR n s (PR w) d p1 q1 (l1 + 1) l' ∧ (PR w l1).2.2.2.2 = nI l' ∧ l1 < l' ∧ p1 ≤ n ∧ sc n s p0 (opS so :: st) = sc n s q1 (opS so :: st)))
    (fun z => if z.1 = 0 then 0 else 200 - (z.2.1 201 5).toNatClampNeg)
    (fun e => (∃ w q, e = .inl w ∧ RP n s q w ∧ p0 ≤ q ∧ RdF l0 m w ∧ sc n s p0 (opS so :: st) = some q) ∨
     (∃ w k p1 l1 q1 l', e = .inr w ∧ RP n s q1 w ∧ RdF l0 m w ∧ w.1 201 24 = nI l' ∧ l' ≤ 2 * q1 ∧ l0 < l' ∧ p0 ≤ q1 ∧ w.1 201 7 = nI (st.length + 1) ∧ (q1 = n ∨ (s q1 = 124 ∨ bc (s q1) = true)) ∧ (so = 2 → q1 < n → ¬ s q1 = 124) ∧ SqR (RbR n s (PR w) (RnR n s (PR w) d) so) k p0 p1 l0 l1 ∧ RnR n s (PR w) d p1 q1 (l1 + 1) l' ∧ (PR w l1).2.2.2.2 = nI l' ∧ l1 < l' ∧ p1 ≤ n ∧ sc n s p0 (opS so :: st) = sc n s q1 (opS so :: st)))
    (fun z hz => by
      rcases hz with ⟨w, k, p1, l1, rfl, h1, h2, h3, h4, h5, h6, h8, h9⟩ | ⟨w, k, p1, l1, q1, l', rfl, g⟩
      · have p1n := h1.2.1
        have e5 := h1.2.2.2.1
        have bs := bd_sq (bd_rb (s := s) (P := PR w) (bd_rn n s (PR w) d) so) k _ _ _ _ h8 (by have := h.2.1; omega)
        obtain ⟨w1, c1, c2, c3', c4, c5, c6, c7, c8, c9⟩ := r_comes h1 h3 (show l1 < 168 by omega) (30 : Int32) 0 0 (nI p1)
        obtain ⟨ok, w2, q1, l', r1, r2, r3, r4, r5, r6⟩ := hd p1 (l1 + 1) (opS so :: st) w1 c2 c3' h4 (by rw [c9, List.length_cons]; exact h6) (by rw [List.length_cons]; exact hst) bo'
        have f2 : RdF l0 m w2 := (h2.tr (c8.le (by omega))).tr (r4.le (by omega))
        have pre : ∀ o, (if (if ok then (1 : Int32) else 0) = (0 : Int32) then (some (.inr (.inl w2)) : Option ((Int32 × jM) ⊕ ((jM) ⊕ (jM)))) else jbd (jsi w2 215 l1 (w2.1 201 24)) (fun m22 => (if nI so = (2 : Int32) then jcl2 (f_X12_takes 201 (124 : Int32) m22) (fun v25 m26 => (if v25 = (0 : Int32) then some (.inl (((0 : Int32), m26))) else some (.inl (((1 : Int32), m26))))) else some (.inl (((0 : Int32), m22)))))) = o → f_X12_readsBlock_L54 201 rA (nI so) 1 w = o := fun o ho => by
          unfold f_X12_readsBlock_L54
          rw [if_neg (by decide), e5, jcl2_e c1, jcl2_e r1, jin_n (by omega) (by decide), nI_clamp (by omega)]
          exact ho
        cases ok with
        | false =>
          refine ⟨.inr (.inl w2), pre _ rfl, Or.inl ⟨w2, q1, rfl, r2, by omega, f2, ?_⟩⟩
          rw [h9]
          exact r6 rfl
        | true =>
          obtain ⟨t1, t2, t3, t4, t5, t6, t7⟩ := r5 rfl
          have br := bd_rn n s (PR w2) d _ _ _ _ t6 p1n
          obtain ⟨w3, hw3⟩ : ∃ w3, w3 = jsi w2 215 l1 (nI l') := ⟨_, rfl⟩
          have x1 : RP n s q1 w3 := by rw [hw3]; exact r2.stp
          have x2 : RdF l0 m w3 := by rw [hw3]; exact f2.tr (RdF.stp (by omega))
          have x3 : w3.1 201 = w2.1 201 := by rw [hw3]; exact jsi_ne (by decide)
          have x4 : (PR w3 l1).2.2.2.2 = nI l' := by rw [hw3, pr_st.2]
          have pe : ∀ i, i < l1 → PR w3 i = PR w i := fun i hi => by
            rw [hw3, pr_st.1 i (by omega), r4.2.2 i (by omega), c8.2.2 i hi]
          have x5 : SqR (RbR n s (PR w3) (RnR n s (PR w3) d) so) k p0 p1 l0 l1 := fm_sq (bd_rb (bd_rn n s (PR w) d) so) (fm_rb (bd_rn n s (PR w) d) (fm_rn n s (PR w) (PR w3) d) so) k _ _ _ _ h8 (by have := h.2.1; omega) (fun i _ hi => pe i hi)
          have x6 : RnR n s (PR w3) d p1 q1 (l1 + 1) l' := fm_rn n s (PR w2) (PR w3) d _ _ _ _ t6 p1n (fun i a _ => by rw [hw3, pr_st.1 i (by omega)])
          have x7 : sc n s p0 (opS so :: st) = sc n s q1 (opS so :: st) := h9.trans t7
          have ed : q1 = n ∨ (s q1 = 124 ∨ bc (s q1) = true) := t5.elim Or.inl (fun z => Or.inr z.2)
          have e7 : w3.1 201 7 = nI (st.length + 1) := by rw [x3]; exact t4
          have e24 : w3.1 201 24 = nI l' := by rw [x3]; exact t1
          rw [if_neg (show ¬ (if true = true then (1 : Int32) else 0) = 0 by decide), t1, ← hw3, jbd_e] at pre
          have dec0 : ∀ w' : jM, (if ((0 : Int32), w').1 = 0 then 0 else 200 - (w'.1 201 5).toNatClampNeg) < (if ((1 : Int32), w).1 = 0 then 0 else 200 - (w.1 201 5).toNatClampNeg) := fun w' => by
            rw [if_pos rfl, if_neg (show ¬ (1 : Int32) = 0 by decide)]
            show 0 < 200 - (w.1 201 5).toNatClampNeg
            rw [e5, nI_clamp (by omega)]; omega
          by_cases so2 : so = 2
          · rw [if_pos (show nI so = (2 : Int32) by rw [so2]; rfl)] at pre
            obtain ⟨v, y1, y2⟩ := r_takes (c := 124) x1 (by decide)
            by_cases c124 : q1 < n ∧ s q1 = 124
            · rw [if_pos c124] at y1 y2
              rw [jcl2_e (show f_X12_takes 201 (124 : Int32) w3 = _ from y1), if_neg (by decide)] at pre
              have hb2 : bl (s q1) (opS so) = true := by rw [c124.2, so2]; rfl
              refine ⟨.inl (1, jsi w3 201 5 v), pre _ rfl, Or.inl ⟨_, k + 1, q1 + 1, l', rfl, x1.at c124.1 y2, x2.tr (RdF.at (Or.inl rfl)), by rw [a24.1]; exact e24, by omega, by omega, by rw [a24.2]; exact e7, ?_, ?_⟩, ?_⟩
              · rw [pr_201]
                exact sq_app x5 ⟨so2, q1, x6, x4, c124.1, c124.2, rfl⟩
              · rw [x7, sc_in c124.1 (Or.inl c124.2) hb2, if_pos c124.2]
              · show (if (1 : Int32) = 0 then 0 else 200 - ((jsi w3 201 5 v).1 201 5).toNatClampNeg) < (if (1 : Int32) = 0 then 0 else 200 - (w.1 201 5).toNatClampNeg)
                rw [if_neg (by decide), if_neg (by decide), jsi_at, y2, e5, nI_clamp (by omega), nI_clamp (by omega)]
                omega
            · rw [if_neg c124] at y1 y2
              rw [jcl2_e (show f_X12_takes 201 (124 : Int32) w3 = _ from y1), if_pos rfl] at pre
              refine ⟨.inl (0, jsi w3 201 5 v), pre _ rfl, Or.inr ⟨_, k, p1, l1, q1, l', rfl, x1.at x1.2.1 y2, x2.tr (RdF.at (Or.inl rfl)), by rw [a24.1]; exact e24, t3, by omega, by omega, by rw [a24.2]; exact e7, ed, fun _ z1 z2 => c124 ⟨z1, z2⟩, by rw [pr_201]; exact x5, by rw [pr_201]; exact x6, by rw [pr_201]; exact x4, by omega, p1n, x7⟩, dec0 _⟩
          · rw [if_neg (show ¬ nI so = (2 : Int32) from fun z => so2 ((nI_eq (b := 2) (by omega) (by decide)).mp z))] at pre
            exact ⟨.inl (0, w3), pre _ rfl, Or.inr ⟨w3, k, p1, l1, q1, l', rfl, x1, x2, e24, t3, by omega, by omega, e7, ed, fun z => absurd z so2, x5, x6, x4, by omega, p1n, x7⟩, dec0 _⟩
      · refine ⟨.inr (.inr w), ?_, Or.inr ⟨w, k, p1, l1, q1, l', rfl, g⟩⟩
        dsimp only
        unfold f_X12_readsBlock_L54
        rw [if_pos rfl])
    jfu ((1 : Int32), m) (Or.inl ⟨m, 0, p0, l0, rfl, h, RdF.rf, hl, hl0, by omega, h7, ⟨rfl, rfl⟩, rfl⟩) (by show (if (1 : Int32) = 0 then 0 else 200 - _) < 2000000; rw [if_neg (by decide)]; omega)
