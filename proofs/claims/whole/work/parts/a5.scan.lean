/-! run: the class looks for what can't stand -/
def bo (x : Nat) : Bool := x == 40 || (x == 91 || x == 123)
def bc (x : Nat) : Bool := x == 41 || (x == 93 || x == 125)
def bl (x o : Nat) : Bool := if o = 40 then x == 41 else if o = 91 then x == 93 else (x == 125 || x == 124)
theorem op_b : ∀ b, b < 256 → f_X4_isOpener (nI b) = (if bo b then 1 else 0) ∧ f_X4_isCloser (nI b) = (if bc b then 1 else 0) := by decide +kernel
theorem be_b : ∀ b, b < 256 → ∀ o ∈ [40, 91, 123], f_X4_belongs (nI b) (nI o) = if bl b o then 1 else 0 := by decide +kernel
theorem bo_i {x : Nat} (h : bo x = true) : x ∈ [40, 91, 123] ∧ x < 256 := by
  unfold bo at h
  simp only [Bool.or_eq_true, beq_iff_eq] at h
  rcases h with h | h | h <;> (subst h; decide)
theorem bc_i {x : Nat} (h : bc x = true) : x = 41 ∨ x = 93 ∨ x = 125 := by
  unfold bc at h
  simp only [Bool.or_eq_true, beq_iff_eq] at h
  exact h
theorem clb_12 : ∀ x, (bo x = true ∨ bc x = true ∨ x = 124) → clb x = 12 := by
  intro x h
  have : x = 40 ∨ x = 91 ∨ x = 123 ∨ x = 41 ∨ x = 93 ∨ x = 125 ∨ x = 124 := by
    rcases h with h | h | h
    · have := (bo_i h).1
      simp only [List.mem_cons, List.mem_nil_iff, or_false] at this
      omega
    · have := bc_i h; omega
    · omega
  rcases this with rfl | rfl | rfl | rfl | rfl | rfl | rfl <;> rfl
def scf (n : Nat) (s : Nat → Nat) : Nat → Nat → List Nat → Option Nat
  | 0, p, _ => some p
  | f + 1, p, st => if p < n then (if bo (s p) then (if st.length < 4 then scf n s f (p + 1) (s p :: st) else some p) else if s p = 124 ∨ bc (s p) = true then (match st with
      | [] => some p
      | o :: t => if bl (s p) o then scf n s f (p + 1) (if s p = 124 then o :: t else t) else some p) else (match (ra n s p).2 with
      | none => some (ra n s p).1
      | some _ => scf n s f (ra n s p).1 st)) else (if st = [] then none else some p)
theorem fml_1 : ∀ k, k < 15 → 1 ≤ fml k := by decide
theorem ra_adv {n p k : Nat} {s : Nat → Nat} (h : (ra n s p).2 = some k) : p < (ra n s p).1 := by
  obtain ⟨a1, a2, -⟩ := ra_some h
  have := fml_1 k a1
  omega
theorem scf_f {n : Nat} {s : Nat → Nat} : ∀ f g p st, p ≤ n → n < f + p → n < g + p → scf n s f p st = scf n s g p st := by
  intro f
  induction f with
  | zero => intro g p st h1 h2 h3; omega
  | succ f ih =>
    intro g p st h1 h2 h3
    obtain ⟨g, rfl⟩ : ∃ q, g = q + 1 := ⟨g - 1, by omega⟩
    unfold scf
    by_cases c : p < n
    · rw [if_pos c, if_pos c]
      cases b : bo (s p) with
      | true =>
        rw [if_pos rfl, if_pos rfl, ih g (p + 1) _ (by omega) (by omega) (by omega)]
      | false =>
        rw [if_neg Bool.false_ne_true, if_neg Bool.false_ne_true]
        by_cases d : s p = 124 ∨ bc (s p) = true
        · rw [if_pos d, if_pos d]
          cases st with
          | nil => rfl
          | cons o t =>
            dsimp only
            rw [ih g (p + 1) _ (by omega) (by omega) (by omega)]
        · rw [if_neg d, if_neg d]
          cases e : (ra n s p).2 with
          | none => rfl
          | some k =>
            have := ra_adv e
            have := (ra_b (s := s) h1).2.1
            exact ih g _ _ (by omega) (by omega) (by omega)
    · rw [if_neg c, if_neg c]
def sc (n : Nat) (s : Nat → Nat) (p : Nat) (st : List Nat) : Option Nat := scf n s (n + 1 - p) p st
theorem sc_u {n p : Nat} {s : Nat → Nat} {st : List Nat} (hp : p ≤ n) : sc n s p st = if p < n then (if bo (s p) then (if st.length < 4 then sc n s (p + 1) (s p :: st) else some p) else if s p = 124 ∨ bc (s p) = true then (match st with
      | [] => some p
      | o :: t => if bl (s p) o then sc n s (p + 1) (if s p = 124 then o :: t else t) else some p) else (match (ra n s p).2 with
      | none => some (ra n s p).1
      | some _ => sc n s (ra n s p).1 st)) else (if st = [] then none else some p) := by
  have e : sc n s p st = scf n s ((n - p) + 1) p st := by unfold sc; rw [show n + 1 - p = (n - p) + 1 by omega]
  rw [e]
  unfold scf
  by_cases c : p < n
  · rw [if_pos c, if_pos c]
    cases b : bo (s p) with
    | true =>
      rw [if_pos rfl, if_pos rfl]
      unfold sc
      rw [show n + 1 - (p + 1) = n - p by omega]
    | false =>
      rw [if_neg Bool.false_ne_true, if_neg Bool.false_ne_true]
      by_cases d : s p = 124 ∨ bc (s p) = true
      · rw [if_pos d, if_pos d]
        cases st with
        | nil => rfl
        | cons o t =>
          dsimp only
          unfold sc
          rw [show n + 1 - (p + 1) = n - p by omega]
      · rw [if_neg d, if_neg d]
        cases e : (ra n s p).2 with
        | none => rfl
        | some k =>
          have := ra_adv e
          have := (ra_b (s := s) hp).2.1
          exact scf_f _ _ _ _ (by omega) (by omega) (by omega)
  · rw [if_neg c, if_neg c]
theorem sc_open {n p : Nat} {s : Nat → Nat} {st : List Nat} (h : p < n) (hb : bo (s p) = true) (hl : st.length < 4) : sc n s p st = sc n s (p + 1) (s p :: st) := by
  rw [sc_u (by omega), if_pos h, if_pos hb, if_pos hl]
theorem sc_full {n p : Nat} {s : Nat → Nat} {st : List Nat} (h : p < n) (hb : bo (s p) = true) (hl : ¬ st.length < 4) : sc n s p st = some p := by
  rw [sc_u (by omega), if_pos h, if_pos hb, if_neg hl]
theorem bo_nc {x : Nat} (h : x = 124 ∨ bc x = true) : bo x = false := by
  rcases h with h | h
  · subst h; rfl
  · rcases bc_i h with h | h | h <;> (subst h; rfl)
theorem sc_nil {n p : Nat} {s : Nat → Nat} (h : p < n) (hb : s p = 124 ∨ bc (s p) = true) : sc n s p [] = some p := by
  rw [sc_u (by omega), if_pos h, bo_nc hb, if_neg Bool.false_ne_true, if_pos hb]
theorem sc_in {n p o : Nat} {s : Nat → Nat} {t : List Nat} (h : p < n) (hb : s p = 124 ∨ bc (s p) = true) (hl : bl (s p) o = true) : sc n s p (o :: t) = sc n s (p + 1) (if s p = 124 then o :: t else t) := by
  rw [sc_u (by omega), if_pos h, bo_nc hb, if_neg Bool.false_ne_true, if_pos hb]
  dsimp only
  rw [if_pos hl]
theorem sc_out {n p o : Nat} {s : Nat → Nat} {t : List Nat} (h : p < n) (hb : s p = 124 ∨ bc (s p) = true) (hl : bl (s p) o = false) : sc n s p (o :: t) = some p := by
  rw [sc_u (by omega), if_pos h, bo_nc hb, if_neg Bool.false_ne_true, if_pos hb]
  dsimp only
  rw [hl, if_neg Bool.false_ne_true]
theorem sc_act {n p k : Nat} {s : Nat → Nat} {st : List Nat} (h : p < n) (hb : bo (s p) = false) (hc : ¬ (s p = 124 ∨ bc (s p) = true)) (ha : (ra n s p).2 = some k) : sc n s p st = sc n s (ra n s p).1 st := by
  rw [sc_u (by omega), if_pos h, hb, if_neg Bool.false_ne_true, if_neg hc, ha]
theorem sc_bad {n p : Nat} {s : Nat → Nat} {st : List Nat} (h : p < n) (hb : bo (s p) = false) (hc : ¬ (s p = 124 ∨ bc (s p) = true)) (ha : (ra n s p).2 = none) : sc n s p st = some (ra n s p).1 := by
  rw [sc_u (by omega), if_pos h, hb, if_neg Bool.false_ne_true, if_neg hc, ha]
theorem sc_end {n : Nat} {s : Nat → Nat} {st : List Nat} : sc n s n st = if st = [] then none else some n := by
  rw [sc_u (Nat.le_refl _), if_neg (Nat.lt_irrefl _)]
/-- the class's stack -/
def OA (st : List Nat) (m : jM) : Prop := ∀ i, i < st.length → m.1 180 i = nI (st.getD (st.length - 1 - i) 0)
theorem OA.push {st : List Nat} {m : jM} {o : Nat} (h : OA st m) : OA (o :: st) (jsi m 180 st.length (nI o)) := by
  intro i hi
  rw [List.length_cons] at hi ⊢
  by_cases c : i = st.length
  · rw [c, jsi_at, show st.length + 1 - 1 - st.length = 0 by omega]; rfl
  · rw [jsi_pl c, h i (by omega), show st.length + 1 - 1 - i = (st.length - 1 - i) + 1 by omega]; rfl
theorem OA.pop {st : List Nat} {m : jM} {o : Nat} (h : OA (o :: st) m) : OA st m := by
  intro i hi
  have := h i (by rw [List.length_cons]; omega)
  rw [List.length_cons, show st.length + 1 - 1 - i = (st.length - 1 - i) + 1 by omega] at this
  exact this
theorem OA.top {st : List Nat} {m : jM} {o : Nat} (h : OA (o :: st) m) : m.1 180 st.length = nI o := by
  have := h st.length (by rw [List.length_cons]; omega)
  rw [List.length_cons, show st.length + 1 - 1 - st.length = 0 by omega] at this
  exact this
theorem c_rfault {n : Nat} {s : Nat → Nat} {m : jM} (h : CT n s m) : ∃ w, f_X4_fault 179 m = some (oI (sc n s 0 []), w) ∧ jFr (fun c => c = 180) m w := by
  have n80 := h.1
  obtain ⟨R, hR⟩ : ∃ R, R = sc n s 0 [] := ⟨_, rfl⟩
  obtain ⟨e, he, w, hr⟩ := jlp (step := fun (z : Int32 × Int32 × Int32 × jM) => f_X4_fault_L6 179 z.1 z.2.1 z.2.2.1 z.2.2.2)
    (fun z => ∃ k p st w, z = (nI st.length, nI p, nI k, w) ∧ k ≤ p ∧ p ≤ n ∧ st.length ≤ 4 ∧ (∀ o ∈ st, bo o = true) ∧ OA st w ∧ jFr (fun c => c = 180) m w ∧ R = sc n s p st) (fun z => 200 - z.2.1.toNatClampNeg)
    (fun e => ∃ w, jFr (fun c => c = 180) m w ∧ ((∃ p, R = some p ∧ (e = .inl (nI p, w) ∨ e = .inr (.inl (nI p, w)))) ∨ (∃ p, p ≤ n ∧ (ra n s p).2 = none ∧ R = some (ra n s p).1 ∧ e = .inr (.inr (.inl (nI p, w)))) ∨ (∃ st : List Nat, st.length ≤ 4 ∧ R = (if st = [] then none else some n) ∧ e = .inr (.inr (.inr (nI st.length, nI n, w))))))
    (fun z hz => by
      obtain ⟨k, p, st, w, rfl, hk, hp, hl, ho, hA, hf, hs⟩ := hz
      have hw : CT n s w := ⟨h.1, by rw [(hf 1 (by decide)).1]; exact h.2.1, fun i hi => by rw [(hf 2 (by decide)).1]; exact h.2.2 i hi⟩
      by_cases c : p < n
      · have hs256 := (h.2.2 p (by omega)).2
        have sg : sgn n s p = nI (s p) := if_pos c
        obtain ⟨o1, o2⟩ := op_b (s p) hs256
        have dec : ∀ q : Nat, p < q → q ≤ n → 200 - (nI q).toNatClampNeg < 200 - (nI p).toNatClampNeg := fun q h1 h2 => by
          rw [nI_clamp (by omega), nI_clamp (by omega)]; omega
        have e124 : nI (s p) = (124 : Int32) ↔ s p = 124 := nI_eq (b := 124) (by omega) (by decide)
        have pre0 : ∀ o, (if (if bo (s p) = true then (1 : Int32) else 0) = (0 : Int32) then jbd ((if nI st.length = (0 : Int32) then some (.inr (.inr (.inl ((nI p, w))))) else jrd (w.1 (179 + 1)) (nI st.length - (1 : Int32)) 4 (fun v15 => (if (f_X4_belongs (nI (s p)) v15) = (0 : Int32) then some (.inr (.inr (.inl ((nI p, w))))) else jbd (nI st.length - ((if nI (s p) = (124 : Int32) then (0 : Int32) else (1 : Int32))) : Int32) (fun v19 => some (.inl ((v19, nI p + (1 : Int32), nI k + (1 : Int32), w)))))))) (fun k10 => (if nI (s p) = (124 : Int32) then k10 else (if (if bc (s p) = true then (1 : Int32) else 0) = (0 : Int32) then jcl (f_X4_actAt 179 (nI p) w) (fun v23 => (if v23 = (-1 : Int32) then some (.inr (.inr (.inr (.inl ((nI p, w)))))) else jbd (nI p + (jsLn (f_X4_form v23)) : Int32) (fun v26 => some (.inl ((nI st.length, v26, nI k + (1 : Int32), w)))))) else k10))) else (if nI st.length < (4 : Int32) then jin (nI st.length) 4 (jbd (jsi w (179 + 1) (nI st.length).toNatClampNeg (nI (s p))) (fun m30 => some (.inl ((nI st.length + (1 : Int32), nI p + (1 : Int32), nI k + (1 : Int32), m30))))) else some (.inr (.inl ((nI p, w)))))) = o → f_X4_fault_L6 179 (nI st.length) (nI p) (nI k) w = o := fun o ho => by
          unfold f_X4_fault_L6
          rw [jlit 80, if_neg (nI_ge (by omega) (by decide)), hw.2.1, if_neg (nI_ge c (by omega)), jcl_e (c_sgn hw (by omega)), sg, o1, o2]
          exact ho
        cases b : bo (s p) with
        | true =>
          rw [b, if_neg (show ¬ (if true = true then (1 : Int32) else 0) = 0 by decide)] at pre0
          by_cases l4 : st.length < 4
          · rw [if_pos (show nI st.length < (4 : Int32) from nI_lt (b := 4) l4 (by decide)), jin_n l4 (by decide), nI_clamp (by omega), jbd_e, nI_1, nI_1, nI_1] at pre0
            rw [sc_open c b l4] at hs
            exact ⟨.inl _, pre0 _ rfl, ⟨k + 1, p + 1, s p :: st, _, rfl, by omega, by omega, by rw [List.length_cons]; omega, fun o hO => by
              rcases List.mem_cons.mp hO with z | z
              · rw [z]; exact b
              · exact ho o z, hA.push, hf.tr (jFr.si _ _ _ rfl), hs⟩, dec _ (by omega) (by omega)⟩
          · rw [if_neg (show ¬ nI st.length < (4 : Int32) from nI_nlt (b := 4) (by omega) (by omega))] at pre0
            rw [sc_full c b l4] at hs
            exact ⟨.inr (.inl _), pre0 _ rfl, w, hf, Or.inl ⟨p, hs, Or.inl rfl⟩⟩
        | false =>
          rw [b, if_pos (show (if false = true then (1 : Int32) else 0) = 0 from rfl), jbd_e] at pre0
          have goc : ∀ o, (s p = 124 ∨ bc (s p) = true) → (if nI st.length = (0 : Int32) then some (.inr (.inr (.inl ((nI p, w))))) else jrd (w.1 (179 + 1)) (nI st.length - (1 : Int32)) 4 (fun v15 => (if (f_X4_belongs (nI (s p)) v15) = (0 : Int32) then some (.inr (.inr (.inl ((nI p, w))))) else jbd (nI st.length - ((if nI (s p) = (124 : Int32) then (0 : Int32) else (1 : Int32))) : Int32) (fun v19 => some (.inl ((v19, nI p + (1 : Int32), nI k + (1 : Int32), w))))))) = o → f_X4_fault_L6 179 (nI st.length) (nI p) (nI k) w = o := fun o hd hO => by
            apply pre0
            by_cases z : s p = 124
            · rw [if_pos (e124.mpr z)]; exact hO
            · rw [if_neg (fun q => z (e124.mp q))]
              rcases hd with q | q
              · exact absurd q z
              · rw [q, if_neg (by decide)]; exact hO
          by_cases d : s p = 124 ∨ bc (s p) = true
          · cases st with
            | nil =>
              rw [sc_nil c d] at hs
              exact ⟨.inr (.inr (.inl (nI p, w))), goc _ d (if_pos rfl), w, hf, Or.inl ⟨p, hs, Or.inr rfl⟩⟩
            | cons o t =>
              have bo_o := ho o (List.mem_cons.mpr (Or.inl rfl))
              have lt : t.length < 4 := by rw [List.length_cons] at hl; omega
              rw [List.length_cons] at goc
              have bb := be_b (s p) hs256 o (bo_i bo_o).1
              have top : w.1 180 t.length = nI o := hA.top
              have goc2 : ∀ q, (if (if bl (s p) o = true then (1 : Int32) else 0) = (0 : Int32) then some (.inr (.inr (.inl ((nI p, w))))) else some (.inl ((nI (t.length + 1) - (if nI (s p) = (124 : Int32) then (0 : Int32) else (1 : Int32)), nI p + (1 : Int32), nI k + (1 : Int32), w)))) = q → f_X4_fault_L6 179 (nI (t.length + 1)) (nI p) (nI k) w = q := fun q hq => by
                refine goc _ d ?_
                rw [if_neg (show ¬ nI (t.length + 1) = (0 : Int32) from fun z => absurd ((nI_eq (b := 0) (by omega) (by decide)).mp z) (by omega)), jlit 1, pk_sub (by omega), Nat.add_sub_cancel, jrd_n lt (by decide)]
                show (if f_X4_belongs (nI (s p)) (w.1 180 t.length) = 0 then _ else _) = _
                rw [top, bb]
                exact hq
              cases e : bl (s p) o with
              | true =>
                rw [sc_in c d e] at hs
                rw [e, if_neg (show ¬ (if true = true then (1 : Int32) else 0) = 0 by decide), nI_1, nI_1] at goc2
                by_cases z : s p = 124
                · rw [if_pos (e124.mpr z), Int32.sub_zero] at goc2
                  rw [if_pos z] at hs
                  refine ⟨.inl _, goc2 _ rfl, ⟨k + 1, p + 1, o :: t, w, by rw [List.length_cons], by omega, by omega, hl, ho, hA, hf, hs⟩, dec _ (by omega) (by omega)⟩
                · rw [if_neg (fun q => z (e124.mp q)), jlit 1, pk_sub (by omega), Nat.add_sub_cancel] at goc2
                  rw [if_neg z] at hs
                  exact ⟨.inl _, goc2 _ rfl, ⟨k + 1, p + 1, t, w, rfl, by omega, by omega, by omega, fun o' hO => ho o' (List.mem_cons.mpr (Or.inr hO)), hA.pop, hf, hs⟩, dec _ (by omega) (by omega)⟩
              | false =>
                rw [sc_out c d e] at hs
                rw [e, if_pos (show (if false = true then (1 : Int32) else 0) = 0 from rfl)] at goc2
                exact ⟨.inr (.inr (.inl (nI p, w))), goc2 _ rfl, w, hf, Or.inl ⟨p, hs, Or.inr rfl⟩⟩
          · have d1 : ¬ s p = 124 := fun z => d (Or.inl z)
            have d2 : bc (s p) = false := by
              cases z : bc (s p) with
              | false => rfl
              | true => exact absurd (Or.inr z) d
            rw [if_neg (fun q => d1 (e124.mp q)), d2, if_pos (show (if false = true then (1 : Int32) else 0) = 0 from rfl), jcl_e (c_actAt hw (by omega))] at pre0
            cases e : (ra n s p).2 with
            | none =>
              rw [sc_bad c b d e] at hs
              rw [e, if_pos (show oI none = -1 from rfl)] at pre0
              exact ⟨.inr (.inr (.inr (.inl (nI p, w)))), pre0 _ rfl, w, hf, Or.inr (Or.inl ⟨p, hp, e, hs, rfl⟩)⟩
            | some q =>
              rw [sc_act c b d e] at hs
              obtain ⟨a1, a2, -⟩ := ra_some e
              have a3 := ra_adv e
              have a4 := (ra_b (s := s) hp).2.1
              obtain ⟨f1, f2, -⟩ := st_form q a1
              rw [e, if_neg (oI_m1 (show q < 2 ^ 31 by omega)), show oI (some q) = nI q from rfl, f1, f2, nI_add, ← a2, jbd_e, nI_1] at pre0
              exact ⟨.inl _, pre0 _ rfl, ⟨k + 1, (ra n s p).1, st, w, rfl, by omega, a4, hl, ho, hA, hf, hs⟩, dec _ (by omega) (by omega)⟩
      · have pn : p = n := by omega
        subst pn
        rw [sc_end] at hs
        refine ⟨.inr (.inr (.inr (.inr (nI st.length, nI p, w)))), ?_, w, hf, Or.inr (Or.inr ⟨st, hl, hs, rfl⟩)⟩
        dsimp only
        unfold f_X4_fault_L6
        by_cases k80 : 80 ≤ k
        · rw [jlit 80, if_pos (nI_le k80 (by omega))]
        · rw [jlit 80, if_neg (nI_ge (by omega) (by decide)), hw.2.1, if_pos (nI_le (Nat.le_refl _) (by omega))])
    jfu ((0 : Int32), (0 : Int32), (0 : Int32), m) ⟨0, 0, [], m, rfl, by omega, by omega, by decide, fun o hO => absurd hO (List.not_mem_nil), fun i hi => absurd hi (Nat.not_lt_zero i), jFr.rf, hR⟩ (by show 200 - _ < 2000000; omega)
  obtain ⟨hf, hr⟩ := hr
  refine ⟨w, ?_, hf⟩
  rw [← hR]
  unfold f_X4_fault
  rw [jcl_e he]
  rcases hr with ⟨p, h1, rfl | rfl⟩ | ⟨p, h0, h1, h2, rfl⟩ | ⟨st, h0, h1, rfl⟩
  · rw [h1]; rfl
  · rw [h1]; rfl
  · have hw : CT n s w := ⟨h.1, by rw [(hf 1 (by decide)).1]; exact h.2.1, fun i hi => by rw [(hf 2 (by decide)).1]; exact h.2.2 i hi⟩
    dsimp only
    rw [jcl_e (c_faultIn hw (by omega) h1), h2]
    rfl
  · dsimp only
    rw [h1]
    cases st with
    | nil => rw [if_pos (show nI ([] : List Nat).length ≤ (0 : Int32) by decide), if_pos rfl]; rfl
    | cons o t =>
      rw [if_neg (nI_nle (by rw [List.length_cons]; omega) (by omega)), if_neg (List.cons_ne_nil o t)]
      rfl
