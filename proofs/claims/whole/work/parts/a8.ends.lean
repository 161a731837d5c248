/-! run: where a run ends; which lines are a run -/
def eff (n : Nat) (s : Nat → Nat) (bt : Bool) : Nat → Nat → Nat → Nat
  | 0, _, p => p
  | f + 1, c, p => if p < n then (if c = 0 ∧ (bc (s p) = true ∨ (bt = true ∧ s p = 124)) then p else eff n s bt f (if bo (s p) then c + 1 else if bc (s p) then c - 1 else c) (p + 1)) else n
def ef (n : Nat) (s : Nat → Nat) (bt : Bool) (c p : Nat) : Nat := eff n s bt (n + 1 - p) c p
theorem ef_u {n c p : Nat} {s : Nat → Nat} {bt : Bool} (hp : p ≤ n) : ef n s bt c p = if p < n then (if c = 0 ∧ (bc (s p) = true ∨ (bt = true ∧ s p = 124)) then p else ef n s bt (if bo (s p) then c + 1 else if bc (s p) then c - 1 else c) (p + 1)) else n := by
  have e : ef n s bt c p = eff n s bt ((n - p) + 1) c p := by unfold ef; rw [show n + 1 - p = (n - p) + 1 by omega]
  rw [e]
  unfold ef
  rw [show n + 1 - (p + 1) = n - p by omega]
  rfl
theorem nI_m (c : Nat) (h : 0 < c) : nI c + (-1 : Int32) = nI (c - 1) := by
  rw [← pk_sub (show 1 ≤ c from h), Int32.sub_eq_add_neg]
  rfl
theorem c_endFrom {n p : Nat} {s : Nat → Nat} {m : jM} (h : CT n s m) (hp : p ≤ n) (bt : Bool) : f_X4_endFrom 179 (nI p) (if bt then 1 else 0) m = some (nI (ef n s bt 0 p)) := by
  have n80 := h.1
  obtain ⟨R, hR⟩ : ∃ R, R = ef n s bt 0 p := ⟨_, rfl⟩
  rw [← hR]
  obtain ⟨e, he, hr⟩ := jlp (step := fun (z : Int32 × Int32) => f_X4_endFrom_L5 (if bt then 1 else 0) m z.1 z.2)
    (fun z => ∃ c p, z = (nI c, nI p) ∧ c ≤ p ∧ p ≤ n ∧ R = ef n s bt c p) (fun z => 200 - z.2.toNatClampNeg)
    (fun e => e = .inl (nI R) ∨ (e = .inr () ∧ R = n))
    (fun z hz => by
      obtain ⟨c, p, rfl, hc, hp, hs⟩ := hz
      rw [ef_u hp] at hs
      by_cases d : p < n
      · rw [if_pos d] at hs
        have hs256 := (h.2.2 p (by omega)).2
        have sg : sgn n s p = nI (s p) := if_pos d
        obtain ⟨o1, o2⟩ := op_b (s p) hs256
        have e124 : nI (s p) = (124 : Int32) ↔ s p = 124 := nI_eq (b := 124) (by omega) (by decide)
        have dec : 200 - (nI (p + 1)).toNatClampNeg < 200 - (nI p).toNatClampNeg := by
          rw [nI_clamp (by omega), nI_clamp (by omega)]; omega
        have ec0 : nI c = (0 : Int32) ↔ c = 0 := nI_eq (b := 0) (by omega) (by decide)
        have K : ∀ c', c' = (if bo (s p) then c + 1 else if bc (s p) then c - 1 else c) → (bc (s p) = true → 0 < c) → (if (if bo (s p) = true then (1 : Int32) else 0) = (0 : Int32) then (if (if bc (s p) = true then (1 : Int32) else 0) = (0 : Int32) then (some (.inl ((nI c + (0 : Int32), nI p + (1 : Int32)))) : Option ((Int32 × Int32) ⊕ ((Int32) ⊕ (Unit)))) else some (.inl ((nI c + (-1 : Int32), nI p + (1 : Int32))))) else some (.inl ((nI c + (1 : Int32), nI p + (1 : Int32))))) = some (.inl (nI c', nI (p + 1))) := fun c' e0 h0 => by
          rw [e0, nI_1, nI_1]
          cases b : bo (s p) with
          | true => rfl
          | false =>
            cases b2 : bc (s p) with
            | true =>
              rw [nI_m c (h0 b2)]
              rfl
            | false =>
              rw [show nI c + (0 : Int32) = nI c from Int32.add_zero _]
              rfl
        have pre : ∀ o, (if nI c = (0 : Int32) then (if (if bc (s p) = true then (1 : Int32) else 0) = (0 : Int32) then (if (if bt then (1 : Int32) else 0) = (0 : Int32) then (if (if bo (s p) = true then (1 : Int32) else 0) = (0 : Int32) then (if (if bc (s p) = true then (1 : Int32) else 0) = (0 : Int32) then (some (.inl ((nI c + (0 : Int32), nI p + (1 : Int32)))) : Option ((Int32 × Int32) ⊕ ((Int32) ⊕ (Unit)))) else some (.inl ((nI c + (-1 : Int32), nI p + (1 : Int32))))) else some (.inl ((nI c + (1 : Int32), nI p + (1 : Int32))))) else (if nI (s p) = (124 : Int32) then some (.inr (.inl (nI p))) else (if (if bo (s p) = true then (1 : Int32) else 0) = (0 : Int32) then (if (if bc (s p) = true then (1 : Int32) else 0) = (0 : Int32) then (some (.inl ((nI c + (0 : Int32), nI p + (1 : Int32)))) : Option ((Int32 × Int32) ⊕ ((Int32) ⊕ (Unit)))) else some (.inl ((nI c + (-1 : Int32), nI p + (1 : Int32))))) else some (.inl ((nI c + (1 : Int32), nI p + (1 : Int32))))))) else some (.inr (.inl (nI p)))) else (if (if bo (s p) = true then (1 : Int32) else 0) = (0 : Int32) then (if (if bc (s p) = true then (1 : Int32) else 0) = (0 : Int32) then (some (.inl ((nI c + (0 : Int32), nI p + (1 : Int32)))) : Option ((Int32 × Int32) ⊕ ((Int32) ⊕ (Unit)))) else some (.inl ((nI c + (-1 : Int32), nI p + (1 : Int32))))) else some (.inl ((nI c + (1 : Int32), nI p + (1 : Int32)))))) = o → f_X4_endFrom_L5 (if bt then 1 else 0) m (nI c) (nI p) = o := fun o ho => by
          unfold f_X4_endFrom_L5
          rw [h.2.1, if_neg (nI_ge d (by omega)), jcl_e (c_sgn h (by omega)), sg, o1, o2, jbd_e]
          exact ho
        by_cases st : c = 0 ∧ (bc (s p) = true ∨ (bt = true ∧ s p = 124))
        · rw [if_pos st] at hs
          refine ⟨.inr (.inl (nI p)), pre _ ?_, Or.inl (by rw [hs])⟩
          rw [if_pos (ec0.mpr st.1)]
          cases b : bc (s p) with
          | true => rfl
          | false =>
            rcases st.2 with z | ⟨z1, z2⟩
            · rw [b] at z; cases z
            · rw [z1, if_pos (e124.mpr z2)]
              rfl
        · rw [if_neg st] at hs
          have h0 : bc (s p) = true → 0 < c := fun z => by
            rcases Nat.eq_zero_or_pos c with q | q
            · exact absurd ⟨q, Or.inl z⟩ st
            · exact q
          obtain ⟨c', hc'⟩ : ∃ c', c' = (if bo (s p) then c + 1 else if bc (s p) then c - 1 else c) := ⟨_, rfl⟩
          rw [← hc'] at hs
          have kk := K c' hc' h0
          have cl : c' ≤ c + 1 := by
            rw [hc']
            split
            · omega
            · split <;> omega
          refine ⟨.inl (nI c', nI (p + 1)), pre _ ?_, ⟨c', p + 1, rfl, by omega, by omega, hs⟩, dec⟩
          rw [kk]
          by_cases q : c = 0
          · rw [if_pos (ec0.mpr q)]
            have b : bc (s p) = false := by
              cases z : bc (s p) with
              | false => rfl
              | true => have := h0 z; omega
            rw [b, if_pos (show (if false = true then (1 : Int32) else 0) = 0 from rfl)]
            cases z : bt with
            | false => rfl
            | true =>
              have : ¬ s p = 124 := fun z2 => st ⟨q, Or.inr ⟨z, z2⟩⟩
              rw [if_neg (fun z3 => this (e124.mp z3)), ite_self]
          · rw [if_neg (fun z => q (ec0.mp z))]
      · rw [if_neg d] at hs
        refine ⟨.inr (.inr ()), ?_, Or.inr ⟨rfl, hs⟩⟩
        dsimp only
        unfold f_X4_endFrom_L5
        rw [h.2.1, if_pos (nI_le (by omega) (by omega))])
    jfu ((0 : Int32), nI p) ⟨0, p, rfl, by omega, hp, hR⟩ (by show 200 - _ < 2000000; omega)
  unfold f_X4_endFrom
  rw [jcl_e he]
  rcases hr with rfl | ⟨rfl, z⟩
  · rfl
  · dsimp only
    rw [h.2.1, z]
theorem ef_skip {n : Nat} {s : Nat → Nat} {bt : Bool} {c : Nat} : ∀ (r p : Nat), p + r ≤ n → (∀ i, p ≤ i → i < p + r → cl n s i < 12) → ef n s bt c p = ef n s bt c (p + r)
  | 0, p, _, _ => rfl
  | r + 1, p, h1, h2 => by
    have hc := h2 p (Nat.le_refl _) (by omega)
    rw [cl_b (by omega)] at hc
    have no : ¬ (bo (s p) = true ∨ bc (s p) = true ∨ s p = 124) := fun z => by
      have := clb_12 _ z
      omega
    have b1 : bo (s p) = false := by
      cases z : bo (s p) with
      | false => rfl
      | true => exact absurd (Or.inl z) no
    have b2 : bc (s p) = false := by
      cases z : bc (s p) with
      | false => rfl
      | true => exact absurd (Or.inr (Or.inl z)) no
    rw [ef_u (by omega), if_pos (by omega), if_neg (fun z => no (by
      rcases z.2 with q | q
      · exact Or.inr (Or.inl q)
      · exact Or.inr (Or.inr q.2))), b1, b2, if_neg Bool.false_ne_true, if_neg Bool.false_ne_true]
    rw [ef_skip r (p + 1) (by omega) (fun i a b => h2 i (by omega) (by omega))]
    congr 1
    omega
abbrev PG : Type := Nat → Int32 × Int32 × Int32 × Int32 × Int32
def PR (m : jM) : PG := fun i => (m.1 211 i, m.1 212 i, m.1 213 i, m.1 214 i, m.1 215 i)
def opS (so : Nat) : Nat := if so = 0 then 40 else if so = 1 then 91 else 123
def clS (so : Nat) : Nat := if so = 0 then 41 else if so = 1 then 93 else 125
theorem opS_b : ∀ so, so < 3 → bo (opS so) = true ∧ bc (opS so) = false ∧ ¬ opS so = 124 := by decide
theorem clS_b : ∀ so, so < 3 → bc (clS so) = true ∧ bo (clS so) = false ∧ ¬ clS so = 124 := by decide
abbrev R4 : Type := Nat → Nat → Nat → Nat → Prop
def ItA (n : Nat) (s : Nat → Nat) (P : PG) (p q l l' : Nat) : Prop := ∃ k, p < n ∧ bo (s p) = false ∧ ¬ (s p = 124 ∨ bc (s p) = true) ∧ (ra n s p).2 = some k ∧ q = (ra n s p).1 ∧ l' = l + 1 ∧ (P l).1 = nI (rop k) ∧ (P l).2.1 = aA s k p ∧ (P l).2.2.1 = aB s k p ∧ (P l).2.2.2.1 = nI p
def InR (n : Nat) (s : Nat → Nat) (P : PG) (RR : R4) (so : Nat) : Nat → R4
  | 0 => fun p q l l' => ∃ q1, RR p q1 (l + 1) l' ∧ (P l).2.2.2.2 = nI l' ∧ q1 < n ∧ s q1 = clS so ∧ q = q1 + 1
  | k + 1 => fun p q l l' => so = 2 ∧ ∃ q1 l1, RR p q1 (l + 1) l1 ∧ (P l).2.2.2.2 = nI l1 ∧ q1 < n ∧ s q1 = 124 ∧ InR n s P RR so k (q1 + 1) q l1 l'
def ItB (n : Nat) (s : Nat → Nat) (P : PG) (RR : R4) (p q l l' : Nat) : Prop := ∃ so k, so < 3 ∧ p < n ∧ s p = opS so ∧ (P l).1 = nI (20 + so) ∧ (P l).2.2.2.1 = nI p ∧ (P l).2.2.2.2 = nI l' ∧ InR n s P RR so k (p + 1) q (l + 1) l'
def SqR (R : R4) : Nat → R4
  | 0 => fun p q l l' => p = q ∧ l = l'
  | k + 1 => fun p q l l' => ∃ p1 l1, R p p1 l l1 ∧ SqR R k p1 q l1 l'
def ItR (n : Nat) (s : Nat → Nat) (P : PG) (RR : R4) : R4 := fun p q l l' => ItA n s P p q l l' ∨ ItB n s P RR p q l l'
def RnR (n : Nat) (s : Nat → Nat) (P : PG) : Nat → R4
  | 0 => fun _ _ _ _ => False
  | d + 1 => fun p q l l' => ∃ k, SqR (ItR n s P (RnR n s P d)) k p q l l'
/-- bounds -/
def Bd (n : Nat) (R : R4) (e : Nat) : Prop := ∀ p q l l', R p q l l' → p ≤ n → p + e ≤ q ∧ q ≤ n ∧ l + e ≤ l'
theorem bd_in {n : Nat} {s : Nat → Nat} {P : PG} {RR : R4} (h : Bd n RR 0) (so : Nat) : ∀ k, Bd n (InR n s P RR so k) 1
  | 0 => fun p q l l' hR hp => by
    obtain ⟨q1, h1, -, h3, -, h5⟩ := hR
    have := h _ _ _ _ h1 hp
    omega
  | k + 1 => fun p q l l' hR hp => by
    obtain ⟨-, q1, l1, h1, -, h3, -, h5⟩ := hR
    have a := h _ _ _ _ h1 hp
    have b := bd_in h so k _ _ _ _ h5 (by omega)
    omega
theorem bd_it {n : Nat} {s : Nat → Nat} {P : PG} {RR : R4} (h : Bd n RR 0) : Bd n (ItR n s P RR) 1 := by
  intro p q l l' hR hp
  rcases hR with ⟨k, h1, h2, h3, h4, h5, h6, -⟩ | ⟨so, k, h1, h2, -, -, -, -, h7⟩
  · have := ra_adv h4
    have := (ra_b (s := s) hp).2.1
    omega
  · have := bd_in h so k _ _ _ _ h7 (by omega)
    omega
theorem bd_sq {n : Nat} {R : R4} (h : Bd n R 1) : ∀ k, Bd n (SqR R k) k
  | 0 => fun p q l l' hR hp => by
    obtain ⟨h1, h2⟩ := hR
    omega
  | k + 1 => fun p q l l' hR hp => by
    obtain ⟨p1, l1, h1, h2⟩ := hR
    have a := h _ _ _ _ h1 hp
    have b := bd_sq h k _ _ _ _ h2 (by omega)
    omega
theorem bd_rn (n : Nat) (s : Nat → Nat) (P : PG) : ∀ d, Bd n (RnR n s P d) 0
  | 0 => fun p q l l' hR _ => hR.elim
  | d + 1 => fun p q l l' hR hp => by
    obtain ⟨k, hk⟩ := hR
    have := bd_sq (bd_it (s := s) (P := P) (bd_rn n s P d)) k _ _ _ _ hk hp
    omega
/-- other lines don't matter -/
def Fm (n : Nat) (P P' : PG) (R R' : R4) : Prop := ∀ p q l l', R p q l l' → p ≤ n → (∀ i, l ≤ i → i < l' → P' i = P i) → R' p q l l'
theorem fm_in {n : Nat} {s : Nat → Nat} {P P' : PG} {RR RR' : R4} (hb : Bd n RR 0) (h : Fm n P P' RR RR') (so : Nat) : ∀ k, Fm n P P' (InR n s P RR so k) (InR n s P' RR' so k)
  | 0 => fun p q l l' hR hp hP => by
    obtain ⟨q1, h1, h2, h3, h4, h5⟩ := hR
    have b := hb _ _ _ _ h1 hp
    exact ⟨q1, h _ _ _ _ h1 hp (fun i a c => hP i (by omega) c), by rw [hP l (Nat.le_refl _) (by omega)]; exact h2, h3, h4, h5⟩
  | k + 1 => fun p q l l' hR hp hP => by
    obtain ⟨h0, q1, l1, h1, h2, h3, h4, h5⟩ := hR
    have b := hb _ _ _ _ h1 hp
    have b2 := bd_in hb so k _ _ _ _ h5 (by omega)
    exact ⟨h0, q1, l1, h _ _ _ _ h1 hp (fun i a c => hP i (by omega) (by omega)), by rw [hP l (Nat.le_refl _) (by omega)]; exact h2, h3, h4, fm_in hb h so k _ _ _ _ h5 (by omega) (fun i a c => hP i (by omega) c)⟩
theorem fm_it {n : Nat} {s : Nat → Nat} {P P' : PG} {RR RR' : R4} (hb : Bd n RR 0) (h : Fm n P P' RR RR') : Fm n P P' (ItR n s P RR) (ItR n s P' RR') := by
  intro p q l l' hR hp hP
  have b := bd_it (s := s) (P := P) hb _ _ _ _ hR hp
  have e := hP l (Nat.le_refl _) (by omega)
  rcases hR with ⟨k, h1, h2, h3, h4, h5, h6, h7, h8, h9, h10⟩ | ⟨so, k, h1, h2, h3, h4, h5, h6, h7⟩
  · exact Or.inl ⟨k, h1, h2, h3, h4, h5, h6, by rw [e]; exact h7, by rw [e]; exact h8, by rw [e]; exact h9, by rw [e]; exact h10⟩
  · exact Or.inr ⟨so, k, h1, h2, h3, by rw [e]; exact h4, by rw [e]; exact h5, by rw [e]; exact h6, fm_in hb h so k _ _ _ _ h7 (by omega) (fun i a c => hP i (by omega) c)⟩
theorem fm_sq {n : Nat} {P P' : PG} {R R' : R4} (hb : Bd n R 1) (h : Fm n P P' R R') : ∀ k, Fm n P P' (SqR R k) (SqR R' k)
  | 0 => fun p q l l' hR _ _ => hR
  | k + 1 => fun p q l l' hR hp hP => by
    obtain ⟨p1, l1, h1, h2⟩ := hR
    have a := hb _ _ _ _ h1 hp
    have b := bd_sq hb k _ _ _ _ h2 (by omega)
    exact ⟨p1, l1, h _ _ _ _ h1 hp (fun i x y => hP i x (by omega)), fm_sq hb h k _ _ _ _ h2 (by omega) (fun i x y => hP i (by omega) y)⟩
theorem fm_rn (n : Nat) (s : Nat → Nat) (P P' : PG) : ∀ d, Fm n P P' (RnR n s P d) (RnR n s P' d)
  | 0 => fun p q l l' hR _ _ => hR
  | d + 1 => fun p q l l' hR hp hP => by
    obtain ⟨k, hk⟩ := hR
    exact ⟨k, fm_sq (bd_it (bd_rn n s P d)) (fm_it (bd_rn n s P d) (fm_rn n s P P' d)) k _ _ _ _ hk hp hP⟩
theorem sq_app {R : R4} : ∀ {k p q l l' p2 l2}, SqR R k p q l l' → R q p2 l' l2 → SqR R (k + 1) p p2 l l2
  | 0, p, q, l, l', p2, l2, h, h2 => by
    obtain ⟨h3, h4⟩ := h
    subst h3
    subst h4
    exact ⟨p2, l2, h2, rfl, rfl⟩
  | k + 1, p, q, l, l', p2, l2, h, h2 => by
    obtain ⟨p1, l1, h3, h4⟩ := h
    exact ⟨p1, l1, h3, sq_app h4 h2⟩
/-- the scan passes a run -/
def Ps (n : Nat) (s : Nat → Nat) (R : R4) : Prop := ∀ p q l l', R p q l l' → p ≤ n → ∀ bt c, ef n s bt c p = ef n s bt c q
theorem ef_bar {n c p : Nat} {s : Nat → Nat} {bt : Bool} (h : p < n) (hb : s p = 124) (hc : ¬ (c = 0 ∧ bt = true)) : ef n s bt c p = ef n s bt c (p + 1) := by
  have b1 : bo 124 = false := rfl
  have b2 : bc 124 = false := rfl
  rw [ef_u (by omega), if_pos h, hb, b1, b2, if_neg Bool.false_ne_true, if_neg Bool.false_ne_true, if_neg (fun z => by
    rcases z.2 with q | q
    · cases q
    · exact hc ⟨z.1, q.1⟩)]
theorem ef_cl {n c p so : Nat} {s : Nat → Nat} {bt : Bool} (h : p < n) (hso : so < 3) (hb : s p = clS so) : ef n s bt (c + 1) p = ef n s bt c (p + 1) := by
  obtain ⟨b1, b2, b3⟩ := clS_b so hso
  rw [ef_u (by omega), if_pos h, hb, b1, b2, if_neg (by omega), if_neg Bool.false_ne_true, if_pos rfl, Nat.add_sub_cancel]
theorem ps_in {n : Nat} {s : Nat → Nat} {P : PG} {RR : R4} (hb : Bd n RR 0) (h : Ps n s RR) (so : Nat) (hso : so < 3) : ∀ k p q l l', InR n s P RR so k p q l l' → p ≤ n → ∀ bt c, ef n s bt (c + 1) p = ef n s bt c q
  | 0, p, q, l, l', hR, hp, bt, c => by
    obtain ⟨q1, h1, -, h3, h4, h5⟩ := hR
    rw [h _ _ _ _ h1 hp, ef_cl h3 hso h4, h5]
  | k + 1, p, q, l, l', hR, hp, bt, c => by
    obtain ⟨-, q1, l1, h1, -, h3, h4, h5⟩ := hR
    rw [h _ _ _ _ h1 hp, ef_bar h3 h4 (by omega)]
    exact ps_in hb h so hso k _ _ _ _ h5 (by omega) bt c
theorem ps_it {n : Nat} {s : Nat → Nat} {P : PG} {RR : R4} (hb : Bd n RR 0) (h : Ps n s RR) : Ps n s (ItR n s P RR) := by
  intro p q l l' hR hp bt c
  rcases hR with ⟨k, h1, h2, h3, h4, h5, -⟩ | ⟨so, k, h1, h2, h3, -, -, -, h7⟩
  · obtain ⟨a1, a2, a3, a4⟩ := ra_b (n := n) (s := s) hp
    have e := ef_skip (bt := bt) (c := c) (s := s) (n := n) ((ra n s p).1 - p) p (by omega) (fun i x y => a4 i x (by omega))
    rw [e, show p + ((ra n s p).1 - p) = (ra n s p).1 by omega, h5]
  · obtain ⟨b1, b2, b3⟩ := opS_b so h1
    have e : ef n s bt c p = ef n s bt (c + 1) (p + 1) := by
      rw [ef_u hp, if_pos h2, h3, b1, b2, if_pos rfl, if_neg (fun z => by
        rcases z.2 with q | q
        · cases q
        · exact b3 q.2)]
    rw [e]
    exact ps_in hb h so h1 k _ _ _ _ h7 (by omega) bt c
theorem ps_sq {n : Nat} {s : Nat → Nat} {R : R4} (hb : Bd n R 1) (h : Ps n s R) : ∀ k, Ps n s (SqR R k)
  | 0 => fun p q l l' hR _ bt c => by rw [hR.1]
  | k + 1 => fun p q l l' hR hp bt c => by
    obtain ⟨p1, l1, h1, h2⟩ := hR
    have a := hb _ _ _ _ h1 hp
    rw [h _ _ _ _ h1 hp, ps_sq hb h k _ _ _ _ h2 (by omega)]
theorem ps_rn (n : Nat) (s : Nat → Nat) (P : PG) : ∀ d, Ps n s (RnR n s P d)
  | 0 => fun p q l l' hR _ => hR.elim
  | d + 1 => fun p q l l' hR hp => by
    obtain ⟨k, hk⟩ := hR
    exact ps_sq (bd_it (bd_rn n s P d)) (ps_it (bd_rn n s P d) (ps_rn n s P d)) k _ _ _ _ hk hp
/-- where a block's closer stands -/
theorem in_cl {n : Nat} {s : Nat → Nat} {P : PG} {RR : R4} (hb : Bd n RR 0) (h : Ps n s RR) (so : Nat) (hso : so < 3) : ∀ k p q l l', InR n s P RR so k p q l l' → p ≤ n → ef n s false 0 p + 1 = q
  | 0, p, q, l, l', hR, hp => by
    obtain ⟨q1, h1, -, h3, h4, h5⟩ := hR
    obtain ⟨b1, b2, b3⟩ := clS_b so hso
    rw [h _ _ _ _ h1 hp, ef_u (by omega), if_pos h3, if_pos ⟨rfl, Or.inl (by rw [h4]; exact b1)⟩, h5]
  | k + 1, p, q, l, l', hR, hp => by
    obtain ⟨-, q1, l1, h1, -, h3, h4, h5⟩ := hR
    rw [h _ _ _ _ h1 hp, ef_bar h3 h4 (fun z => Bool.false_ne_true z.2)]
    exact in_cl hb h so hso k _ _ _ _ h5 (by omega)
theorem ef_at {n p : Nat} {s : Nat → Nat} (h : p < n) (hb : bc (s p) = true ∨ s p = 124) : ef n s true 0 p = p := by
  rw [ef_u (by omega), if_pos h, if_pos ⟨rfl, hb.elim Or.inl (fun z => Or.inr ⟨rfl, z⟩)⟩]
