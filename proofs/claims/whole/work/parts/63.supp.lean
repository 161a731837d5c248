/-! what a constraint bears -/
abbrev LV : Type := Nat → Nat
def hldB (s v w : Nat) (d : Int32) : Prop := if s = 0 then (v : Int) < w + d.toInt else if s = 1 then (v : Int) = w + d.toInt else ¬ (v : Int) = w + d.toInt
def supp (T : TT) (i : Nat) (L : LV) (x v : Nat) : Prop :=
  (∀ s a b : Nat, s < 3 → a < 5 → b < 5 → T (29 + 4 * i) = nI s → T (29 + (4 * i + 1)) = nI a → T (29 + (4 * i + 2)) = nI b → (x = a → ∃ w, w < 6 ∧ (L b).testBit w = true ∧ hldB s v w (T (29 + (4 * i + 3)))) ∧ (x = b → ∃ w, w < 6 ∧ (L a).testBit w = true ∧ hldB s w v (T (29 + (4 * i + 3))))) ∧
  (∀ m : Nat, m < 32 → T (29 + 4 * i) = nI 3 → T (29 + (4 * i + 1)) = nI m → m.testBit x = true → ∃ s, sdr (fun z => m.testBit z && !(z == x)) (fun z w => (L z).testBit w && !(w == v)) s)
def subL (M L : LV) : Prop := ∀ x, x < 5 → ∀ v, v < 6 → (M x).testBit v = true → (L x).testBit v = true
theorem subL.rf (L : LV) : subL L L := fun _ _ _ _ h => h
theorem subL.tr {A B C : LV} (h : subL A B) (h2 : subL B C) : subL A C := fun x hx v hv q => h2 x hx v hv (h x hx v hv q)
theorem sdr_mono {S S' : Nat → Bool} {A A' : Nat → Nat → Bool} {s : Nat → Nat} (h : sdr S A s) (hs : ∀ x, x < 5 → S' x = true → S x = true) (ha : ∀ x, x < 5 → ∀ v, v < 6 → A x v = true → A' x v = true) : sdr S' A' s :=
  ⟨fun x hx q => ⟨(h.1 x hx (hs x hx q)).1, ha x hx _ (h.1 x hx (hs x hx q)).1 (h.1 x hx (hs x hx q)).2⟩, fun x y hx hy q q' e => h.2 x y hx hy (hs x hx q) (hs y hy q') e⟩
theorem supp.mono {T : TT} {i x v : Nat} {M L : LV} (h : supp T i M x v) (hs : subL M L) : supp T i L x v := by
  refine ⟨fun s a b h1 h2 h3 e1 e2 e3 => ?_, fun m h1 e1 e2 hx => ?_⟩
  · obtain ⟨q1, q2⟩ := h.1 s a b h1 h2 h3 e1 e2 e3
    refine ⟨fun e => ?_, fun e => ?_⟩
    · obtain ⟨w, w1, w2, w3⟩ := q1 e
      exact ⟨w, w1, hs b h3 w w1 w2, w3⟩
    · obtain ⟨w, w1, w2, w3⟩ := q2 e
      exact ⟨w, w1, hs a h2 w w1 w2, w3⟩
  · obtain ⟨s, hsd⟩ := h.2 m h1 e1 e2 hx
    refine ⟨s, sdr_mono hsd (fun _ _ q => q) (fun z hz w hw q => ?_)⟩
    simp only [Bool.and_eq_true] at q ⊢
    exact ⟨hs z hz w hw q.1, q.2⟩
def closedL (T : TT) (R : Nat) (L : LV) : Prop := ∀ i, i < nc T → R.testBit i = true → ∀ x, x < 5 → ∀ v, v < 6 → (L x).testBit v = true → supp T i L x v
def goodL (T : TT) (R : Nat) (L0 L : LV) : Prop := (∀ x, x < 5 → 0 < L x ∧ L x < 64) ∧ subL L L0 ∧ ∀ M, subL M L0 → closedL T R M → subL M L
def failL (T : TT) (R : Nat) (L0 : LV) : Prop := ∃ x, x < 5 ∧ ∀ M, subL M L0 → closedL T R M → ∀ v, v < 6 → (M x).testBit v = false
/-- the end of a spreading -/
def spEnd (T : TT) (R : Nat) (L0 : LV) (r : Int32) (L : LV) : Prop := (r = 1 ∧ goodL T R L0 L ∧ closedL T R L) ∨ (r = 0 ∧ failL T R L0)
theorem mask_eq {a b : Nat} (ha : a < 64) (hb : b < 64) (h : ∀ v, v < 6 → a.testBit v = b.testBit v) : a = b := by
  apply Nat.eq_of_testBit_eq
  intro i
  by_cases c : i < 6
  · exact h i c
  · have p : 64 ≤ 2 ^ i := Nat.pow_le_pow_right (n := 2) (by decide) (show 6 ≤ i by omega)
    rw [Nat.testBit_lt_two_pow (by omega), Nat.testBit_lt_two_pow (by omega)]
theorem spEnd_eq {T : TT} {R : Nat} {L0 L L' : LV} {r r' : Int32} (h : spEnd T R L0 r L) (h' : spEnd T R L0 r' L') : r = r' ∧ (r = 1 → ∀ x, x < 5 → L x = L' x) := by
  rcases h with ⟨rfl, h1, h2⟩ | ⟨rfl, x, hx, h3⟩
  · rcases h' with ⟨rfl, h1', h2'⟩ | ⟨rfl, x, hx, h3⟩
    · refine ⟨rfl, fun _ x hx => mask_eq (h1.1 x hx).2 (h1'.1 x hx).2 (fun v hv => ?_)⟩
      have a := h1'.2.2 L h1.2.1 h2 x hx v hv
      have b := h1.2.2 L' h1'.2.1 h2' x hx v hv
      cases q : (L x).testBit v <;> cases q' : (L' x).testBit v
      · rfl
      · rw [b q'] at q; cases q
      · rw [a q] at q'; cases q'
      · rfl
    · obtain ⟨q1, q2⟩ := h1.1 x hx
      obtain ⟨v, v1, v2⟩ := mask0 (L x) q2 (by omega)
      rw [h3 L h1.2.1 h2 v v1] at v2
      cases v2
  · rcases h' with ⟨rfl, h1', h2'⟩ | ⟨rfl, -⟩
    · obtain ⟨q1, q2⟩ := h1'.1 x hx
      obtain ⟨v, v1, v2⟩ := mask0 (L' x) q2 (by omega)
      rw [h3 L' h1'.2.1 h2' v v1] at v2
      cases v2
    · exact ⟨rfl, fun q => absurd q (by decide)⟩
def RLm (c : Nat) (L : LV) (μ : jM) : Prop := ∀ x, x < 5 → μ.1 c x = nI (L x) ∧ L x < 64
def totL (L : LV) : Nat → Nat
  | 0 => 0
  | k + 1 => totL L k + pc (L k)
theorem totL_s (L : LV) (k : Nat) : totL L (k + 1) = totL L k + pc (L k) := rfl
theorem totL_congr {L L' : LV} : ∀ k, (∀ x, x < k → L x = L' x) → totL L k = totL L' k
  | 0, _ => rfl
  | k + 1, h => by rw [totL_s, totL_s, totL_congr k (fun x hx => h x (by omega)), h k (by omega)]
theorem totL_up {L : LV} {x m : Nat} : ∀ k, x < k → totL (va_up L x m) k + pc (L x) = totL L k + pc m
  | 0, h => by omega
  | k + 1, h => by
    rw [totL_s, totL_s]
    by_cases c : x = k
    · rw [← c, va_up_self]
      have : totL (va_up L x m) x = totL L x := totL_congr x (fun y hy => va_up_ne _ _ (by omega))
      omega
    · have := totL_up (L := L) (x := x) (m := m) k (by omega)
      rw [va_up_ne _ _ (fun q => c q.symm)]
      omega
/-! the reference -/
theorem sdr_congr {S S' : Nat → Bool} {A A' : Nat → Nat → Bool} (hs : ∀ x, x < 5 → S x = S' x) (ha : ∀ x, x < 5 → ∀ v, v < 6 → A x v = A' x v) : (∃ s, sdr S A s) ↔ ∃ s, sdr S' A' s := by
  constructor
  · rintro ⟨s, h⟩
    exact ⟨s, sdr_mono h (fun x hx q => by rw [hs x hx]; exact q) (fun x hx v hv q => by rw [← ha x hx v hv]; exact q)⟩
  · rintro ⟨s, h⟩
    exact ⟨s, sdr_mono h (fun x hx q => by rw [← hs x hx]; exact q) (fun x hx v hv q => by rw [ha x hx v hv]; exact q)⟩
theorem r_unlike {c : Nat} {L : LV} {μ : jM} (hc : jlen c = 5) (hL : RLm c L μ) : ∀ (d m u : Nat), m < 32 → u < 64 → cnt (fun z => m.testBit z) 5 < d → ∃ r, f_X12_areUnlike d 201 c (nI m) (nI u) μ = some r ∧ (r = 0 ∨ r = 1) ∧ (r = 1 ↔ ∃ s, sdr (fun z => m.testBit z) (fun z w => (L z).testBit w && !u.testBit w) s) := by
  intro d
  induction d with
  | zero => intro m u _ _ h; omega
  | succ d ih =>
    intro m u hm hu hd
    show ∃ r, fb_X12_areUnlike (f_X12_areUnlike d) 201 c (nI m) (nI u) μ = some r ∧ _
    unfold fb_X12_areUnlike
    by_cases c0 : m = 0
    · rw [c0, if_pos (by decide)]
      refine ⟨1, rfl, Or.inr rfl, fun _ => ⟨fun _ => 0, fun x hx h => ?_, fun x y hx _ h => ?_⟩, fun _ => rfl⟩
      · simp at h
      · simp at h
    · rw [if_neg (nI_ne0 (by omega) (by omega))]
      obtain ⟨x0, x1, x2, x3⟩ := mask5 m hm c0
      obtain ⟨d1, d2⟩ := set_del m hm x0 x1 x2
      obtain ⟨e, he, hr⟩ := jlpN (step := fun (s : Int32) => f_X12_areUnlike_L9 (nI m) s) x0 (fun k s => s = nI k) (fun e => e = nI x0)
        (fun k s hk hs => by
          subst hs
          refine ⟨nI (k + 1), ?_, rfl⟩
          unfold f_X12_areUnlike_L9
          rw [f_has (by omega) (by omega), x3 k hk, if_neg Bool.false_ne_true, if_pos rfl, nI_1])
        (fun s hs => by
          subst hs
          refine ⟨nI x0, ?_, rfl⟩
          unfold f_X12_areUnlike_L9
          rw [f_has (by omega) (by omega), x2, if_pos rfl, if_neg (by decide)])
        (i := 0) (n := jfu) (s := (0 : Int32)) (by omega) rfl (jfu_lt (by omega))
      have hcnt : cnt (fun z => (m - 2 ^ x0).testBit z) 5 < d := by
        have := (cnt_del (fun z => m.testBit z) x0 5).2 x1 x2
        have e2 : cnt (fun z => (m - 2 ^ x0).testBit z) 5 = cnt (fun i => m.testBit i && !(i == x0)) 5 := cnt_congr (fun z hz => d2 z hz)
        omega
      have good : ∀ v, v < 6 → ∃ r, f_X12_areUnlike d 201 c (nI (m - 2 ^ x0)) (nI (u ||| 2 ^ v)) μ = some r ∧ (r = 0 ∨ r = 1) ∧ (r = 1 ↔ ∃ s, sdr (fun z => (m - 2 ^ x0).testBit z) (fun z w => (L z).testBit w && !(u ||| 2 ^ v).testBit w) s) := fun v hv =>
        ih (m - 2 ^ x0) (u ||| 2 ^ v) (Nat.lt_of_le_of_lt (Nat.sub_le _ _) hm) (Nat.or_lt_two_pow (n := 6) hu (Nat.pow_lt_pow_right (by decide) hv)) hcnt
      let G : Nat → Prop := fun v => (L x0).testBit v = true ∧ u.testBit v = false ∧ ∃ s, sdr (fun z => (m - 2 ^ x0).testBit z) (fun z w => (L z).testBit w && !(u ||| 2 ^ v).testBit w) s
      have step : ∀ k, k < 6 → (G k ∧ f_X12_areUnlike_L27 201 c (nI m) (nI u) μ (f_X12_areUnlike d) (nI x0) (nI k) = some (.inr (.inl ()))) ∨ (¬ G k ∧ f_X12_areUnlike_L27 201 c (nI m) (nI u) μ (f_X12_areUnlike d) (nI x0) (nI k) = some (.inl (nI (k + 1)))) := by
        intro k hk
        obtain ⟨l1, l2⟩ := hL x0 x1
        unfold f_X12_areUnlike_L27
        rw [jlit 6, if_neg (nI_ge hk (by decide)), hc, jrd_n x1 (by decide), l1, f_has (by omega) (by omega), nI_1]
        cases q1 : (L x0).testBit k with
        | false =>
          rw [if_neg Bool.false_ne_true, if_pos rfl]
          exact Or.inr ⟨fun g => (by rw [g.1] at q1; cases q1), rfl⟩
        | true =>
          rw [if_pos rfl, if_neg (by decide), f_has (by omega) (by omega)]
          cases q2 : u.testBit k with
          | true =>
            rw [if_pos rfl, if_neg (by decide)]
            exact Or.inr ⟨fun g => (by rw [g.2.1] at q2; cases q2), rfl⟩
          | false =>
            obtain ⟨r, r1, r2, r3⟩ := good k hk
            have hp : 2 ^ k < 64 := Nat.pow_lt_pow_right (n := 6) (by decide) hk
            rw [if_neg Bool.false_ne_true, if_pos rfl, shl_n x0 (by omega), shl_n k (by omega), pk_sub d1, nI_or (by omega) (by omega), jcl_e r1]
            rcases r2 with r2 | r2
            · rw [r2, if_pos rfl]
              exact Or.inr ⟨fun g => absurd (r3.mpr g.2.2) (by rw [r2]; decide), rfl⟩
            · rw [r2, if_neg (by decide)]
              exact Or.inl ⟨⟨q1, q2, r3.mp r2⟩, rfl⟩
      obtain ⟨w, hw, hwr⟩ := jlp (step := fun (s : Int32) => f_X12_areUnlike_L27 201 c (nI m) (nI u) μ (f_X12_areUnlike d) (nI x0) s)
        (fun s => ∃ k, k ≤ 6 ∧ s = nI k ∧ ∀ v, v < k → ¬ G v) (fun s => 6 - s.toNatClampNeg) (fun e => (e = .inl () ∧ ∃ v, v < 6 ∧ G v) ∨ (e = .inr () ∧ ∀ v, v < 6 → ¬ G v))
        (fun s hs => by
          obtain ⟨k, hk, rfl, hn⟩ := hs
          by_cases c6 : k < 6
          · rcases step k c6 with ⟨g, e⟩ | ⟨g, e⟩
            · exact ⟨_, e, Or.inl ⟨rfl, k, c6, g⟩⟩
            · refine ⟨_, e, ⟨k + 1, by omega, rfl, fun v hv => ?_⟩, ?_⟩
              · by_cases z : v = k
                · rw [z]; exact g
                · exact hn v (by omega)
              · rw [nI_clamp (by omega), nI_clamp (by omega)]; omega
          · have : k = 6 := by omega
            subst this
            refine ⟨.inr (.inr ()), ?_, Or.inr ⟨rfl, hn⟩⟩
            unfold f_X12_areUnlike_L27
            rw [jlit 6, if_pos (nI_le (Nat.le_refl _) (by decide))])
        jfu (0 : Int32) ⟨0, by omega, rfl, fun v hv => absurd hv (Nat.not_lt_zero v)⟩ (by show 6 - _ < 2000000; omega)
      rw [jcl_e he, hr, jcl_e hw]
      have eqv : (∃ v, v < 6 ∧ G v) ↔ ∃ s, sdr (fun z => m.testBit z) (fun z w => (L z).testBit w && !u.testBit w) s := by
        constructor
        · rintro ⟨v, v1, g1, g2, s, g3, g4⟩
          dsimp only at g3 g4
          have key : ∀ z, z < 5 → m.testBit z = true → z ≠ x0 → s z < 6 ∧ (L z).testBit (s z) = true ∧ u.testBit (s z) = false ∧ s z ≠ v := fun z hz h1 h2 => by
            obtain ⟨a1, a2⟩ := g3 z hz (by rw [d2 z hz, h1]; simp [h2])
            simp only [Bool.and_eq_true, Bool.not_eq_true', Nat.testBit_or, Bool.or_eq_false_iff, Nat.testBit_two_pow, decide_eq_false_iff_not] at a2
            exact ⟨a1, a2.1, a2.2.1, fun q => a2.2.2 q.symm⟩
          refine ⟨fun z => if z = x0 then v else s z, fun z hz h1 => ?_, fun z y hz hy h1 h2 he => ?_⟩
          · dsimp only
            by_cases q : z = x0
            · rw [if_pos q, q]; exact ⟨v1, by simp [g1, g2]⟩
            · rw [if_neg q]
              obtain ⟨a1, a2, a3, -⟩ := key z hz h1 q
              exact ⟨a1, by simp [a2, a3]⟩
          · dsimp only at he
            by_cases q : z = x0
            · by_cases q' : y = x0
              · rw [q, q']
              · rw [if_pos q, if_neg q'] at he
                exact absurd he.symm (key y hy h2 q').2.2.2
            · by_cases q' : y = x0
              · rw [if_neg q, if_pos q'] at he
                exact absurd he (key z hz h1 q).2.2.2
              · rw [if_neg q, if_neg q'] at he
                exact g4 z y hz hy (by rw [d2 z hz]; simp at h1 ⊢; exact ⟨h1, q⟩) (by rw [d2 y hy]; simp at h2 ⊢; exact ⟨h2, q'⟩) he
        · rintro ⟨s, g3, g4⟩
          dsimp only at g3 g4
          obtain ⟨a1, a2⟩ := g3 x0 x1 x2
          simp only [Bool.and_eq_true, Bool.not_eq_true'] at a2
          refine ⟨s x0, a1, a2.1, a2.2, s, fun z hz h1 => ?_, fun z y hz hy h1 h2 he => ?_⟩
          · dsimp only at h1 ⊢
            rw [d2 z hz] at h1
            simp only [Bool.and_eq_true, Bool.not_eq_true', beq_eq_false_iff_ne] at h1
            obtain ⟨b1, b2⟩ := g3 z hz h1.1
            simp only [Bool.and_eq_true, Bool.not_eq_true'] at b2
            refine ⟨b1, ?_⟩
            have : ¬ s x0 = s z := fun q => h1.2 (g4 z x0 hz x1 h1.1 x2 q.symm)
            simp [b2.1, b2.2, Nat.testBit_two_pow, this]
          · dsimp only at h1 h2
            rw [d2 z hz] at h1
            rw [d2 y hy] at h2
            simp only [Bool.and_eq_true] at h1 h2
            exact g4 z y hz hy h1.1 h2.1 he
      rcases hwr with ⟨rfl, g⟩ | ⟨rfl, g⟩
      · exact ⟨1, rfl, Or.inr rfl, fun _ => eqv.mp g, fun _ => rfl⟩
      · refine ⟨0, rfl, Or.inl rfl, fun q => absurd q (by decide), fun q => ?_⟩
        obtain ⟨v, v1, v2⟩ := eqv.mpr q
        exact absurd v2 (g v v1)
