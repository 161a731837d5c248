/-- a row that the walk stops at -/
noncomputable def gdB (T : TT) (h : Bool) (r : Nat) : Bool := okk T r 5 && (!h || decide (pmk T (val r) 5 = 0))
theorem gdB_iff {T : TT} {h : Bool} {r : Nat} : gdB T h r = true ↔ okk T r 5 = true ∧ (h = true → pmk T (val r) 5 = 0) := by
  unfold gdB
  rw [Bool.and_eq_true]
  cases h <;> simp
def WK (T : TT) (h : Bool) (p : Nat) (μ : jM) : Prop := μ.1 167 3 = (if h then 1 else 0) ∧ ((p = 0 ∧ μ.1 167 4 = 0) ∨ ∃ r, p = r + 1 ∧ r < 7776 ∧ μ.1 167 4 = 1 ∧ (∀ x, x < 5 → μ.1 168 x = nI (val r x)) ∧ (∀ x, x < 5 → μ.1 169 x = nI (pmk T (val r) (x + 1))) ∧ gdB T h r = true)
def atI (A : Nat) : Int32 := if A = 0 then -1 else nI (A - 1)
theorem atI_1 {A : Nat} : atI A + 1 = nI A := by
  unfold atI
  by_cases c : A = 0
  · rw [if_pos c, c]; decide
  · rw [if_neg c, nI_1]; congr 1; omega
def wtx (x A : Nat) : Nat := if A = 0 then 5 - x else 10 + x
def fr (D : Nat → Nat) (x A : Nat) : Nat := pre D x + A * pw x
/-- while the walk looks -/
def WS (T : TT) (h : Bool) (p : Nat) (x : Nat) (D : Nat → Nat) (A : Nat) (μ : jM) : Prop := x < 5 ∧ A ≤ 6 ∧ (∀ y, y < x → D y < 6 ∧ (vm T y).testBit (D y) = true ∧ μ.1 168 y = nI (D y) ∧ μ.1 169 y = nI (pmk T D (y + 1))) ∧ (h = true → pmk T D x = 0) ∧ μ.1 168 x = atI A ∧ (∀ r, p ≤ r → r < fr D x A → gdB T h r = false) ∧ p ≤ fr D x A
theorem bl_bits {A : Nat} (hA : A ≤ 6) : ∃ q, q < 64 ∧ f_X6_below (nI A) = nI q ∧ ∀ v, v < 6 → (q.testBit v = true ↔ v < A) := by
  obtain ⟨q, h1, h2, h3⟩ := below_i (nI A)
  refine ⟨q, h1, h2, fun v hv => ?_⟩
  rw [h3 v hv, nI_toInt (by omega)]
  omega
theorem notrow {T : TT} {h : Bool} {r x : Nat} (hx : x < 5) (hn : (vm T x).testBit (val r x) = false) : gdB T h r = false := by
  cases q : gdB T h r with
  | false => rfl
  | true =>
    have := okk_iff.mp (gdB_iff.mp q).1 x hx
    rw [hn] at this
    cases this
theorem c_advL {T : TT} {h : Bool} {p : Nat} {μ : jM} (hT : RT 6 T μ) (hv : VT T) (hh : μ.1 167 3 = (if h then 1 else 0)) (x : Nat) (D : Nat → Nat) (A : Nat) (hW : WS T h p x D A μ) :
    ∃ e, jloop (fun (s : Int32 × Int32 × jM) => f_X10_advance_L25 167 s.1 s.2.1 s.2.2) jfu ((nI x, (0 : Int32), μ)) = some e ∧ ((∃ m r, e = .inl m ∧ p ≤ r ∧ r < 7776 ∧ gdB T h r = true ∧ (∀ q, p ≤ q → q < r → gdB T h q = false) ∧ (∀ x, x < 5 → m.1 168 x = nI (val r x)) ∧ (∀ x, x < 5 → m.1 169 x = nI (pmk T (val r) (x + 1))) ∧ jFr (fun c => c = 168 ∨ c = 169) μ m) ∨ ∃ m, e = .inr m ∧ (∀ q, p ≤ q → q < 7776 → gdB T h q = false) ∧ jFr (fun c => c = 168 ∨ c = 169) μ m) := by
  have hn := hv.2.1.1
  refine jlpG (step := fun (s : Int32 × Int32 × jM) => f_X10_advance_L25 167 s.1 s.2.1 s.2.2)
    (I := fun k s => ∃ t, s.2.1 = nI t ∧ t + k ≤ 200000 ∧ jFr (fun c => c = 168 ∨ c = 169) μ s.2.2 ∧ ((s.1 = -1 ∧ ∀ q, p ≤ q → q < 7776 → gdB T h q = false) ∨ ∃ x D A, s.1 = nI x ∧ WS T h p x D A s.2.2 ∧ 16 * (7776 - fr D x A) + wtx x A < k))
    (R := fun e => (∃ m r, e = .inl m ∧ p ≤ r ∧ r < 7776 ∧ gdB T h r = true ∧ (∀ q, p ≤ q → q < r → gdB T h q = false) ∧ (∀ x, x < 5 → m.1 168 x = nI (val r x)) ∧ (∀ x, x < 5 → m.1 169 x = nI (pmk T (val r) (x + 1))) ∧ jFr (fun c => c = 168 ∨ c = 169) μ m) ∨ ∃ m, e = .inr m ∧ (∀ q, p ≤ q → q < 7776 → gdB T h q = false) ∧ jFr (fun c => c = 168 ∨ c = 169) μ m)
    ?_ jfu 150000 (nI x, (0 : Int32), μ) ⟨0, rfl, by omega, jFr.rf, Or.inr ⟨x, D, A, rfl, hW, by
      have := hW.1
      have w : wtx x A ≤ 15 := by unfold wtx; split <;> omega
      omega⟩⟩ (by decide)
  rintro k ⟨u, v, m⟩ ⟨t, ht, htk, hf, hst⟩
  have ht : v = nI t := ht
  subst ht
  have hf : jFr (fun c => c = 168 ∨ c = 169) μ m := hf
  have hT' : RT 6 T m := hT.fc hf (fun c q1 q2 q3 => by omega)
  have hh' : m.1 167 3 = (if h then 1 else 0) := by rw [(hf 167 (by decide)).1]; exact hh
  have t1 : ¬ (1000000 : Int32) ≤ nI t := nI_ge (b := 1000000) (by omega) (by decide)
  rcases hst with ⟨hu, hex⟩ | ⟨x, D, A, hu, hW, hk⟩
  · have hu : u = -1 := hu
    subst hu
    refine ⟨.inr (.inr m), ?_, Or.inr ⟨m, rfl, hex, hf⟩⟩
    dsimp only
    unfold f_X10_advance_L25
    rw [if_neg t1, if_pos (by decide)]
  · have hu : u = nI x := hu
    subst hu
    have hW : WS T h p x D A m := hW
    obtain ⟨hx, hA, hD, hP, hat, hex, hpf⟩ := hW
    have hD6 : ∀ y, y < x → D y < 6 := fun y hy => (hD y hy).1
    obtain ⟨v1, v2, v3⟩ := vm_of hv hx
    have l8 : m.1 8 x = nI (vm T x) := by rw [← v3]; exact hT'.2.1 x hx
    obtain ⟨bq, b1, b2, b3⟩ := bl_bits hA
    have drl : dif (vm T x) bq < 64 := dif_lt _ v2
    have dr : ∀ w, w < 6 → ((dif (vm T x) bq).testBit w = true ↔ (vm T x).testBit w = true ∧ A ≤ w) := fun w hw => by
      rw [dif_b, Bool.and_eq_true, Bool.not_eq_true']
      have := b3 w hw
      cases q : bq.testBit w with
      | true => rw [q] at this; simp; intro _; have := this.mp rfl; omega
      | false => rw [q] at this; simp; intro _; rcases Nat.lt_or_ge w A with y | y
                 · have := this.mpr y; cases this
                 · exact y
    have ppos := pw_pos x
    have ple := pre_le hx hD6
    have hwt : wtx x A ≤ 15 := by unfold wtx; split <;> omega
    have frdef : fr D x A = pre D x + A * pw x := rfl
    have Apw : A * pw x ≤ 6 * pw x := Nat.mul_le_mul_right _ hA
    -- rows of the block whose number at x is left out
    have skip : ∀ (a b : Nat), (∀ w, w < 6 → A ≤ w → w < b → (vm T x).testBit w = false) → b ≤ 6 → ∀ r, p ≤ r → r < pre D x + b * pw x → gdB T h r = false := by
      intro _ b hno hb6 r hr1 hr2
      by_cases c : r < fr D x A
      · exact hex r hr1 c
      · have bpw : b * pw x ≤ 6 * pw x := Nat.mul_le_mul_right _ hb6
        have hblk : pre D x ≤ r ∧ r < pre D x + 6 * pw x := by omega
        obtain ⟨c1, c2⟩ := blk2 hx hD6 hblk
        have hvl := val_lt r x
        have hA2 : A ≤ val r x := by
          rcases Nat.lt_or_ge (val r x) A with y | y
          · have : (val r x + 1) * pw x ≤ A * pw x := Nat.mul_le_mul_right _ y
            rw [Nat.add_mul, Nat.one_mul] at this
            omega
          · exact y
        have hb2 : val r x < b := by
          rcases Nat.lt_or_ge (val r x) b with y | y
          · exact y
          · have : b * pw x ≤ val r x * pw x := Nat.mul_le_mul_right _ y
            omega
        exact notrow hx (hno _ hvl hA2 hb2)
    have pre0 : ∀ z, (if nI (dif (vm T x) bq) = (0 : Int32) then some (.inl ((nI x + (-1 : Int32), nI (t + 1), m))) else jin (nI x) 5 (jcl (f_X10_brokenAt 167 (nI x) (jsi m 168 x (f_J6_numberOfTrailingZeros_0f7a4 (nI (dif (vm T x) bq))))) (fun v23 => (if nI x = (0 : Int32) then jin (nI x) 5 (if (jsi (jsi m 168 x (f_J6_numberOfTrailingZeros_0f7a4 (nI (dif (vm T x) bq)))) 169 x (v23 ||| 0)).1 167 3 = (0 : Int32) then (if nI x = (4 : Int32) then some (.inr (.inl (jsi (jsi m 168 x (f_J6_numberOfTrailingZeros_0f7a4 (nI (dif (vm T x) bq)))) 169 x (v23 ||| 0)))) else jin (nI x + (1 : Int32)) 5 (some (.inl ((nI x + (1 : Int32), nI (t + 1), jsi (jsi (jsi m 168 x (f_J6_numberOfTrailingZeros_0f7a4 (nI (dif (vm T x) bq)))) 169 x (v23 ||| 0)) 168 (nI x + (1 : Int32)).toNatClampNeg (-1)))))) else jrd ((jsi (jsi m 168 x (f_J6_numberOfTrailingZeros_0f7a4 (nI (dif (vm T x) bq)))) 169 x (v23 ||| 0)).1 169) (nI x) 5 (fun v41 => (if v41 = (0 : Int32) then (if nI x = (4 : Int32) then some (.inr (.inl (jsi (jsi m 168 x (f_J6_numberOfTrailingZeros_0f7a4 (nI (dif (vm T x) bq)))) 169 x (v23 ||| 0)))) else jin (nI x + (1 : Int32)) 5 (some (.inl ((nI x + (1 : Int32), nI (t + 1), jsi (jsi (jsi m 168 x (f_J6_numberOfTrailingZeros_0f7a4 (nI (dif (vm T x) bq)))) 169 x (v23 ||| 0)) 168 (nI x + (1 : Int32)).toNatClampNeg (-1)))))) else some (.inl ((nI x, nI (t + 1), jsi (jsi m 168 x (f_J6_numberOfTrailingZeros_0f7a4 (nI (dif (vm T x) bq)))) 169 x (v23 ||| 0))))))) else jrd ((jsi m 168 x (f_J6_numberOfTrailingZeros_0f7a4 (nI (dif (vm T x) bq)))).1 169) (nI x - (1 : Int32)) 5 (fun v46 => jin (nI x) 5 (if (jsi (jsi m 168 x (f_J6_numberOfTrailingZeros_0f7a4 (nI (dif (vm T x) bq)))) 169 x (v23 ||| v46)).1 167 3 = (0 : Int32) then (if nI x = (4 : Int32) then some (.inr (.inl (jsi (jsi m 168 x (f_J6_numberOfTrailingZeros_0f7a4 (nI (dif (vm T x) bq)))) 169 x (v23 ||| v46)))) else jin (nI x + (1 : Int32)) 5 (some (.inl ((nI x + (1 : Int32), nI (t + 1), jsi (jsi (jsi m 168 x (f_J6_numberOfTrailingZeros_0f7a4 (nI (dif (vm T x) bq)))) 169 x (v23 ||| v46)) 168 (nI x + (1 : Int32)).toNatClampNeg (-1)))))) else jrd ((jsi (jsi m 168 x (f_J6_numberOfTrailingZeros_0f7a4 (nI (dif (vm T x) bq)))) 169 x (v23 ||| v46)).1 169) (nI x) 5 (fun v41 => (if v41 = (0 : Int32) then (if nI x = (4 : Int32) then some (.inr (.inl (jsi (jsi m 168 x (f_J6_numberOfTrailingZeros_0f7a4 (nI (dif (vm T x) bq)))) 169 x (v23 ||| v46)))) else jin (nI x + (1 : Int32)) 5 (some (.inl ((nI x + (1 : Int32), nI (t + 1), jsi (jsi (jsi m 168 x (f_J6_numberOfTrailingZeros_0f7a4 (nI (dif (vm T x) bq)))) 169 x (v23 ||| v46)) 168 (nI x + (1 : Int32)).toNatClampNeg (-1)))))) else some (.inl ((nI x, nI (t + 1), jsi (jsi m 168 x (f_J6_numberOfTrailingZeros_0f7a4 (nI (dif (vm T x) bq)))) 169 x (v23 ||| v46)))))))))))) = z → f_X10_advance_L25 167 (nI x) (nI t) m = z := fun z hz => by
      unfold f_X10_advance_L25
      simp only [jbd_e]
      rw [if_neg t1, if_neg (nI_pos (by omega)), jrd_n hx (by decide), l8]
      show jrd (m.1 168) _ _ _ = _
      rw [jrd_n hx (by decide), hat, atI_1, b2, nI_dif (by omega) (by omega), nI_1 t, nI_clamp (by omega)]
      exact hz
    by_cases c0 : dif (vm T x) bq = 0
    · -- nothing is left at x
      have hno : ∀ w, w < 6 → A ≤ w → w < 6 → (vm T x).testBit w = false := fun w hw hAw _ => by
        cases q : (vm T x).testBit w with
        | false => rfl
        | true =>
          have := (dr w hw).mpr ⟨q, hAw⟩
          rw [c0, Nat.zero_testBit] at this
          cases this
      have hall := skip 0 6 hno (Nat.le_refl _)
      refine ⟨.inl (nI x + (-1 : Int32), nI (t + 1), m), pre0 _ (if_pos (by rw [c0]; rfl)), ?_⟩
      by_cases x0 : x = 0
      · subst x0
        refine ⟨k - 1, by omega, t + 1, rfl, by omega, hf, Or.inl ⟨show nI 0 + (-1 : Int32) = -1 by decide, fun q h1 h2 => hall q h1 ?_⟩⟩
        show q < 0 + 6 * 1296
        omega
      · obtain ⟨y, rfl⟩ : ∃ y, x = y + 1 := ⟨x - 1, by omega⟩
        obtain ⟨d1, d2, d3, d4⟩ := hD y (by omega)
        have epre : pre D (y + 1) = pre D y + D y * pw y := rfl
        have epw := pw_s (x := y) (by omega)
        have efr : fr D y (D y + 1) = pre D (y + 1) + 6 * pw (y + 1) := by
          show pre D y + (D y + 1) * pw y = _
          rw [epre, Nat.add_mul, Nat.one_mul]
          omega
        refine ⟨16 * (7776 - fr D y (D y + 1)) + wtx y (D y + 1) + 1, ?_, t + 1, rfl, ?_, hf, Or.inr ⟨y, D, D y + 1, pk_m1 y, ⟨by omega, by omega, fun z hz => hD z (by omega), fun hh2 => ?_, ?_, fun r h1 h2 => hall r h1 (by rw [← efr]; exact h2), by rw [efr]; omega⟩, by omega⟩⟩
        · rw [efr]
          have : wtx y (D y + 1) = 10 + y := by unfold wtx; rw [if_neg (by omega)]
          rw [this]
          unfold wtx at hk
          by_cases A0 : A = 0
          · rw [if_pos A0] at hk
            have : fr D (y + 1) A = pre D (y + 1) := by show _ + A * _ = _; rw [A0, Nat.zero_mul]; rfl
            omega
          · rw [if_neg A0] at hk
            have : fr D (y + 1) A ≤ pre D (y + 1) + 6 * pw (y + 1) := by omega
            omega
        · rw [efr]
          have w1 : wtx y (D y + 1) ≤ 15 := by unfold wtx; split <;> omega
          have w2 : fr D (y + 1) A ≤ pre D (y + 1) + 6 * pw (y + 1) := by omega
          have : wtx y (D y + 1) = 10 + y := by unfold wtx; rw [if_neg (by omega)]
          unfold wtx at hk
          by_cases A0 : A = 0
          · rw [if_pos A0] at hk
            have : fr D (y + 1) A = pre D (y + 1) := by show _ + A * _ = _; rw [A0, Nat.zero_mul]; rfl
            omega
          · rw [if_neg A0] at hk
            omega
        · have hz := hP hh2
          apply Nat.eq_of_testBit_eq
          intro i
          rw [Nat.zero_testBit]
          cases q : (pmk T D y).testBit i with
          | false => rfl
          | true =>
            have := pmk_mono (Nat.le_succ y) q
            rw [hz, Nat.zero_testBit] at this
            cases this
        · rw [d3]
          unfold atI
          rw [if_neg (by omega)]
          congr 1
    · -- the next value
      obtain ⟨w, w6, we, w1, w2⟩ := mn_b _ drl c0
      obtain ⟨wv, wA⟩ := (dr w w6).mp w1
      have hno : ∀ w', w' < 6 → A ≤ w' → w' < w → (vm T x).testBit w' = false := fun w' hw' hA' hlt => by
        cases q : (vm T x).testBit w' with
        | false => rfl
        | true => have := w2 w' hw' ((dr w' hw').mpr ⟨q, hA'⟩); omega
      have hskip := skip 0 w hno (by omega)
      have hD1 : ∀ y, y < x → va_up D x w y = D y := fun y hy => va_up_ne _ _ (by omega)
      have hD2 : va_up D x w x = w := va_up_self _ _ _
      have ep1 : pmk T (va_up D x w) x = pmk T D x := pmk_congr x (by omega) hD1
      have epr : pre (va_up D x w) x = pre D x := pre_congr x hD1
      have hlt := pmk_lt hn (va_up D x w) (x + 1)
      have hbm := bm_lt T (va_up D x w) x (nc T) hn
      have hpx := pmk_lt hn (va_up D x w) x
      have hb := c_brokenAt (x := x) (D := va_up D x w) (μ := jsi m 168 x (nI w)) (hT'.fr (fun c q1 q2 => jsi_ne (by omega))) hv hx (fun y hy => by
        by_cases z : y = x
        · rw [z, jsi_at, hD2]; exact ⟨rfl, w6⟩
        · rw [jsi_pl z, hD1 y (by omega)]
          exact ⟨(hD y (by omega)).2.2.1, (hD y (by omega)).1⟩)
      have wpw : w * pw x ≤ 6 * pw x := Nat.mul_le_mul_right _ (by omega)
      have wpw1 : (w + 1) * pw x ≤ 6 * pw x := Nat.mul_le_mul_right _ (by omega)
      have Awpw : A * pw x ≤ w * pw x := Nat.mul_le_mul_right _ wA
      have ewp : (w + 1) * pw x = w * pw x + pw x := by rw [Nat.add_mul, Nat.one_mul]
      -- the memory behind
      generalize hm2 : jsi (jsi m 168 x (nI w)) 169 x (nI (pmk T (va_up D x w) (x + 1))) = m2
      have f2 : jFr (fun c => c = 168 ∨ c = 169) μ m2 := by
        rw [← hm2]
        exact (hf.tr (jFr.si _ _ _ (Or.inl rfl))).tr (jFr.si _ _ _ (Or.inr rfl))
      have m2at : ∀ y, y < x → m2.1 168 y = nI (D y) ∧ m2.1 169 y = nI (pmk T D (y + 1)) := fun y hy => by
        rw [← hm2, jsi_ne (by decide), jsi_pl (by omega), jsi_pl (by omega), jsi_ne (by decide)]
        exact ⟨(hD y hy).2.2.1, (hD y hy).2.2.2⟩
      have m2x : m2.1 168 x = nI w ∧ m2.1 169 x = nI (pmk T (va_up D x w) (x + 1)) := by
        rw [← hm2, jsi_ne (by decide), jsi_at, jsi_at]
        exact ⟨rfl, rfl⟩
      have m2h : m2.1 167 3 = (if h then 1 else 0) := by rw [(f2 167 (by decide)).1]; exact hh
      have down : ∀ z, (if m2.1 167 3 = (0 : Int32) then (if nI x = (4 : Int32) then some (.inr (.inl m2)) else jin (nI x + (1 : Int32)) 5 (some (.inl ((nI x + (1 : Int32), nI (t + 1), jsi m2 168 (nI x + (1 : Int32)).toNatClampNeg (-1)))))) else jrd (m2.1 169) (nI x) 5 (fun v41 => (if v41 = (0 : Int32) then (if nI x = (4 : Int32) then some (.inr (.inl m2)) else jin (nI x + (1 : Int32)) 5 (some (.inl ((nI x + (1 : Int32), nI (t + 1), jsi m2 168 (nI x + (1 : Int32)).toNatClampNeg (-1)))))) else some (.inl ((nI x, nI (t + 1), m2)))))) = z → f_X10_advance_L25 167 (nI x) (nI t) m = z := fun z hz => by
        apply pre0
        rw [if_neg (nI_ne0 (by omega) (by omega)), jin_n hx (by decide), we, jcl_e hb]
        by_cases x0 : x = 0
        · have e1 : nI (bm T (va_up D x w) x (nc T)) ||| (0 : Int32) = nI (pmk T (va_up D x w) (x + 1)) := by
            rw [jlit 0, nI_or (by omega) (by decide), pmk_s]
            congr 1
            rw [x0]
            rfl
          rw [if_pos (by rw [x0]; rfl), jin_n hx (by decide), e1, hm2]
          exact hz
        · have e3 : nI x - (1 : Int32) = nI (x - 1) := pk_sub (b := 1) (by omega)
          have e4 : (jsi m 168 x (nI w)).1 169 (x - 1) = nI (pmk T D x) := by
            have := (hD (x - 1) (by omega)).2.2.2
            rw [show x - 1 + 1 = x by omega] at this
            rw [jsi_ne (by decide)]; exact this
          have e1 : nI (bm T (va_up D x w) x (nc T)) ||| nI (pmk T D x) = nI (pmk T (va_up D x w) (x + 1)) := by
            rw [← ep1, nI_or (by omega) (by omega), pmk_s]
          rw [if_neg (nI_ne0 (by omega) (by omega)), e3, jrd_n (by omega) (by decide), e4, jin_n hx (by decide), e1, hm2]
          exact hz
      have downOK : ∀ z, (h = true → pmk T (va_up D x w) (x + 1) = 0) → (if nI x = (4 : Int32) then some (.inr (.inl m2)) else jin (nI x + (1 : Int32)) 5 (some (.inl ((nI x + (1 : Int32), nI (t + 1), jsi m2 168 (nI x + (1 : Int32)).toNatClampNeg (-1)))))) = z → f_X10_advance_L25 167 (nI x) (nI t) m = z := fun z hp hz => by
        apply down
        rw [m2h]
        cases h with
        | false => rw [if_neg Bool.false_ne_true, if_pos rfl]; exact hz
        | true =>
          rw [if_pos rfl, if_neg (by decide), jrd_n hx (by decide), m2x.2, hp rfl, if_pos (by rfl)]
          exact hz
      by_cases cb : h = true ∧ pmk T (va_up D x w) (x + 1) ≠ 0
      · -- it is broken
        have hz0 : ¬ nI (pmk T (va_up D x w) (x + 1)) = (0 : Int32) := nI_ne0 (by omega) (by omega)
        have wt' : wtx x (w + 1) ≤ 15 := by unfold wtx; split <;> omega
        have efr : fr D x (w + 1) = pre D x + w * pw x + pw x := by show _ + (w + 1) * pw x = _; rw [ewp]; omega
        refine ⟨.inl (nI x, nI (t + 1), m2), down _ ?_, 16 * (7776 - fr D x (w + 1)) + wtx x (w + 1) + 1, by omega, t + 1, rfl, by omega, f2, Or.inr ⟨x, D, w + 1, rfl, ⟨hx, by omega, fun y hy => ⟨(hD y hy).1, (hD y hy).2.1, m2at y hy⟩, hP, ?_, fun r h1 h2 => ?_, by rw [efr]; omega⟩, by omega⟩⟩
        · rw [m2h, cb.1, if_pos rfl, if_neg (by decide), jrd_n hx (by decide), m2x.2, if_neg hz0]
        · rw [m2x.1]
          unfold atI
          rw [if_neg (by omega)]
          congr 1
        · by_cases c : r < pre D x + w * pw x
          · exact hskip r h1 c
          · have hblk : pre D x ≤ r ∧ r < pre D x + 6 * pw x := by omega
            obtain ⟨c1, c2⟩ := blk2 hx hD6 hblk
            have hvx : val r x = w := by
              rcases Nat.lt_trichotomy (val r x) w with y | y | y
              · have : (val r x + 1) * pw x ≤ w * pw x := Nat.mul_le_mul_right _ y
                rw [Nat.add_mul, Nat.one_mul] at this
                omega
              · exact y
              · have : (w + 1) * pw x ≤ val r x * pw x := Nat.mul_le_mul_right _ y
                omega
            have hvy := (blk (r := r) hx hD6 (by omega)).mpr hblk
            have hc : pmk T (val r) (x + 1) = pmk T (va_up D x w) (x + 1) := pmk_congr (x + 1) (by omega) (fun y hy => by
              by_cases z : y = x
              · rw [z, hD2]; exact hvx
              · rw [hD1 y (by omega)]; exact hvy y (by omega))
            cases q : gdB T h r with
            | false => rfl
            | true =>
              have h5 := (gdB_iff.mp q).2 cb.1
              exfalso
              apply cb.2
              apply Nat.eq_of_testBit_eq
              intro i
              rw [Nat.zero_testBit]
              cases y : (pmk T (va_up D x w) (x + 1)).testBit i with
              | false => rfl
              | true =>
                rw [← hc] at y
                have := pmk_mono (k' := 5) (by omega) y
                rw [h5, Nat.zero_testBit] at this
                cases this
      · have hp : h = true → pmk T (va_up D x w) (x + 1) = 0 := fun hh2 => Classical.byContradiction fun z => cb ⟨hh2, z⟩
        by_cases x4 : x = 4
        · -- a row
          subst x4
          have hr : pre D 4 + w < 7776 := by
            have : pw 4 = 1 := rfl
            omega
          have hblk : pre D 4 ≤ pre D 4 + w ∧ pre D 4 + w < pre D 4 + 6 * pw 4 := by
            have : pw 4 = 1 := rfl
            omega
          have hvy := (blk hx hD6 hr).mpr hblk
          have hv4 : val (pre D 4 + w) 4 = w := by
            obtain ⟨c1, c2⟩ := blk2 hx hD6 hblk
            rw [show pw 4 = 1 from rfl, Nat.mul_one] at c1 c2
            omega
          have hall : ∀ y, y < 5 → val (pre D 4 + w) y = va_up D 4 w y := fun y hy => by
            by_cases z : y = 4
            · rw [z, hv4, hD2]
            · rw [hvy y (by omega), hD1 y (by omega)]
          have frle : fr D 4 A ≤ pre D 4 + w := by
            show pre D 4 + A * pw 4 ≤ _
            rw [show pw 4 = 1 from rfl, Nat.mul_one]
            omega
          refine ⟨.inr (.inl m2), downOK _ hp (if_pos (by rfl)), Or.inl ⟨m2, pre D 4 + w, rfl, ?_, hr, ?_, fun q h1 h2 => ?_, fun y hy => ?_, fun y hy => ?_, f2⟩⟩
          · omega
          · exact gdB_iff.mpr ⟨okk_iff.mpr (fun y hy => by
              rw [hall y hy]
              by_cases z : y = 4
              · rw [z, hD2]; exact wv
              · rw [hD1 y (by omega)]; exact (hD y (by omega)).2.1), fun hh2 => by rw [pmk_congr 5 (Nat.le_refl _) hall]; exact hp hh2⟩
          · exact hskip q h1 (by rw [show pw 4 = 1 from rfl, Nat.mul_one]; exact h2)
          · rw [hall y hy]
            by_cases z : y = 4
            · rw [z, hD2]; exact m2x.1
            · rw [hD1 y (by omega)]; exact (m2at y (by omega)).1
          · rw [pmk_congr (y + 1) (by omega) (fun u hu => hall u (by omega))]
            by_cases z : y = 4
            · rw [z]; exact m2x.2
            · rw [(m2at y (by omega)).2, pmk_congr (D := D) (D' := va_up D 4 w) (y + 1) (by omega) (fun u hu => (hD1 u (by omega)).symm)]
        · -- deeper
          have x4' : ¬ nI x = (4 : Int32) := fun z => x4 ((nI_eq (b := 4) (by omega) (by decide)).mp z)
          have epr2 : pre (va_up D x w) (x + 1) = pre D x + w * pw x := by
            show pre (va_up D x w) x + va_up D x w x * pw x = _
            rw [epr, hD2]
          have efr : fr (va_up D x w) (x + 1) 0 = pre D x + w * pw x := by
            show pre (va_up D x w) (x + 1) + 0 * _ = _
            rw [Nat.zero_mul, epr2]; rfl
          refine ⟨.inl (nI (x + 1), nI (t + 1), jsi m2 168 (x + 1) (-1)), downOK _ hp (by rw [if_neg x4', nI_1, jin_n (by omega) (by decide), nI_clamp (by omega)]), 16 * (7776 - fr (va_up D x w) (x + 1) 0) + wtx (x + 1) 0 + 1, ?_, t + 1, rfl, ?_, f2.tr (jFr.si _ _ _ (Or.inl rfl)), Or.inr ⟨x + 1, va_up D x w, 0, rfl, ⟨by omega, by omega, fun y hy => ?_, hp, ?_, fun r h1 h2 => hskip r h1 (by rw [← efr]; exact h2), by rw [efr]; omega⟩, by omega⟩⟩
          · have e1 : wtx (x + 1) 0 = 5 - (x + 1) := by unfold wtx; rw [if_pos rfl]
            rw [efr, e1]
            unfold wtx at hk
            by_cases A0 : A = 0
            · rw [if_pos A0] at hk; omega
            · rw [if_neg A0] at hk; omega
          · have e1 : wtx (x + 1) 0 = 5 - (x + 1) := by unfold wtx; rw [if_pos rfl]
            rw [efr, e1]
            unfold wtx at hk
            by_cases A0 : A = 0
            · rw [if_pos A0] at hk; omega
            · rw [if_neg A0] at hk; omega
          · by_cases z : y = x
            · rw [z, hD2, jsi_pl (by omega), jsi_ne (by decide), m2x.1, m2x.2]
              exact ⟨w6, wv, rfl, rfl⟩
            · rw [hD1 y (by omega), jsi_pl (by omega), jsi_ne (by decide), pmk_congr (D := va_up D x w) (D' := D) (y + 1) (by omega) (fun u hu => hD1 u (by omega))]
              exact ⟨(hD y (by omega)).1, (hD y (by omega)).2.1, (m2at y (by omega)).1, (m2at y (by omega)).2⟩
          · show (jsi m2 168 (x + 1) (-1)).1 168 (x + 1) = _
            rw [jsi_at]; rfl
/-- an advance -/
theorem c_adv {T : TT} {h : Bool} {p : Nat} {μ : jM} (hT : RT 6 T μ) (hv : VT T) (hW : WK T h p μ) : ∃ m, jFr (fun c => c = 167 ∨ c = 168 ∨ c = 169) μ m ∧ ((∃ r, f_X10_advance 167 μ = some (1, m) ∧ p ≤ r ∧ r < 7776 ∧ gdB T h r = true ∧ (∀ q, p ≤ q → q < r → gdB T h q = false) ∧ WK T h (r + 1) m ∧ (∀ x, x < 5 → m.1 168 x = nI (val r x)) ∧ m.1 169 4 = nI (pmk T (val r) 5)) ∨ (f_X10_advance 167 μ = some (0, m) ∧ ∀ q, p ≤ q → q < 7776 → gdB T h q = false)) := by
  obtain ⟨hh, hst⟩ := hW
  have fin : ∀ (m0 : jM) (x : Nat) (D : Nat → Nat) (A : Nat), jFr (fun c => c = 167 ∨ c = 168 ∨ c = 169) μ m0 → m0.1 167 3 = (if h then 1 else 0) → m0.1 167 4 = 1 → WS T h p x D A m0 → (∀ z, jcl (jloop (fun (s : Int32 × Int32 × jM) => f_X10_advance_L25 167 s.1 s.2.1 s.2.2) jfu ((nI x, (0 : Int32), m0))) (fun w48 => match w48 with | .inl w48 => some (((1 : Int32), w48)) | .inr w48 => some (((0 : Int32), w48))) = z → f_X10_advance 167 μ = z) → ∃ m, jFr (fun c => c = 167 ∨ c = 168 ∨ c = 169) μ m ∧ ((∃ r, f_X10_advance 167 μ = some (1, m) ∧ p ≤ r ∧ r < 7776 ∧ gdB T h r = true ∧ (∀ q, p ≤ q → q < r → gdB T h q = false) ∧ WK T h (r + 1) m ∧ (∀ x, x < 5 → m.1 168 x = nI (val r x)) ∧ m.1 169 4 = nI (pmk T (val r) 5)) ∨ (f_X10_advance 167 μ = some (0, m) ∧ ∀ q, p ≤ q → q < 7776 → gdB T h q = false)) := by
    intro m0 x D A f0 h3 h4 hWS hz
    obtain ⟨e, he, hr⟩ := c_advL (hT.fc f0 (fun c q1 q2 q3 => by omega)) hv h3 x D A hWS
    rcases hr with ⟨m, r, rfl, g1, g2, g3, g4, g5, g6, g7⟩ | ⟨m, rfl, g1, g2⟩
    · refine ⟨m, f0.tr (g7.mono (fun c hc => Or.inr hc)), Or.inl ⟨r, hz _ (by rw [jcl_e he]), g1, g2, g3, g4, ⟨by rw [(g7 167 (by decide)).1]; exact h3, Or.inr ⟨r, rfl, g2, by rw [(g7 167 (by decide)).1]; exact h4, g5, g6, g3⟩⟩, g5, g6 4 (by decide)⟩⟩
    · exact ⟨m, f0.tr (g2.mono (fun c hc => Or.inr hc)), Or.inr ⟨hz _ (by rw [jcl_e he]), g1⟩⟩
  rcases hst with ⟨rfl, h4⟩ | ⟨r, rfl, hr, h4, h5, h6, h7⟩
  · refine fin (jsi (jsi μ 167 4 1) 168 0 (-1)) 0 (fun _ => 0) 0 ((jFr.si _ _ _ (Or.inl rfl)).tr (jFr.si _ _ _ (Or.inr (Or.inl rfl)))) ?_ ?_ ⟨by decide, by decide, fun y hy => absurd hy (Nat.not_lt_zero y), fun _ => rfl, jsi_at _ _ _ _, fun r h1 h2 => absurd h2 (by show ¬ r < 0 + 0 * pw 0; rw [Nat.zero_mul]; omega), Nat.zero_le _⟩ (fun z hz => ?_)
    · rw [jsi_ne (by decide), jsi_pl (by decide)]; exact hh
    · rw [jsi_ne (by decide), jsi_at]
    · unfold f_X10_advance
      have e0 : (0 : Int32).toNatClampNeg = 0 := by decide
      rw [jbd_e, h4, if_pos rfl, jbd_e, e0, jlit 0, jin_n (by decide) (by decide), jbd_e]
      exact hz
  · refine fin μ 4 (val r) (val r 4 + 1) jFr.rf hh h4 ⟨by decide, by have := val_lt r 4; omega, fun y hy => ⟨val_lt r y, okk_iff.mp (gdB_iff.mp h7).1 y (by omega), h5 y (by omega), h6 y (by omega)⟩, fun hh2 => ?_, ?_, fun q h1 h2 => ?_, ?_⟩ (fun z hz => ?_)
    · have hz := (gdB_iff.mp h7).2 hh2
      apply Nat.eq_of_testBit_eq
      intro i
      rw [Nat.zero_testBit]
      cases y : (pmk T (val r) 4).testBit i with
      | false => rfl
      | true =>
        have := pmk_mono (k' := 5) (by decide) y
        rw [hz, Nat.zero_testBit] at this
        cases this
    · rw [h5 4 (by decide)]
      unfold atI
      rw [if_neg (by omega)]
      congr 1
    · exfalso
      have hb := (blk (D := val r) (x := 4) (by decide) (fun y _ => val_lt r y) hr).mp (fun _ _ => rfl)
      obtain ⟨c1, c2⟩ := blk2 (D := val r) (x := 4) (by decide) (fun y _ => val_lt r y) hb
      have : q < pre (val r) 4 + (val r 4 + 1) * pw 4 := h2
      rw [show pw 4 = 1 from rfl, Nat.mul_one] at this c1 c2
      omega
    · have hb := (blk (D := val r) (x := 4) (by decide) (fun y _ => val_lt r y) hr).mp (fun _ _ => rfl)
      obtain ⟨c1, c2⟩ := blk2 (D := val r) (x := 4) (by decide) (fun y _ => val_lt r y) hb
      show r + 1 ≤ pre (val r) 4 + (val r 4 + 1) * pw 4
      rw [show pw 4 = 1 from rfl, Nat.mul_one] at c1 c2 ⊢
      omega
    · unfold f_X10_advance
      rw [jbd_e, h4, if_neg (by decide)]
      exact hz
theorem c_wbegin {T : TT} (h : Bool) (μ : jM) : ∃ m, f_X10_begin 167 (if h then 1 else 0) μ = some m ∧ WK T h 0 m ∧ jFr (fun c => c = 167) μ m := by
  unfold f_X10_begin jbz
  rw [if_pos (by cases h <;> simp), jbd_e, jbd_e]
  refine ⟨_, rfl, ⟨by rw [jsi_pl (by decide), jsi_at], Or.inl ⟨rfl, jsi_at _ _ _ _⟩⟩, jFr.tr (S := fun c => c = 167) (jFr.si _ _ _ rfl) (jFr.si _ _ _ rfl)⟩
