/-! the class's walk -/
theorem jmax_n {a b : Nat} (ha : a < 2 ^ 31) (hb : b < 2 ^ 31) : jmax (nI a) (nI b) = nI (max a b) := by
  unfold jmax
  by_cases c : a < b
  · rw [if_pos (nI_lt c hb), Nat.max_eq_right (by omega)]
  · rw [if_neg (nI_nlt (by omega) ha), Nat.max_eq_left (by omega)]
theorem c_breaks {i x s a b : Nat} {T : TT} {D : Nat → Nat} {μ : jM} (hT : RT 6 T μ) (hi : i < 8) (hs : s < 3) (ha : a < 5) (hb : b < 5) (e0 : T (29 + 4 * i) = nI s) (e1 : T (29 + (4 * i + 1)) = nI a) (e2 : T (29 + (4 * i + 2)) = nI b) (hd : -9 ≤ (T (29 + (4 * i + 3))).toInt ∧ (T (29 + (4 * i + 3))).toInt ≤ 9) (hx : x < 5) (hD : ∀ y, y ≤ x → μ.1 168 y = nI (D y) ∧ D y < 6) : f_X10_breaks 167 (nI (4 * i)) (nI x) μ = some (if baB T i D x then 1 else 0) := by
  have parts : ∀ k, k < 32 → μ.1 11 k = T (29 + k) := hT.2.2.2.2.2.2
  have hba : baB T i D x = true ↔ max a b = x ∧ ¬ hldB s (D a) (D b) (T (29 + (4 * i + 3))) := baB_iff.trans (BA_two hs ha hb e0 e1 e2)
  have a2 : nI (4 * i) + (2 : Int32) = nI (4 * i + 2) := by rw [jlit 2, nI_add]
  have a3 : nI (4 * i) + (3 : Int32) = nI (4 * i + 3) := by rw [jlit 3, nI_add]
  unfold f_X10_breaks
  rw [nI_1, a2, a3, jrd_n (by omega) (by decide), parts _ (by omega), e1, jrd_n (by omega) (by decide), parts _ (by omega), e2, jmax_n (by omega) (by omega)]
  by_cases c : max a b = x
  · obtain ⟨da, da6⟩ := hD a (by omega)
    obtain ⟨db, db6⟩ := hD b (by omega)
    have hh := r_holds (v := D a) (w := D b) hs da6 db6 hd
    have fin : ∀ w : Int32, ((w = 1 ↔ ¬ hldB s (D a) (D b) (T (29 + (4 * i + 3)))) ∧ (w = 0 ∨ w = 1)) → some (w &&& 1) = some (if baB T i D x then (1 : Int32) else 0) := fun w hw => by
      rcases hw.2 with z | z
      · have : baB T i D x = false := by
          cases q : baB T i D x with
          | false => rfl
          | true => have := hw.1.mpr (hba.mp q).2; rw [z] at this; exact absurd this (by decide)
        rw [z, this]; rfl
      · have : baB T i D x = true := hba.mpr ⟨c, hw.1.mp z⟩
        rw [z, this]; rfl
    rw [if_pos (by rw [c])]
    show jrd (μ.1 168) _ _ _ = _
    rw [jrd_n hb (by decide), db, jrd_n (by omega) (by decide), parts _ (by omega), jrd_n (by omega) (by decide), parts _ (by omega), e0]
    generalize hdd : T (29 + (4 * i + 3)) = d at hd hh fin
    have ev := nI_toInt (n := D a) (by omega)
    have ew := nI_toInt (n := D b) (by omega)
    have ea : (nI (D b) + d).toInt = D b + d.toInt := by
      rw [Int32.toInt_add, ew, Int.bmod_eq_of_le] <;> omega
    have eq : nI (D a) = nI (D b) + d ↔ (D a : Int) = D b + d.toInt := by
      rw [← Int32.toInt_inj, ev, ea]
    rcases (show s = 0 ∨ s = 1 ∨ s = 2 by omega) with q | q | q <;> subst q
    · rw [if_pos (show nI 0 = (0 : Int32) from rfl)]
      show jrd (μ.1 168) _ _ _ = _
      rw [jrd_n ha (by decide), da]
      refine fin _ ⟨?_, by split <;> simp⟩
      unfold hldB
      rw [if_pos rfl]
      by_cases y : nI (D a) < nI (D b) + d
      · rw [if_pos y]
        rw [i32_lt, ea, ev] at y
        exact ⟨fun z => absurd z (by decide), fun z => absurd y z⟩
      · rw [if_neg y]
        rw [i32_lt, ea, ev] at y
        exact ⟨fun _ => y, fun _ => rfl⟩
    · rw [if_neg (show ¬ nI 1 = (0 : Int32) by decide), if_pos (show nI 1 = (1 : Int32) from rfl)]
      show jrd (μ.1 168) _ _ _ = _
      rw [jrd_n ha (by decide), da]
      refine fin _ ⟨?_, by split <;> simp⟩
      unfold hldB
      rw [if_neg (show ¬ (1 : Nat) = 0 by decide), if_pos (show (1 : Nat) = 1 from rfl)]
      by_cases y : nI (D a) = nI (D b) + d
      · rw [if_pos y]
        exact ⟨fun z => absurd z (by decide), fun z => absurd (eq.mp y) z⟩
      · rw [if_neg y]
        exact ⟨fun _ z => y (eq.mpr z), fun _ => rfl⟩
    · rw [if_neg (show ¬ nI 2 = (0 : Int32) by decide), if_neg (show ¬ nI 2 = (1 : Int32) by decide)]
      show jrd (μ.1 168) _ _ _ = _
      rw [jrd_n ha (by decide), da]
      refine fin _ ⟨?_, by split <;> simp⟩
      unfold hldB
      rw [if_neg (show ¬ (2 : Nat) = 0 by decide), if_neg (show ¬ (2 : Nat) = 1 by decide)]
      by_cases y : nI (D a) = nI (D b) + d
      · rw [if_pos y]
        exact ⟨fun _ z => z (eq.mp y), fun _ => rfl⟩
      · rw [if_neg y]
        exact ⟨fun z => absurd z (by decide), fun z => absurd (fun q => y (eq.mpr q)) z⟩
  · have : baB T i D x = false := by
      cases q : baB T i D x with
      | false => rfl
      | true => exact absurd (hba.mp q).1 c
    rw [if_neg (fun z => c ((nI_eq (by omega) (by omega)).mp z)), this]
    rfl
theorem c_repeats {i x set : Nat} {T : TT} {D : Nat → Nat} {μ : jM} (hm : set < 32) (e0 : T (29 + 4 * i) = nI 3) (e1 : T (29 + (4 * i + 1)) = nI set) (hx : x < 5) (hD : ∀ y, y ≤ x → μ.1 168 y = nI (D y) ∧ D y < 6) : f_X10_repeats 167 (nI set) (nI x) μ = some (if baB T i D x then 1 else 0) := by
  have hba : baB T i D x = true ↔ set.testBit x = true ∧ ∃ y, y < x ∧ set.testBit y = true ∧ D y = D x := baB_iff.trans (BA_set hm e0 e1)
  unfold f_X10_repeats
  rw [nI_bit (by omega) (by omega)]
  cases q : set.testBit x with
  | false =>
    have : baB T i D x = false := by
      cases z : baB T i D x with
      | false => rfl
      | true => have := (hba.mp z).1; rw [q] at this; cases this
    rw [if_neg Bool.false_ne_true, if_pos rfl, this]
    rfl
  | true =>
    rw [if_pos rfl, if_neg (by decide)]
    obtain ⟨e, he, hr⟩ := jlp (step := fun (s : Int32) => f_X10_repeats_L12 167 (nI set) (nI x) μ s)
      (fun s => ∃ k, k ≤ x ∧ s = nI k ∧ ∀ y, y < k → ¬ (set.testBit y = true ∧ D y = D x)) (fun s => x - s.toNatClampNeg)
      (fun e => (e = .inl () ∧ ∃ y, y < x ∧ set.testBit y = true ∧ D y = D x) ∨ (e = .inr () ∧ ∀ y, y < x → ¬ (set.testBit y = true ∧ D y = D x)))
      (fun s hs => by
        obtain ⟨k, hk, rfl, g⟩ := hs
        by_cases c : k < x
        · have dec : x - (nI (k + 1)).toNatClampNeg < x - (nI k).toNatClampNeg := by rw [nI_clamp (by omega), nI_clamp (by omega)]; omega
          obtain ⟨k1, k2⟩ := hD k (by omega)
          obtain ⟨x1, x2⟩ := hD x (by omega)
          have pre : ∀ z, (if (if set.testBit k = true then (1 : Int32) else 0) = 1 then (if nI (D k) = nI (D x) then some (.inr (.inl ())) else some (.inl (nI (k + 1)))) else some (.inl (nI (k + 1)))) = z → f_X10_repeats_L12 167 (nI set) (nI x) μ (nI k) = z := fun z hz => by
            unfold f_X10_repeats_L12
            rw [if_neg (nI_ge c (by omega)), nI_bit (by omega) (by omega), nI_1]
            rw [← hz]
            by_cases y : (if set.testBit k = true then (1 : Int32) else 0) = 1
            · rw [if_pos y, if_pos y]
              show jrd (μ.1 168) _ _ _ = _
              rw [jrd_n (by omega) (by decide), k1]
              show jrd (μ.1 168) _ _ _ = _
              rw [jrd_n hx (by decide), x1]
            · rw [if_neg y, if_neg y]
          have next : ¬ (set.testBit k = true ∧ D k = D x) → ∀ y, y < k + 1 → ¬ (set.testBit y = true ∧ D y = D x) := fun h y hy => by
            by_cases z : y = k
            · rw [z]; exact h
            · exact g y (by omega)
          cases q2 : set.testBit k with
          | false =>
            rw [q2] at pre
            exact ⟨_, pre _ (if_neg (by decide)), ⟨k + 1, by omega, rfl, next (fun z => by rw [q2] at z; cases z.1)⟩, dec⟩
          | true =>
            rw [q2] at pre
            by_cases cd : D k = D x
            · exact ⟨.inr (.inl ()), pre _ (by rw [if_pos (by decide), if_pos (by rw [cd])]), Or.inl ⟨rfl, k, c, q2, cd⟩⟩
            · exact ⟨.inl (nI (k + 1)), pre _ (by rw [if_pos (by decide), if_neg (fun z => cd ((nI_eq (by omega) (by omega)).mp z))]), ⟨k + 1, by omega, rfl, next (fun z => cd z.2)⟩, dec⟩
        · have : k = x := by omega
          subst this
          refine ⟨.inr (.inr ()), ?_, Or.inr ⟨rfl, g⟩⟩
          unfold f_X10_repeats_L12
          rw [if_pos (nI_le (Nat.le_refl _) (by omega))])
      jfu (0 : Int32) ⟨0, by omega, rfl, fun y hy => absurd hy (Nat.not_lt_zero y)⟩ (by show x - _ < 2000000; omega)
    rw [jcl_e he]
    rcases hr with ⟨rfl, y⟩ | ⟨rfl, g⟩
    · rw [hba.mpr ⟨q, y⟩]; rfl
    · have : baB T i D x = false := by
        cases z : baB T i D x with
        | false => rfl
        | true =>
          obtain ⟨-, y, y1, y2⟩ := hba.mp z
          exact absurd y2 (g y y1)
      rw [this]; rfl
theorem c_brokenAt {x : Nat} {T : TT} {D : Nat → Nat} {μ : jM} (hT : RT 6 T μ) (hv : VT T) (hx : x < 5) (hD : ∀ y, y ≤ x → μ.1 168 y = nI (D y) ∧ D y < 6) : f_X10_brokenAt 167 (nI x) μ = some (nI (bm T D x (nc T))) := by
  have hn := hv.2.1.1
  have parts : ∀ k, k < 32 → μ.1 11 k = T (29 + k) := hT.2.2.2.2.2.2
  have e6 : μ.1 6 6 = nI (nc T) := by rw [hT.2.2.2.2.2.1]; exact hv.2.1.2
  obtain ⟨e, he, hr⟩ := jlpN (step := fun (s : Int32 × Int32) => f_X10_brokenAt_L4 167 (nI x) μ s.1 s.2) (nc T) (fun k s => s = (nI (bm T D x k), nI k)) (fun e => e = nI (bm T D x (nc T)))
    (fun k s hk hs => by
      subst hs
      refine ⟨(nI (bm T D x (k + 1)), nI (k + 1)), ?_, rfl⟩
      have hl := bm_lt T D x k (by omega)
      have hp : 2 ^ k < 256 := Nat.pow_lt_pow_right (n := 8) (by decide) (by omega)
      have e4 : (4 : Int32) * nI k = nI (4 * k) := by rw [jlit 4, pk_mul]
      have fin : (if (if baB T k D x then (1 : Int32) else 0) = (0 : Int32) then some (.inl ((nI (bm T D x k), nI (k + 1)))) else some (.inl ((nI (bm T D x k ||| 2 ^ k), nI (k + 1))))) = (some (.inl (nI (bm T D x (k + 1)), nI (k + 1))) : Option ((Int32 × Int32) ⊕ Int32)) := by
        rw [bm_s]
        cases baB T k D x with
        | true => rw [if_pos rfl, if_neg (by decide), if_pos rfl]
        | false => rw [if_neg Bool.false_ne_true, if_pos rfl, if_neg Bool.false_ne_true, Nat.or_zero]
      dsimp only
      unfold f_X10_brokenAt_L4
      simp only [jbd_e]
      rw [e6, if_neg (nI_ge hk (by omega)), e4, jrd_n (by omega) (by decide), parts _ (by omega), nI_1 k, nI_1 (4 * k), shl_n k (by omega), nI_or (by omega) (by omega)]
      rcases hv.2.2.2.2.2.2.2 k hk with ⟨s, a, b, hs, e0, ha, hb5, hab, e1, e2, hd⟩ | ⟨e0, m, hm, e1, -, -, -⟩
      · have n3 : ¬ nI s = (3 : Int32) := fun z => by
          have := (nI_eq (b := 3) (by omega) (by decide)).mp z
          omega
        rw [e0, if_neg n3, jcl_e (c_breaks hT (by omega) hs ha hb5 e0 e1 e2 hd hx hD)]
        exact fin
      · rw [e0, if_pos (by rfl), jrd_n (by omega) (by decide), parts _ (by omega), e1, jcl_e (c_repeats hm e0 e1 hx hD)]
        exact fin)
    (fun s hs => by
      subst hs
      refine ⟨_, ?_, rfl⟩
      dsimp only
      unfold f_X10_brokenAt_L4
      rw [e6, if_pos (nI_le (Nat.le_refl _) (by omega))])
    (i := 0) (n := jfu) (s := ((0 : Int32), (0 : Int32))) (by omega) rfl (jfu_lt (by omega))
  unfold f_X10_brokenAt
  rw [jcl_e he, hr]
/-! numbers of rows -/
def pw (x : Nat) : Nat := 6 ^ (4 - x)
def pre (D : Nat → Nat) : Nat → Nat
  | 0 => 0
  | x + 1 => pre D x + D x * pw x
theorem blk {D : Nat → Nat} {x r : Nat} (hx : x < 5) (hD : ∀ y, y < x → D y < 6) (hr : r < 7776) : (∀ y, y < x → val r y = D y) ↔ pre D x ≤ r ∧ r < pre D x + 6 * pw x := by
  have v0 : val r 0 = r / 1296 % 6 := rfl
  have v1 : val r 1 = r / 216 % 6 := rfl
  have v2 : val r 2 = r / 36 % 6 := rfl
  have v3 : val r 3 = r / 6 % 6 := rfl
  rcases (show x = 0 ∨ x = 1 ∨ x = 2 ∨ x = 3 ∨ x = 4 by omega) with q | q | q | q | q <;> subst q
  · exact ⟨fun _ => ⟨Nat.zero_le _, by show r < 0 + 6 * 1296; omega⟩, fun _ y hy => absurd hy (Nat.not_lt_zero y)⟩
  · have d0 := hD 0 (by omega)
    show _ ↔ 0 + D 0 * 1296 ≤ r ∧ r < 0 + D 0 * 1296 + 6 * 216
    constructor
    · intro h; have := h 0 (by omega); omega
    · intro h y hy; have : y = 0 := by omega
      subst this; omega
  · have d0 := hD 0 (by omega)
    have d1 := hD 1 (by omega)
    show _ ↔ 0 + D 0 * 1296 + D 1 * 216 ≤ r ∧ r < 0 + D 0 * 1296 + D 1 * 216 + 6 * 36
    constructor
    · intro h; have := h 0 (by omega); have := h 1 (by omega); omega
    · intro h y hy
      rcases (show y = 0 ∨ y = 1 by omega) with z | z <;> subst z <;> omega
  · have d0 := hD 0 (by omega)
    have d1 := hD 1 (by omega)
    have d2 := hD 2 (by omega)
    show _ ↔ 0 + D 0 * 1296 + D 1 * 216 + D 2 * 36 ≤ r ∧ r < 0 + D 0 * 1296 + D 1 * 216 + D 2 * 36 + 6 * 6
    constructor
    · intro h; have := h 0 (by omega); have := h 1 (by omega); have := h 2 (by omega); omega
    · intro h y hy
      rcases (show y = 0 ∨ y = 1 ∨ y = 2 by omega) with z | z | z <;> subst z <;> omega
  · have d0 := hD 0 (by omega)
    have d1 := hD 1 (by omega)
    have d2 := hD 2 (by omega)
    have d3 := hD 3 (by omega)
    show _ ↔ 0 + D 0 * 1296 + D 1 * 216 + D 2 * 36 + D 3 * 6 ≤ r ∧ r < 0 + D 0 * 1296 + D 1 * 216 + D 2 * 36 + D 3 * 6 + 6 * 1
    constructor
    · intro h; have := h 0 (by omega); have := h 1 (by omega); have := h 2 (by omega); have := h 3 (by omega); omega
    · intro h y hy
      rcases (show y = 0 ∨ y = 1 ∨ y = 2 ∨ y = 3 by omega) with z | z | z | z <;> subst z <;> omega
theorem blk2 {D : Nat → Nat} {x r : Nat} (hx : x < 5) (hD : ∀ y, y < x → D y < 6) (hb : pre D x ≤ r ∧ r < pre D x + 6 * pw x) : pre D x + val r x * pw x ≤ r ∧ r < pre D x + val r x * pw x + pw x := by
  have v0 : val r 0 = r / 1296 % 6 := rfl
  have v1 : val r 1 = r / 216 % 6 := rfl
  have v2 : val r 2 = r / 36 % 6 := rfl
  have v3 : val r 3 = r / 6 % 6 := rfl
  have v4 : val r 4 = r / 1 % 6 := rfl
  rcases (show x = 0 ∨ x = 1 ∨ x = 2 ∨ x = 3 ∨ x = 4 by omega) with q | q | q | q | q <;> subst q
  · have hb : 0 ≤ r ∧ r < 0 + 6 * 1296 := hb
    show 0 + val r 0 * 1296 ≤ r ∧ r < 0 + val r 0 * 1296 + 1296
    omega
  · have d0 := hD 0 (by omega)
    have hb : 0 + D 0 * 1296 ≤ r ∧ r < 0 + D 0 * 1296 + 6 * 216 := hb
    show 0 + D 0 * 1296 + val r 1 * 216 ≤ r ∧ r < 0 + D 0 * 1296 + val r 1 * 216 + 216
    omega
  · have d0 := hD 0 (by omega)
    have d1 := hD 1 (by omega)
    have hb : 0 + D 0 * 1296 + D 1 * 216 ≤ r ∧ r < 0 + D 0 * 1296 + D 1 * 216 + 6 * 36 := hb
    show 0 + D 0 * 1296 + D 1 * 216 + val r 2 * 36 ≤ r ∧ r < 0 + D 0 * 1296 + D 1 * 216 + val r 2 * 36 + 36
    omega
  · have d0 := hD 0 (by omega)
    have d1 := hD 1 (by omega)
    have d2 := hD 2 (by omega)
    have hb : 0 + D 0 * 1296 + D 1 * 216 + D 2 * 36 ≤ r ∧ r < 0 + D 0 * 1296 + D 1 * 216 + D 2 * 36 + 6 * 6 := hb
    show 0 + D 0 * 1296 + D 1 * 216 + D 2 * 36 + val r 3 * 6 ≤ r ∧ r < 0 + D 0 * 1296 + D 1 * 216 + D 2 * 36 + val r 3 * 6 + 6
    omega
  · have d0 := hD 0 (by omega)
    have d1 := hD 1 (by omega)
    have d2 := hD 2 (by omega)
    have d3 := hD 3 (by omega)
    have hb : 0 + D 0 * 1296 + D 1 * 216 + D 2 * 36 + D 3 * 6 ≤ r ∧ r < 0 + D 0 * 1296 + D 1 * 216 + D 2 * 36 + D 3 * 6 + 6 * 1 := hb
    show 0 + D 0 * 1296 + D 1 * 216 + D 2 * 36 + D 3 * 6 + val r 4 * 1 ≤ r ∧ r < 0 + D 0 * 1296 + D 1 * 216 + D 2 * 36 + D 3 * 6 + val r 4 * 1 + 1
    omega
theorem pw_s {x : Nat} (hx : x < 4) : pw x = 6 * pw (x + 1) := by
  rcases (show x = 0 ∨ x = 1 ∨ x = 2 ∨ x = 3 by omega) with q | q | q | q <;> subst q <;> rfl
theorem pw_pos (x : Nat) : 1 ≤ pw x := Nat.one_le_pow _ _ (by decide)
theorem pre_congr {D D' : Nat → Nat} : ∀ x, (∀ y, y < x → D y = D' y) → pre D x = pre D' x
  | 0, _ => rfl
  | x + 1, h => by
    show pre D x + D x * pw x = pre D' x + D' x * pw x
    rw [pre_congr x (fun y hy => h y (by omega)), h x (by omega)]
theorem pre_le {D : Nat → Nat} {x : Nat} (hx : x < 5) (hD : ∀ y, y < x → D y < 6) : pre D x + 6 * pw x ≤ 7776 := by
  rcases (show x = 0 ∨ x = 1 ∨ x = 2 ∨ x = 3 ∨ x = 4 by omega) with q | q | q | q | q <;> subst q
  · exact Nat.le_refl _
  · have d0 := hD 0 (by omega)
    show 0 + D 0 * 1296 + 6 * 216 ≤ 7776
    omega
  · have d0 := hD 0 (by omega)
    have d1 := hD 1 (by omega)
    show 0 + D 0 * 1296 + D 1 * 216 + 6 * 36 ≤ 7776
    omega
  · have d0 := hD 0 (by omega)
    have d1 := hD 1 (by omega)
    have d2 := hD 2 (by omega)
    show 0 + D 0 * 1296 + D 1 * 216 + D 2 * 36 + 6 * 6 ≤ 7776
    omega
  · have d0 := hD 0 (by omega)
    have d1 := hD 1 (by omega)
    have d2 := hD 2 (by omega)
    have d3 := hD 3 (by omega)
    show 0 + D 0 * 1296 + D 1 * 216 + D 2 * 36 + D 3 * 6 + 6 * 1 ≤ 7776
    omega
