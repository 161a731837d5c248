/-! the class: a constraint of two variables -/
theorem below_i (z : Int32) : ∃ q, q < 64 ∧ f_X6_below z = nI q ∧ ∀ v, v < 6 → (q.testBit v = true ↔ (v : Int) < z.toInt) := by
  have e0 : (0 : Int32).toInt = 0 := by decide
  have e6 : (6 : Int32).toInt = 6 := by decide
  by_cases c : 0 ≤ z.toInt ∧ z.toInt < 6
  · obtain ⟨j, hj, rfl⟩ := nI_iof (n := 6) c (by decide)
    obtain ⟨q, q1, q2, q3⟩ := bel_b j hj
    refine ⟨q, q1, q2, fun v hv => ?_⟩
    rw [q3 v hv, nI_toInt (by omega), decide_eq_true_iff]
    omega
  · unfold f_X6_below
    by_cases c1 : (0 : Int32) < z
    · have c2 : ¬ z < (6 : Int32) := by
        rw [i32_lt, e0] at c1
        rw [i32_lt, e6]
        omega
      rw [if_pos c1, if_neg c2]
      refine ⟨63, by decide, rfl, fun v hv => ⟨fun _ => ?_, fun _ => ?_⟩⟩
      · rw [i32_lt, e6] at c2; omega
      · rcases (show v = 0 ∨ v = 1 ∨ v = 2 ∨ v = 3 ∨ v = 4 ∨ v = 5 by omega) with q | q | q | q | q | q <;> subst q <;> decide
    · rw [if_neg c1]
      refine ⟨0, by decide, rfl, fun v hv => ⟨fun q => ?_, fun q => ?_⟩⟩
      · rw [Nat.zero_testBit] at q; cases q
      · rw [i32_lt, e0] at c1; omega
theorem moved_i {m : Nat} (hm : m < 64) (z : Int32) (hz : -9 ≤ z.toInt ∧ z.toInt ≤ 9) : ∃ q, q < 64 ∧ f_X6_moved (nI m) z = nI q ∧ ∀ v, v < 6 → (q.testBit v = true ↔ ∃ w, w < 6 ∧ m.testBit w = true ∧ (v : Int) = w + z.toInt) := by
  have e0 : (0 : Int32).toInt = 0 := by decide
  have mb : ∀ w, m.testBit w = true → w < 6 := fun w hw => by
    rcases Nat.lt_or_ge w 6 with q | q
    · exact q
    · have p : 64 ≤ 2 ^ w := Nat.pow_le_pow_right (n := 2) (by decide) q
      rw [Nat.testBit_lt_two_pow (by omega)] at hw
      cases hw
  unfold f_X6_moved
  by_cases c : z < (0 : Int32)
  · rw [if_pos c]
    rw [i32_lt, e0] at c
    have hneg : (-z).toInt = -z.toInt := by
      rw [Int32.toInt_neg, Int.bmod_eq_of_le] <;> omega
    obtain ⟨j, hj, ej⟩ := nI_iof (n := 10) (x := -z) ⟨by omega, by omega⟩ (by decide)
    have ej2 : z.toInt = -(j : Int) := by
      have := nI_toInt (n := j) (by omega)
      rw [← ej, hneg] at this
      omega
    rw [ej, jushr_n (by omega) (by omega), pk_andN (k := 6) (by have := Nat.div_le_self m (2 ^ j); omega) (by decide)]
    refine ⟨m / 2 ^ j % 2 ^ 6, Nat.mod_lt _ (by decide), rfl, fun v hv => ?_⟩
    have et : (m / 2 ^ j % 2 ^ 6).testBit v = m.testBit (j + v) := by
      rw [Nat.testBit_mod_two_pow, ← Nat.shiftRight_eq_div_pow, Nat.testBit_shiftRight]
      simp [hv]
    rw [et, ej2]
    constructor
    · intro h
      exact ⟨j + v, mb _ h, h, by omega⟩
    · rintro ⟨w, w1, w2, w3⟩
      rw [show j + v = w by omega]; exact w2
  · rw [if_neg c]
    rw [i32_lt, e0] at c
    obtain ⟨j, hj, rfl⟩ := nI_iof (n := 10) (x := z) ⟨by omega, by omega⟩ (by decide)
    have ej := nI_toInt (n := j) (by omega)
    have hb : m * 2 ^ j < 2 ^ 16 := by
      have h1 : 2 ^ j ≤ 2 ^ 9 := Nat.pow_le_pow_right (by decide) (by omega)
      calc m * 2 ^ j ≤ 63 * 2 ^ 9 := Nat.mul_le_mul (by omega) h1
        _ < 2 ^ 16 := by decide
    rw [pk_shlN (nI j &&& 31) j (shr_k j (by omega)) (by omega), pk_andN (k := 6) (by omega) (by decide)]
    refine ⟨m * 2 ^ j % 2 ^ 6, Nat.mod_lt _ (by decide), rfl, fun v hv => ?_⟩
    have et : (m * 2 ^ j % 2 ^ 6).testBit v = (decide (j ≤ v) && m.testBit (v - j)) := by
      rw [Nat.testBit_mod_two_pow, ← Nat.shiftLeft_eq, Nat.testBit_shiftLeft]
      simp [hv]
    rw [et, ej]
    simp only [Bool.and_eq_true, decide_eq_true_eq]
    constructor
    · rintro ⟨h1, h2⟩
      exact ⟨v - j, mb _ h2, h2, by omega⟩
    · rintro ⟨w, w1, w2, w3⟩
      exact ⟨by omega, by rw [show v - j = w by omega]; exact w2⟩
def dif (a b : Nat) : Nat := a &&& (a ^^^ b)
theorem dif_b (a b v : Nat) : (dif a b).testBit v = (a.testBit v && !b.testBit v) := by
  unfold dif
  rw [Nat.testBit_and, Nat.testBit_xor]
  cases a.testBit v <;> cases b.testBit v <;> rfl
theorem dif_lt {a : Nat} (b : Nat) {n : Nat} (h : a < n) : dif a b < n := Nat.lt_of_le_of_lt Nat.and_le_left h
theorem nI_dif {a b : Nat} (ha : a < 2 ^ 31) (hb : b < 2 ^ 31) : nI a &&& (nI b ^^^ (-1 : Int32)) = nI (dif a b) := by
  unfold dif
  rw [← nI_and ha (Nat.xor_lt_two_pow ha hb), ← nI_xor ha hb]
  apply Int32.toBitVec_inj.mp
  rw [Int32.toBitVec_and, Int32.toBitVec_and, Int32.toBitVec_xor, Int32.toBitVec_xor]
  have e : (-1 : Int32).toBitVec = BitVec.allOnes 32 := by decide
  rw [e]
  apply BitVec.eq_of_getLsbD_eq
  intro i hi
  rw [BitVec.getLsbD_and, BitVec.getLsbD_and, BitVec.getLsbD_xor, BitVec.getLsbD_xor, BitVec.getLsbD_allOnes]
  simp only [hi, decide_true]
  cases (nI a).toBitVec.getLsbD i <;> cases (nI b).toBitVec.getLsbD i <;> rfl
def cli (T : TT) (i : Nat) (M : LV) : Prop := ∀ x, x < 5 → ∀ v, v < 6 → (M x).testBit v = true → supp T i M x v
def BOK (T : TT) (i : Nat) (L : LV) (r : Int32) (L' : LV) : Prop := (r = 1 ∧ (∀ x, x < 5 → 0 < L' x ∧ L' x < 64) ∧ subL L' L ∧ (∀ M, subL M L → cli T i M → subL M L') ∧ ((∀ x, x < 5 → L' x = L x) → cli T i L)) ∨ (r = 0 ∧ ∃ x, x < 5 ∧ ∀ M, subL M L → cli T i M → ∀ v, v < 6 → (M x).testBit v = false)
theorem bok_two {T : TT} {i s a b A B : Nat} {L : LV} {r : Int32} (hs : s < 3) (ha : a < 5) (hb : b < 5) (hab : a ≠ b) (e0 : T (29 + 4 * i) = nI s) (e1 : T (29 + (4 * i + 1)) = nI a) (e2 : T (29 + (4 * i + 2)) = nI b)
    (h0 : ∀ x, x < 5 → 0 < L x ∧ L x < 64) (hA : A < 64) (hB : B < 64) (sA : ∀ v, v < 6 → A.testBit v = true → (L a).testBit v = true) (sB : ∀ v, v < 6 → B.testBit v = true → (L b).testBit v = true)
    (p1 : ∀ Ma Mb : Nat, (∀ v, v < 6 → Ma.testBit v = true → (L a).testBit v = true) → (∀ v, v < 6 → Mb.testBit v = true → (L b).testBit v = true) → (∀ v, v < 6 → Ma.testBit v = true → ∃ w, w < 6 ∧ Mb.testBit w = true ∧ hldB s v w (T (29 + (4 * i + 3)))) → (∀ w, w < 6 → Mb.testBit w = true → ∃ v, v < 6 ∧ Ma.testBit v = true ∧ hldB s v w (T (29 + (4 * i + 3)))) → (∀ v, v < 6 → Ma.testBit v = true → A.testBit v = true) ∧ (∀ w, w < 6 → Mb.testBit w = true → B.testBit w = true))
    (p3 : A = L a → B = L b → (∀ v, v < 6 → (L a).testBit v = true → ∃ w, w < 6 ∧ (L b).testBit w = true ∧ hldB s v w (T (29 + (4 * i + 3)))) ∧ (∀ w, w < 6 → (L b).testBit w = true → ∃ v, v < 6 ∧ (L a).testBit v = true ∧ hldB s v w (T (29 + (4 * i + 3)))))
    (hr : (A ≠ 0 ∧ B ≠ 0 ∧ r = 1) ∨ ((A = 0 ∨ B = 0) ∧ r = 0)) : BOK T i L r (va_up (va_up L a A) b B) := by
  have ub : va_up (va_up L a A) b B b = B := va_up_self _ _ _
  have ua : va_up (va_up L a A) b B a = A := by rw [va_up_ne _ _ hab, va_up_self]
  have uo : ∀ x, x ≠ a → x ≠ b → va_up (va_up L a A) b B x = L x := fun x h1 h2 => by rw [va_up_ne _ _ h2, va_up_ne _ _ h1]
  have pm : ∀ M, subL M L → cli T i M → (∀ v, v < 6 → (M a).testBit v = true → A.testBit v = true) ∧ (∀ w, w < 6 → (M b).testBit w = true → B.testBit w = true) := fun M h1 h2 =>
    p1 (M a) (M b) (fun v hv => h1 a ha v hv) (fun v hv => h1 b hb v hv) (fun v hv q => ((supp_two hs ha hb e0 e1 e2).mp (h2 a ha v hv q)).1 rfl) (fun w hw q => ((supp_two hs ha hb e0 e1 e2).mp (h2 b hb w hw q)).2 rfl)
  rcases hr with ⟨hA0, hB0, rfl⟩ | ⟨hz, rfl⟩
  · refine Or.inl ⟨rfl, fun x hx => ?_, fun x hx v hv q => ?_, fun M h1 h2 x hx v hv q => ?_, fun hE x hx v hv q => ?_⟩
    · by_cases ca : x = a
      · rw [ca, ua]; exact ⟨by omega, hA⟩
      · by_cases cb : x = b
        · rw [cb, ub]; exact ⟨by omega, hB⟩
        · rw [uo x ca cb]; exact h0 x hx
    · by_cases ca : x = a
      · rw [ca, ua] at q; rw [ca]; exact sA v hv q
      · by_cases cb : x = b
        · rw [cb, ub] at q; rw [cb]; exact sB v hv q
        · rw [uo x ca cb] at q; exact q
    · by_cases ca : x = a
      · rw [ca] at q; rw [ca, ua]; exact (pm M h1 h2).1 v hv q
      · by_cases cb : x = b
        · rw [cb] at q; rw [cb, ub]; exact (pm M h1 h2).2 v hv q
        · rw [uo x ca cb]; exact h1 x hx v hv q
    · have z1 := hE a ha
      have z2 := hE b hb
      rw [ua] at z1
      rw [ub] at z2
      obtain ⟨g1, g2⟩ := p3 z1 z2
      rw [supp_two hs ha hb e0 e1 e2]
      refine ⟨fun e => ?_, fun e => ?_⟩
      · rw [e] at q; exact g1 v hv q
      · rw [e] at q; exact g2 v hv q
  · refine Or.inr ⟨rfl, ?_⟩
    rcases hz with hz | hz
    · refine ⟨a, ha, fun M h1 h2 v hv => ?_⟩
      cases q : (M a).testBit v with
      | false => rfl
      | true => have := (pm M h1 h2).1 v hv q; rw [hz, Nat.zero_testBit] at this; cases this
    · refine ⟨b, hb, fun M h1 h2 v hv => ?_⟩
      cases q : (M b).testBit v with
      | false => rfl
      | true => have := (pm M h1 h2).2 v hv q; rw [hz, Nat.zero_testBit] at this; cases this
theorem and_b (a b v : Nat) : (a &&& b).testBit v = (a.testBit v && b.testBit v) := Nat.testBit_and a b v
theorem RLm.up {c x m : Nat} {L : LV} {μ : jM} (h : RLm c L μ) (hm : m < 64) : RLm c (va_up L x m) (jsi μ c x (nI m)) := fun y hy => by
  by_cases z : y = x
  · rw [z, jsi_at, va_up_self]; exact ⟨rfl, hm⟩
  · rw [jsi_pl z, va_up_ne _ _ z]; exact h y hy
theorem c_two {i s a b : Nat} {T : TT} {L : LV} {μ : jM} (hs : s < 3) (ha : a < 5) (hb : b < 5) (hab : a ≠ b) (e0 : T (29 + 4 * i) = nI s) (e1 : T (29 + (4 * i + 1)) = nI a) (e2 : T (29 + (4 * i + 2)) = nI b) (hd : -9 ≤ (T (29 + (4 * i + 3))).toInt ∧ (T (29 + (4 * i + 3))).toInt ≤ 9)
    (h0 : ∀ x, x < 5 → 0 < L x ∧ L x < 64) (hL : RLm 166 L μ) : ∃ r L' μ', f_X6_bearTwo 165 (nI s) (nI a) (nI b) (T (29 + (4 * i + 3))) μ = some (r, μ') ∧ RLm 166 L' μ' ∧ BOK T i L r L' ∧ jFr (fun q => q = 166) μ μ' := by
  generalize hdd : T (29 + (4 * i + 3)) = d at hd
  obtain ⟨la, ha64⟩ := hL a ha
  obtain ⟨lb', hb64⟩ := hL b hb
  have hba : b ≠ a := fun q => hab q.symm
  -- the two numbers that come
  have key : ∀ A B : Nat, A < 64 → B < 64 →
      (∀ z, (if nI A = (0 : Int32) then some ((0 : Int32), jsi (jsi μ 166 a (nI A)) 166 b (nI B)) else if nI B = (0 : Int32) then some (0, jsi (jsi μ 166 a (nI A)) 166 b (nI B)) else some (1, jsi (jsi μ 166 a (nI A)) 166 b (nI B))) = z → f_X6_bearTwo 165 (nI s) (nI a) (nI b) d μ = z) →
      (∀ v, v < 6 → A.testBit v = true → (L a).testBit v = true) → (∀ v, v < 6 → B.testBit v = true → (L b).testBit v = true) →
      (∀ Ma Mb : Nat, (∀ v, v < 6 → Ma.testBit v = true → (L a).testBit v = true) → (∀ v, v < 6 → Mb.testBit v = true → (L b).testBit v = true) → (∀ v, v < 6 → Ma.testBit v = true → ∃ w, w < 6 ∧ Mb.testBit w = true ∧ hldB s v w d) → (∀ w, w < 6 → Mb.testBit w = true → ∃ v, v < 6 ∧ Ma.testBit v = true ∧ hldB s v w d) → (∀ v, v < 6 → Ma.testBit v = true → A.testBit v = true) ∧ (∀ w, w < 6 → Mb.testBit w = true → B.testBit w = true)) →
      (A = L a → B = L b → (∀ v, v < 6 → (L a).testBit v = true → ∃ w, w < 6 ∧ (L b).testBit w = true ∧ hldB s v w d) ∧ (∀ w, w < 6 → (L b).testBit w = true → ∃ v, v < 6 ∧ (L a).testBit v = true ∧ hldB s v w d)) →
      ∃ r L' μ', f_X6_bearTwo 165 (nI s) (nI a) (nI b) d μ = some (r, μ') ∧ RLm 166 L' μ' ∧ BOK T i L r L' ∧ jFr (fun q => q = 166) μ μ' := by
    intro A B hA hB hf sA sB p1 p3
    rw [← hdd] at p1 p3
    have hRL : RLm 166 (va_up (va_up L a A) b B) (jsi (jsi μ 166 a (nI A)) 166 b (nI B)) := (hL.up hA).up hB
    have hfr : jFr (fun q => q = 166) μ (jsi (jsi μ 166 a (nI A)) 166 b (nI B)) := jFr.tr (S := fun q => q = 166) (jFr.si _ _ _ rfl) (jFr.si _ _ _ rfl)
    by_cases cA : A = 0
    · exact ⟨0, _, _, hf _ (if_pos (by rw [cA]; rfl)), hRL, bok_two hs ha hb hab e0 e1 e2 h0 hA hB sA sB p1 p3 (Or.inr ⟨Or.inl cA, rfl⟩), hfr⟩
    · by_cases cB : B = 0
      · exact ⟨0, _, _, hf _ (by rw [if_neg (nI_ne0 (by omega) (by omega)), if_pos (by rw [cB]; rfl)]), hRL, bok_two hs ha hb hab e0 e1 e2 h0 hA hB sA sB p1 p3 (Or.inr ⟨Or.inr cB, rfl⟩), hfr⟩
      · exact ⟨1, _, _, hf _ (by rw [if_neg (nI_ne0 (by omega) (by omega)), if_neg (nI_ne0 (by omega) (by omega))]), hRL, bok_two hs ha hb hab e0 e1 e2 h0 hA hB sA sB p1 p3 (Or.inl ⟨cA, cB, rfl⟩), hfr⟩
  have fin : ∀ (m : jM) (A B : Nat), m.1 166 a = nI A → m.1 166 b = nI B → jrd (m.1 (165 + 1)) (nI a) 5 (fun v6 => (if v6 = (0 : Int32) then some (((0 : Int32), m)) else jrd (m.1 (165 + 1)) (nI b) 5 (fun v10 => (if v10 = (0 : Int32) then some (((0 : Int32), m)) else some (((1 : Int32), m)))))) = if nI A = (0 : Int32) then some (0, m) else if nI B = (0 : Int32) then some (0, m) else some (1, m) := fun m A B hA hB => by
    show jrd (m.1 166) _ _ _ = _
    rw [jrd_n ha (by decide), hA]
    by_cases c : nI A = 0
    · rw [if_pos c, if_pos c]
    · rw [if_neg c, if_neg c]
      show jrd (m.1 166) _ _ _ = _
      rw [jrd_n hb (by decide), hB]
  rcases (show s = 0 ∨ s = 1 ∨ s = 2 by omega) with q | q | q <;> subst q
  · -- less
    have Lb0 : L b ≠ 0 := by have := (h0 b hb).1; omega
    obtain ⟨jx, jx6, jxe, jx1, jx2⟩ := mx_b (L b) hb64 Lb0
    obtain ⟨q1, q1l, q1e, q1b⟩ := below_i (nI jx + d)
    have ez1 : (nI jx + d).toInt = jx + d.toInt := by
      rw [Int32.toInt_add, nI_toInt (by omega), Int.bmod_eq_of_le] <;> omega
    have hA : L a &&& q1 < 64 := Nat.lt_of_le_of_lt Nat.and_le_left ha64
    have hmn : ∃ jn, jn ≤ 32 ∧ f_J6_numberOfTrailingZeros_0f7a4 (nI (L a &&& q1)) = nI jn ∧ (L a &&& q1 ≠ 0 → jn < 6 ∧ (L a &&& q1).testBit jn = true ∧ ∀ w, w < 6 → (L a &&& q1).testBit w = true → jn ≤ w) ∧ (L a &&& q1 = 0 → jn = 32) := by
      by_cases c : L a &&& q1 = 0
      · exact ⟨32, by omega, by rw [c]; exact mn_0, fun z => absurd c z, fun _ => rfl⟩
      · obtain ⟨j, j6, je, j1, j2⟩ := mn_b _ hA c
        exact ⟨j, by omega, je, fun _ => ⟨j6, j1, j2⟩, fun z => absurd z c⟩
    obtain ⟨jn, jn32, jne, jn1, jn2⟩ := hmn
    obtain ⟨q2, q2l, q2e, q2b⟩ := below_i (nI jn - d + 1)
    have ez2 : (nI jn - d + 1).toInt = jn - d.toInt + 1 := by
      have : (1 : Int32).toInt = 1 := by decide
      have h1 : (nI jn - d).toInt = jn - d.toInt := by
        rw [Int32.toInt_sub, nI_toInt (by omega), Int.bmod_eq_of_le] <;> omega
      rw [Int32.toInt_add, h1, this, Int.bmod_eq_of_le] <;> omega
    have bA : ∀ v, v < 6 → ((L a &&& q1).testBit v = true ↔ (L a).testBit v = true ∧ (v : Int) < jx + d.toInt) := fun v hv => by
      rw [and_b, Bool.and_eq_true, q1b v hv, ez1]
    have bB : ∀ v, v < 6 → ((dif (L b) q2).testBit v = true ↔ (L b).testBit v = true ∧ ¬ (v : Int) < jn - d.toInt + 1) := fun v hv => by
      have := q2b v hv
      rw [ez2] at this
      rw [dif_b, Bool.and_eq_true, Bool.not_eq_true', ← this]
      cases q2.testBit v <;> simp
    refine key (L a &&& q1) (dif (L b) q2) hA (dif_lt _ hb64) (fun z hz => ?_) (fun v hv q => ((bA v hv).mp q).1) (fun v hv q => ((bB v hv).mp q).1) (fun Ma Mb s1 s2 g1 g2 => ?_) (fun w1 w2 => ?_)
    · unfold f_X6_bearTwo
      rw [jbd_e, if_pos (show nI 0 = (0 : Int32) from rfl)]
      show jrd (μ.1 166) _ _ _ = _
      rw [jrd_n ha (by decide), la]
      show jrd (μ.1 166) _ _ _ = _
      rw [jrd_n hb (by decide), lb', jxe, q1e, nI_and (by omega) (by omega), jin_n ha (by decide), nI_clamp (by omega), jbd_e]
      show jrd ((jsi μ 166 a (nI (L a &&& q1))).1 166) _ _ _ = _
      rw [jrd_n hb (by decide), jsi_pl hba, lb']
      show jrd ((jsi μ 166 a (nI (L a &&& q1))).1 166) _ _ _ = _
      rw [jrd_n ha (by decide), jsi_at, jne, q2e, nI_dif (by omega) (by omega), jin_n hb (by decide), nI_clamp (by omega), jbd_e]
      exact (fin (jsi (jsi μ 166 a (nI (L a &&& q1))) 166 b (nI (dif (L b) q2))) (L a &&& q1) (dif (L b) q2) (by rw [jsi_pl hab, jsi_at]) (jsi_at _ _ _ _)).trans hz
    · have r1 : ∀ v, v < 6 → Ma.testBit v = true → (L a &&& q1).testBit v = true := fun v hv q => by
        obtain ⟨w, w1, w2, w3⟩ := g1 v hv q
        unfold hldB at w3
        rw [if_pos rfl] at w3
        have := jx2 w w1 (s2 w w1 w2)
        exact (bA v hv).mpr ⟨s1 v hv q, by omega⟩
      refine ⟨r1, fun w hw q => ?_⟩
      obtain ⟨v, v1, v2, v3⟩ := g2 w hw q
      unfold hldB at v3
      rw [if_pos rfl] at v3
      have rv := r1 v v1 v2
      have hne : L a &&& q1 ≠ 0 := fun z => by rw [z, Nat.zero_testBit] at rv; cases rv
      have := (jn1 hne).2.2 v v1 rv
      exact (bB w hw).mpr ⟨s2 w hw q, by omega⟩
    · refine ⟨fun v hv q => ⟨jx, jx6, jx1, ?_⟩, fun w hw q => ?_⟩
      · unfold hldB
        rw [if_pos rfl]
        rw [← w1] at q
        exact ((bA v hv).mp q).2
      · have hne : L a &&& q1 ≠ 0 := by rw [w1]; have := (h0 a ha).1; omega
        obtain ⟨n1, n2, n3⟩ := jn1 hne
        rw [w1] at n2
        refine ⟨jn, n1, n2, ?_⟩
        unfold hldB
        rw [if_pos rfl]
        rw [← w2] at q
        have := ((bB w hw).mp q).2
        omega
  · -- equal
    obtain ⟨q1, q1l, q1e, q1b⟩ := moved_i hb64 d hd
    have hA : L a &&& q1 < 64 := Nat.lt_of_le_of_lt Nat.and_le_left ha64
    have hneg : (-d).toInt = -d.toInt := by rw [Int32.toInt_neg, Int.bmod_eq_of_le] <;> omega
    obtain ⟨q2, q2l, q2e, q2b⟩ := moved_i hA (-d) (by omega)
    rw [hneg] at q2b
    have hB : L b &&& q2 < 64 := Nat.lt_of_le_of_lt Nat.and_le_left hb64
    have hl : ∀ v w : Nat, hldB 1 v w d ↔ (v : Int) = w + d.toInt := fun v w => by
      unfold hldB
      rw [if_neg (by decide), if_pos rfl]
    have bA : ∀ v, v < 6 → ((L a &&& q1).testBit v = true ↔ (L a).testBit v = true ∧ ∃ w, w < 6 ∧ (L b).testBit w = true ∧ (v : Int) = w + d.toInt) := fun v hv => by
      rw [and_b, Bool.and_eq_true, q1b v hv]
    have bB : ∀ v, v < 6 → ((L b &&& q2).testBit v = true ↔ (L b).testBit v = true ∧ ∃ w, w < 6 ∧ (L a &&& q1).testBit w = true ∧ (v : Int) = w + -d.toInt) := fun v hv => by
      rw [and_b, Bool.and_eq_true, q2b v hv]
    refine key (L a &&& q1) (L b &&& q2) hA hB (fun z hz => ?_) (fun v hv q => ((bA v hv).mp q).1) (fun v hv q => ((bB v hv).mp q).1) (fun Ma Mb s1 s2 g1 g2 => ?_) (fun w1 w2 => ?_)
    · unfold f_X6_bearTwo
      rw [jbd_e, if_neg (show ¬ nI 1 = (0 : Int32) by decide), if_pos (show nI 1 = (1 : Int32) from rfl)]
      show jrd (μ.1 166) _ _ _ = _
      rw [jrd_n ha (by decide), la]
      show jrd (μ.1 166) _ _ _ = _
      rw [jrd_n hb (by decide), lb', q1e, nI_and (by omega) (by omega), jin_n ha (by decide), nI_clamp (by omega), jbd_e]
      show jrd ((jsi μ 166 a (nI (L a &&& q1))).1 166) _ _ _ = _
      rw [jrd_n hb (by decide), jsi_pl hba, lb']
      show jrd ((jsi μ 166 a (nI (L a &&& q1))).1 166) _ _ _ = _
      rw [jrd_n ha (by decide), jsi_at, q2e, nI_and (by omega) (by omega), jin_n hb (by decide), nI_clamp (by omega), jbd_e]
      exact (fin (jsi (jsi μ 166 a (nI (L a &&& q1))) 166 b (nI (L b &&& q2))) (L a &&& q1) (L b &&& q2) (by rw [jsi_pl hab, jsi_at]) (jsi_at _ _ _ _)).trans hz
    · have r1 : ∀ v, v < 6 → Ma.testBit v = true → (L a &&& q1).testBit v = true := fun v hv q => by
        obtain ⟨w, w1, w2, w3⟩ := g1 v hv q
        exact (bA v hv).mpr ⟨s1 v hv q, w, w1, s2 w w1 w2, (hl v w).mp w3⟩
      refine ⟨r1, fun w hw q => ?_⟩
      obtain ⟨v, v1, v2, v3⟩ := g2 w hw q
      have := (hl v w).mp v3
      exact (bB w hw).mpr ⟨s2 w hw q, v, v1, r1 v v1 v2, by omega⟩
    · refine ⟨fun v hv q => ?_, fun w hw q => ?_⟩
      · rw [← w1] at q
        obtain ⟨-, w, z1, z2, z3⟩ := (bA v hv).mp q
        exact ⟨w, z1, z2, (hl v w).mpr z3⟩
      · rw [← w2] at q
        obtain ⟨-, v, z1, z2, z3⟩ := (bB w hw).mp q
        rw [w1] at z2
        exact ⟨v, z1, z2, (hl v w).mpr (by omega)⟩
  · -- unequal
    have hl : ∀ v w : Nat, hldB 2 v w d ↔ ¬ (v : Int) = w + d.toInt := fun v w => by
      unfold hldB
      rw [if_neg (by decide), if_neg (by decide)]
    obtain ⟨q1, q1l, q1e, q1b⟩ := moved_i hb64 d hd
    have hneg : (-d).toInt = -d.toInt := by rw [Int32.toInt_neg, Int.bmod_eq_of_le] <;> omega
    have hA : (if pc (L b) = 1 then dif (L a) q1 else L a) < 64 := by
      split
      · exact dif_lt _ ha64
      · exact ha64
    obtain ⟨q2, q2l, q2e, q2b⟩ := moved_i hA (-d) (by omega)
    rw [hneg] at q2b
    generalize hAA : (if pc (L b) = 1 then dif (L a) q1 else L a) = A at hA q2e q2b
    have hB : (if pc A = 1 then dif (L b) q2 else L b) < 64 := by
      split
      · exact dif_lt _ hb64
      · exact hb64
    generalize hBB : (if pc A = 1 then dif (L b) q2 else L b) = B at hB
    have sA : ∀ v, v < 6 → A.testBit v = true → (L a).testBit v = true := fun v hv q => by
      rw [← hAA] at q
      by_cases c : pc (L b) = 1
      · rw [if_pos c, dif_b, Bool.and_eq_true] at q; exact q.1
      · rw [if_neg c] at q; exact q
    have sB : ∀ v, v < 6 → B.testBit v = true → (L b).testBit v = true := fun v hv q => by
      rw [← hBB] at q
      by_cases c : pc A = 1
      · rw [if_pos c, dif_b, Bool.and_eq_true] at q; exact q.1
      · rw [if_neg c] at q; exact q
    refine key A B hA hB (fun z hz => ?_) sA sB (fun Ma Mb s1 s2 g1 g2 => ?_) (fun w1 w2 => ?_)
    · unfold f_X6_bearTwo
      simp only [jbd_e]
      rw [if_neg (show ¬ nI 2 = (0 : Int32) by decide), if_neg (show ¬ nI 2 = (1 : Int32) by decide)]
      show jrd (μ.1 166) _ _ _ = _
      rw [jrd_n hb (by decide), lb', c_bits _ (by omega)]
      have second : ∀ m : jM, m.1 166 a = nI A → m.1 166 b = nI (L b) → (jsi m 166 b (nI B) = jsi (jsi μ 166 a (nI A)) 166 b (nI B)) → (pc A ≠ 1 → m = jsi (jsi μ 166 a (nI A)) 166 b (nI B)) → jrd (m.1 (165 + 1)) (nI a) 5 (fun v23 => (if (f_J6_bitCount_0f7a4 v23) = (1 : Int32) then jrd (m.1 (165 + 1)) (nI b) 5 (fun v27 => jrd (m.1 (165 + 1)) (nI a) 5 (fun v30 => jin (nI b) 5 (jrd ((jsi m (165 + 1) (nI b).toNatClampNeg (v27 &&& ((f_X6_moved v30 (-d)) ^^^ (-1 : Int32)))).1 (165 + 1)) (nI a) 5 (fun v6 => (if v6 = (0 : Int32) then some (((0 : Int32), jsi m (165 + 1) (nI b).toNatClampNeg (v27 &&& ((f_X6_moved v30 (-d)) ^^^ (-1 : Int32))))) else jrd ((jsi m (165 + 1) (nI b).toNatClampNeg (v27 &&& ((f_X6_moved v30 (-d)) ^^^ (-1 : Int32)))).1 (165 + 1)) (nI b) 5 (fun v10 => (if v10 = (0 : Int32) then some (((0 : Int32), jsi m (165 + 1) (nI b).toNatClampNeg (v27 &&& ((f_X6_moved v30 (-d)) ^^^ (-1 : Int32))))) else some (((1 : Int32), jsi m (165 + 1) (nI b).toNatClampNeg (v27 &&& ((f_X6_moved v30 (-d)) ^^^ (-1 : Int32))))))))))))  else jrd (m.1 (165 + 1)) (nI a) 5 (fun v6 => (if v6 = (0 : Int32) then some (((0 : Int32), m)) else jrd (m.1 (165 + 1)) (nI b) 5 (fun v10 => (if v10 = (0 : Int32) then some (((0 : Int32), m)) else some (((1 : Int32), m)))))))) = z := by
        intro m ma mb me mn
        show jrd (m.1 166) _ _ _ = _
        have pA := pc_le A
        rw [jrd_n ha (by decide), ma, c_bits _ (by omega)]
        by_cases c : pc A = 1
        · rw [if_pos (by rw [c]; rfl)]
          show jrd (m.1 166) _ _ _ = _
          rw [jrd_n hb (by decide), mb]
          show jrd (m.1 166) _ _ _ = _
          rw [jrd_n ha (by decide), ma, q2e, nI_dif (by omega) (by omega), jin_n hb (by decide), nI_clamp (by omega)]
          have eB : dif (L b) q2 = B := by rw [← hBB, if_pos c]
          rw [eB]
          have := fin (jsi m 166 b (nI B)) A B (by rw [jsi_pl hab]; exact ma) (jsi_at _ _ _ _)
          refine Eq.trans this ?_
          rw [me]
          exact hz
        · have n1 : ¬ nI (pc A) = (1 : Int32) := fun z => c ((nI_eq (b := 1) (by omega) (by decide)).mp z)
          rw [if_neg n1]
          have eB : L b = B := by rw [← hBB, if_neg c]
          refine Eq.trans (fin m A B ma (by rw [mb, eB])) ?_
          rw [mn c]
          exact hz
      have pB := pc_le (L b)
      by_cases c : pc (L b) = 1
      · rw [if_pos (by rw [c]; rfl)]
        show jrd (μ.1 166) _ _ _ = _
        rw [jrd_n ha (by decide), la]
        show jrd (μ.1 166) _ _ _ = _
        rw [jrd_n hb (by decide), lb', q1e, nI_dif (by omega) (by omega), jin_n ha (by decide), nI_clamp (by omega)]
        have eA : dif (L a) q1 = A := by rw [← hAA, if_pos c]
        rw [eA]
        refine second (jsi μ 166 a (nI A)) (jsi_at _ _ _ _) (by rw [jsi_pl hba]; exact lb') rfl (fun c2 => ?_)
        have eB : L b = B := by rw [← hBB, if_neg c2]
        apply Prod.ext
        · funext y k
          by_cases cy : y = 166
          · subst cy
            by_cases ck : k = b
            · rw [ck, jsi_at, jsi_pl hba, lb', eB]
            · rw [jsi_pl ck]
          · rw [jsi_ne (a := 166) cy, jsi_ne (a := 166) cy, jsi_ne (a := 166) cy]
        · rfl
      · have n1 : ¬ nI (pc (L b)) = (1 : Int32) := fun z => c ((nI_eq (b := 1) (by omega) (by decide)).mp z)
        rw [if_neg n1]
        have eA : L a = A := by rw [← hAA, if_neg c]
        have em : jsi μ 166 a (nI A) = μ := by
          apply Prod.ext
          · funext y k
            by_cases cy : y = 166
            · subst cy
              by_cases ck : k = a
              · rw [ck, jsi_at, ← eA, la]
              · rw [jsi_pl ck]
            · rw [jsi_ne (a := 166) cy]
          · rfl
        refine second μ (by rw [la, eA]) lb' (by rw [em]) (fun c2 => ?_)
        have eB : L b = B := by rw [← hBB, if_neg c2]
        rw [em]
        apply Prod.ext
        · funext y k
          by_cases cy : y = 166
          · subst cy
            by_cases ck : k = b
            · rw [ck, jsi_at, lb', eB]
            · rw [jsi_pl ck]
          · rw [jsi_ne (a := 166) cy]
        · rfl
    · have r1 : ∀ v, v < 6 → Ma.testBit v = true → A.testBit v = true := fun v hv q => by
        rw [← hAA]
        by_cases c : pc (L b) = 1
        · rw [if_pos c, dif_b, s1 v hv q]
          obtain ⟨w, w1, w2, w3⟩ := g1 v hv q
          obtain ⟨j, j6, j1⟩ := one_b (L b) hb64 c
          have ew := (j1 w w1).mp (s2 w w1 w2)
          cases z : q1.testBit v with
          | false => rfl
          | true =>
            obtain ⟨y, y1, y2, y3⟩ := (q1b v hv).mp z
            have ey := (j1 y y1).mp y2
            exact absurd (by rw [ew, ← ey]; exact y3) ((hl v w).mp w3)
        · rw [if_neg c]; exact s1 v hv q
      refine ⟨r1, fun w hw q => ?_⟩
      rw [← hBB]
      by_cases c : pc A = 1
      · rw [if_pos c, dif_b, s2 w hw q]
        obtain ⟨v, v1, v2, v3⟩ := g2 w hw q
        obtain ⟨j, j6, j1⟩ := one_b A hA c
        have ev := (j1 v v1).mp (r1 v v1 v2)
        cases z : q2.testBit w with
        | false => rfl
        | true =>
          obtain ⟨y, y1, y2, y3⟩ := (q2b w hw).mp z
          have ey := (j1 y y1).mp y2
          exact absurd (by rw [ev, ← ey]; omega) ((hl v w).mp v3)
      · rw [if_neg c]; exact s2 w hw q
    · have La0 : L a ≠ 0 := by have := (h0 a ha).1; omega
      have Lb0 : L b ≠ 0 := by have := (h0 b hb).1; omega
      refine ⟨fun v hv q => ?_, fun w hw q => ?_⟩
      · by_cases c : pc (L b) = 1
        · obtain ⟨j, j6, j1⟩ := one_b (L b) hb64 c
          refine ⟨j, j6, (j1 j j6).mpr rfl, (hl v j).mpr (fun z => ?_)⟩
          rw [← w1, ← hAA, if_pos c, dif_b, Bool.and_eq_true, Bool.not_eq_true'] at q
          have := (q1b v hv).mpr ⟨j, j6, (j1 j j6).mpr rfl, z⟩
          rw [this] at q
          cases q.2
        · obtain ⟨j, j6, k, k6, hjk, b1, b2⟩ := two_b (L b) hb64 Lb0 c
          by_cases z : (v : Int) = j + d.toInt
          · exact ⟨k, k6, b2, (hl v k).mpr (by omega)⟩
          · exact ⟨j, j6, b1, (hl v j).mpr z⟩
      · by_cases c : pc A = 1
        · obtain ⟨j, j6, j1⟩ := one_b A hA c
          have bj := (j1 j j6).mpr rfl
          refine ⟨j, j6, by rw [← w1]; exact bj, (hl j w).mpr (fun z => ?_)⟩
          rw [← w2, ← hBB, if_pos c, dif_b, Bool.and_eq_true, Bool.not_eq_true'] at q
          have := (q2b w hw).mpr ⟨j, j6, bj, by omega⟩
          rw [this] at q
          cases q.2
        · rw [w1] at c
          obtain ⟨j, j6, k, k6, hjk, b1, b2⟩ := two_b (L a) ha64 La0 c
          by_cases z : (j : Int) = w + d.toInt
          · exact ⟨k, k6, b2, (hl k w).mpr (by omega)⟩
          · exact ⟨j, j6, b1, (hl j w).mpr z⟩
