/-! counting, and Hall's theorem -/
def cnt (p : Nat → Bool) : Nat → Nat
  | 0 => 0
  | k + 1 => cnt p k + (if p k then 1 else 0)
theorem cnt_s (p : Nat → Bool) (k : Nat) : cnt p (k + 1) = cnt p k + (if p k then 1 else 0) := rfl
theorem cnt_mono {p q : Nat → Bool} : ∀ k, (∀ i, i < k → p i = true → q i = true) → cnt p k ≤ cnt q k
  | 0, _ => Nat.le_refl _
  | k + 1, h => by
    have := cnt_mono (p := p) (q := q) k (fun i hi => h i (by omega))
    rw [cnt_s, cnt_s]
    have hk := h k (by omega)
    cases a : p k with
    | false => simp; omega
    | true => rw [hk a]; simp; omega
theorem cnt_congr {p q : Nat → Bool} {k : Nat} (h : ∀ i, i < k → p i = q i) : cnt p k = cnt q k :=
  Nat.le_antisymm (cnt_mono k (fun i hi e => by rw [← h i hi]; exact e)) (cnt_mono k (fun i hi e => by rw [h i hi]; exact e))
theorem cnt_split (p q : Nat → Bool) : ∀ k, cnt (fun i => p i || q i) k = cnt p k + cnt (fun i => q i && !p i) k
  | 0 => rfl
  | k + 1 => by
    have := cnt_split p q k
    rw [cnt_s, cnt_s, cnt_s, this]
    cases p k <;> cases q k <;> simp <;> omega
theorem cnt_pos {p : Nat → Bool} : ∀ {k}, 0 < cnt p k → ∃ i, i < k ∧ p i = true
  | 0, h => by cases h
  | k + 1, h => by
    rw [cnt_s] at h
    cases a : p k with
    | true => exact ⟨k, by omega, a⟩
    | false =>
      rw [a] at h
      obtain ⟨i, hi, hp⟩ := cnt_pos (k := k) (by simpa using h)
      exact ⟨i, by omega, hp⟩
theorem cnt_one {p : Nat → Bool} : ∀ {k i : Nat}, i < k → p i = true → 0 < cnt p k
  | 0, i, h, _ => by omega
  | k + 1, i, h, hp => by
    rw [cnt_s]
    by_cases c : i = k
    · rw [← c, hp]; simp
    · have := cnt_one (k := k) (i := i) (by omega) hp
      omega
theorem cnt_zero {p : Nat → Bool} {k : Nat} (h : cnt p k = 0) : ∀ i, i < k → p i = false := fun i hi => by
  cases a : p i with
  | false => rfl
  | true => have := cnt_one hi a; omega
theorem cnt_del (p : Nat → Bool) (u : Nat) : ∀ k, cnt p k ≤ cnt (fun i => p i && !(i == u)) k + 1 ∧ (u < k → p u = true → cnt p k = cnt (fun i => p i && !(i == u)) k + 1)
  | 0 => ⟨by show 0 ≤ 0 + 1; omega, fun h => by omega⟩
  | k + 1 => by
    have ih := cnt_del p u k
    rw [cnt_s, cnt_s]
    by_cases c : k = u
    · have e : cnt p k = cnt (fun i => p i && !(i == u)) k := cnt_congr (fun i hi => by
        have : (i == u) = false := by simp; omega
        rw [this]; simp)
      have eu : (k == u) = true := by simp [c]
      simp only [eu, Bool.not_true, Bool.and_false]
      refine ⟨by rw [e]; split <;> simp, fun _ hp => ?_⟩
      have hp' : p k = true := by rw [c]; exact hp
      rw [hp', e]
      simp
    · have eu : (k == u) = false := by simp [c]
      simp only [eu, Bool.not_false, Bool.and_true]
      refine ⟨by have := ih.1; omega, fun hu hp => ?_⟩
      have := ih.2 (by omega) hp
      omega
/-- pigeons -/
theorem pig {P U : Nat → Bool} {s : Nat → Nat} : ∀ k, (∀ x, x < k → P x = true → s x < 6 ∧ U (s x) = true) → (∀ x y, x < k → y < k → P x = true → P y = true → s x = s y → x = y) → cnt P k ≤ cnt U 6 := by
  intro k
  induction k generalizing U with
  | zero => intro _ _; exact Nat.zero_le _
  | succ k ih =>
    intro h1 h2
    rw [cnt_s]
    cases a : P k with
    | false =>
      have := ih (U := U) (fun x hx => h1 x (by omega)) (fun x y hx hy => h2 x y (by omega) (by omega))
      simpa using this
    | true =>
      obtain ⟨b1, b2⟩ := h1 k (by omega) a
      have e := (cnt_del U (s k) 6).2 b1 b2
      have := ih (U := fun i => U i && !(i == s k)) (fun x hx hp => by
        obtain ⟨c1, c2⟩ := h1 x (by omega) hp
        refine ⟨c1, ?_⟩
        have : s x ≠ s k := fun q => by have := h2 x k (by omega) (by omega) hp a q; omega
        simp [c2, this]) (fun x y hx hy => h2 x y (by omega) (by omega))
      simp
      omega
theorem pig_on {P U : Nat → Bool} {s : Nat → Nat} {k : Nat} (h1 : ∀ x, x < k → P x = true → s x < 6 ∧ U (s x) = true) (h2 : ∀ x y, x < k → y < k → P x = true → P y = true → s x = s y → x = y) (he : cnt U 6 ≤ cnt P k) {v : Nat} (hv : v < 6) (hU : U v = true) : ∃ x, x < k ∧ P x = true ∧ s x = v := by
  refine Classical.byContradiction fun hn => ?_
  have e := (cnt_del U v 6).2 hv hU
  have := pig (P := P) (U := fun i => U i && !(i == v)) (s := s) k (fun x hx hp => by
    obtain ⟨c1, c2⟩ := h1 x hx hp
    refine ⟨c1, ?_⟩
    have : s x ≠ v := fun q => hn ⟨x, hx, hp, q⟩
    simp [c2, this]) h2
  omega
def un (P : Nat → Bool) (A : Nat → Nat → Bool) : Nat → Bool := fun v => (List.range 5).any (fun x => P x && A x v)
theorem un_iff {P : Nat → Bool} {A : Nat → Nat → Bool} {v : Nat} : un P A v = true ↔ ∃ x, x < 5 ∧ P x = true ∧ A x v = true := by
  unfold un
  rw [List.any_eq_true]
  constructor
  · rintro ⟨x, h1, h2⟩
    simp only [Bool.and_eq_true] at h2
    exact ⟨x, List.mem_range.mp h1, h2.1, h2.2⟩
  · rintro ⟨x, h1, h2, h3⟩
    exact ⟨x, List.mem_range.mpr h1, by simp [h2, h3]⟩
def sdr (S : Nat → Bool) (A : Nat → Nat → Bool) (s : Nat → Nat) : Prop := (∀ x, x < 5 → S x = true → s x < 6 ∧ A x (s x) = true) ∧ ∀ x y, x < 5 → y < 5 → S x = true → S y = true → s x = s y → x = y
theorem hall : ∀ (n : Nat) (S : Nat → Bool) (A : Nat → Nat → Bool), cnt S 5 = n → (∀ P : Nat → Bool, (∀ x, P x = true → S x = true) → cnt P 5 ≤ cnt (un P A) 6) → ∃ s, sdr S A s := by
  intro n
  induction n using Nat.strongRecOn with
  | ind n ih =>
    intro S A hS hH
    by_cases c0 : n = 0
    · have hz := cnt_zero (hS.trans c0)
      refine ⟨fun _ => 0, fun x hx h => ?_, fun x y hx _ h => ?_⟩
      · rw [hz x hx] at h; cases h
      · rw [hz x hx] at h; cases h
    · by_cases cB : ∃ P : Nat → Bool, (∀ x, P x = true → S x = true) ∧ 0 < cnt P 5 ∧ cnt P 5 < n ∧ cnt (un P A) 6 = cnt P 5
      · obtain ⟨P, p1, p2, p3, p4⟩ := cB
        obtain ⟨s1, a1, a2⟩ := ih (cnt P 5) p3 P A rfl (fun Q hQ => hH Q (fun x hx => p1 x (hQ x hx)))
        have hc : cnt S 5 = cnt P 5 + cnt (fun x => S x && !P x) 5 := by
          rw [← cnt_split]
          refine cnt_congr (fun i _ => ?_)
          cases e : P i with
          | false => simp
          | true => rw [p1 i e]; rfl
        obtain ⟨s2, b1, b2⟩ := ih (cnt (fun x => S x && !P x) 5) (by omega) (fun x => S x && !P x) (fun x v => A x v && !un P A v) rfl (fun Q hQ => by
          have h1 := hH (fun x => P x || Q x) (fun x hx => by
            simp only [Bool.or_eq_true] at hx
            rcases hx with q | q
            · exact p1 x q
            · have := hQ x q
              simp only [Bool.and_eq_true] at this
              exact this.1)
          have h2 : cnt (fun x => P x || Q x) 5 = cnt P 5 + cnt Q 5 := by
            rw [cnt_split]
            congr 1
            refine cnt_congr (fun i _ => ?_)
            cases e : Q i with
            | false => rfl
            | true =>
              have := hQ i e
              simp only [Bool.and_eq_true] at this
              rw [this.2]; rfl
          have h3 : cnt (un (fun x => P x || Q x) A) 6 = cnt (fun v => un P A v || un Q A v) 6 := cnt_congr (fun v _ => by
            apply Bool.eq_iff_iff.mpr
            rw [Bool.or_eq_true, un_iff, un_iff, un_iff]
            constructor
            · rintro ⟨x, q1, q2, q3⟩
              simp only [Bool.or_eq_true] at q2
              rcases q2 with q | q
              · exact Or.inl ⟨x, q1, q, q3⟩
              · exact Or.inr ⟨x, q1, q, q3⟩
            · rintro (⟨x, q1, q2, q3⟩ | ⟨x, q1, q2, q3⟩)
              · exact ⟨x, q1, by simp [q2], q3⟩
              · exact ⟨x, q1, by simp [q2], q3⟩)
          have h4 : cnt (fun v => un Q A v && !un P A v) 6 = cnt (un Q (fun x v => A x v && !un P A v)) 6 := cnt_congr (fun v _ => by
            apply Bool.eq_iff_iff.mpr
            rw [Bool.and_eq_true, un_iff, un_iff]
            constructor
            · rintro ⟨⟨x, q1, q2, q3⟩, q4⟩
              exact ⟨x, q1, q2, by simp [q3]; simpa using q4⟩
            · rintro ⟨x, q1, q2, q3⟩
              simp only [Bool.and_eq_true] at q3
              exact ⟨⟨x, q1, q2, q3.1⟩, q3.2⟩)
          rw [cnt_split] at h3
          omega)
        have key : ∀ x, x < 5 → S x = true → P x = false → s2 x < 6 ∧ A x (s2 x) = true ∧ un P A (s2 x) = false := fun x hx hs hp => by
          have := b1 x hx (by simp [hs, hp])
          simp only [Bool.and_eq_true, Bool.not_eq_true'] at this
          exact ⟨this.1, this.2.1, this.2.2⟩
        refine ⟨fun x => if P x then s1 x else s2 x, fun x hx hs => ?_, fun x y hx hy hs hs' he => ?_⟩
        · dsimp only
          cases e : P x with
          | true => rw [if_pos rfl]; exact a1 x hx e
          | false => rw [if_neg Bool.false_ne_true]; exact ⟨(key x hx hs e).1, (key x hx hs e).2.1⟩
        · dsimp only at he
          cases e : P x with
          | true =>
            rw [e, if_pos rfl] at he
            cases e' : P y with
            | true => rw [e', if_pos rfl] at he; exact a2 x y hx hy e e' he
            | false =>
              rw [e', if_neg Bool.false_ne_true] at he
              have q1 := (key y hy hs' e').2.2
              have q2 : un P A (s1 x) = true := un_iff.mpr ⟨x, hx, e, (a1 x hx e).2⟩
              rw [he, q1] at q2
              cases q2
          | false =>
            rw [e, if_neg Bool.false_ne_true] at he
            cases e' : P y with
            | true =>
              rw [e', if_pos rfl] at he
              have q1 := (key x hx hs e).2.2
              have q2 : un P A (s1 y) = true := un_iff.mpr ⟨y, hy, e', (a1 y hy e').2⟩
              rw [← he, q1] at q2
              cases q2
            | false =>
              rw [e', if_neg Bool.false_ne_true] at he
              exact b2 x y hx hy (by simp [hs, e]) (by simp [hs', e']) he
      · obtain ⟨x0, x1, x2⟩ := cnt_pos (p := S) (k := 5) (by omega)
        have hx0 := hH (fun i => i == x0) (fun x hx => by simp only [beq_iff_eq] at hx; rw [hx]; exact x2)
        have h1 : 0 < cnt (fun i => i == x0) 5 := cnt_one x1 (by simp)
        obtain ⟨v0, v1, v2⟩ := cnt_pos (p := un (fun i => i == x0) A) (k := 6) (by omega)
        obtain ⟨z, z1, z2, z3⟩ := un_iff.mp v2
        have z2 : z = x0 := by simpa using z2
        rw [z2] at z3
        have hd := (cnt_del S x0 5).2 x1 x2
        obtain ⟨s2, b1, b2⟩ := ih (cnt (fun i => S i && !(i == x0)) 5) (by omega) (fun i => S i && !(i == x0)) (fun x v => A x v && !(v == v0)) rfl (fun Q hQ => by
          by_cases cq : cnt Q 5 = 0
          · omega
          · have hQS : ∀ x, Q x = true → S x = true := fun x hx => by
              have := hQ x hx
              simp only [Bool.and_eq_true] at this
              exact this.1
            have q1 := hH Q hQS
            have q2 : cnt Q 5 ≤ cnt (fun i => S i && !(i == x0)) 5 := cnt_mono 5 (fun i _ => hQ i)
            have q3 : ¬ cnt (un Q A) 6 = cnt Q 5 := fun e => cB ⟨Q, hQS, by omega, by omega, e⟩
            have q4 := (cnt_del (un Q A) v0 6).1
            have q5 : cnt (fun i => un Q A i && !(i == v0)) 6 = cnt (un Q (fun x v => A x v && !(v == v0))) 6 := cnt_congr (fun v _ => by
              apply Bool.eq_iff_iff.mpr
              rw [Bool.and_eq_true, un_iff, un_iff]
              constructor
              · rintro ⟨⟨x, w1, w2, w3⟩, w4⟩
                exact ⟨x, w1, w2, by rw [w3, w4]; rfl⟩
              · rintro ⟨x, w1, w2, w3⟩
                simp only [Bool.and_eq_true] at w3
                exact ⟨⟨x, w1, w2, w3.1⟩, w3.2⟩)
            omega)
        have key : ∀ x, x < 5 → S x = true → x ≠ x0 → s2 x < 6 ∧ A x (s2 x) = true ∧ s2 x ≠ v0 := fun x hx hs hp => by
          have := b1 x hx (by simp [hs, hp])
          simp only [Bool.and_eq_true, Bool.not_eq_true'] at this
          exact ⟨this.1, this.2.1, fun q => by rw [q] at this; simp at this⟩
        refine ⟨fun x => if x = x0 then v0 else s2 x, fun x hx hs => ?_, fun x y hx hy hs hs' he => ?_⟩
        · dsimp only
          by_cases e : x = x0
          · rw [if_pos e, e]; exact ⟨v1, z3⟩
          · rw [if_neg e]; exact ⟨(key x hx hs e).1, (key x hx hs e).2.1⟩
        · dsimp only at he
          by_cases e : x = x0
          · by_cases e' : y = x0
            · rw [e, e']
            · rw [if_pos e, if_neg e'] at he
              exact absurd he.symm (key y hy hs' e').2.2
          · by_cases e' : y = x0
            · rw [if_neg e, if_pos e'] at he
              exact absurd he (key x hx hs e).2.2
            · rw [if_neg e, if_neg e'] at he
              exact b2 x y hx hy (by simp [hs, e]) (by simp [hs', e']) he
