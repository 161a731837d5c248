/-! mends -/
theorem pc_0 : ∀ m, m < 256 → pc m = 0 → m = 0 := by decide +kernel
theorem pc_in {i b : Nat} (hi : i < 256) (hb : b < 256) (h : dif i b = 0) : pc i ≤ pc b ∧ (pc i = pc b → i = b) := by
  have hs : ∀ k, i.testBit k = true → b.testBit k = true := fun k hk => by
    have := dif_b i b k
    rw [h, Nat.zero_testBit, hk] at this
    cases q : b.testBit k with
    | true => rfl
    | false => rw [q] at this; cases this
  have e : pc (b ^^^ i) + pc i = pc b := pcn_sub hs 31
  refine ⟨by omega, fun q => ?_⟩
  have hx : b ^^^ i < 256 := Nat.xor_lt_two_pow (n := 8) hb hi
  have z := pc_0 _ hx (by omega)
  have : b ^^^ i ^^^ i = 0 ^^^ i := by rw [z]
  rw [Nat.xor_assoc, Nat.xor_self, Nat.xor_zero, Nat.zero_xor] at this
  exact this.symm
theorem dif_self (i : Nat) : dif i i = 0 := by
  unfold dif
  rw [Nat.xor_self, Nat.and_zero]
def wsm (t : Nat → Nat) (S : Nat) : Nat → Nat
  | 0 => 0
  | k + 1 => wsm t S k + (if dif k S = 0 then t k else 0)
theorem wsm_s (t : Nat → Nat) (S k : Nat) : wsm t S (k + 1) = wsm t S k + (if dif k S = 0 then t k else 0) := rfl
theorem wsm_le {t : Nat → Nat} (ht : ∀ i, t i ≤ 7776) (S : Nat) : ∀ k, wsm t S k ≤ 7776 * k
  | 0 => Nat.le_refl _
  | k + 1 => by
    have := wsm_le ht S k
    have := ht k
    rw [wsm_s]
    split <;> omega
theorem wsm_pos {t : Nat → Nat} {S : Nat} : ∀ {k : Nat}, 0 < wsm t S k ↔ ∃ i, i < k ∧ dif i S = 0 ∧ 0 < t i
  | 0 => ⟨fun h => absurd h (Nat.lt_irrefl _), fun ⟨i, h, _⟩ => absurd h (Nat.not_lt_zero i)⟩
  | k + 1 => by
    rw [wsm_s]
    constructor
    · intro h
      by_cases c : 0 < wsm t S k
      · obtain ⟨i, h1, h2⟩ := wsm_pos.mp c
        exact ⟨i, by omega, h2⟩
      · by_cases d : dif k S = 0
        · rw [if_pos d] at h
          exact ⟨k, by omega, d, by omega⟩
        · rw [if_neg d] at h; omega
    · rintro ⟨i, h1, h2, h3⟩
      by_cases c : i = k
      · subst c
        rw [if_pos h2]; omega
      · have : 0 < wsm t S k := wsm_pos.mpr ⟨i, by omega, h2, h3⟩
        omega
/-- the least of those that mend -/
def isMn (t : Nat → Nat) (c : Nat) : Prop := 0 < t c ∧ ∀ i, 0 < t i → pc c ≤ pc i ∧ (pc c = pc i → c ≤ i)
theorem isMn_eq {t : Nat → Nat} {a b : Nat} (ha : isMn t a) (hb : isMn t b) : a = b := by
  have h1 := ha.2 b hb.1
  have h2 := hb.2 a ha.1
  have := h1.2 (by omega)
  have := h2.2 (by omega)
  omega
def cmn (t : Nat → Nat) (n : Nat) : Nat → Nat
  | 0 => 2 ^ n - 1
  | k + 1 => if 0 < t k ∧ ¬ pc (cmn t n k) ≤ pc k then k else cmn t n k
theorem cmn_s (t : Nat → Nat) (n k : Nat) : cmn t n (k + 1) = if 0 < t k ∧ ¬ pc (cmn t n k) ≤ pc k then k else cmn t n k := rfl
theorem cmn_iv {t : Nat → Nat} {n : Nat} (hn : n ≤ 8) (hz : ∀ i, 2 ^ n ≤ i → t i = 0) : ∀ k, cmn t n k < 2 ^ n ∧ (cmn t n k = 2 ^ n - 1 ∨ (0 < t (cmn t n k) ∧ cmn t n k < k)) ∧ ∀ i, i < k → 0 < t i → pc (cmn t n k) ≤ pc i ∧ (pc (cmn t n k) = pc i → cmn t n k = 2 ^ n - 1 ∨ cmn t n k ≤ i)
  | 0 => ⟨by show 2 ^ n - 1 < 2 ^ n; have := Nat.two_pow_pos n; omega, Or.inl rfl, fun i hi => absurd hi (Nat.not_lt_zero i)⟩
  | k + 1 => by
    obtain ⟨h1, h2, h3⟩ := cmn_iv hn hz k
    rw [cmn_s]
    by_cases c : 0 < t k ∧ ¬ pc (cmn t n k) ≤ pc k
    · rw [if_pos c]
      refine ⟨?_, Or.inr ⟨c.1, by omega⟩, fun i hi hp => ?_⟩
      · by_cases d : k < 2 ^ n
        · exact d
        · have := hz k (by omega); omega
      · by_cases d : i = k
        · subst d; exact ⟨Nat.le_refl _, fun _ => Or.inr (Nat.le_refl _)⟩
        · have := (h3 i (by omega) hp).1
          exact ⟨by omega, fun q => by omega⟩
    · rw [if_neg c]
      refine ⟨h1, ?_, fun i hi hp => ?_⟩
      · rcases h2 with z | z
        · exact Or.inl z
        · exact Or.inr ⟨z.1, by omega⟩
      · by_cases d : i = k
        · subst d
          have : pc (cmn t n i) ≤ pc i := Decidable.of_not_not (fun z => c ⟨hp, z⟩)
          refine ⟨this, fun _ => ?_⟩
          rcases h2 with z | z
          · exact Or.inl z
          · exact Or.inr (by omega)
        · exact h3 i (by omega) hp
theorem cmn_mn {t : Nat → Nat} {n : Nat} (hn : n ≤ 8) (hz : ∀ i, 2 ^ n ≤ i → t i = 0) (hex : ∃ i, 0 < t i) : isMn t (cmn t n 256) := by
  obtain ⟨h1, h2, h3⟩ := cmn_iv hn hz 256
  have hp := (pc_full n (by omega))
  have il : ∀ i, 0 < t i → i < 2 ^ n := fun i hi => by
    by_cases c : i < 2 ^ n
    · exact c
    · have := hz i (by omega); omega
  have full : cmn t n 256 = 2 ^ n - 1 → ∀ i, 0 < t i → pc (cmn t n 256) = pc i → i = 2 ^ n - 1 := fun q i hi e => by
    rw [q, hp.1] at e
    exact (pc_all n (by omega) i (il i hi)).2 e.symm
  constructor
  · rcases h2 with z | z
    · obtain ⟨i, hi⟩ := hex
      have il1 := il i hi
      have e1 := (h3 i (by omega) hi).1
      have e2 := (pc_all n (by omega) i il1).1
      have : i = 2 ^ n - 1 := full z i hi (by rw [z, hp.1] at e1 ⊢; omega)
      rw [z, ← this]; exact hi
    · exact z.1
  · intro i hi
    have il1 := il i hi
    obtain ⟨e1, e2⟩ := h3 i (by omega) hi
    refine ⟨e1, fun q => ?_⟩
    rcases e2 q with z | z
    · rw [full z i hi q, z]; exact Nat.le_refl _
    · exact z
theorem rmn_mn {t : Nat → Nat} {n b : Nat} (hn : n ≤ 8) (hz : ∀ i, 2 ^ n ≤ i → t i = 0) (hb : b < 2 ^ n) (hw : 0 < wsm t b 256) (hm : ∀ S, S < 2 ^ n → 0 < wsm t S 256 → pc b ≤ pc S ∧ (pc b = pc S → b ≤ S)) : isMn t b := by
  have hp := (pc_full n (by omega)).2
  have il : ∀ i, 0 < t i → i < 2 ^ n := fun i hi => by
    by_cases c : i < 2 ^ n
    · exact c
    · have := hz i (by omega); omega
  have wi : ∀ i, 0 < t i → 0 < wsm t i 256 := fun i hi => wsm_pos.mpr ⟨i, by have := il i hi; omega, dif_self i, hi⟩
  constructor
  · obtain ⟨i, h1, h2, h3⟩ := wsm_pos.mp hw
    have := pc_in h1 (by omega) h2
    have := (hm i (il i h3) (wi i h3)).1
    rw [← (show i = b by
      obtain ⟨z1, z2⟩ := pc_in h1 (show b < 256 by omega) h2
      exact z2 (by omega))]
    exact h3
  · intro i hi
    exact hm i (il i hi) (wi i hi)
theorem val_all (v : Nat → Nat) (hv : ∀ x, v x < 6) : ∃ r, r < 7776 ∧ ∀ x, x < 5 → val r x = v x := by
  have h0 := hv 0
  have h1 := hv 1
  have h2 := hv 2
  have h3 := hv 3
  have h4 := hv 4
  refine ⟨v 0 * 1296 + v 1 * 216 + v 2 * 36 + v 3 * 6 + v 4, by omega, fun x hx => ?_⟩
  unfold val
  have : x = 0 ∨ x = 1 ∨ x = 2 ∨ x = 3 ∨ x = 4 := by omega
  rcases this with rfl | rfl | rfl | rfl | rfl
  · show _ / 1296 % 6 = _; omega
  · show _ / 216 % 6 = _; omega
  · show _ / 36 % 6 = _; omega
  · show _ / 6 % 6 = _; omega
  · show _ / 1 % 6 = _; omega
theorem row_ex {T : TT} (hv : VT T) : ∃ r, r < 7776 ∧ okk T r 5 = true := by
  have h : ∀ x, ∃ v, v < 6 ∧ (x < 5 → (vm T x).testBit v = true) := fun x => by
    by_cases c : x < 5
    · obtain ⟨v, h1, h2⟩ := mask0 (vm T x) (vm_of hv c).2.1 (by have := (vm_of hv c).1; omega)
      exact ⟨v, h1, fun _ => h2⟩
    · exact ⟨0, by omega, fun z => absurd z c⟩
  obtain ⟨r, hr, he⟩ := val_all (fun x => Classical.choose (h x)) (fun x => (Classical.choose_spec (h x)).1)
  refine ⟨r, hr, okk_iff.mpr (fun x hx => ?_)⟩
  rw [he x hx]
  exact (Classical.choose_spec (h x)).2 hx
theorem gdB_f (T : TT) (r : Nat) : gdB T false r = okk T r 5 := by
  unfold gdB
  simp
theorem pmk_nc {T : TT} (D : Nat → Nat) (k : Nat) : pmk T D k < 2 ^ nc T := by
  refine Nat.lt_pow_two_of_testBit _ (fun i hi => ?_)
  cases q : (pmk T D k).testBit i with
  | false => rfl
  | true =>
    have := ((pmk_b T D i k).mp q).1
    omega
theorem shF_pos (g : Nat → Bool) (sh : Nat → Nat) {r : Nat} (hg : g r = true) : ∀ p, r < p → 0 < fo g (shF sh) (fun _ => 0) p (sh r)
  | 0, h => absurd h (Nat.not_lt_zero r)
  | p + 1, h => by
    rw [fo_s]
    by_cases c : r = p
    · subst c
      rw [if_pos hg]
      show 0 < _ + (if sh r = sh r then 1 else 0)
      rw [if_pos rfl]; omega
    · have := shF_pos g sh hg p (by omega)
      split
      · show 0 < _ + (if sh r = sh p then 1 else 0)
        omega
      · exact this
