/-! what a state is: things (61 numbers), told of the class's cells and of the reference's -/
abbrev TT : Type := Nat → Int32
def numOK (x : Int32) : Prop := -999 ≤ x.toInt ∧ x.toInt ≤ 999
def conOK (s a b d : Int32) : Prop := (∃ s' x y : Nat, s' < 3 ∧ s = nI s' ∧ x < 5 ∧ y < 5 ∧ x ≠ y ∧ a = nI x ∧ b = nI y ∧ -9 ≤ d.toInt ∧ d.toInt ≤ 9) ∨ (s = nI 3 ∧ ∃ m : Nat, m < 32 ∧ a = nI m ∧ 2 ≤ ((List.range 5).filter (fun i => m.testBit i)).length ∧ b = nI 0 ∧ d = nI 0)
def np (T : TT) : Nat := (T 11).toNatClampNeg
def nc (T : TT) : Nat := (T 28).toNatClampNeg
def VT (T : TT) : Prop := (np T ≤ 8 ∧ T 11 = nI (np T)) ∧ (nc T ≤ 8 ∧ T 28 = nI (nc T)) ∧ (∀ k, k < 6 → numOK (T k)) ∧ (∀ k, k < 5 → ∃ m : Nat, 0 < m ∧ m < 64 ∧ T (6 + k) = nI m) ∧ (∀ k, k < np T → ∃ q : Nat, q < 10 ∧ T (12 + k) = nI q) ∧ (∀ i j, i < np T → j < np T → T (12 + i) = T (12 + j) → i = j) ∧ (∀ k, k < np T → numOK (T (20 + k))) ∧ (∀ i, i < nc T → conOK (T (29 + 4 * i)) (T (29 + (4 * i + 1))) (T (29 + (4 * i + 2))) (T (29 + (4 * i + 3))))
def RT (t : Nat) (T : TT) (μ : jM) : Prop := (∀ k, k < 6 → μ.1 (t + 1) k = T k) ∧ (∀ k, k < 5 → μ.1 (t + 2) k = T (6 + k)) ∧ μ.1 t 5 = T 11 ∧ (∀ k, k < 8 → μ.1 (t + 3) k = T (12 + k)) ∧ (∀ k, k < 8 → μ.1 (t + 4) k = T (20 + k)) ∧ μ.1 t 6 = T 28 ∧ (∀ k, k < 32 → μ.1 (t + 5) k = T (29 + k))
def RW (w : Nat) (T : TT) (μ : jM) : Prop := ∀ k, k < 61 → μ.1 204 (61 * w + k) = T k
def plc (T : TT) (key : Int32) : Option Nat := fnd (fun i => T (12 + i)) key (np T) 0
def isTh (t : Nat) : Bool := decide (t < 6) || (decide (10 ≤ t) && decide (t < 15)) || (decide (20 ≤ t) && decide (t < 31))
def tell (T : TT) (t : Nat) : Int32 := if t < 6 then nI 1000 + T t else if t < 15 then T (t - 4) else if t < 30 then (match plc T (nI (t - 20)) with | none => 0 | some i => nI 1000 + T (20 + i)) else T 28
def dpar (T T' : TT) (n : Nat) : Bool := (List.range n).any (fun k => decide (T (29 + k) ≠ T' (29 + k)))
def othB (T T' : TT) (t : Nat) : Bool := decide (tell T t ≠ tell T' t) || (decide (t = 30) && dpar T T' (4 * nc T))
def cntT (T T' : TT) : Nat → Nat
  | 0 => 0
  | n + 1 => cntT T T' n + (if isTh n && othB T T' n then 1 else 0)
theorem cntT_s (T T' : TT) (n : Nat) : cntT T T' (n + 1) = cntT T T' n + (if isTh n && othB T T' n then 1 else 0) := rfl
theorem cntT_le (T T' : TT) (n : Nat) : cntT T T' n ≤ n := by
  induction n with
  | zero => exact Nat.le_refl _
  | succ n ih => unfold cntT; split <;> omega
theorem RT.fr {t : Nat} {T : TT} {μ μ' : jM} (h : RT t T μ) (hf : ∀ c, t ≤ c → c ≤ t + 5 → μ'.1 c = μ.1 c) : RT t T μ' := by
  obtain ⟨h1, h2, h3, h4, h5, h6, h7⟩ := h
  refine ⟨?_, ?_, ?_, ?_, ?_, ?_, ?_⟩
  · rw [hf (t + 1) (by omega) (by omega)]; exact h1
  · rw [hf (t + 2) (by omega) (by omega)]; exact h2
  · rw [hf t (by omega) (by omega)]; exact h3
  · rw [hf (t + 3) (by omega) (by omega)]; exact h4
  · rw [hf (t + 4) (by omega) (by omega)]; exact h5
  · rw [hf t (by omega) (by omega)]; exact h6
  · rw [hf (t + 5) (by omega) (by omega)]; exact h7
theorem RW.fr {w : Nat} {T : TT} {μ μ' : jM} (h : RW w T μ) (hf : μ'.1 204 = μ.1 204) : RW w T μ' := fun k hk => by rw [hf]; exact h k hk
theorem isCell_t : ∀ t, t < 31 → f_X11_isCell (nI t) = if t < 6 then 1 else 0 := by decide
theorem isVar_t : ∀ t, t < 31 → f_X11_isVariable (nI t - (10 : Int32)) = if 10 ≤ t ∧ t < 15 then 1 else 0 := by decide
theorem isKey_t : ∀ t, t < 31 → f_X11_isKey (nI t - (20 : Int32)) = if 20 ≤ t ∧ t < 30 then 1 else 0 := by decide
theorem isThing_t : ∀ t, t < 31 → f_X11_isThing (nI t) = if isTh t then 1 else 0 := by decide
theorem isThing_r : ∀ t, t < 31 → f_X12_isThing (nI t) = if isTh t then 1 else 0 := by decide
/-- the place of a key -/
theorem c_placeOf {t : Nat} {T : TT} {μ : jM} (h : RT t T μ) (hv : VT T) (key : Int32) : f_X9_placeOf t key μ = some (fndI (plc T key)) := by
  obtain ⟨-, -, h3, h4, -⟩ := h
  obtain ⟨⟨hn8, hn⟩, -⟩ := hv
  have key0 : ∀ (m i fu : Nat), i + m = np T → m < fu → jloop (fun (s : Int32) => f_X9_placeOf_L2 t key μ s) fu (nI i) = some (match fnd (fun i => T (12 + i)) key m i with | some j => .inl (nI j) | none => .inr ()) := by
    intro m
    induction m with
    | zero =>
      intro i fu hi hf
      obtain ⟨fu, rfl⟩ : ∃ q, fu = q + 1 := ⟨fu - 1, by omega⟩
      refine jloop_x ?_
      unfold f_X9_placeOf_L2
      rw [h3, hn, if_pos (nI_le (by omega) (by omega))]
      rfl
    | succ m ih =>
      intro i fu hi hf
      obtain ⟨fu, rfl⟩ : ∃ q, fu = q + 1 := ⟨fu - 1, by omega⟩
      unfold fnd
      by_cases c : T (12 + i) = key
      · rw [if_pos c]
        refine jloop_x ?_
        unfold f_X9_placeOf_L2
        rw [h3, hn, if_neg (nI_ge (by omega) (by omega)), jrd_n (by omega) (by omega), h4 i (by omega), if_pos c]
      · rw [if_neg c, ← ih (i + 1) fu (by omega) (by omega)]
        refine jloop_s ?_
        unfold f_X9_placeOf_L2
        rw [h3, hn, if_neg (nI_ge (by omega) (by omega)), jrd_n (by omega) (by omega), h4 i (by omega), if_neg c, nI_1]
  unfold f_X9_placeOf
  refine (jcl_e (key0 (np T) 0 jfu (by omega) (jfu_lt (by omega)))).trans ?_
  unfold plc fndI
  cases fnd (fun i => T (12 + i)) key (np T) 0 <;> rfl
theorem c_tell {t : Nat} {T : TT} {μ : jM} (h : RT t T μ) (hv : VT T) {th : Nat} (hb : th < 31) (hth : isTh th = true) : f_X9_tellThing t (nI th) μ = some (tell T th) := by
  have hp := c_placeOf h hv
  obtain ⟨h1, h2, h3, h4, h5, h6, h7⟩ := h
  have hv' := hv
  obtain ⟨⟨hn8, hn⟩, -⟩ := hv'
  unfold f_X9_tellThing tell
  rw [isCell_t th hb, isVar_t th hb, isKey_t th hb]
  unfold isTh at hth
  by_cases c1 : th < 6
  · simp only [if_pos c1, i10, if_false]
    rw [jrd_n c1 (by decide), h1 th c1]
    rfl
  · by_cases c2 : 10 ≤ th ∧ th < 15
    · simp only [if_neg c1, if_pos c2, if_pos c2.2, i10, i00, if_false, if_true]
      have e : nI th - (10 : Int32) = nI (th - 10) := pk_sub (b := 10) c2.1
      rw [e, jrd_n (by omega) (by decide), h2 (th - 10) (by omega)]
      congr 2
      omega
    · have c3 : ¬ th < 15 := by
        intro q
        simp [c1, show ¬ 10 ≤ th by omega, show ¬ 20 ≤ th by omega] at hth
      by_cases c4 : th < 30
      · have c5 : 20 ≤ th := by
          rcases Nat.lt_or_ge th 20 with q | q
          · simp [c1, c3, show ¬ 20 ≤ th by omega] at hth
          · exact q
        simp only [if_neg c1, if_neg c2, if_neg c3, if_pos c4, if_pos (show 20 ≤ th ∧ th < 30 from ⟨c5, c4⟩), i10, i00, if_false, if_true]
        have e : nI th - (20 : Int32) = nI (th - 20) := pk_sub (b := 20) c5
        rw [e, jcl_e (hp _)]
        cases hq : plc T (nI (th - 20)) with
        | none => rfl
        | some i =>
          have hi := fnd_some hq
          have e2 : fndI (some i) = nI i := rfl
          rw [e2, if_neg (nI_m1 (by omega)), jrd_n (by omega) (by decide), h5 i (by omega)]
          rfl
      · simp only [if_neg c1, if_neg c2, if_neg c3, if_neg c4, if_neg (show ¬ (20 ≤ th ∧ th < 30) from fun q => c4 q.2), i00, if_true]
        rw [h6]
theorem c_hasOther {a b : Nat} {T T' : TT} {μ : jM} (h : RT a T μ) (h' : RT b T' μ) (hv : VT T) : f_X9_hasOtherParts a b μ = some (if dpar T T' (4 * nc T) then 1 else 0) := by
  obtain ⟨-, -, -, -, -, h6, h7⟩ := h
  obtain ⟨-, -, -, -, -, -, h7'⟩ := h'
  obtain ⟨-, ⟨hc8, hc⟩, -⟩ := hv
  have key0 : ∀ (m i fu : Nat), i + m = 4 * nc T → m < fu → jloop (fun (s : Int32) => f_X9_hasOtherParts_L2 a b μ s) fu (nI i) = some (if (List.range' i m).any (fun k => decide (T (29 + k) ≠ T' (29 + k))) then .inl () else .inr ()) := by
    intro m
    induction m with
    | zero =>
      intro i fu hi hf
      obtain ⟨fu, rfl⟩ : ∃ q, fu = q + 1 := ⟨fu - 1, by omega⟩
      refine jloop_x ?_
      unfold f_X9_hasOtherParts_L2
      rw [h6, hc, jlit 4, pk_mul, if_pos (nI_le (by omega) (by omega))]
      rfl
    | succ m ih =>
      intro i fu hi hf
      obtain ⟨fu, rfl⟩ : ∃ q, fu = q + 1 := ⟨fu - 1, by omega⟩
      rw [List.range'_succ, List.any_cons]
      by_cases c : T (29 + i) = T' (29 + i)
      · have e2 : (decide (T (29 + i) ≠ T' (29 + i)) || (List.range' (i + 1) m).any (fun k => decide (T (29 + k) ≠ T' (29 + k)))) = (List.range' (i + 1) m).any (fun k => decide (T (29 + k) ≠ T' (29 + k))) := by simp [c]
        rw [e2, ← ih (i + 1) fu (by omega) (by omega)]
        refine jloop_s ?_
        unfold f_X9_hasOtherParts_L2
        rw [h6, hc, jlit 4, pk_mul, if_neg (nI_ge (by omega) (by omega)), jrd_n (by omega) (by omega), jrd_n (by omega) (by omega), h7 i (by omega), h7' i (by omega), if_pos c, nI_1]
      · have e2 : (decide (T (29 + i) ≠ T' (29 + i)) || (List.range' (i + 1) m).any (fun k => decide (T (29 + k) ≠ T' (29 + k)))) = true := by simp [c]
        rw [e2]
        refine jloop_x ?_
        unfold f_X9_hasOtherParts_L2
        rw [h6, hc, jlit 4, pk_mul, if_neg (nI_ge (by omega) (by omega)), jrd_n (by omega) (by omega), jrd_n (by omega) (by omega), h7 i (by omega), h7' i (by omega), if_neg c]
        rfl
  unfold f_X9_hasOtherParts dpar
  have e := key0 (4 * nc T) 0 jfu (by omega) (jfu_lt (by omega))
  rw [List.range_eq_range']
  refine (jcl_e e).trans ?_
  cases (List.range' 0 (4 * nc T)).any (fun k => decide (T (29 + k) ≠ T' (29 + k))) <;> rfl
theorem c_oth {a b : Nat} {T T' : TT} {μ : jM} (h : RT a T μ) (h' : RT b T' μ) (hv : VT T) (hv' : VT T') {th : Nat} (hb : th < 31) (hth : isTh th = true) : f_X9_isOtherwise a (nI th) b μ = some (if othB T T' th then 1 else 0) := by
  unfold f_X9_isOtherwise othB
  rw [jcl_e (c_tell h hv hb hth), jcl_e (c_tell h' hv' hb hth), jlit 30]
  by_cases c : tell T th = tell T' th
  · rw [if_pos c]
    by_cases c2 : th = 30
    · subst c2
      have e : (decide (tell T 30 ≠ tell T' 30) || (decide (30 = 30) && dpar T T' (4 * nc T))) = dpar T T' (4 * nc T) := by simp [c]
      rw [if_pos rfl, jcl_e (c_hasOther h h' hv), e]
      cases dpar T T' (4 * nc T) <;> rfl
    · rw [if_neg (fun q => c2 ((nI_eq (by omega) (by omega)).mp q))]
      simp [c, c2]
  · rw [if_neg c]
    simp [c]
theorem c_others {a b : Nat} {T T' : TT} {μ : jM} (h : RT a T μ) (h' : RT b T' μ) (hv : VT T) (hv' : VT T') : f_X9_otherThings a b μ = some (nI (cntT T T' 31)) := by
  obtain ⟨e, he, hr⟩ := jlpN (step := fun (s : Int32 × Int32) => f_X9_otherThings_L4 a b μ s.1 s.2) 31 (fun k s => s = (nI (cntT T T' k), nI k)) (fun e => e = nI (cntT T T' 31)) (fun k s hk hs => by
      subst hs
      dsimp only
      unfold f_X9_otherThings_L4
      rw [jlit 30, if_neg (nI_nlt (by omega) (by omega)), isThing_t k hk]
      by_cases c : isTh k = true
      · rw [c, if_neg (by decide), jcl_e (c_oth h h' hv hv' hk c), nI_1]
        rw [cntT_s, c]
        cases othB T T' k
        · exact ⟨_, rfl, by simp⟩
        · exact ⟨_, rfl, by simp [nI_1]⟩
      · have c : isTh k = false := by simpa using c
        rw [c, if_pos (by decide), nI_1]
        rw [cntT_s, c]
        exact ⟨_, rfl, by simp⟩) (fun s hs => by
      subst hs
      dsimp only
      unfold f_X9_otherThings_L4
      rw [jlit 30, if_pos (nI_lt (by omega) (by omega))]
      exact ⟨_, rfl, rfl⟩) (i := 0) (n := jfu) (s := ((0 : Int32), (0 : Int32))) (by omega) rfl (jfu_lt (by omega))
  unfold f_X9_otherThings
  rw [jcl_e he, hr]
