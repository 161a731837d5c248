/-! arguments in range -/
theorem i32_lt (x y : Int32) : x < y ↔ x.toInt < y.toInt := Int32.lt_iff_toInt_lt
theorem i32_le (x y : Int32) : x ≤ y ↔ x.toInt ≤ y.toInt := Int32.le_iff_toInt_le
theorem cell_i (x : Int32) : f_X11_isCell x = if 0 ≤ x.toInt ∧ x.toInt < 6 then 1 else 0 := by
  unfold f_X11_isCell
  simp only [i32_lt, i32_le]
  have e0 : (0 : Int32).toInt = 0 := by decide
  have e6 : (6 : Int32).toInt = 6 := by decide
  rw [e0, e6]
  by_cases c : x.toInt < 0
  · rw [if_pos c, if_neg (by omega)]
  · by_cases c2 : 6 ≤ x.toInt
    · rw [if_neg c, if_pos c2, if_neg (by omega)]
    · rw [if_neg c, if_neg c2, if_pos (by omega)]
theorem var_i (x : Int32) : f_X11_isVariable x = if 0 ≤ x.toInt ∧ x.toInt < 5 then 1 else 0 := by
  unfold f_X11_isVariable
  simp only [i32_lt, i32_le]
  have e0 : (0 : Int32).toInt = 0 := by decide
  have e6 : (5 : Int32).toInt = 5 := by decide
  rw [e0, e6]
  by_cases c : x.toInt < 0
  · rw [if_pos c, if_neg (by omega)]
  · by_cases c2 : 5 ≤ x.toInt
    · rw [if_neg c, if_pos c2, if_neg (by omega)]
    · rw [if_neg c, if_neg c2, if_pos (by omega)]
theorem value_i (x : Int32) : f_X11_isValue x = if 0 ≤ x.toInt ∧ x.toInt < 6 then 1 else 0 := cell_i x
theorem key_i (x : Int32) : f_X11_isKey x = if 0 ≤ x.toInt ∧ x.toInt < 10 then 1 else 0 := by
  unfold f_X11_isKey
  simp only [i32_lt, i32_le]
  have e0 : (0 : Int32).toInt = 0 := by decide
  have e6 : (10 : Int32).toInt = 10 := by decide
  rw [e0, e6]
  by_cases c : x.toInt < 0
  · rw [if_pos c, if_neg (by omega)]
  · by_cases c2 : 10 ≤ x.toInt
    · rw [if_neg c, if_pos c2, if_neg (by omega)]
    · rw [if_neg c, if_neg c2, if_pos (by omega)]
theorem in_l (a b c : Int64) : f_X12_in a b c = if b.toInt ≤ a.toInt ∧ a.toInt ≤ c.toInt then 1 else 0 := by
  unfold f_X12_in lg_cmp
  have g : ∀ x y : Int64, x > y ↔ y.toInt < x.toInt := fun x y => Int64.lt_iff_toInt_lt
  have q : ∀ x y : Int64, x = y ↔ x.toInt = y.toInt := fun x y => ⟨fun h => by rw [h], fun h => Int64.toInt_inj.mp h⟩
  simp only [g, q]
  rcases Int.lt_trichotomy a.toInt b.toInt with h | h | h
  · rw [if_neg (show ¬ b.toInt < a.toInt by omega), if_neg (show ¬ a.toInt = b.toInt by omega), if_pos (by decide), if_neg (by omega)]
  · rw [if_neg (show ¬ b.toInt < a.toInt by omega), if_pos h, if_neg (by decide)]
    rcases Int.lt_trichotomy a.toInt c.toInt with h2 | h2 | h2
    · rw [if_neg (show ¬ c.toInt < a.toInt by omega), if_neg (show ¬ a.toInt = c.toInt by omega), if_neg (by decide), if_pos (by omega)]
    · rw [if_neg (show ¬ c.toInt < a.toInt by omega), if_pos h2, if_neg (by decide), if_pos (by omega)]
    · rw [if_pos h2, if_pos (by decide), if_neg (by omega)]
  · rw [if_pos h, if_neg (by decide)]
    rcases Int.lt_trichotomy a.toInt c.toInt with h2 | h2 | h2
    · rw [if_neg (show ¬ c.toInt < a.toInt by omega), if_neg (show ¬ a.toInt = c.toInt by omega), if_neg (by decide), if_pos (by omega)]
    · rw [if_neg (show ¬ c.toInt < a.toInt by omega), if_pos h2, if_neg (by decide), if_pos (by omega)]
    · rw [if_pos h2, if_pos (by decide), if_neg (by omega)]
theorem num_l (a : Int64) : f_X11_isNumber a = if -999 ≤ a.toInt ∧ a.toInt ≤ 999 then 1 else 0 := by
  have e : f_X11_isNumber a = f_X12_in a (-999) 999 := rfl
  have e1 : (-999 : Int64).toInt = -999 := by decide
  have e2 : (999 : Int64).toInt = 999 := by decide
  rw [e, in_l, e1, e2]
theorem in_i (x : Int32) (b c : Int64) : f_X12_in x.toInt64 b c = if b.toInt ≤ x.toInt ∧ x.toInt ≤ c.toInt then 1 else 0 := by rw [in_l, Int32.toInt_toInt64]
theorem num_i (x : Int32) : f_X11_isNumber x.toInt64 = if -999 ≤ x.toInt ∧ x.toInt ≤ 999 then 1 else 0 := by rw [num_l, Int32.toInt_toInt64]
theorem rvar_i (x : Int32) : f_X12_isVar x = if 0 ≤ x.toInt ∧ x.toInt < 5 then 1 else 0 := by
  have e : f_X12_isVar x = (f_X12_in x.toInt64 0 4 &&& 1) := rfl
  have e1 : (0 : Int64).toInt = 0 := by decide
  have e2 : (4 : Int64).toInt = 4 := by decide
  rw [e, in_i, e1, e2]
  by_cases c : 0 ≤ x.toInt ∧ x.toInt < 5
  · rw [if_pos (by omega), if_pos c]; decide
  · rw [if_neg (by omega), if_neg c]; decide
theorem rvalue_i (x : Int32) : f_X12_isValue x = if 0 ≤ x.toInt ∧ x.toInt < 6 then 1 else 0 := by
  have e : f_X12_isValue x = (f_X12_in x.toInt64 0 5 &&& 1) := rfl
  have e1 : (0 : Int64).toInt = 0 := by decide
  have e2 : (5 : Int64).toInt = 5 := by decide
  rw [e, in_i, e1, e2]
  by_cases c : 0 ≤ x.toInt ∧ x.toInt < 6
  · rw [if_pos (by omega), if_pos c]; decide
  · rw [if_neg (by omega), if_neg c]; decide
theorem nI_iof {x : Int32} {n : Nat} (h : 0 ≤ x.toInt ∧ x.toInt < n) (hn : n < 2 ^ 31) : ∃ j : Nat, j < n ∧ x = nI j := vp_in_of (vp_in_iff.mpr h) hn
/-! what class and reference have in common -/
def TX (μ : jM) : Prop := ∃ n : Nat, n ≤ 80 ∧ μ.1 1 1 = nI n ∧ μ.1 201 4 = nI n ∧ ∀ i, i < 80 → μ.1 2 i = μ.1 203 i ∧ ∃ b : Nat, b < 256 ∧ μ.1 2 i = nI b
def RO (μ : jM) : Prop := ∃ n : Nat, n ≤ 22 ∧ μ.1 3 1 = nI n ∧ μ.1 201 1 = nI n ∧ ∀ i, i < n → μ.2 4 i = μ.2 202 i
def HR (μ : jM) : Prop := ∃ n : Nat, n ≤ 10 ∧ μ.1 181 3 = nI n ∧ μ.1 201 37 = nI n ∧ ∀ i, i < n → ∃ x v b : Nat, x < 5 ∧ v < 6 ∧ b < 2 ∧ μ.1 182 i = nI x ∧ μ.1 183 i = nI v ∧ μ.1 184 i = nI b ∧ μ.1 220 i = nI x ∧ μ.1 221 i = nI v ∧ μ.1 222 i = nI b
def KP (μ : jM) : Prop := ∀ i, i < 2 → μ.1 186 i = μ.1 223 i ∧ (μ.1 186 i = nI 0 ∨ (μ.1 186 i = nI 1 ∧ ∃ T, VT T ∧ RT (189 + 6 * i) T μ ∧ RW (11 + i) T μ))
def Rel (μ : jM) : Prop := (∃ σ, VS σ ∧ RS 5 σ μ ∧ RM σ μ) ∧ TX μ ∧ RO μ ∧ HR μ ∧ KP μ
/-- what a call of the reference leaves alone -/
def RF (μ μ' : jM) : Prop := jFr (fun c => c = 201 ∨ (204 ≤ c ∧ c ≤ 206)) μ μ' ∧ MF (fun w => w ≤ 10) μ μ' ∧ ∀ k, k ≠ 0 → k ≠ 9 → k ≠ 15 → μ'.1 201 k = μ.1 201 k
theorem RF.rf {μ : jM} : RF μ μ := ⟨jFr.rf, MF.rf, fun _ _ _ _ => rfl⟩
theorem RF.tr {μ μ1 μ2 : jM} (h : RF μ μ1) (h2 : RF μ1 μ2) : RF μ μ2 := ⟨h.1.tr h2.1, h.2.1.tr h2.2.1, fun k a b c => (h2.2.2 k a b c).trans (h.2.2 k a b c)⟩
theorem TX.fr {μ μ' : jM} (h : TX μ) (h1 : μ'.1 1 = μ.1 1) (h2 : μ'.1 2 = μ.1 2) (h3 : μ'.1 203 = μ.1 203) (h4 : μ'.1 201 4 = μ.1 201 4) : TX μ' := by
  unfold TX
  rw [h1, h2, h3, h4]; exact h
theorem RO.fr {μ μ' : jM} (h : RO μ) (h1 : μ'.1 3 = μ.1 3) (h2 : μ'.2 4 = μ.2 4) (h3 : μ'.2 202 = μ.2 202) (h4 : μ'.1 201 1 = μ.1 201 1) : RO μ' := by
  unfold RO
  rw [h1, h2, h3, h4]; exact h
theorem HR.fr {μ μ' : jM} (h : HR μ) (h1 : ∀ c, (181 ≤ c ∧ c ≤ 184) ∨ (220 ≤ c ∧ c ≤ 222) → μ'.1 c = μ.1 c) (h4 : μ'.1 201 37 = μ.1 201 37) : HR μ' := by
  unfold HR
  rw [h1 181 (by omega), h1 182 (by omega), h1 183 (by omega), h1 184 (by omega), h1 220 (by omega), h1 221 (by omega), h1 222 (by omega), h4]; exact h
theorem KP.fr {μ μ' : jM} (h : KP μ) (h1 : ∀ c, (186 ≤ c ∧ c ≤ 200) ∨ c = 223 → μ'.1 c = μ.1 c) (h2 : MF (fun w => w ≤ 10) μ μ') : KP μ' := by
  intro i hi
  obtain ⟨q1, q2⟩ := h i hi
  rw [h1 186 (by omega), h1 223 (by omega)]
  refine ⟨q1, ?_⟩
  rcases q2 with q2 | ⟨q2, T, q3, q4, q5⟩
  · exact Or.inl q2
  · exact Or.inr ⟨q2, T, q3, q4.fr (fun c c1 c2 => h1 c (by omega)), q5.mf h2 (by omega) (by omega)⟩
/-- the class's part of an act: a store's cells alone have changed -/
theorem rel_act {σ' : SS} {μ μ1 μ2 : jM} (h : Rel μ) (hv : VS σ') (h1 : RS 5 σ' μ1) (f1 : jFr (inS 5) μ μ1) (h2 : RM σ' μ2) (f2 : RF μ1 μ2) : Rel μ2 := by
  obtain ⟨-, ht, hr, hh, hk⟩ := h
  have k1 : ∀ c, ¬ inS 5 c → ¬ (c = 201 ∨ (204 ≤ c ∧ c ≤ 206)) → μ2.1 c = μ.1 c := fun c c1 c2 => (f2.1 c c2).1.trans (f1 c c1).1
  have k2 : ∀ c, ¬ inS 5 c → ¬ (c = 201 ∨ (204 ≤ c ∧ c ≤ 206)) → μ2.2 c = μ.2 c := fun c c1 c2 => (f2.1 c c2).2.trans (f1 c c1).2
  have n5 : ∀ c, 85 ≤ c ∨ c < 5 → ¬ inS 5 c := fun c hc q => by obtain ⟨q1, q2⟩ := q; omega
  have k3 : ∀ k, k ≠ 0 → k ≠ 9 → k ≠ 15 → μ2.1 201 k = μ.1 201 k := fun k a b c => (f2.2.2 k a b c).trans (by rw [(f1 201 (n5 _ (by omega))).1])
  have hM : MF (fun w => w ≤ 10) μ μ2 := (MF.of (f1 204 (n5 _ (by omega))).1).tr f2.2.1
  refine ⟨⟨σ', hv, h1.fr hv.1 (fun c hc => (f2.1 c (by obtain ⟨q1, q2⟩ := hc; omega)).1), h2⟩, ?_, ?_, ?_, ?_⟩
  · exact ht.fr (k1 1 (n5 _ (by omega)) (by omega)) (k1 2 (n5 _ (by omega)) (by omega)) (k1 203 (n5 _ (by omega)) (by omega)) (k3 4 (by decide) (by decide) (by decide))
  · exact hr.fr (k1 3 (n5 _ (by omega)) (by omega)) (k2 4 (n5 _ (by omega)) (by omega)) (k2 202 (n5 _ (by omega)) (by omega)) (k3 1 (by decide) (by decide) (by decide))
  · exact hh.fr (fun c hc => k1 c (n5 _ (by omega)) (by omega)) (k3 37 (by decide) (by decide) (by decide))
  · exact hk.fr (fun c hc => k1 c (n5 _ (by omega)) (by omega)) hM
/-- one thing alone differs -/
theorem dfl_one {T T' : TT} {a : Nat} (h : ∀ t, t < 31 → isTh t = true → t ≠ a → othB T T' t = false) (ha : isTh a = true) (hb : a < 31) : dfl T T' 31 = if othB T T' a then [a] else [] := by
  have key : ∀ n, n ≤ 31 → dfl T T' n = if a < n ∧ othB T T' a = true then [a] else [] := by
    intro n
    induction n with
    | zero => intro _; rw [if_neg (by omega)]; rfl
    | succ n ih =>
      intro hn
      rw [dfl_s, ih (by omega)]
      by_cases c : n = a
      · subst c
        rw [ha, Bool.true_and, if_neg (show ¬ (n < n ∧ _) from fun q => Nat.lt_irrefl _ q.1)]
        by_cases c2 : othB T T' n = true
        · rw [if_pos c2, if_pos ⟨by omega, c2⟩]; rfl
        · rw [if_neg c2, if_neg (fun q => c2 q.2)]
      · have e : (isTh n && othB T T' n) = false := by
          cases q : isTh n with
          | false => rfl
          | true => rw [h n (by omega) q c]; rfl
        rw [e, if_neg (by decide)]
        by_cases c2 : othB T T' a = true
        · by_cases c3 : a < n
          · rw [if_pos ⟨c3, c2⟩, if_pos ⟨by omega, c2⟩]
          · rw [if_neg (fun q => c3 q.1), if_neg (fun q => c3 (by omega))]
        · rw [if_neg (fun q => c2 q.2), if_neg (fun q => c2 q.2)]
  rw [key 31 (Nat.le_refl _)]
  by_cases c : othB T T' a = true
  · rw [if_pos ⟨hb, c⟩, if_pos c]
  · rw [if_neg (fun q => c q.2), if_neg c]
theorem chg_one {σ : SS} {T' : TT} {a : Nat} (h : dfl (σ.2.1 0) T' 31 = [a]) : chg σ T' = chT (nowT σ T') a := by
  unfold chg chT nowT
  rw [h]
  rfl
theorem chg_none {σ : SS} {T' : TT} (h : dfl (σ.2.1 0) T' 31 = []) : chg σ T' = nowT σ T' := by
  unfold chg nowT
  rw [h]
  by_cases c : σ.1 = 0
  · rw [if_pos c]
  · rw [if_neg c]
    congr 2
    funext j
    by_cases e : j = σ.1
    · rw [e, va_up_self]; rfl
    · rw [va_up_ne _ _ e]
