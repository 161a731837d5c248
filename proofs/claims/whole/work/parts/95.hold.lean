/-! posts: what was read is held -/
abbrev Q4 : Type := Int32 × Int32 × Int32 × Int32
def e4 (l : List Q4) (j : Nat) : Int32 := if j % 4 = 0 then (l.getD (j / 4) (0, 0, 0, 0)).1 else if j % 4 = 1 then (l.getD (j / 4) (0, 0, 0, 0)).2.1 else if j % 4 = 2 then (l.getD (j / 4) (0, 0, 0, 0)).2.2.1 else (l.getD (j / 4) (0, 0, 0, 0)).2.2.2
theorem e4_l {l : List Q4} {c : Q4} {j : Nat} (h : j < 4 * l.length) : e4 (l ++ [c]) j = e4 l j := by
  unfold e4
  have e : (l ++ [c]).getD (j / 4) (0, 0, 0, 0) = l.getD (j / 4) (0, 0, 0, 0) := by
    rw [List.getD_eq_getElem?_getD, List.getD_eq_getElem?_getD, List.getElem?_append_left (by omega)]
  rw [e]
theorem e4_n {l : List Q4} {c : Q4} : e4 (l ++ [c]) (4 * l.length) = c.1 ∧ e4 (l ++ [c]) (4 * l.length + 1) = c.2.1 ∧ e4 (l ++ [c]) (4 * l.length + 2) = c.2.2.1 ∧ e4 (l ++ [c]) (4 * l.length + 3) = c.2.2.2 := by
  have e : ∀ j, j < 4 → (l ++ [c]).getD ((4 * l.length + j) / 4) (0, 0, 0, 0) = c := fun j hj => by
    rw [show (4 * l.length + j) / 4 = l.length by omega, List.getD_eq_getElem?_getD, List.getElem?_append_right (Nat.le_refl _), Nat.sub_self]
    rfl
  have e0 := e 0 (by omega)
  rw [Nat.add_zero] at e0
  unfold e4
  refine ⟨?_, ?_, ?_, ?_⟩
  · rw [if_pos (by omega), e0]
  · rw [if_neg (by omega), if_pos (by omega), e 1 (by omega)]
  · rw [if_neg (by omega), if_neg (by omega), if_pos (by omega), e 2 (by omega)]
  · rw [if_neg (by omega), if_neg (by omega), if_neg (by omega), e 3 (by omega)]
/-- four written behind -/
theorem four {t n : Nat} {l : List Q4} {a b c d : Int32} {m : jM} (h : ∀ j, j < 4 * l.length → j < n → m.1 t j = e4 l j) :
    ∀ j, j < 4 * (l.length + 1) → j < n → (jsi (jsi (jsi (jsi m t (4 * l.length) a) t (4 * l.length + 1) b) t (4 * l.length + 2) c) t (4 * l.length + 3) d).1 t j = e4 (l ++ [(a, b, c, d)]) j := by
  intro j hj hn
  obtain ⟨e0, e1, e2, e3⟩ := e4_n (l := l) (c := (a, b, c, d))
  by_cases c3 : j = 4 * l.length + 3
  · rw [c3, jsi_at, e3]
  · rw [jsi_pl c3]
    by_cases c2 : j = 4 * l.length + 2
    · rw [c2, jsi_at, e2]
    · rw [jsi_pl c2]
      by_cases c1 : j = 4 * l.length + 1
      · rw [c1, jsi_at, e1]
      · rw [jsi_pl c1]
        by_cases c0 : j = 4 * l.length
        · rw [c0, jsi_at, e0]
        · rw [jsi_pl c0, e4_l (by omega)]
          exact h j (by omega) hn
def HC (l : List Q4) (m : jM) : Prop := m.1 177 1 = nI l.length ∧ ∀ j, j < 4 * l.length → j < 32 → m.1 178 j = e4 l j
def HT (l : List Q4) (m : jM) : Prop := m.1 201 17 = nI l.length ∧ ∀ j, j < 4 * l.length → j < 320 → m.1 209 j = e4 l j
theorem c_hold {l : List Q4} {a b c d : Int32} {m : jM} (h : HC l m) (hl : l.length < 1000) : ∃ w, f_X2_hold 177 a b c d m = some w ∧ HC (l ++ [(a, b, c, d)]) w ∧ jFr (fun c => c = 177 ∨ c = 178) m w := by
  obtain ⟨h1, h2⟩ := h
  have ln : (l ++ [(a, b, c, d)]).length = l.length + 1 := by rw [List.length_append]; rfl
  unfold f_X2_hold
  simp only [jbd_e]
  rw [h1]
  by_cases c8 : 8 ≤ l.length
  · rw [if_pos (show (8 : Int32) ≤ nI l.length from nI_le (a := 8) c8 (by omega)), nI_1]
    refine ⟨_, rfl, ⟨by rw [jsi_at, ln], fun j hj hn => ?_⟩, jFr.si _ _ _ (Or.inl rfl)⟩
    rw [jsi_ne (by decide), e4_l (by omega)]
    exact h2 j (by omega) hn
  · rw [if_neg (show ¬ (8 : Int32) ≤ nI l.length from nI_ge (b := 8) (by omega) (by decide)), jlit 4, nI_mulx, jlit 1, jlit 2, jlit 3, nI_add, nI_add, nI_add]
    rw [jin_n (by omega) (by decide), jin_n (by omega) (by decide), jin_n (by omega) (by decide), jin_n (by omega) (by decide), nI_clamp (by omega), nI_clamp (by omega), nI_clamp (by omega), nI_clamp (by omega)]
    refine ⟨_, rfl, ⟨?_, ?_⟩, ?_⟩
    · rw [jsi_at, jsi_ne (by decide), jsi_ne (by decide), jsi_ne (by decide), jsi_ne (by decide), h1, ln, nI_add]
    · rw [ln, jsi_ne (by decide)]
      exact four h2
    · exact ((((jFr.si _ _ _ (Or.inr rfl)).tr (jFr.si _ _ _ (Or.inr rfl))).tr (jFr.si _ _ _ (Or.inr rfl))).tr (jFr.si _ _ _ (Or.inr rfl))).tr (jFr.si _ _ _ (Or.inl rfl))
theorem r_tells {l : List Q4} {a b c d : Int32} {m : jM} (h : HT l m) (hl : l.length < 80) : ∃ w, f_X12_tells 201 a b c d m = some w ∧ HT (l ++ [(a, b, c, d)]) w ∧ jFr (fun c => c = 201 ∨ c = 209) m w ∧ ∀ k, k ≠ 17 → w.1 201 k = m.1 201 k := by
  obtain ⟨h1, h2⟩ := h
  have ln : (l ++ [(a, b, c, d)]).length = l.length + 1 := by rw [List.length_append]; rfl
  unfold f_X12_tells
  have ne : ∀ (w : jM) (k : Nat) (v : Int32), (jsi w (201 + 8) k v).1 201 = w.1 201 := fun w k v => jsi_ne (by decide)
  simp only [jbd_e, ne, h1]
  rw [jlit 4, nI_mulx, jlit 1, jlit 2, jlit 3, nI_add, nI_add, nI_add, nI_add]
  rw [jin_n (by omega) (by decide), jin_n (by omega) (by decide), jin_n (by omega) (by decide), jin_n (by omega) (by decide), nI_clamp (by omega), nI_clamp (by omega), nI_clamp (by omega), nI_clamp (by omega)]
  refine ⟨_, rfl, ⟨?_, ?_⟩, ?_, fun k hk => ?_⟩
  · rw [jsi_at, ln]
  · rw [ln, jsi_ne (by decide)]
    exact four h2
  · exact ((((jFr.si _ _ _ (Or.inr rfl)).tr (jFr.si _ _ _ (Or.inr rfl))).tr (jFr.si _ _ _ (Or.inr rfl))).tr (jFr.si _ _ _ (Or.inr rfl))).tr (jFr.si _ _ _ (Or.inl rfl))
  · rw [jsi_pl hk, ne, ne, ne, ne]
