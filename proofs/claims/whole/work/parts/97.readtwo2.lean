/-! posts: a rule of two, read by the class -/
theorem m_sub (k p : Nat) : -(nI (k + 1)) - nI p = -1 - nI (p + k) := by
  rw [show nI (k + 1) = nI k + 1 from (nI_1 k).symm, ← nI_add]
  apply Int32.toBitVec_inj.mp
  simp only [Int32.toBitVec_sub, Int32.toBitVec_neg, Int32.toBitVec_add]
  generalize (nI k).toBitVec = x
  generalize (nI p).toBitVec = y
  generalize (1 : Int32).toBitVec = z
  rw [BitVec.neg_add, BitVec.sub_eq_add_neg, BitVec.sub_eq_add_neg, BitVec.sub_eq_add_neg, BitVec.neg_add, BitVec.sub_eq_add_neg]
  ac_rfl
/-- what the class answers of a reading -/
def cans (o : Nat × Option Q4) : Int32 := match o.2 with
  | none => -1 - nI o.1
  | some _ => nI o.1
def cadd (l : List Q4) (o : Nat × Option Q4) : List Q4 := match o.2 with
  | none => l
  | some c => l ++ [c]
theorem c_readTwo {n p : Nat} {s : Nat → Nat} {l : List Q4} {m : jM} (h : CT n s m) (hp : p < 1000) (hl : l.length < 1000) (hH : HC l m) : ∃ w, f_X2_readTwo 177 (nI p) m = some (cans (two n s p), w) ∧ HC (cadd l (two n s p)) w ∧ jFr (fun c => c = 177 ∨ c = 178) m w := by
  have k2 : (-2 : Int32) = -(nI (1 + 1)) := by decide
  have k3 : (-3 : Int32) = -(nI (2 + 1)) := by decide
  have k5 : (-5 : Int32) = -(nI (4 + 1)) := by decide
  have s43 : ∀ q, pm n s q = 1 ↔ sgn n s q = 43 := fun q => by
    unfold pm sgn
    by_cases c : q < n
    · have hs := (h.2.2 q (by have := h.1; omega)).2
      rw [if_pos c, if_pos c]
      have e : nI (s q) = (43 : Int32) ↔ s q = 43 := nI_eq (b := 43) (by omega) (by decide)
      by_cases d : s q = 43
      · rw [if_pos d]; exact ⟨fun _ => e.mpr d, fun _ => rfl⟩
      · rw [if_neg d]
        refine ⟨fun z => ?_, fun z => absurd (e.mp z) d⟩
        split at z <;> omega
    · rw [if_neg c, if_neg c]
      exact ⟨fun z => by omega, fun z => absurd z (by decide)⟩
  have s45 : ∀ q, pm n s q = 2 ↔ sgn n s q = 45 := fun q => by
    unfold pm sgn
    by_cases c : q < n
    · have hs := (h.2.2 q (by have := h.1; omega)).2
      rw [if_pos c, if_pos c]
      have e : nI (s q) = (45 : Int32) ↔ s q = 45 := nI_eq (b := 45) (by omega) (by decide)
      by_cases d : s q = 43
      · rw [if_pos d]; exact ⟨fun z => by omega, fun z => by have := e.mp z; omega⟩
      · rw [if_neg d]
        by_cases d2 : s q = 45
        · rw [if_pos d2]; exact ⟨fun _ => e.mpr d2, fun _ => rfl⟩
        · rw [if_neg d2]; exact ⟨fun z => by omega, fun z => absurd (e.mp z) d2⟩
    · rw [if_neg c, if_neg c]
      exact ⟨fun z => by omega, fun z => absurd z (by decide)⟩
  have pm3 : ∀ q, pm n s q = 0 ∨ pm n s q = 1 ∨ pm n s q = 2 := fun q => by
    unfold pm
    split
    · split
      · exact Or.inr (Or.inl rfl)
      · split
        · exact Or.inr (Or.inr rfl)
        · exact Or.inl rfl
    · exact Or.inl rfl
  unfold f_X2_readTwo two
  rw [jcl_e (c_variable h (by omega)), nI_1, jlit 2, nI_add, jlit 3, nI_add, jlit 4, nI_add, jlit 5, nI_add, jcl_e (c_sort h (by omega)), jcl_e (c_variable h (by omega)), jcl_e (c_sgn h (by omega)), jcl_e (c_digit h (by omega))]
  simp only [jbd_e]
  have q2 : -(nI 2) - nI p = -1 - nI (p + 1) := m_sub 1 p
  have q3 : -(nI 3) - nI p = -1 - nI (p + 2) := m_sub 2 p
  have q5 : -(nI 5) - nI p = -1 - nI (p + 4) := m_sub 4 p
  cases e1 : rg 118 5 n s p with
  | none => exact ⟨m, if_pos rfl, hH, jFr.rf⟩
  | some x =>
    have x5 := (rg_lt e1).1
    rw [if_neg (oI_m1 (show x < 2 ^ 31 by omega))]
    cases e2 : srt n s (p + 1) with
    | none =>
      refine ⟨m, (if_pos rfl).trans ?_, hH, jFr.rf⟩
      rw [q2]; rfl
    | some t =>
      have t3 := (srt_lt e2).1
      rw [if_neg (oI_m1 (show t < 2 ^ 31 by omega))]
      cases e3 : rg 118 5 n s (p + 2) with
      | none =>
        refine ⟨m, (if_pos rfl).trans ?_, hH, jFr.rf⟩
        rw [q3]; rfl
      | some y =>
        have y5 := (rg_lt e3).1
        rw [if_neg (oI_m1 (show y < 2 ^ 31 by omega))]
        dsimp only
        by_cases c : y = x
        · rw [if_pos c, if_pos (show oI (some y) = oI (some x) by rw [c])]
          refine ⟨m, ?_, hH, jFr.rf⟩
          rw [q3]; rfl
        · rw [if_neg c, if_neg (show ¬ oI (some y) = oI (some x) from fun z => c ((nI_eq (by omega) (by omega)).mp z))]
          by_cases z0 : pm n s (p + 3) = 0
          · rw [if_pos z0, if_neg (fun z => by have := (s43 (p + 3)).mpr z; omega), if_neg (fun z => by have := (s45 (p + 3)).mpr z; omega)]
            obtain ⟨w, a1, a2, a3⟩ := c_hold (a := nI t) (b := nI x) (c := nI y) (d := 0) hH hl
            exact ⟨w, by show jcl (f_X2_hold 177 (nI t) (nI x) (nI y) 0 m) _ = _; rw [jcl_e a1]; rfl, a2, a3⟩
          · rw [if_neg z0]
            have both : ∀ {α : Type} (u v : α), (if sgn n s (p + 3) = (43 : Int32) then u else if sgn n s (p + 3) = (45 : Int32) then u else v) = u := fun u v => by
              rcases pm3 (p + 3) with z | z | z
              · exact absurd z z0
              · rw [if_pos ((s43 _).mp z)]
              · rw [if_pos ((s45 _).mp z)]; exact ite_self _
            rw [both]
            cases e4 : rg 48 10 n s (p + 4) with
            | none =>
              refine ⟨m, (if_pos rfl).trans ?_, hH, jFr.rf⟩
              rw [q5]; rfl
            | some d =>
              have d10 := (rg_lt e4).1
              rw [if_neg (oI_m1 (show d < 2 ^ 31 by omega))]
              have ed : (if sgn n s (p + 3) = (43 : Int32) then oI (some d) else -oI (some d)) = (if pm n s (p + 3) = 1 then nI d else -nI d) := by
                by_cases z1 : pm n s (p + 3) = 1
                · rw [if_pos z1, if_pos ((s43 _).mp z1)]; rfl
                · rw [if_neg z1, if_neg (fun z => z1 ((s43 _).mpr z))]; rfl
              rw [ed]
              obtain ⟨w, a1, a2, a3⟩ := c_hold (a := nI t) (b := nI x) (c := nI y) (d := (if pm n s (p + 3) = 1 then nI d else -nI d)) hH hl
              exact ⟨w, by show jcl (f_X2_hold 177 (nI t) (nI x) (nI y) _ m) _ = _; rw [jcl_e a1]; rfl, a2, a3⟩
