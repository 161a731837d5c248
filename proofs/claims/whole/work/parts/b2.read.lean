/-! run: the reference reads an act -/
theorem clb_x : ∀ b, b < 256 → ∀ c, c < 10 → 2 ≤ c → clb b = c → b = chw c := by decide +kernel
theorem clx {n p c q : Nat} {s : Nat → Nat} {m : jM} (hm : RP n s q m) (h : cl n s p = c) (h1 : 2 ≤ c) (h2 : c < 10) : p < n ∧ s p = chw c := by
  have hn := cl_n (s := s) (p := p) (n := n) (by omega)
  rw [cl_b hn] at h
  exact ⟨hn, clb_x _ (hm.2.2.2.2 p (by have := hm.1; omega)).2 c h2 h1 h⟩
theorem cl_of {n p b : Nat} {s : Nat → Nat} (h : p < n) (e : s p = b) : cl n s p = clb b := by rw [cl_b h, e]
theorem tk_cell {n p : Nat} {s : Nat → Nat} {m : jM} (h : RP n s p m) : (cl n s p = 0 ∧ p < n ∧ 65 ≤ s p ∧ f_X12_takesOf 201 23 m = some (nI (s p - 65), jsi m 201 5 (nI (p + 1)))) ∨ (¬ cl n s p = 0 ∧ f_X12_takesOf 201 23 m = some (-1, m)) := by
  have st : jsLn 23 = nI 6 ∧ jsLen.getD 23 0 = 6 ∧ ∀ i, i < 6 → jsCh 23 i = nI (65 + i) := by decide +kernel
  rcases r_takesR st.1 st.2.1 (by omega) (by omega) st.2.2 h with ⟨i, h1, h2, h3, h4⟩ | ⟨h1, h4⟩
  · have g := rg_ge h1
    rw [rg_y ⟨h3, g⟩] at h1
    cases h1
    refine Or.inl ⟨?_, h3, g.1, h4⟩
    rw [cl_b h3]
    unfold clb
    rw [if_pos (by omega)]
  · refine Or.inr ⟨fun z => ?_, h4⟩
    rw [rg_y (cl_0 z)] at h1
    cases h1
theorem tk_var {n p : Nat} {s : Nat → Nat} {m : jM} (h : RP n s p m) : (cl n s p = 1 ∧ p < n ∧ 118 ≤ s p ∧ f_X12_takesOf 201 16 m = some (nI (s p - 118), jsi m 201 5 (nI (p + 1)))) ∨ (¬ cl n s p = 1 ∧ f_X12_takesOf 201 16 m = some (-1, m)) := by
  rcases r_var h with ⟨i, h1, h2, h3, h4⟩ | ⟨h1, h4⟩
  · have g := rg_ge h1
    rw [rg_y ⟨h3, g⟩] at h1
    cases h1
    refine Or.inl ⟨?_, h3, g.1, h4⟩
    rw [cl_b h3]
    unfold clb
    rw [if_neg (by omega), if_pos (by omega)]
  · refine Or.inr ⟨fun z => ?_, h4⟩
    rw [rg_y (cl_1 z)] at h1
    cases h1
theorem tk_dig {n p : Nat} {s : Nat → Nat} {m : jM} (h : RP n s p m) : (dgc (cl n s p) = true ∧ p < n ∧ 48 ≤ s p ∧ s p < 58 ∧ f_X12_takesOf 201 15 m = some (nI (s p - 48), jsi m 201 5 (nI (p + 1)))) ∨ (dgc (cl n s p) = false ∧ f_X12_takesOf 201 15 m = some (-1, m)) := by
  rcases r_dig h with ⟨i, h1, h2, h3, h4⟩ | ⟨h1, h4⟩
  · have g := rg_ge h1
    rw [rg_y ⟨h3, g⟩] at h1
    cases h1
    refine Or.inl ⟨?_, h3, g.1, by omega, h4⟩
    rw [cl_b h3]
    unfold clb
    by_cases c : s p < 54
    · rw [if_neg (by omega), if_neg (by omega), if_neg (by omega), if_neg (by omega), if_neg (by omega), if_neg (by omega), if_neg (by omega), if_neg (by omega), if_neg (by omega), if_neg (by omega), if_pos (by omega)]; rfl
    · rw [if_neg (by omega), if_neg (by omega), if_neg (by omega), if_neg (by omega), if_neg (by omega), if_neg (by omega), if_neg (by omega), if_neg (by omega), if_neg (by omega), if_neg (by omega), if_neg (by omega), if_pos (by omega)]; rfl
  · refine Or.inr ⟨?_, h4⟩
    cases z : dgc (cl n s p) with
    | false => rfl
    | true =>
      rw [rg_y (cl_d z)] at h1
      cases h1
theorem tk_fiv {n p : Nat} {s : Nat → Nat} {m : jM} (h : RP n s p m) : (cl n s p = 10 ∧ p < n ∧ 48 ≤ s p ∧ f_X12_takesOf 201 21 m = some (nI (s p - 48), jsi m 201 5 (nI (p + 1)))) ∨ (¬ cl n s p = 10 ∧ f_X12_takesOf 201 21 m = some (-1, m)) := by
  have st : jsLn 21 = nI 6 ∧ jsLen.getD 21 0 = 6 ∧ ∀ i, i < 6 → jsCh 21 i = nI (48 + i) := by decide +kernel
  rcases r_takesR st.1 st.2.1 (by omega) (by omega) st.2.2 h with ⟨i, h1, h2, h3, h4⟩ | ⟨h1, h4⟩
  · have g := rg_ge h1
    rw [rg_y ⟨h3, g⟩] at h1
    cases h1
    refine Or.inl ⟨?_, h3, g.1, h4⟩
    rw [cl_b h3]
    unfold clb
    rw [if_neg (by omega), if_neg (by omega), if_neg (by omega), if_neg (by omega), if_neg (by omega), if_neg (by omega), if_neg (by omega), if_neg (by omega), if_neg (by omega), if_neg (by omega), if_pos (by omega)]
  · refine Or.inr ⟨fun z => ?_, h4⟩
    rw [rg_y (cl_10 z)] at h1
    cases h1
/-- signs of a string, by their codes -/
theorem tk_str {st l n p : Nat} {s : Nat → Nat} {cd : Nat → Nat} {m : jM} (hl : jsLn st = nI l) (hl2 : jsLen.getD st 0 = l) (hl3 : l ≤ 16) (hch : ∀ i, i < l → jsCh st i = nI (chw (cd i)) ∧ chw (cd i) < 256 ∧ clb (chw (cd i)) = cd i ∧ 2 ≤ cd i ∧ cd i < 10) (h : RP n s p m) :
    (∃ i, i < l ∧ p < n ∧ cl n s p = cd i ∧ f_X12_takesOf 201 st m = some (nI i, jsi m 201 5 (nI (p + 1)))) ∨ ((∀ i, i < l → ¬ cl n s p = cd i) ∧ f_X12_takesOf 201 st m = some (-1, m)) := by
  rcases r_takesOf (ch := fun i => chw (cd i)) hl hl2 hl3 (fun i hi => ⟨(hch i hi).1, (hch i hi).2.1⟩) h with ⟨i, h1, h2, h3, -, h5⟩ | ⟨h1, h2⟩
  · exact Or.inl ⟨i, h1, h2, by rw [cl_of h2 h3.symm]; exact (hch i h1).2.2.1, h5⟩
  · refine Or.inr ⟨fun i hi z => ?_, h2⟩
    obtain ⟨z1, z2⟩ := clx h z (hch i hi).2.2.2.1 (hch i hi).2.2.2.2
    exact h1 z1 i hi z2.symm
def cd19 (i : Nat) : Nat := 5 + i
def cd20 (i : Nat) : Nat := if i = 0 then 7 else if i = 1 then 5 else if i = 2 then 8 else 9
def cd22 (i : Nat) : Nat := if i = 0 then 5 else 7
def cd24 (i : Nat) : Nat := if i = 0 then 8 else if i = 1 then 5 else 9
theorem st_19 : jsLn 19 = nI 3 ∧ jsLen.getD 19 0 = 3 ∧ ∀ i, i < 3 → jsCh 19 i = nI (chw (cd19 i)) ∧ chw (cd19 i) < 256 ∧ clb (chw (cd19 i)) = cd19 i ∧ 2 ≤ cd19 i ∧ cd19 i < 10 := by decide +kernel
theorem st_20 : jsLn 20 = nI 4 ∧ jsLen.getD 20 0 = 4 ∧ ∀ i, i < 4 → jsCh 20 i = nI (chw (cd20 i)) ∧ chw (cd20 i) < 256 ∧ clb (chw (cd20 i)) = cd20 i ∧ 2 ≤ cd20 i ∧ cd20 i < 10 := by decide +kernel
theorem st_22 : jsLn 22 = nI 2 ∧ jsLen.getD 22 0 = 2 ∧ ∀ i, i < 2 → jsCh 22 i = nI (chw (cd22 i)) ∧ chw (cd22 i) < 256 ∧ clb (chw (cd22 i)) = cd22 i ∧ 2 ≤ cd22 i ∧ cd22 i < 10 := by decide +kernel
theorem st_24 : jsLn 24 = nI 3 ∧ jsLen.getD 24 0 = 3 ∧ ∀ i, i < 3 → jsCh 24 i = nI (chw (cd24 i)) ∧ chw (cd24 i) < 256 ∧ clb (chw (cd24 i)) = cd24 i ∧ 2 ≤ cd24 i ∧ cd24 i < 10 := by decide +kernel
/-- one sign, by its code -/
theorem tk_one {n p c : Nat} {s : Nat → Nat} {m : jM} (h : RP n s p m) (h1 : 2 ≤ c) (h2 : c < 10) (h3 : chw c < 256) (h4 : clb (chw c) = c) : (cl n s p = c ∧ p < n ∧ f_X12_takes 201 (nI (chw c)) m = some (1, jsi m 201 5 (nI (p + 1)))) ∨ (¬ cl n s p = c ∧ f_X12_takes 201 (nI (chw c)) m = some (0, jsi m 201 5 (nI p))) := by
  obtain ⟨v, t1, t2⟩ := r_takes h h3
  by_cases z : p < n ∧ s p = chw c
  · rw [if_pos z] at t1 t2
    rw [t2] at t1
    exact Or.inl ⟨by rw [cl_of z.1 z.2]; exact h4, z.1, t1⟩
  · rw [if_neg z] at t1 t2
    rw [t2] at t1
    exact Or.inr ⟨fun y => z (clx h y h1 h2), t1⟩
theorem r_two {n p : Nat} {s : Nat → Nat} {m : jM} (h : RP n s p m) :
    (dgc (cl n s p) = true ∧ dgc (cl n s (p + 1)) = true ∧ p + 1 < n ∧ f_X12_two 201 m = some (nI (tw s p), jsi (jsi m 201 5 (nI (p + 1))) 201 5 (nI (p + 1 + 1)))) ∨
    (dgc (cl n s p) = true ∧ dgc (cl n s (p + 1)) = false ∧ p < n ∧ f_X12_two 201 m = some (-1, jsi m 201 5 (nI (p + 1)))) ∨
    (dgc (cl n s p) = false ∧ f_X12_two 201 m = some (-1, m)) := by
  unfold f_X12_two
  simp only [jbd_e]
  rcases tk_dig h with ⟨a1, a2, a3, a4, a5⟩ | ⟨a1, a5⟩
  · have u1 := h.at (q := p + 1) (v := nI (p + 1)) a2 rfl
    rcases tk_dig u1 with ⟨b1, b2, b3, b4, b5⟩ | ⟨b1, b5⟩
    · refine Or.inl ⟨a1, b1, b2, ?_⟩
      rw [jcl2_e a5, if_pos (nI_pos' (by omega)), jcl2_e b5, if_pos (nI_pos' (by omega)), jlit 10, nI_mulx, nI_add]
      rfl
    · refine Or.inr (Or.inl ⟨a1, b1, a2, ?_⟩)
      rw [jcl2_e a5, if_pos (nI_pos' (by omega)), jcl2_e b5, if_neg (show ¬ (0 : Int32) ≤ -1 by decide)]
  · refine Or.inr (Or.inr ⟨a1, ?_⟩)
    rw [jcl2_e a5, if_neg (show ¬ (0 : Int32) ≤ -1 by decide), if_neg (show ¬ (0 : Int32) ≤ -1 by decide)]
/-- what reading changes -/
def RdF (ln : Nat) (m w : jM) : Prop := jFr (fun c => c = 201 ∨ (211 ≤ c ∧ c ≤ 215)) m w ∧ (∀ k, k ≠ 5 → k ≠ 7 → k ≠ 24 → w.1 201 k = m.1 201 k) ∧ ∀ i, i < ln → PR w i = PR m i
theorem RdF.rf {ln : Nat} {m : jM} : RdF ln m m := ⟨jFr.rf, fun _ _ _ _ => rfl, fun _ _ => rfl⟩
theorem RdF.tr {ln : Nat} {m w z : jM} (h : RdF ln m w) (h2 : RdF ln w z) : RdF ln m z := ⟨h.1.tr h2.1, fun k a b c => (h2.2.1 k a b c).trans (h.2.1 k a b c), fun i hi => (h2.2.2 i hi).trans (h.2.2 i hi)⟩
theorem RdF.le {ln ln' : Nat} {m w : jM} (h : RdF ln m w) (hl : ln' ≤ ln) : RdF ln' m w := ⟨h.1, h.2.1, fun i hi => h.2.2 i (by omega)⟩
theorem RdF.at {ln : Nat} {m : jM} {k : Nat} {v : Int32} (hk : k = 5 ∨ k = 7 ∨ k = 24) : RdF ln m (jsi m 201 k v) := ⟨jFr.si _ _ _ (Or.inl rfl), fun i a b c => jsi_pl (by omega), fun i _ => by
  unfold PR
  rw [jsi_ne (by decide), jsi_ne (by decide), jsi_ne (by decide), jsi_ne (by decide), jsi_ne (by decide)]⟩
theorem r_comes {n p ln : Nat} {s : Nat → Nat} {m : jM} (h : RP n s p m) (hl : m.1 201 24 = nI ln) (hln : ln < 168) (x1 x2 x3 x4 : Int32) : ∃ w, f_X12_comes 201 x1 x2 x3 x4 m = some (nI ln, w) ∧ RP n s p w ∧ w.1 201 24 = nI (ln + 1) ∧ (PR w ln).1 = x1 ∧ (PR w ln).2.1 = x2 ∧ (PR w ln).2.2.1 = x3 ∧ (PR w ln).2.2.2.1 = x4 ∧ RdF ln m w ∧ w.1 201 7 = m.1 201 7 := by
  obtain ⟨w, hw⟩ : ∃ w, w = jsi (jsi (jsi (jsi (jsi m 211 ln x1) 212 ln x2) 213 ln x3) 214 ln x4) 201 24 (nI (ln + 1)) := ⟨_, rfl⟩
  have ne : ∀ (z : jM) (c k : Nat) (v : Int32), c ≠ 201 → (jsi z c k v).1 201 = z.1 201 := fun z c k v hc => jsi_ne (fun q => hc q.symm)
  have e : f_X12_comes 201 x1 x2 x3 x4 m = some (nI ln, w) := by
    unfold f_X12_comes
    simp only [jbd_e]
    simp only [ne _ (201 + 10) _ _ (by decide), ne _ (201 + 11) _ _ (by decide), ne _ (201 + 12) _ _ (by decide), ne _ (201 + 13) _ _ (by decide), hl]
    rw [jin_n hln (by decide), jin_n hln (by decide), jin_n hln (by decide), jin_n hln (by decide), nI_clamp (by omega), jsi_at, nI_1, jlit 1, pk_sub (by omega), Nat.add_sub_cancel, hw]
  have k201 : ∀ k, k ≠ 24 → w.1 201 k = m.1 201 k := fun k hk => by
    rw [hw, jsi_pl hk, ne _ _ _ _ (by decide), ne _ _ _ _ (by decide), ne _ _ _ _ (by decide), ne _ _ _ _ (by decide)]
  have f : jFr (fun c => c = 201 ∨ (211 ≤ c ∧ c ≤ 215)) m w := by
    rw [hw]
    exact ((((jFr.si _ _ _ (by omega)).tr (jFr.si _ _ _ (by omega))).tr (jFr.si _ _ _ (by omega))).tr (jFr.si _ _ _ (by omega))).tr (jFr.si _ _ _ (by omega))
  refine ⟨w, e, ⟨h.1, h.2.1, by rw [k201 6 (by decide)]; exact h.2.2.1, by rw [k201 5 (by decide)]; exact h.2.2.2.1, fun i hi => by rw [(f 203 (by omega)).1]; exact h.2.2.2.2 i hi⟩, by rw [hw, jsi_at], ?_, ?_, ?_, ?_, ⟨f, fun k _ _ c => k201 k c, fun i hi => ?_⟩, k201 7 (by decide)⟩
  · show w.1 211 ln = x1
    rw [hw, jsi_ne (by decide), jsi_ne (by decide), jsi_ne (by decide), jsi_ne (by decide), jsi_at]
  · show w.1 212 ln = x2
    rw [hw, jsi_ne (by decide), jsi_ne (by decide), jsi_ne (by decide), jsi_at]
  · show w.1 213 ln = x3
    rw [hw, jsi_ne (by decide), jsi_ne (by decide), jsi_at]
  · show w.1 214 ln = x4
    rw [hw, jsi_ne (by decide), jsi_at]
  · have e1 : w.1 211 i = m.1 211 i := by rw [hw, jsi_ne (by decide), jsi_ne (by decide), jsi_ne (by decide), jsi_ne (by decide), jsi_pl (by omega)]
    have e2 : w.1 212 i = m.1 212 i := by rw [hw, jsi_ne (by decide), jsi_ne (by decide), jsi_ne (by decide), jsi_pl (by omega), jsi_ne (by decide)]
    have e3 : w.1 213 i = m.1 213 i := by rw [hw, jsi_ne (by decide), jsi_ne (by decide), jsi_pl (by omega), jsi_ne (by decide), jsi_ne (by decide)]
    have e4 : w.1 214 i = m.1 214 i := by rw [hw, jsi_ne (by decide), jsi_pl (by omega), jsi_ne (by decide), jsi_ne (by decide), jsi_ne (by decide)]
    have e5 : w.1 215 i = m.1 215 i := by rw [hw, jsi_ne (by decide), jsi_ne (by decide), jsi_ne (by decide), jsi_ne (by decide), jsi_ne (by decide)]
    unfold PR
    rw [e1, e2, e3, e4, e5]
/-- an act was read, or not -/
def AR (n : Nat) (s : Nat → Nat) (p ln : Nat) (m : jM) (r : Int32) (w : jM) : Prop := RdF ln m w ∧ w.1 201 7 = m.1 201 7 ∧ ((∃ k, (ra n s p).2 = some k ∧ r = 1 ∧ RP n s (ra n s p).1 w ∧ w.1 201 24 = nI (ln + 1) ∧ (PR w ln).1 = nI (rop k) ∧ (PR w ln).2.1 = aA s k p ∧ (PR w ln).2.2.1 = aB s k p ∧ (PR w ln).2.2.2.1 = nI p) ∨ ((ra n s p).2 = none ∧ r = 0 ∧ RP n s (ra n s p).1 w))
theorem ar_no {n p q ln len : Nat} {s : Nat → Nat} {m w : jM} (hc : c3 n s p = (len, none)) (hq : q = p + len) (h : RP n s q w) (f : RdF ln m w) (h7 : w.1 201 7 = m.1 201 7) : AR n s p ln m 0 w := by
  refine ⟨f, h7, Or.inr ⟨?_, rfl, ?_⟩⟩
  · show (c3 n s p).2 = none; rw [hc]
  · show RP n s (p + (c3 n s p).1) w; rw [hc, ← hq]; exact h
theorem ar_ok {n p q ln len k : Nat} {s : Nat → Nat} {m0 m w : jM} {x1 x2 x3 : Int32} (hc : c3 n s p = (len, some k)) (hq : q = p + len) (h : RP n s q w) (hl : w.1 201 24 = nI (ln + 1)) (f0 : RdF ln m0 m) (h70 : m.1 201 7 = m0.1 201 7) (f : RdF ln m w) (h7 : w.1 201 7 = m.1 201 7) (e1 : (PR w ln).1 = x1) (e2 : (PR w ln).2.1 = x2) (e3 : (PR w ln).2.2.1 = x3) (e4 : (PR w ln).2.2.2.1 = nI p) (g1 : x1 = nI (rop k)) (g2 : x2 = aA s k p) (g3 : x3 = aB s k p) : AR n s p ln m0 1 w := by
  refine ⟨f0.tr f, h7.trans h70, Or.inl ⟨k, ?_, rfl, ?_, hl, e1.trans g1, e2.trans g2, e3.trans g3, e4⟩⟩
  · show (c3 n s p).2 = some k; rw [hc]
  · show RP n s (p + (c3 n s p).1) w; rw [hc, ← hq]; exact h
theorem a24 {m : jM} {v : Int32} : (jsi m 201 5 v).1 201 24 = m.1 201 24 ∧ (jsi m 201 5 v).1 201 7 = m.1 201 7 := ⟨jsi_pl (by decide), jsi_pl (by decide)⟩
