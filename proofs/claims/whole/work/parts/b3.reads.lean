/-! run: the reference reads an act of each sort -/
theorem tw_lt {n p : Nat} {s : Nat → Nat} (h : dgc (cl n s p) = true) (h1 : dgc (cl n s (p + 1)) = true) : tw s p < 100 := by
  have a := cl_d h
  have b := cl_d h1
  unfold tw
  omega
theorem rd_cell {n p ln : Nat} {s : Nat → Nat} {m : jM} (h : RP n s (p + 1) m) (hl : m.1 201 24 = nI ln) (hln : ln < 168) (h0 : cl n s p = 0) : ∃ r w, f_X12_readsCell 201 (nI (s p - 65)) (nI p) m = some (r, w) ∧ AR n s p ln m r w := by
  have ng : ¬ (0 : Int32) ≤ -1 := by decide
  unfold f_X12_readsCell
  simp only [jbd_e]
  rcases tk_str st_19.1 st_19.2.1 (by omega) st_19.2.2 h with ⟨i, i1, i2, i3, i4⟩ | ⟨i3, i4⟩
  · have u1 := h.at (q := p + 1 + 1) (v := nI (p + 1 + 1)) i2 rfl
    have pn : (0 : Int32) ≤ nI i := nI_pos' (by omega)
    have e1 : cl n s (p + 1) = 5 + i := i3
    rw [jcl2_e i4, if_pos pn]
    rcases r_two u1 with ⟨a1, a2, a3, a4⟩ | ⟨a1, a2, a3, a4⟩ | ⟨a1, a4⟩
    · have b1 : dgc (cl n s (p + 2)) = true := a1
      have b2 : dgc (cl n s (p + 3)) = true := a2
      have tl := tw_lt a1 a2
      have u3 := (u1.at (q := p + 1 + 1 + 1) (v := nI (p + 1 + 1 + 1)) (by omega) rfl).at (q := p + 1 + 1 + 1 + 1) (v := nI (p + 1 + 1 + 1 + 1)) a3 rfl
      obtain ⟨w, d1, d2, d3, d4, d5, d6, d7, d8, d9⟩ := r_comes u3 (by rw [a24.1, a24.1, a24.1]; exact hl) hln (if nI i = (0 : Int32) then (0 : Int32) else 1) (nI (s p - 65)) (if nI i = (2 : Int32) then -nI (tw s (p + 1 + 1)) else nI (tw s (p + 1 + 1))) (nI p)
      rw [jcl2_e a4, if_pos (nI_pos' (by omega)), jcl2_e d1]
      have hc : c3 n s p = (4, some i) := by
        unfold c3 rac
        rw [h0, e1, b1, b2, if_pos rfl, if_pos (by omega), if_pos rfl, if_pos rfl, Nat.add_sub_cancel_left]
      refine ⟨1, w, rfl, ar_ok hc (by omega) d2 d3 ((RdF.at (Or.inl rfl)).tr ((RdF.at (Or.inl rfl)).tr (RdF.at (Or.inl rfl)))) (by rw [a24.2, a24.2, a24.2]) d8 d9 d4 d5 d6 d7 ?_ ?_ ?_⟩
      · have : i = 0 ∨ i = 1 ∨ i = 2 := by omega
        rcases this with rfl | rfl | rfl <;> decide
      · unfold aA
        rw [if_pos i1]
      · have : i = 0 ∨ i = 1 ∨ i = 2 := by omega
        rcases this with rfl | rfl | rfl
        · rw [if_neg (by decide)]; rfl
        · rw [if_neg (by decide)]; rfl
        · rw [if_pos (by decide)]; rfl
    · have b1 : dgc (cl n s (p + 2)) = true := a1
      have b2 : dgc (cl n s (p + 3)) = false := a2
      rw [jcl2_e a4, if_neg ng]
      refine ⟨0, _, rfl, ar_no (len := 3) ?_ (by omega) (u1.at (q := p + 1 + 1 + 1) (v := nI (p + 1 + 1 + 1)) a3 rfl) ((RdF.at (Or.inl rfl)).tr (RdF.at (Or.inl rfl))) (by rw [a24.2, a24.2])⟩
      unfold c3 rac
      rw [h0, e1, b1, b2, if_pos rfl, if_pos (by omega), if_pos rfl, if_neg Bool.false_ne_true]
    · have b1 : dgc (cl n s (p + 2)) = false := a1
      rw [jcl2_e a4, if_neg ng]
      refine ⟨0, _, rfl, ar_no (len := 2) ?_ (by omega) u1 (RdF.at (Or.inl rfl)) a24.2⟩
      unfold c3 rac
      rw [h0, e1, b1, if_pos rfl, if_pos (by omega), if_neg Bool.false_ne_true]
  · have j0 : ¬ cl n s (p + 1) = 5 := i3 0 (by omega)
    have j1 : ¬ cl n s (p + 1) = 6 := i3 1 (by omega)
    have j2 : ¬ cl n s (p + 1) = 7 := i3 2 (by omega)
    rw [jcl2_e i4, if_neg ng, if_neg ng]
    refine ⟨0, _, rfl, ar_no (len := 1) ?_ rfl h RdF.rf rfl⟩
    unfold c3 rac
    rw [h0, if_pos rfl, if_neg (by omega)]
theorem rd_var {n p ln : Nat} {s : Nat → Nat} {m : jM} (h : RP n s (p + 1) m) (hl : m.1 201 24 = nI ln) (hln : ln < 168) (h0 : cl n s p = 1) : ∃ r w, f_X12_readsVar 201 (nI (s p - 118)) (nI p) m = some (r, w) ∧ AR n s p ln m r w := by
  have ng : ¬ (0 : Int32) ≤ -1 := by decide
  unfold f_X12_readsVar
  simp only [jbd_e]
  rcases tk_str st_20.1 st_20.2.1 (by omega) st_20.2.2 h with ⟨i, i1, i2, i3, i4⟩ | ⟨i3, i4⟩
  · have u1 := h.at (q := p + 1 + 1) (v := nI (p + 1 + 1)) i2 rfl
    have pn : (0 : Int32) ≤ nI i := nI_pos' (by omega)
    have i7 : i = 0 ∨ i = 1 ∨ i = 2 ∨ i = 3 := by omega
    have e1 : cl n s (p + 1) = 7 ∨ cl n s (p + 1) = 5 ∨ cl n s (p + 1) = 8 ∨ cl n s (p + 1) = 9 := by
      rw [i3]
      rcases i7 with rfl | rfl | rfl | rfl <;> decide
    rw [jcl2_e i4, if_pos pn]
    rcases tk_fiv u1 with ⟨a1, a2, a3, a4⟩ | ⟨a1, a4⟩
    · have b1 : cl n s (p + 2) = 10 := a1
      have a5 := cl_10 a1
      have u2 := u1.at (q := p + 1 + 1 + 1) (v := nI (p + 1 + 1 + 1)) a2 rfl
      obtain ⟨w, d1, d2, d3, d4, d5, d6, d7, d8, d9⟩ := r_comes u2 (by rw [a24.1, a24.1]; exact hl) hln ((2 : Int32) + nI i) (nI (s p - 118)) (nI (s (p + 1 + 1) - 48)) (nI p)
      rw [jcl2_e a4, if_pos (nI_pos' (by omega)), jcl2_e d1]
      have hc : c3 n s p = (3, some (3 + i)) := by
        unfold c3 rac
        rw [h0, b1, if_neg (by decide), if_pos rfl, if_pos e1, if_pos rfl, i3]
        rcases i7 with rfl | rfl | rfl | rfl <;> rfl
      refine ⟨1, w, rfl, ar_ok hc (by omega) d2 d3 ((RdF.at (Or.inl rfl)).tr (RdF.at (Or.inl rfl))) (by rw [a24.2, a24.2]) d8 d9 d4 d5 d6 d7 ?_ ?_ ?_⟩
      · rcases i7 with rfl | rfl | rfl | rfl <;> decide
      · unfold aA
        rw [if_neg (by omega), if_pos (by omega)]
      · unfold aB
        rw [if_neg (by omega), if_neg (by omega), if_pos (by omega)]
    · have b1 : ¬ cl n s (p + 2) = 10 := a1
      rw [jcl2_e a4, if_neg ng]
      refine ⟨0, _, rfl, ar_no (len := 2) ?_ (by omega) u1 (RdF.at (Or.inl rfl)) a24.2⟩
      unfold c3 rac
      rw [h0, if_neg (by decide), if_pos rfl, if_pos e1, if_neg b1]
  · have j0 : ¬ cl n s (p + 1) = 7 := i3 0 (by omega)
    have j1 : ¬ cl n s (p + 1) = 5 := i3 1 (by omega)
    have j2 : ¬ cl n s (p + 1) = 8 := i3 2 (by omega)
    have j3 : ¬ cl n s (p + 1) = 9 := i3 3 (by omega)
    rw [jcl2_e i4, if_neg ng, if_neg ng]
    refine ⟨0, _, rfl, ar_no (len := 1) ?_ rfl h RdF.rf rfl⟩
    unfold c3 rac
    rw [h0, if_neg (by decide), if_pos rfl, if_neg (by omega)]
theorem rd_key {n p ln : Nat} {s : Nat → Nat} {m : jM} (h : RP n s (p + 1) m) (hl : m.1 201 24 = nI ln) (hln : ln < 168) (h0 : cl n s p = 2) : ∃ r w, f_X12_readsKey 201 (nI p) m = some (r, w) ∧ AR n s p ln m r w := by
  have ng : ¬ (0 : Int32) ≤ -1 := by decide
  unfold f_X12_readsKey
  simp only [jbd_e]
  rcases tk_dig h with ⟨a1, a2, a3, a3', a4⟩ | ⟨a1, a4⟩
  · have u1 := h.at (q := p + 1 + 1) (v := nI (p + 1 + 1)) a2 rfl
    rw [jcl2_e a4, if_pos (nI_pos' (by omega))]
    rcases tk_str st_22.1 st_22.2.1 (by omega) st_22.2.2 u1 with ⟨i, i1, i2, i3, i4⟩ | ⟨i3, i4⟩
    · have u2 := u1.at (q := p + 1 + 1 + 1) (v := nI (p + 1 + 1 + 1)) i2 rfl
      have i7 : i = 0 ∨ i = 1 := by omega
      rw [jcl2_e i4, if_pos (nI_pos' (by omega))]
      rcases i7 with rfl | rfl
      · have e2 : cl n s (p + 2) = 5 := i3
        rw [if_neg (by decide)]
        rcases r_two u2 with ⟨c1, c2, c3', c4⟩ | ⟨c1, c2, c3', c4⟩ | ⟨c1, c4⟩
        · have b1 : dgc (cl n s (p + 3)) = true := c1
          have b2 : dgc (cl n s (p + 4)) = true := c2
          have tl := tw_lt c1 c2
          have u3 := (u2.at (q := p + 1 + 1 + 1 + 1) (v := nI (p + 1 + 1 + 1 + 1)) (by omega) rfl).at (q := p + 1 + 1 + 1 + 1 + 1) (v := nI (p + 1 + 1 + 1 + 1 + 1)) c3' rfl
          obtain ⟨w, d1, d2, d3, d4, d5, d6, d7, d8, d9⟩ := r_comes u3 (by rw [a24.1, a24.1, a24.1, a24.1]; exact hl) hln ((6 : Int32) + nI 0) (nI (s (p + 1) - 48)) (nI (tw s (p + 1 + 1 + 1))) (nI p)
          rw [jcl2_e c4, if_pos (nI_pos' (by omega)), jcl2_e d1]
          have hc : c3 n s p = (5, some 7) := by
            unfold c3 rac
            rw [h0, a1, e2, b1, b2, if_neg (by decide), if_neg (by decide), if_pos rfl, if_pos rfl, if_pos rfl, if_pos rfl, if_pos rfl]
          exact ⟨1, w, rfl, ar_ok hc (by omega) d2 d3 ((RdF.at (Or.inl rfl)).tr ((RdF.at (Or.inl rfl)).tr ((RdF.at (Or.inl rfl)).tr (RdF.at (Or.inl rfl))))) (by rw [a24.2, a24.2, a24.2, a24.2]) d8 d9 d4 d5 d6 d7 (by decide) rfl rfl⟩
        · have b1 : dgc (cl n s (p + 3)) = true := c1
          have b2 : dgc (cl n s (p + 4)) = false := c2
          rw [jcl2_e c4, if_neg ng]
          refine ⟨0, _, rfl, ar_no (len := 4) ?_ (by omega) (u2.at (q := p + 1 + 1 + 1 + 1) (v := nI (p + 1 + 1 + 1 + 1)) c3' rfl) ((RdF.at (Or.inl rfl)).tr ((RdF.at (Or.inl rfl)).tr (RdF.at (Or.inl rfl)))) (by rw [a24.2, a24.2, a24.2])⟩
          unfold c3 rac
          rw [h0, a1, e2, b1, b2, if_neg (by decide), if_neg (by decide), if_pos rfl, if_pos rfl, if_pos rfl, if_pos rfl, if_neg Bool.false_ne_true]
        · have b1 : dgc (cl n s (p + 3)) = false := c1
          rw [jcl2_e c4, if_neg ng]
          refine ⟨0, _, rfl, ar_no (len := 3) ?_ (by omega) u2 ((RdF.at (Or.inl rfl)).tr (RdF.at (Or.inl rfl))) (by rw [a24.2, a24.2])⟩
          unfold c3 rac
          rw [h0, a1, e2, b1, if_neg (by decide), if_neg (by decide), if_pos rfl, if_pos rfl, if_pos rfl, if_neg Bool.false_ne_true]
      · have e2 : cl n s (p + 2) = 7 := i3
        obtain ⟨w, d1, d2, d3, d4, d5, d6, d7, d8, d9⟩ := r_comes u2 (by rw [a24.1, a24.1]; exact hl) hln ((6 : Int32) + nI 1) (nI (s (p + 1) - 48)) 0 (nI p)
        rw [if_pos (by decide), if_pos (by decide), jcl2_e d1]
        have hc : c3 n s p = (3, some 8) := by
          unfold c3 rac
          rw [h0, a1, e2, if_neg (by decide), if_neg (by decide), if_pos rfl, if_pos rfl, if_neg (by decide), if_pos rfl]
        exact ⟨1, w, rfl, ar_ok hc (by omega) d2 d3 ((RdF.at (Or.inl rfl)).tr (RdF.at (Or.inl rfl))) (by rw [a24.2, a24.2]) d8 d9 d4 d5 d6 d7 (by decide) rfl rfl⟩
    · have j0 : ¬ cl n s (p + 2) = 5 := i3 0 (by omega)
      have j1 : ¬ cl n s (p + 2) = 7 := i3 1 (by omega)
      rw [jcl2_e i4, if_neg ng]
      refine ⟨0, _, rfl, ar_no (len := 2) ?_ (by omega) u1 (RdF.at (Or.inl rfl)) a24.2⟩
      unfold c3 rac
      rw [h0, a1, if_neg (by decide), if_neg (by decide), if_pos rfl, if_pos rfl, if_neg j0, if_neg j1]
  · rw [jcl2_e a4, if_neg ng, if_neg ng]
    refine ⟨0, _, rfl, ar_no (len := 1) ?_ rfl h RdF.rf rfl⟩
    unfold c3 rac
    rw [h0, a1, if_neg (by decide), if_neg (by decide), if_pos rfl, if_neg Bool.false_ne_true]
theorem and1b (x : Int32) (h : ¬ x < 0) : ((if x < (0 : Int32) then (0 : Int32) else 1) &&& 1) = 1 := by rw [if_neg h]; decide
theorem and1c : ((if (-1 : Int32) < (0 : Int32) then (0 : Int32) else 1) &&& 1) = 0 := by decide
theorem rd_ask {n p ln : Nat} {s : Nat → Nat} {m : jM} (h : RP n s (p + 1) m) (hl : m.1 201 24 = nI ln) (hln : ln < 168) (h0 : cl n s p = 3) : ∃ r w, f_X12_readsAsked 201 (nI p) m = some (r, w) ∧ AR n s p ln m r w := by
  have ng : ¬ (0 : Int32) ≤ -1 := by decide
  have m1 : (-1 : Int32) < 0 := by decide
  unfold f_X12_readsAsked
  simp only [jbd_e]
  rcases tk_cell h with ⟨a1, a2, a3, a4⟩ | ⟨a1, a4⟩
  · have a5 := cl_0 a1
    have u1 := h.at (q := p + 1 + 1) (v := nI (p + 1 + 1)) a2 rfl
    rw [jcl2_e a4, if_neg (nI_pos (by omega))]
    rcases tk_str st_24.1 st_24.2.1 (by omega) st_24.2.2 u1 with ⟨i, i1, i2, i3, i4⟩ | ⟨i3, i4⟩
    · have u2 := u1.at (q := p + 1 + 1 + 1) (v := nI (p + 1 + 1 + 1)) i2 rfl
      have i7 : i = 0 ∨ i = 1 ∨ i = 2 := by omega
      have e2 : cl n s (p + 2) = cd24 i := i3
      have e2' : cd24 i = 8 ∨ cd24 i = 5 ∨ cd24 i = 9 := by rcases i7 with rfl | rfl | rfl <;> decide
      rw [jcl2_e i4, if_pos (nI_pos' (by omega))]
      rcases r_two u2 with ⟨c1, c2, c3', c4⟩ | ⟨c1, c2, c3', c4⟩ | ⟨c1, c4⟩
      · have b1 : dgc (cl n s (p + 3)) = true := c1
        have b2 : dgc (cl n s (p + 4)) = true := c2
        have tl := tw_lt c1 c2
        have u3 := (u2.at (q := p + 1 + 1 + 1 + 1) (v := nI (p + 1 + 1 + 1 + 1)) (by omega) rfl).at (q := p + 1 + 1 + 1 + 1 + 1) (v := nI (p + 1 + 1 + 1 + 1 + 1)) c3' rfl
        obtain ⟨w, d1, d2, d3, d4, d5, d6, d7, d8, d9⟩ := r_comes u3 (by rw [a24.1, a24.1, a24.1, a24.1]; exact hl) hln ((9 : Int32) + nI i) (nI (s (p + 1) - 65)) (nI (tw s (p + 1 + 1 + 1))) (nI p)
        rw [jcl2_e c4, jcl2_e d1, and1b _ (nI_pos (by omega))]
        have hc : c3 n s p = (5, some (10 + i)) := by
          unfold c3 rac
          rw [h0, a1, e2, b1, b2, if_neg (by decide), if_neg (by decide), if_neg (by decide), if_pos rfl, if_pos rfl, if_pos e2', if_pos rfl, if_pos rfl]
          rcases i7 with rfl | rfl | rfl <;> rfl
        refine ⟨1, w, rfl, ar_ok hc (by omega) d2 d3 ((RdF.at (Or.inl rfl)).tr ((RdF.at (Or.inl rfl)).tr ((RdF.at (Or.inl rfl)).tr (RdF.at (Or.inl rfl))))) (by rw [a24.2, a24.2, a24.2, a24.2]) d8 d9 d4 d5 d6 d7 ?_ ?_ ?_⟩
        · rcases i7 with rfl | rfl | rfl <;> decide
        · unfold aA
          rw [if_neg (by omega), if_neg (by omega), if_neg (by omega), if_neg (by omega), if_pos (by omega)]
        · unfold aB
          rw [if_neg (by omega), if_neg (by omega), if_neg (by omega), if_neg (by omega), if_neg (by omega), if_pos (by omega)]
      · have b1 : dgc (cl n s (p + 3)) = true := c1
        have b2 : dgc (cl n s (p + 4)) = false := c2
        have u3 := u2.at (q := p + 1 + 1 + 1 + 1) (v := nI (p + 1 + 1 + 1 + 1)) c3' rfl
        obtain ⟨w, d1, d2, d3, d4, d5, d6, d7, d8, d9⟩ := r_comes u3 (by rw [a24.1, a24.1, a24.1]; exact hl) hln ((9 : Int32) + nI i) (nI (s (p + 1) - 65)) (-1) (nI p)
        rw [jcl2_e c4, jcl2_e d1, and1c]
        refine ⟨0, w, rfl, ar_no (len := 4) ?_ (by omega) d2 (((RdF.at (Or.inl rfl)).tr ((RdF.at (Or.inl rfl)).tr (RdF.at (Or.inl rfl)))).tr d8) (by rw [d9, a24.2, a24.2, a24.2])⟩
        unfold c3 rac
        rw [h0, a1, e2, b1, b2, if_neg (by decide), if_neg (by decide), if_neg (by decide), if_pos rfl, if_pos rfl, if_pos e2', if_pos rfl, if_neg Bool.false_ne_true]
      · have b1 : dgc (cl n s (p + 3)) = false := c1
        obtain ⟨w, d1, d2, d3, d4, d5, d6, d7, d8, d9⟩ := r_comes u2 (by rw [a24.1, a24.1]; exact hl) hln ((9 : Int32) + nI i) (nI (s (p + 1) - 65)) (-1) (nI p)
        rw [jcl2_e c4, jcl2_e d1, and1c]
        refine ⟨0, w, rfl, ar_no (len := 3) ?_ (by omega) d2 (((RdF.at (Or.inl rfl)).tr (RdF.at (Or.inl rfl))).tr d8) (by rw [d9, a24.2, a24.2])⟩
        unfold c3 rac
        rw [h0, a1, e2, b1, if_neg (by decide), if_neg (by decide), if_neg (by decide), if_pos rfl, if_pos rfl, if_pos e2', if_neg Bool.false_ne_true]
    · have j0 : ¬ cl n s (p + 2) = 8 := i3 0 (by omega)
      have j1 : ¬ cl n s (p + 2) = 5 := i3 1 (by omega)
      have j2 : ¬ cl n s (p + 2) = 9 := i3 2 (by omega)
      obtain ⟨w, d1, d2, d3, d4, d5, d6, d7, d8, d9⟩ := r_comes u1 (by rw [a24.1]; exact hl) hln ((9 : Int32) + -1) (nI (s (p + 1) - 65)) (-1) (nI p)
      rw [jcl2_e i4, if_neg ng, jcl2_e d1, and1c]
      refine ⟨0, w, rfl, ar_no (len := 2) ?_ (by omega) d2 ((RdF.at (Or.inl rfl)).tr d8) (by rw [d9, a24.2])⟩
      unfold c3 rac
      rw [h0, a1, if_neg (by decide), if_neg (by decide), if_neg (by decide), if_pos rfl, if_pos rfl, if_neg (by omega)]
  · rw [jcl2_e a4, if_pos m1]
    rcases tk_var h with ⟨b1, b2, b3, b4⟩ | ⟨b1, b4⟩
    · have b5 := cl_1 b1
      have u1 := h.at (q := p + 1 + 1) (v := nI (p + 1 + 1)) b2 rfl
      rw [jcl2_e b4, if_pos (nI_pos' (by omega)), if_neg (nI_pos (by omega)), if_pos trivial]
      rcases tk_fiv u1 with ⟨c1, c2, c3', c4⟩ | ⟨c1, c4⟩
      · have g2 : cl n s (p + 2) = 10 := c1
        have g3 := cl_10 c1
        have u2 := u1.at (q := p + 1 + 1 + 1) (v := nI (p + 1 + 1 + 1)) c2 rfl
        obtain ⟨w, d1, d2, d3, d4, d5, d6, d7, d8, d9⟩ := r_comes u2 (by rw [a24.1, a24.1]; exact hl) hln (12 : Int32) (nI (s (p + 1) - 118)) (nI (s (p + 1 + 1) - 48)) (nI p)
        rw [jcl2_e c4, jcl2_e d1, and1b _ (nI_pos (by omega))]
        have hc : c3 n s p = (3, some 13) := by
          unfold c3 rac
          rw [h0, b1, g2, if_neg (by decide), if_neg (by decide), if_neg (by decide), if_pos rfl, if_neg (by decide), if_pos rfl, if_pos rfl]
        exact ⟨1, w, rfl, ar_ok hc (by omega) d2 d3 ((RdF.at (Or.inl rfl)).tr (RdF.at (Or.inl rfl))) (by rw [a24.2, a24.2]) d8 d9 d4 d5 d6 d7 (by decide) rfl rfl⟩
      · have g2 : ¬ cl n s (p + 2) = 10 := c1
        obtain ⟨w, d1, d2, d3, d4, d5, d6, d7, d8, d9⟩ := r_comes u1 (by rw [a24.1]; exact hl) hln (12 : Int32) (nI (s (p + 1) - 118)) (-1) (nI p)
        rw [jcl2_e c4, jcl2_e d1, and1c]
        refine ⟨0, w, rfl, ar_no (len := 2) ?_ (by omega) d2 ((RdF.at (Or.inl rfl)).tr d8) (by rw [d9, a24.2])⟩
        unfold c3 rac
        rw [h0, b1, if_neg (by decide), if_neg (by decide), if_neg (by decide), if_pos rfl, if_neg (by decide), if_pos rfl, if_neg g2]
    · rw [jcl2_e b4, if_neg ng]
      rcases tk_one (c := 2) h (by decide) (by decide) (by decide) (by decide) with ⟨e1, e2, e3⟩ | ⟨e1, e3⟩
      · have u1 := h.at (q := p + 1 + 1) (v := nI (p + 1 + 1)) e2 rfl
        rw [jcl2_e (show f_X12_takes 201 (107 : Int32) m = _ from e3), if_neg (by decide), if_pos m1, if_neg (by decide), if_neg (by decide)]
        rcases tk_dig u1 with ⟨c1, c2, c3', c3'', c4⟩ | ⟨c1, c4⟩
        · have g2 : dgc (cl n s (p + 2)) = true := c1
          have u2 := u1.at (q := p + 1 + 1 + 1) (v := nI (p + 1 + 1 + 1)) c2 rfl
          obtain ⟨w, d1, d2, d3, d4, d5, d6, d7, d8, d9⟩ := r_comes u2 (by rw [a24.1, a24.1]; exact hl) hln (13 : Int32) (-1) (nI (s (p + 1 + 1) - 48)) (nI p)
          rw [jcl2_e c4, jcl2_e d1, and1b _ (nI_pos (by omega))]
          have hc : c3 n s p = (3, some 14) := by
            unfold c3 rac
            rw [h0, e1, g2, if_neg (by decide), if_neg (by decide), if_neg (by decide), if_pos rfl, if_neg (by decide), if_neg (by decide), if_pos rfl, if_pos rfl]
          exact ⟨1, w, rfl, ar_ok hc (by omega) d2 d3 ((RdF.at (Or.inl rfl)).tr (RdF.at (Or.inl rfl))) (by rw [a24.2, a24.2]) d8 d9 d4 d5 d6 d7 (by decide) rfl rfl⟩
        · have g2 : dgc (cl n s (p + 2)) = false := c1
          obtain ⟨w, d1, d2, d3, d4, d5, d6, d7, d8, d9⟩ := r_comes u1 (by rw [a24.1]; exact hl) hln (13 : Int32) (-1) (-1) (nI p)
          rw [jcl2_e c4, jcl2_e d1, and1c]
          refine ⟨0, w, rfl, ar_no (len := 2) ?_ (by omega) d2 ((RdF.at (Or.inl rfl)).tr d8) (by rw [d9, a24.2])⟩
          unfold c3 rac
          rw [h0, e1, g2, if_neg (by decide), if_neg (by decide), if_neg (by decide), if_pos rfl, if_neg (by decide), if_neg (by decide), if_pos rfl, if_neg Bool.false_ne_true]
      · have u1 := h.at (q := p + 1) (v := nI (p + 1)) h.2.1 rfl
        obtain ⟨w, d1, d2, d3, d4, d5, d6, d7, d8, d9⟩ := r_comes u1 (by rw [a24.1]; exact hl) hln (12 : Int32) (-1) (-1) (nI p)
        rw [jcl2_e (show f_X12_takes 201 (107 : Int32) m = _ from e3), if_pos rfl, if_pos m1, if_pos trivial, if_pos trivial, jcl2_e d1, and1c]
        refine ⟨0, w, rfl, ar_no (len := 1) ?_ rfl d2 ((RdF.at (Or.inl rfl)).tr d8) (by rw [d9, a24.2])⟩
        unfold c3 rac
        rw [h0, if_neg (by decide), if_neg (by decide), if_neg (by decide), if_pos rfl, if_neg a1, if_neg b1, if_neg e1]
