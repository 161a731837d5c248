/-! posts, run: one sign of some -/
theorem r_takesOf {st l n p : Nat} {ch s : Nat → Nat} {m : jM} (hl : jsLn st = nI l) (hl2 : jsLen.getD st 0 = l) (hl3 : l ≤ 16) (hch : ∀ i, i < l → jsCh st i = nI (ch i) ∧ ch i < 256) (h : RP n s p m) :
    (∃ i, i < l ∧ p < n ∧ ch i = s p ∧ (∀ j, j < i → ch j ≠ s p) ∧ f_X12_takesOf 201 st m = some (nI i, jsi m 201 5 (nI (p + 1)))) ∨ ((p < n → ∀ j, j < l → ch j ≠ s p) ∧ f_X12_takesOf 201 st m = some (-1, m)) := by
  obtain ⟨h1, h2, h3, h4, h5⟩ := h
  obtain ⟨e, he, hr⟩ := jlp (step := fun (u : Int32) => f_X12_takesOf_L2 201 st m u)
    (fun u => ∃ k, k ≤ l ∧ u = nI k ∧ (p < n → ∀ j, j < k → ch j ≠ s p)) (fun u => l - u.toNatClampNeg)
    (fun e => (∃ i, e = .inl (nI i) ∧ i < l ∧ p < n ∧ ch i = s p ∧ ∀ j, j < i → ch j ≠ s p) ∨ (e = .inr () ∧ (p < n → ∀ j, j < l → ch j ≠ s p)))
    (fun u hu => by
      obtain ⟨k, hk, rfl, g⟩ := hu
      by_cases c : k < l
      · by_cases d : p < n
        · obtain ⟨c1, c2⟩ := hch k c
          obtain ⟨s1, s2⟩ := h5 p (by omega)
          have pre : ∀ z, (if nI (ch k) = nI (s p) then some (.inr (.inl (nI k))) else some (.inl (nI (k + 1)))) = z → f_X12_takesOf_L2 201 st m (nI k) = z := fun z hz => by
            unfold f_X12_takesOf_L2
            rw [hl, if_neg (nI_ge c (by omega)), h3, h4, if_neg (nI_ge d (by omega)), hl2, jrd_n c (by omega)]
            show jrd (m.1 203) _ _ _ = _
            rw [jrd_n (by omega) (by decide), c1, s1, nI_1]
            exact hz
          by_cases y : ch k = s p
          · exact ⟨.inr (.inl (nI k)), pre _ (if_pos (by rw [y])), Or.inl ⟨k, rfl, c, d, y, fun j hj => g d j hj⟩⟩
          · refine ⟨.inl (nI (k + 1)), pre _ (if_neg (fun z => y ((nI_eq (by omega) (by omega)).mp z))), ⟨k + 1, by omega, rfl, fun _ j hj => ?_⟩, ?_⟩
            · by_cases w : j = k
              · rw [w]; exact y
              · exact g d j (by omega)
            · show l - (nI (k + 1)).toNatClampNeg < l - (nI k).toNatClampNeg
              rw [nI_clamp (by omega), nI_clamp (by omega)]; omega
        · refine ⟨.inr (.inr ()), ?_, Or.inr ⟨rfl, fun z => absurd z d⟩⟩
          unfold f_X12_takesOf_L2
          rw [hl, if_neg (nI_ge c (by omega)), h3, h4, if_pos (nI_le (by omega) (by omega))]
      · have : k = l := by omega
        subst this
        refine ⟨.inr (.inr ()), ?_, Or.inr ⟨rfl, g⟩⟩
        unfold f_X12_takesOf_L2
        rw [hl, if_pos (nI_le (Nat.le_refl _) (by omega))])
    jfu (0 : Int32) ⟨0, by omega, rfl, fun _ j hj => absurd hj (Nat.not_lt_zero j)⟩ (by show l - _ < 2000000; omega)
  unfold f_X12_takesOf
  rcases hr with ⟨i, rfl, i1, i2, i3, i4⟩ | ⟨rfl, g⟩
  · refine Or.inl ⟨i, i1, i2, i3, i4, ?_⟩
    rw [jcl_e he, h4]
    show jbd (jsi m 201 5 (nI p + 1)) _ = _
    rw [jbd_e, nI_1]
  · refine Or.inr ⟨g, ?_⟩
    rw [jcl_e he]
/-- signs in a row -/
theorem r_takesR {st c l n p : Nat} {s : Nat → Nat} {m : jM} (hl : jsLn st = nI l) (hl2 : jsLen.getD st 0 = l) (hl3 : l ≤ 16) (hc : c + l ≤ 256) (hch : ∀ i, i < l → jsCh st i = nI (c + i)) (h : RP n s p m) :
    (∃ i, rg c l n s p = some i ∧ i < l ∧ p < n ∧ f_X12_takesOf 201 st m = some (nI i, jsi m 201 5 (nI (p + 1)))) ∨ (rg c l n s p = none ∧ f_X12_takesOf 201 st m = some (-1, m)) := by
  rcases r_takesOf (ch := fun i => c + i) hl hl2 hl3 (fun i hi => ⟨hch i hi, by show c + i < 256; omega⟩) h with ⟨i, i1, i2, i3, -, i5⟩ | ⟨g, e⟩
  · have i3 : c + i = s p := i3
    refine Or.inl ⟨i, ?_, i1, i2, i5⟩
    rw [rg_y ⟨i2, by omega, by omega⟩, ← i3, Nat.add_sub_cancel_left]
  · refine Or.inr ⟨rg_n (fun z => ?_), e⟩
    have := g z.1 (s p - c) (by omega)
    exact this (by show c + (s p - c) = s p; omega)
theorem st_var : jsLn 16 = nI 5 ∧ jsLen.getD 16 0 = 5 ∧ ∀ i, i < 5 → jsCh 16 i = nI (118 + i) := by decide +kernel
theorem st_dig : jsLn 15 = nI 10 ∧ jsLen.getD 15 0 = 10 ∧ ∀ i, i < 10 → jsCh 15 i = nI (48 + i) := by decide +kernel
theorem st_srt : jsLn 17 = nI 3 ∧ jsLen.getD 17 0 = 3 ∧ ∀ i, i < 3 → jsCh 17 i = nI (if i = 0 then 60 else if i = 1 then 61 else 35) := by decide +kernel
theorem st_sig : jsLn 18 = nI 2 ∧ jsLen.getD 18 0 = 2 ∧ ∀ i, i < 2 → jsCh 18 i = nI (if i = 0 then 43 else 45) := by decide +kernel
