/-! posts: a rule of two, read by the reference -/
def FRr (m w : jM) : Prop := jFr (fun c => c = 201 ∨ c = 209) m w ∧ ∀ k, k ≠ 5 → k ≠ 17 → w.1 201 k = m.1 201 k
theorem FRr.rf {m : jM} : FRr m m := ⟨jFr.rf, fun _ _ _ => rfl⟩
theorem FRr.tr {m w z : jM} (h : FRr m w) (h2 : FRr w z) : FRr m z := ⟨h.1.tr h2.1, fun k a b => (h2.2 k a b).trans (h.2 k a b)⟩
theorem FRr.at {m : jM} {v : Int32} : FRr m (jsi m 201 5 v) := ⟨jFr.si _ _ _ (Or.inl rfl), fun _ a _ => jsi_pl a⟩
theorem HT.at {l : List Q4} {m : jM} {v : Int32} (h : HT l m) : HT l (jsi m 201 5 v) := ⟨by rw [jsi_pl (by decide)]; exact h.1, fun j a b => by rw [jsi_ne (by decide)]; exact h.2 j a b⟩
def RU (n : Nat) (s : Nat → Nat) (p : Nat) (l : List Q4) (m : jM) : Prop := RP n s p m ∧ HT l m
theorem RU.at {n p q : Nat} {s : Nat → Nat} {l : List Q4} {m : jM} {v : Int32} (h : RU n s p l m) (hq : q ≤ n) (e : v = nI q) : RU n s q l (jsi m 201 5 v) := ⟨h.1.at hq e, h.2.at⟩
theorem ru_tells {n p : Nat} {s : Nat → Nat} {l : List Q4} {a b c d : Int32} {m : jM} (h : RU n s p l m) (hl : l.length < 80) : ∃ w, f_X12_tells 201 a b c d m = some w ∧ RU n s p (l ++ [(a, b, c, d)]) w ∧ FRr m w := by
  obtain ⟨w, h1, h2, h3, h4⟩ := r_tells (a := a) (b := b) (c := c) (d := d) h.2 hl
  refine ⟨w, h1, ⟨⟨h.1.1, h.1.2.1, by rw [h4 6 (by decide)]; exact h.1.2.2.1, by rw [h4 5 (by decide)]; exact h.1.2.2.2.1, fun i hi => by rw [(h3 203 (by decide)).1]; exact h.1.2.2.2.2 i hi⟩, h2⟩, h3, fun k _ b => h4 k b⟩
theorem r_var {n p : Nat} {s : Nat → Nat} {m : jM} (h : RP n s p m) : (∃ i, rg 118 5 n s p = some i ∧ i < 5 ∧ p < n ∧ f_X12_takesOf 201 16 m = some (nI i, jsi m 201 5 (nI (p + 1)))) ∨ (rg 118 5 n s p = none ∧ f_X12_takesOf 201 16 m = some (-1, m)) := r_takesR st_var.1 st_var.2.1 (by omega) (by omega) st_var.2.2 h
theorem r_dig {n p : Nat} {s : Nat → Nat} {m : jM} (h : RP n s p m) : (∃ i, rg 48 10 n s p = some i ∧ i < 10 ∧ p < n ∧ f_X12_takesOf 201 15 m = some (nI i, jsi m 201 5 (nI (p + 1)))) ∨ (rg 48 10 n s p = none ∧ f_X12_takesOf 201 15 m = some (-1, m)) := r_takesR st_dig.1 st_dig.2.1 (by omega) (by omega) st_dig.2.2 h
theorem r_srt {n p : Nat} {s : Nat → Nat} {m : jM} (h : RP n s p m) : (∃ i, srt n s p = some i ∧ i < 3 ∧ p < n ∧ f_X12_takesOf 201 17 m = some (nI i, jsi m 201 5 (nI (p + 1)))) ∨ (srt n s p = none ∧ f_X12_takesOf 201 17 m = some (-1, m)) := by
  rcases r_takesOf (ch := fun i => if i = 0 then 60 else if i = 1 then 61 else 35) st_srt.1 st_srt.2.1 (by omega) (fun i hi => ⟨st_srt.2.2 i hi, by repeat (first | omega | split)⟩) h with ⟨i, i1, i2, i3, -, i5⟩ | ⟨g, e⟩
  · refine Or.inl ⟨i, ?_, i1, i2, i5⟩
    unfold srt
    rw [if_pos i2]
    have i3 : (if i = 0 then 60 else if i = 1 then 61 else 35) = s p := i3
    have : i = 0 ∨ i = 1 ∨ i = 2 := by omega
    rcases this with rfl | rfl | rfl
    · rw [← i3]; rfl
    · rw [← i3]; rfl
    · rw [← i3]; rfl
  · refine Or.inr ⟨?_, e⟩
    unfold srt
    by_cases c : p < n
    · have g0 : ¬ 60 = s p := g c 0 (by omega)
      have g1 : ¬ 61 = s p := g c 1 (by omega)
      have g2 : ¬ 35 = s p := g c 2 (by omega)
      rw [if_pos c, if_neg (by omega), if_neg (by omega), if_neg (by omega)]
    · rw [if_neg c]
theorem r_pm {n p : Nat} {s : Nat → Nat} {m : jM} (h : RP n s p m) : (∃ i, pm n s p = i + 1 ∧ i < 2 ∧ p < n ∧ f_X12_takesOf 201 18 m = some (nI i, jsi m 201 5 (nI (p + 1)))) ∨ (pm n s p = 0 ∧ f_X12_takesOf 201 18 m = some (-1, m)) := by
  rcases r_takesOf (ch := fun i => if i = 0 then 43 else 45) st_sig.1 st_sig.2.1 (by omega) (fun i hi => ⟨st_sig.2.2 i hi, by split <;> omega⟩) h with ⟨i, i1, i2, i3, -, i5⟩ | ⟨g, e⟩
  · refine Or.inl ⟨i, ?_, i1, i2, i5⟩
    unfold pm
    rw [if_pos i2]
    have i3 : (if i = 0 then 43 else 45) = s p := i3
    have : i = 0 ∨ i = 1 := by omega
    rcases this with rfl | rfl
    · rw [← i3]; rfl
    · rw [← i3]; rfl
  · refine Or.inr ⟨?_, e⟩
    unfold pm
    by_cases c : p < n
    · have g0 : ¬ 43 = s p := g c 0 (by omega)
      have g1 : ¬ 45 = s p := g c 1 (by omega)
      rw [if_pos c, if_neg (by omega), if_neg (by omega)]
    · rw [if_neg c]
