/-! bits of small numbers -/
theorem nI_tn {n : Nat} (h : n < 2 ^ 32) : (nI n).toBitVec.toNat = n := pk_tn h
theorem nI_or {a b : Nat} (ha : a < 2 ^ 31) (hb : b < 2 ^ 31) : nI a ||| nI b = nI (a ||| b) := by
  apply Int32.toBitVec_inj.mp
  apply BitVec.eq_of_toNat_eq
  have h := Nat.or_lt_two_pow ha hb
  rw [Int32.toBitVec_or, BitVec.toNat_or, nI_tn (by omega), nI_tn (by omega), nI_tn (by omega)]
theorem nI_and {a b : Nat} (ha : a < 2 ^ 31) (hb : b < 2 ^ 31) : nI a &&& nI b = nI (a &&& b) := by
  apply Int32.toBitVec_inj.mp
  apply BitVec.eq_of_toNat_eq
  have h : a &&& b < 2 ^ 31 := Nat.lt_of_le_of_lt Nat.and_le_left ha
  rw [Int32.toBitVec_and, BitVec.toNat_and, nI_tn (by omega), nI_tn (by omega), nI_tn (by omega)]
theorem nI_xor {a b : Nat} (ha : a < 2 ^ 31) (hb : b < 2 ^ 31) : nI a ^^^ nI b = nI (a ^^^ b) := by
  apply Int32.toBitVec_inj.mp
  apply BitVec.eq_of_toNat_eq
  have h := Nat.xor_lt_two_pow ha hb
  rw [Int32.toBitVec_xor, BitVec.toNat_xor, nI_tn (by omega), nI_tn (by omega), nI_tn (by omega)]
theorem ush_k : ∀ t, t < 32 → (((nI t).toUInt32 &&& Int32.toUInt32 31).toBitVec % 32).toNat = t := by decide
theorem jushr_n {m t : Nat} (hm : m < 2 ^ 31) (ht : t < 32) : jushr (nI m) (nI t) = nI (m / 2 ^ t) := by
  unfold jushr
  exact pk_ushrN (by omega) (nI t) t (ush_k t ht)
theorem shl_n : ∀ t, t < 31 → (1 : Int32) <<< (nI t &&& 31) = nI (2 ^ t) := by decide
theorem nI_bit {m t : Nat} (hm : m < 2 ^ 31) (ht : t < 32) : (jushr (nI m) (nI t) &&& (1 : Int32)) = if m.testBit t then 1 else 0 := by
  have h1 : m / 2 ^ t < 2 ^ 31 := Nat.lt_of_le_of_lt (Nat.div_le_self _ _) hm
  rw [jushr_n hm ht, jlit 1, nI_and h1 (by decide), Nat.and_one_is_mod]
  rw [Nat.testBit_eq_decide_div_mod_eq]
  by_cases c : m / 2 ^ t % 2 = 1
  · simp [c]
  · have c2 : m / 2 ^ t % 2 = 0 := by omega
    simp [c2]; rfl
theorem shr_k : ∀ t, t < 32 → (((nI t) &&& 31).toBitVec.smod 32).toNat = t := by decide
theorem nI_sbit {m t : Nat} (hm : m < 2 ^ 31) (ht : t < 32) : ((nI m >>> (nI t &&& 31)) &&& (1 : Int32)) = if m.testBit t then 1 else 0 := by
  have h1 : m / 2 ^ t < 2 ^ 31 := Nat.lt_of_le_of_lt (Nat.div_le_self _ _) hm
  rw [pk_shrN hm (nI t &&& 31) t (shr_k t ht), jlit 1, nI_and h1 (by decide), Nat.and_one_is_mod]
  rw [Nat.testBit_eq_decide_div_mod_eq]
  by_cases c : m / 2 ^ t % 2 = 1
  · simp [c]
  · have c2 : m / 2 ^ t % 2 = 0 := by omega
    simp [c2]; rfl
theorem f_has {m t : Nat} (hm : m < 2 ^ 31) (ht : t < 32) : f_X12_has (nI m) (nI t) = if m.testBit t then 1 else 0 := by
  unfold f_X12_has
  rw [nI_sbit hm ht]
  by_cases c : m.testBit t <;> simp [c]
/-- a list of numbers as bits -/
def mk : List Nat → Nat
  | [] => 0
  | t :: l => 2 ^ t ||| mk l
theorem mk_bit (l : List Nat) (t : Nat) : (mk l).testBit t = decide (t ∈ l) := by
  induction l with
  | nil => simp [mk]
  | cons a l ih =>
    unfold mk
    rw [Nat.testBit_or, ih, Nat.testBit_two_pow]
    by_cases c : a = t
    · simp [c]
    · have c' : ¬ t = a := fun q => c q.symm
      simp [c, c']
theorem mk_lt {l : List Nat} {n : Nat} (h : ∀ t ∈ l, t < n) : mk l < 2 ^ n := by
  induction l with
  | nil => exact Nat.two_pow_pos n
  | cons a l ih =>
    unfold mk
    exact Nat.or_lt_two_pow (Nat.pow_lt_pow_right (by decide) (h a List.mem_cons_self)) (ih fun t ht => h t (List.mem_cons_of_mem _ ht))
theorem mk_app (l : List Nat) (t : Nat) : mk (l ++ [t]) = mk l ||| 2 ^ t := by
  induction l with
  | nil => simp [mk]
  | cons a l ih => simp only [List.cons_append, mk, ih, Nat.or_assoc]
theorem nd_le : ∀ (M l : List Nat), l.Nodup → (∀ x ∈ l, x ∈ M) → l.length ≤ M.length := by
  intro M
  induction M with
  | nil =>
    intro l _ h
    cases l with
    | nil => exact Nat.le_refl _
    | cons a l => exact absurd (h a List.mem_cons_self) List.not_mem_nil
  | cons m M ih =>
    intro l hn h
    by_cases c : m ∈ l
    · have h1 := ih (l.erase m) (hn.erase m) (fun x hx => by
        rw [hn.mem_erase_iff] at hx
        rcases List.mem_cons.mp (h x hx.2) with q | q
        · exact absurd q hx.1
        · exact q)
      rw [List.length_erase_of_mem c] at h1
      simp only [List.length_cons]
      omega
    · have h1 := ih l hn (fun x hx => by
        rcases List.mem_cons.mp (h x hx) with q | q
        · exact absurd (q ▸ hx) c
        · exact q)
      simp only [List.length_cons]
      omega
def things : List Nat := (List.range 31).filter isTh
theorem things_len : things.length = 22 := by decide
theorem things_mem {t : Nat} (h : isTh t = true) (hb : t < 31) : t ∈ things := List.mem_filter.mpr ⟨List.mem_range.mpr hb, h⟩
/-- a trail: each once, things -/
def TrOK (l : List Nat) : Prop := l.Nodup ∧ ∀ t ∈ l, isTh t = true ∧ t < 31
theorem TrOK.len {l : List Nat} (h : TrOK l) : l.length ≤ 22 := by
  have := nd_le things l h.1 (fun x hx => things_mem (h.2 x hx).1 (h.2 x hx).2)
  rw [things_len] at this
  exact this
theorem TrOK.lt {l : List Nat} (h : TrOK l) {t : Nat} (ht : isTh t = true) (hb : t < 31) (hn : t ∉ l) : l.length < 22 := by
  have h2 : (t :: l).Nodup := List.nodup_cons.mpr ⟨hn, h.1⟩
  have := nd_le things (t :: l) h2 (fun x hx => by
    rcases List.mem_cons.mp hx with q | q
    · rw [q]; exact things_mem ht hb
    · exact things_mem (h.2 x q).1 (h.2 x q).2)
  rw [things_len] at this
  simp only [List.length_cons] at this
  omega
def tput (l : List Nat) (t : Nat) : List Nat := if t ∈ l then l else l ++ [t]
theorem TrOK.put {l : List Nat} (h : TrOK l) {t : Nat} (ht : isTh t = true) (hb : t < 31) : TrOK (tput l t) := by
  unfold tput
  by_cases c : t ∈ l
  · rw [if_pos c]; exact h
  · rw [if_neg c]
    refine ⟨?_, fun x hx => ?_⟩
    · rw [List.nodup_append]
      exact ⟨h.1, by simp, fun a ha b hb2 => by rw [List.mem_singleton.mp hb2]; intro q; exact c (q ▸ ha)⟩
    · rcases List.mem_append.mp hx with q | q
      · exact h.2 x q
      · rw [List.mem_singleton.mp q]; exact ⟨ht, hb⟩
