/-! levels and trails of the class: a store -/
abbrev SS : Type := Nat × (Nat → TT) × (Nat → List Nat)
def RLv (a : Nat) (T : TT) (l : List Nat) (μ : jM) : Prop := RT (a + 1) T μ ∧ μ.1 a 2 = nI l.length ∧ μ.1 a 3 = nI (mk l) ∧ ∀ i, i < l.length → μ.1 (a + 7) i = nI (l.getD i 0)
def RS (s : Nat) (σ : SS) (μ : jM) : Prop := μ.1 s 2 = nI σ.1 ∧ RT (s + 1) (σ.2.1 0) μ ∧ ∀ j, j < σ.1 → RLv (s + 8 + 8 * j) (σ.2.1 (j + 1)) (σ.2.2 (j + 1)) μ
def VS (σ : SS) : Prop := σ.1 ≤ 9 ∧ (∀ j, j ≤ σ.1 → VT (σ.2.1 j)) ∧ ∀ j, j < σ.1 → TrOK (σ.2.2 (j + 1))
/-- the cells of a store -/
def inS (s : Nat) (c : Nat) : Prop := s ≤ c ∧ c < s + 80
theorem RLv.fr {a : Nat} {T : TT} {l : List Nat} {μ μ' : jM} (h : RLv a T l μ) (hf : ∀ c, a ≤ c → c ≤ a + 7 → μ'.1 c = μ.1 c) : RLv a T l μ' := by
  obtain ⟨h1, h2, h3, h4⟩ := h
  refine ⟨h1.fr (fun c q1 q2 => hf c (by omega) (by omega)), ?_, ?_, ?_⟩
  · rw [hf a (by omega) (by omega)]; exact h2
  · rw [hf a (by omega) (by omega)]; exact h3
  · rw [hf (a + 7) (by omega) (by omega)]; exact h4
theorem RS.fr {s : Nat} {σ : SS} {μ μ' : jM} (h : RS s σ μ) (hd : σ.1 ≤ 9) (hf : ∀ c, inS s c → μ'.1 c = μ.1 c) : RS s σ μ' := by
  obtain ⟨h1, h2, h3⟩ := h
  refine ⟨?_, h2.fr (fun c q1 q2 => hf c ⟨by omega, by omega⟩), fun j hj => (h3 j hj).fr (fun c q1 q2 => hf c ⟨by omega, by omega⟩)⟩
  rw [hf s ⟨by omega, by omega⟩]; exact h1
theorem cpy_at {f g : Nat → Int32} {n j : Nat} (h : j < n) : va_cpy f g 0 0 n j = f j := by
  rw [pk_cpy_in (Nat.zero_le _) (by omega)]
  congr 1
  omega
theorem jcp_at {μ : jM} {b a n j : Nat} (h : j < n) : (jcp μ b 0 a 0 n).1 a j = μ.1 b j := by
  show (va_up μ.1 a _) a j = _
  rw [va_up_self, cpy_at h]
theorem jcp_ne {μ : jM} {b sp a dp n c : Nat} (h : c ≠ a) : (jcp μ b sp a dp n).1 c = μ.1 c := va_up_ne _ _ h
theorem jcpq_z {β : Type} {n : Nat} {k : Option β} (h : n < 2 ^ 31) : jcpq (0 : Int32) (0 : Int32) (nI n) n n k = k := by
  unfold jcpq
  rw [if_neg]
  have e0 : (0 : Int32).toNatClampNeg = 0 := by decide
  rw [nI_clamp h, e0]
  rintro (q | q | q | q | q)
  · exact absurd q (by decide)
  · exact absurd q (by decide)
  · exact absurd q (nI_pos h)
  · omega
  · omega
theorem c_become {a b : Nat} {T : TT} {μ : jM} (h : RT b T μ) (hd : a + 5 < b ∨ b + 5 < a) : ∃ μ', f_X9_become a b μ = some μ' ∧ RT a T μ' ∧ jFr (fun c => a ≤ c ∧ c ≤ a + 5) μ μ' := by
  obtain ⟨h1, h2, h3, h4, h5, h6, h7⟩ := h
  have e0 : (0 : Int32).toNatClampNeg = 0 := by decide
  have e6 : (6 : Int32).toNatClampNeg = 6 := by decide
  have e5 : (5 : Int32).toNatClampNeg = 5 := by decide
  have e8 : (8 : Int32).toNatClampNeg = 8 := by decide
  have e32 : (32 : Int32).toNatClampNeg = 32 := by decide
  unfold f_X9_become
  rw [e0, e6, e5, e8, e32, jlit 6, jcpq_z (by decide), jbd_e, jlit 5, jcpq_z (by decide), jbd_e, jlit 8, jcpq_z (by decide), jbd_e, jcpq_z (by decide), jbd_e, jlit 32, jcpq_z (by decide), jbd_e, jbd_e, jbd_e]
  refine ⟨_, rfl, ⟨fun k hk => ?_, fun k hk => ?_, ?_, fun k hk => ?_, fun k hk => ?_, ?_, fun k hk => ?_⟩, ?_⟩
  · rw [jsi_ne (by omega), jsi_ne (by omega), jcp_ne (by omega), jcp_ne (by omega), jcp_ne (by omega), jcp_ne (by omega), jcp_at hk]
    exact h1 k hk
  · rw [jsi_ne (by omega), jsi_ne (by omega), jcp_ne (by omega), jcp_ne (by omega), jcp_ne (by omega), jcp_at hk, jcp_ne (by omega)]
    exact h2 k hk
  · rw [jsi_pl (by omega), jsi_at, jcp_ne (by omega), jcp_ne (by omega), jcp_ne (by omega), jcp_ne (by omega), jcp_ne (by omega)]
    exact h3
  · rw [jsi_ne (by omega), jsi_ne (by omega), jcp_ne (by omega), jcp_ne (by omega), jcp_at hk, jcp_ne (by omega), jcp_ne (by omega)]
    exact h4 k hk
  · rw [jsi_ne (by omega), jsi_ne (by omega), jcp_ne (by omega), jcp_at hk, jcp_ne (by omega), jcp_ne (by omega), jcp_ne (by omega)]
    exact h5 k hk
  · rw [jsi_at, jsi_ne (by omega), jcp_ne (by omega), jcp_ne (by omega), jcp_ne (by omega), jcp_ne (by omega), jcp_ne (by omega)]
    exact h6
  · rw [jsi_ne (by omega), jsi_ne (by omega), jcp_at hk, jcp_ne (by omega), jcp_ne (by omega), jcp_ne (by omega), jcp_ne (by omega)]
    exact h7 k hk
  · refine (((((((jFr.cp μ _ _ _ _ ?_).tr (jFr.cp _ _ _ _ _ ?_)).tr (jFr.cp _ _ _ _ _ ?_)).tr (jFr.cp _ _ _ _ _ ?_)).tr (jFr.cp _ _ _ _ _ ?_)).tr (jFr.si _ _ _ ?_)).tr (jFr.si _ _ _ ?_)) <;> constructor <;> omega
theorem c_put {a : Nat} {T : TT} {l : List Nat} {μ : jM} (h : RLv a T l μ) (hl : TrOK l) {t : Nat} (ht : isTh t = true) (hb : t < 31) : ∃ μ', f_X1_put a (nI t) μ = some μ' ∧ RLv a T (tput l t) μ' ∧ jFr (fun c => c = a ∨ c = a + 7) μ μ' := by
  have hR := h
  obtain ⟨h1, h2, h3, h4⟩ := h
  have hm : mk l < 2 ^ 31 := mk_lt fun x hx => (hl.2 x hx).2
  have hlen := hl.len
  unfold f_X1_put tput
  rw [h3, nI_bit hm (by omega), mk_bit]
  by_cases c : t ∈ l
  · rw [if_pos c, if_neg (by simp [c])]
    exact ⟨_, rfl, hR, jFr.rf⟩
  · have hlt := hl.lt ht hb c
    rw [if_neg c, if_pos (by simp [c]), h2, jlit 22, if_neg (nI_ge hlt (by omega)), jin_n hlt (by omega), nI_clamp (by omega), jbd_e, jbd_e, jbd_e, shl_n t hb]
    refine ⟨_, rfl, ⟨?_, ?_, ?_, ?_⟩, ?_⟩
    · refine h1.fr (fun c q1 q2 => ?_)
      rw [jsi_ne (by omega), jsi_ne (by omega), jsi_ne (by omega)]
    · rw [jsi_pl (by omega), jsi_at, jsi_ne (by omega), h2, nI_1, List.length_append]
      rfl
    · rw [jsi_at, jsi_pl (by omega), jsi_ne (by omega), h3, mk_app, nI_or hm (Nat.pow_lt_pow_right (by decide) hb)]
    · intro i hi
      rw [jsi_ne (by omega), jsi_ne (by omega)]
      rw [List.length_append, List.length_singleton] at hi
      by_cases e : i = l.length
      · subst e
        rw [jsi_at]
        simp
      · rw [jsi_pl e, h4 i (by omega)]
        simp [List.getElem?_append_left (show i < l.length by omega)]
    · refine ((jFr.si μ _ _ ?_).tr (jFr.si _ _ _ ?_)).tr (jFr.si _ _ _ ?_) <;> simp
def opn (σ : SS) : SS := (σ.1 + 1, va_up σ.2.1 (σ.1 + 1) (σ.2.1 0), va_up σ.2.2 (σ.1 + 1) [])
def clo (n : Nat) (σ : SS) : SS := (n, va_up σ.2.1 0 (σ.2.1 (n + 1)), σ.2.2)
def com (σ : SS) : SS := (σ.1 - 1, σ.2.1, if σ.1 ≤ 1 then σ.2.2 else va_up σ.2.2 (σ.1 - 1) ((σ.2.2 σ.1).foldl tput (σ.2.2 (σ.1 - 1))))
theorem VS.opn {σ : SS} (h : VS σ) (hd : σ.1 < 9) : VS (opn σ) := by
  obtain ⟨h1, h2, h3⟩ := h
  refine ⟨by show σ.1 + 1 ≤ 9; omega, fun j hj => ?_, fun j hj => ?_⟩
  · show VT (va_up σ.2.1 (σ.1 + 1) (σ.2.1 0) j)
    have hj : j ≤ σ.1 + 1 := hj
    by_cases c : j = σ.1 + 1
    · rw [c, va_up_self]; exact h2 0 (by omega)
    · rw [va_up_ne _ _ c]; exact h2 j (by omega)
  · show TrOK (va_up σ.2.2 (σ.1 + 1) [] (j + 1))
    have hj : j < σ.1 + 1 := hj
    by_cases c : j + 1 = σ.1 + 1
    · rw [c, va_up_self]; exact ⟨List.nodup_nil, fun t ht => absurd ht List.not_mem_nil⟩
    · rw [va_up_ne _ _ c]; exact h3 j (by omega)
theorem VS.clo {σ : SS} (h : VS σ) {n : Nat} (hn : n < σ.1) : VS (clo n σ) := by
  obtain ⟨h1, h2, h3⟩ := h
  refine ⟨by show n ≤ 9; omega, fun j hj => ?_, fun j hj => h3 j (by have hj : j < n := hj; omega)⟩
  show VT (va_up σ.2.1 0 (σ.2.1 (n + 1)) j)
  have hj : j ≤ n := hj
  by_cases c : j = 0
  · rw [c, va_up_self]; exact h2 (n + 1) (by omega)
  · rw [va_up_ne _ _ c]; exact h2 j (by omega)
theorem TrOK.fold {l : List Nat} (h : TrOK l) : ∀ {g : List Nat}, (∀ t ∈ g, isTh t = true ∧ t < 31) → TrOK (g.foldl tput l) := by
  intro g
  induction g generalizing l with
  | nil => intro _; exact h
  | cons a g ih => intro hg; exact ih (h.put (hg a List.mem_cons_self).1 (hg a List.mem_cons_self).2) (fun t ht => hg t (List.mem_cons_of_mem _ ht))
theorem VS.com {σ : SS} (h : VS σ) (hd : 0 < σ.1) : VS (com σ) := by
  obtain ⟨h1, h2, h3⟩ := h
  refine ⟨by show σ.1 - 1 ≤ 9; omega, fun j hj => h2 j (by have hj : j ≤ σ.1 - 1 := hj; omega), fun j hj => ?_⟩
  have hj : j < σ.1 - 1 := hj
  show TrOK ((if σ.1 ≤ 1 then σ.2.2 else va_up σ.2.2 (σ.1 - 1) ((σ.2.2 σ.1).foldl tput (σ.2.2 (σ.1 - 1)))) (j + 1))
  rw [if_neg (by omega)]
  by_cases c : j + 1 = σ.1 - 1
  · rw [c, va_up_self]
    have e1 := h3 (σ.1 - 1) (by omega)
    have e2 := h3 (σ.1 - 1 - 1) (by omega)
    rw [show σ.1 - 1 + 1 = σ.1 by omega] at e1
    rw [show σ.1 - 1 - 1 + 1 = σ.1 - 1 by omega] at e2
    exact e2.fold (fun t ht => e1.2 t ht)
  · rw [va_up_ne _ _ c]; exact h3 j (by omega)
theorem c_open {s : Nat} {σ : SS} {μ : jM} (h : RS s σ μ) (hv : VS σ) (hd : σ.1 < 9) : ∃ μ', f_X7_openLevel s μ = some (nI (σ.1 + 1), μ') ∧ RS s (opn σ) μ' ∧ jFr (inS s) μ μ' := by
  obtain ⟨h1, h2, h3⟩ := h
  unfold f_X7_openLevel
  rw [h1, jlit 9, if_pos (nI_lt hd (by omega)), jin_n hd (by omega), nI_clamp (by omega)]
  obtain ⟨μ1, e1, r1, f1⟩ := c_become (a := s + 8 + 8 * σ.1 + 1) h2 (by omega)
  have eb : f_X1_begin (s + 8 + 8 * σ.1) (s + 1) μ = some (jsi (jsi μ1 (s + 8 + 8 * σ.1) 2 0) (s + 8 + 8 * σ.1) 3 0) := by
    unfold f_X1_begin
    rw [jcl_e e1, jbd_e, jbd_e]
  have es : ∀ c, (c < s + 8 + 8 * σ.1 ∨ s + 8 + 8 * σ.1 + 6 < c) → μ1.1 c = μ.1 c := fun c hc => (f1 c (by omega)).1
  have ed : (jsi (jsi μ1 (s + 8 + 8 * σ.1) 2 0) (s + 8 + 8 * σ.1) 3 0).1 s 2 + 1 = nI (σ.1 + 1) := by
    rw [jsi_ne (by omega), jsi_ne (by omega), es s (by omega), h1, nI_1]
  rw [jcl_e eb, jbd_e, ed, jsi_at]
  refine ⟨_, rfl, ⟨?_, ?_, fun j hj => ?_⟩, ?_⟩
  · rw [jsi_at]
    rfl
  · show RT (s + 1) (va_up σ.2.1 (σ.1 + 1) (σ.2.1 0) 0) _
    rw [va_up_ne _ _ (by omega)]
    exact h2.fr (fun c q1 q2 => by rw [jsi_ne (by omega), jsi_ne (by omega), jsi_ne (by omega), es c (by omega)])
  · show RLv _ (va_up σ.2.1 (σ.1 + 1) (σ.2.1 0) (j + 1)) (va_up σ.2.2 (σ.1 + 1) [] (j + 1)) _
    have hj : j < σ.1 + 1 := hj
    by_cases c : j = σ.1
    · subst c
      rw [va_up_self, va_up_self]
      refine ⟨r1.fr (fun c q1 q2 => by rw [jsi_ne (by omega), jsi_ne (by omega), jsi_ne (by omega)]), ?_, ?_, fun i hi => absurd hi (Nat.not_lt_zero i)⟩
      · rw [jsi_ne (by omega), jsi_pl (by omega), jsi_at]; rfl
      · rw [jsi_ne (by omega), jsi_at]; rfl
    · rw [va_up_ne _ _ (by omega), va_up_ne _ _ (by omega)]
      exact (h3 j (by omega)).fr (fun c q1 q2 => by rw [jsi_ne (by omega), jsi_ne (by omega), jsi_ne (by omega), es c (by omega)])
  · refine (((f1.mono (S' := inS s) (fun c hc => ⟨by omega, by omega⟩)).tr (jFr.si _ _ _ ?_)).tr (jFr.si _ _ _ ?_)).tr (jFr.si _ _ _ ?_) <;> constructor <;> omega
theorem c_open9 {s : Nat} {σ : SS} {μ : jM} (h : RS s σ μ) (hd : σ.1 = 9) : f_X7_openLevel s μ = some (-2, μ) := by
  unfold f_X7_openLevel
  rw [h.1, hd, if_neg (by decide)]
theorem c_close {s n : Nat} {σ : SS} {μ : jM} (h : RS s σ μ) (hv : VS σ) (hn : n < σ.1) : ∃ μ', f_X7_closeTo s (nI n) μ = some μ' ∧ RS s (clo n σ) μ' ∧ jFr (inS s) μ μ' := by
  obtain ⟨h1, h2, h3⟩ := h
  have hd := hv.1
  unfold f_X7_closeTo
  rw [if_neg (nI_pos (by omega)), h1, if_neg (nI_ge hn (by omega)), jin_n (by omega) (by omega), nI_clamp (by omega)]
  obtain ⟨μ1, e1, r1, f1⟩ := c_become (a := s + 1) (h3 n hn).1 (by omega)
  rw [jcl_e e1, jbd_e]
  have es : ∀ c, (c < s + 1 ∨ s + 1 + 5 < c) → μ1.1 c = μ.1 c := fun c hc => (f1 c (by omega)).1
  refine ⟨_, rfl, ⟨?_, ?_, fun j hj => ?_⟩, ?_⟩
  · rw [jsi_at]; rfl
  · show RT (s + 1) (va_up σ.2.1 0 (σ.2.1 (n + 1)) 0) _
    rw [va_up_self]
    exact r1.fr (fun c q1 q2 => jsi_ne (by omega))
  · show RLv _ (va_up σ.2.1 0 (σ.2.1 (n + 1)) (j + 1)) _ _
    have hj : j < n := hj
    rw [va_up_ne _ _ (by omega)]
    exact (h3 j (by omega)).fr (fun c q1 q2 => by rw [jsi_ne (by omega), es c (by omega)])
  · exact (f1.mono (S' := inS s) (fun c hc => ⟨by omega, by omega⟩)).tr (jFr.si _ _ _ ⟨by omega, by omega⟩)
