/-! levels and trails of the reference -/
def TRr (j : Nat) (l : List Nat) (μ : jM) : Prop := μ.1 206 j = nI l.length ∧ ∀ i, i < l.length → μ.1 205 (22 * j + i) = nI (l.getD i 0)
def RM (σ : SS) (μ : jM) : Prop := μ.1 201 9 = nI σ.1 ∧ (∀ j, j ≤ σ.1 → RW j (σ.2.1 j) μ) ∧ ∀ j, j < σ.1 → TRr (j + 1) (σ.2.2 (j + 1)) μ
theorem TRr.fr {j : Nat} {l : List Nat} {μ μ' : jM} (h : TRr j l μ) (h1 : μ'.1 205 = μ.1 205) (h2 : μ'.1 206 = μ.1 206) : TRr j l μ' := by
  refine ⟨by rw [h2]; exact h.1, fun i hi => by rw [h1]; exact h.2 i hi⟩
theorem RM.fr {σ : SS} {μ μ' : jM} (h : RM σ μ) (h0 : μ'.1 201 9 = μ.1 201 9) (h1 : μ'.1 204 = μ.1 204) (h2 : μ'.1 205 = μ.1 205) (h3 : μ'.1 206 = μ.1 206) : RM σ μ' :=
  ⟨by rw [h0]; exact h.1, fun j hj => (h.2.1 j hj).fr h1, fun j hj => (h.2.2 j hj).fr h2 h3⟩
theorem r_copies {a b : Nat} {T : TT} {μ : jM} (h : RW a T μ) (ha : a < 34) (hb : b < 34) (hab : a ≠ b) : ∃ μ', f_X12_copies 201 (nI a) (nI b) μ = some μ' ∧ RW b T μ' ∧ (∀ k, (k < 61 * b ∨ 61 * b + 61 ≤ k) → μ'.1 204 k = μ.1 204 k) ∧ jFr (fun c => c = 204) μ μ' := by
  obtain ⟨w, hw, hr⟩ := jlpN (step := fun (q : Int32 × jM) => f_X12_copies_L2 201 (nI a) (nI b) q.1 q.2) 61
    (fun k q => q.1 = nI k ∧ (∀ i, i < k → q.2.1 204 (61 * b + i) = T i) ∧ (∀ k, (k < 61 * b ∨ 61 * b + 61 ≤ k) → q.2.1 204 k = μ.1 204 k) ∧ jFr (fun c => c = 204) μ q.2)
    (fun m => RW b T m ∧ (∀ k, (k < 61 * b ∨ 61 * b + 61 ≤ k) → m.1 204 k = μ.1 204 k) ∧ jFr (fun c => c = 204) μ m)
    (fun k q hk hq => by
      obtain ⟨u, m⟩ := q
      obtain ⟨hu, hT, ho, hfr⟩ := hq
      have hu : u = nI k := hu
      subst hu
      refine ⟨(nI (k + 1), jsi m 204 (61 * b + k) (T k)), ?_, rfl, fun i hi => ?_, fun i hi => ?_, hfr.tr (jFr.si _ _ _ rfl)⟩
      · dsimp only
        unfold f_X12_copies_L2
        show (if _ then _ else jrd (m.1 204) _ _ _) = _
        rw [jlit 61, if_neg (nI_ge hk (by omega)), pk_mul, pk_mul, nI_add, nI_add, jrd_n (by omega) (by decide), jin_n (by omega) (by decide), nI_clamp (by omega), jbd_e, nI_1]
        have e := ho (a * 61 + k) (by omega)
        dsimp only at e
        rw [e, show a * 61 + k = 61 * a + k by omega, h k hk, show b * 61 + k = 61 * b + k by omega]
      · by_cases c : i = k
        · rw [c]; exact jsi_at _ _ _ _
        · show (jsi m 204 (61 * b + k) (T k)).1 204 (61 * b + i) = _
          rw [jsi_pl (by omega)]; exact hT i (by omega)
      · show (jsi m 204 (61 * b + k) (T k)).1 204 i = _
        rw [jsi_pl (by omega)]; exact ho i hi)
    (fun q hq => by
      obtain ⟨u, m⟩ := q
      obtain ⟨hu, hT, ho, hfr⟩ := hq
      have hu : u = nI 61 := hu
      subst hu
      refine ⟨m, ?_, hT, ho, hfr⟩
      dsimp only
      unfold f_X12_copies_L2
      rw [jlit 61, if_pos (nI_le (by omega) (by omega))])
    (i := 0) (n := jfu) (s := ((0 : Int32), μ)) (by omega) ⟨rfl, fun i hi => absurd hi (Nat.not_lt_zero i), fun _ _ => rfl, jFr.rf⟩ (jfu_lt (by omega))
  unfold f_X12_copies
  rw [jcl_e hw]
  exact ⟨w, rfl, hr⟩
theorem r_isOn {j : Nat} {l : List Nat} {μ : jM} (h : TRr j l μ) (hj : j < 10) (hl : TrOK l) {t : Nat} (hb : t < 31) : f_X12_isOn 201 (nI j) (nI t) μ = some (if t ∈ l then 1 else 0) := by
  have hlen := hl.len
  have key0 : ∀ (m i fu : Nat), i + m = l.length → m < fu → jloop (fun (s : Int32) => f_X12_isOn_L2 201 (nI j) (nI t) μ s) fu (nI i) = some (if t ∈ l.drop i then .inl () else .inr ()) := by
    intro m
    induction m with
    | zero =>
      intro i fu hi hf
      obtain ⟨fu, rfl⟩ : ∃ q, fu = q + 1 := ⟨fu - 1, by omega⟩
      refine jloop_x ?_
      unfold f_X12_isOn_L2
      show jrd (μ.1 206) _ _ _ = _
      rw [jrd_n hj (by decide), h.1, if_pos (nI_le (by omega) (by omega)), List.drop_eq_nil_of_le (by omega)]
      rfl
    | succ m ih =>
      intro i fu hi hf
      obtain ⟨fu, rfl⟩ : ∃ q, fu = q + 1 := ⟨fu - 1, by omega⟩
      have hd : l.drop i = l.getD i 0 :: l.drop (i + 1) := by
        rw [List.drop_eq_getElem_cons (show i < l.length by omega)]
        simp [show i < l.length by omega]
      have hin : l.getD i 0 < 31 := (hl.2 _ (by simp [show i < l.length by omega])).2
      have st : ∀ r, (if nI (l.getD i 0) = nI t then some (.inr (.inl ())) else some (.inl (nI (i + 1)))) = r → f_X12_isOn_L2 201 (nI j) (nI t) μ (nI i) = r := by
        intro r hr
        rw [← hr]
        unfold f_X12_isOn_L2
        show jrd (μ.1 206) _ _ _ = _
        rw [jrd_n hj (by decide), h.1, if_neg (nI_ge (by omega) (by omega))]
        show jrd (μ.1 205) _ _ _ = _
        rw [jlit 22, pk_mul, nI_add, jrd_n (by omega) (by decide), h.2 i (by omega), nI_1]
      rw [hd]
      by_cases c : l.getD i 0 = t
      · rw [if_pos (by rw [c]; exact List.mem_cons_self)]
        refine jloop_x (st _ ?_)
        rw [if_pos (by rw [c])]
      · have e : (t ∈ l.getD i 0 :: l.drop (i + 1)) = (t ∈ l.drop (i + 1)) := by
          rw [List.mem_cons]
          exact propext ⟨fun q => q.elim (fun q => absurd q.symm c) id, Or.inr⟩
        simp only [e]
        rw [← ih (i + 1) fu (by omega) (by omega)]
        refine jloop_s (st _ ?_)
        rw [if_neg (fun q => c ((nI_eq (by omega) (by omega)).mp q))]
  unfold f_X12_isOn
  refine (jcl_e (key0 l.length 0 jfu (by omega) (jfu_lt (by omega)))).trans ?_
  rw [List.drop_zero]
  by_cases c : t ∈ l <;> simp [c]
theorem r_comesOn {j : Nat} {l : List Nat} {μ : jM} (h : TRr j l μ) (hj : j < 10) (hl : TrOK l) {t : Nat} (ht : isTh t = true) (hb : t < 31) : ∃ μ', f_X12_comesOn 201 (nI j) (nI t) μ = some μ' ∧ TRr j (tput l t) μ' ∧ (∀ j' l', j' ≠ j → l'.length ≤ 22 → TRr j' l' μ → TRr j' l' μ') ∧ jFr (fun c => c = 205 ∨ c = 206) μ μ' := by
  have hlen := hl.len
  unfold f_X12_comesOn tput
  rw [jcl_e (r_isOn h hj hl hb)]
  by_cases c : t ∈ l
  · rw [if_pos c, if_neg (by decide), if_pos c]
    exact ⟨μ, rfl, h, fun _ _ _ _ q => q, jFr.rf⟩
  · have hlt := hl.lt ht hb c
    rw [if_neg c, if_pos (by decide), if_neg c]
    show ∃ μ', jrd (μ.1 206) _ _ _ = _ ∧ _
    rw [jrd_n hj (by decide), h.1, jlit 22, pk_mul, nI_add, jin_n (by omega) (by decide), nI_clamp (by omega), jbd_e]
    show ∃ μ', jrd ((jsi μ 205 _ _).1 206) _ _ _ = _ ∧ _
    rw [jrd_n hj (by decide), jin_n hj (by decide), nI_clamp (by omega), jbd_e, jsi_ne (by decide), h.1, nI_1]
    refine ⟨_, rfl, ⟨?_, fun i hi => ?_⟩, fun j' l' hne hl' h' => ⟨?_, fun i hi => ?_⟩, (jFr.si _ _ _ (Or.inl rfl)).tr (jFr.si _ _ _ (Or.inr rfl))⟩
    · show (jsi (jsi μ 205 _ _) 206 _ _).1 206 j = _
      rw [jsi_at, List.length_append]; rfl
    · show (jsi (jsi μ 205 _ _) 206 _ _).1 205 _ = _
      rw [jsi_ne (by decide)]
      rw [List.length_append, List.length_singleton] at hi
      by_cases e : i = l.length
      · subst e
        rw [jsi_at]
        simp
      · rw [jsi_pl (by omega), h.2 i (by omega)]
        simp [List.getElem?_append_left (show i < l.length by omega)]
    · show (jsi (jsi μ 205 _ _) 206 _ _).1 206 j' = _
      rw [jsi_pl hne, jsi_ne (by decide)]; exact h'.1
    · show (jsi (jsi μ 205 _ _) 206 _ _).1 205 _ = _
      rw [jsi_ne (by decide), jsi_pl (by omega)]; exact h'.2 i hi
/-- what differs, by number -/
def dfl (T T' : TT) (n : Nat) : List Nat := (List.range n).filter (fun t => isTh t && othB T T' t)
theorem dfl_s (T T' : TT) (n : Nat) : dfl T T' (n + 1) = if isTh n && othB T T' n then dfl T T' n ++ [n] else dfl T T' n := by
  unfold dfl
  rw [List.range_succ, List.filter_append]
  by_cases c : (isTh n && othB T T' n) = true
  · rw [if_pos c]; simp [c]
  · rw [if_neg c]; simp [c]
theorem dfl_ok (T T' : TT) : ∀ t ∈ dfl T T' 31, isTh t = true ∧ t < 31 := by
  intro t ht
  obtain ⟨h1, h2⟩ := List.mem_filter.mp ht
  simp only [Bool.and_eq_true] at h2
  exact ⟨h2.1, List.mem_range.mp h1⟩
/-- an act: the things become T', what differs comes on the trail -/
def chg (σ : SS) (T' : TT) : SS := (σ.1, va_up σ.2.1 0 T', if σ.1 = 0 then σ.2.2 else va_up σ.2.2 σ.1 ((dfl (σ.2.1 0) T' 31).foldl tput (σ.2.2 σ.1)))
theorem VS.chg {σ : SS} (h : VS σ) {T' : TT} (hT : VT T') : VS (chg σ T') := by
  have h' := h.nowT hT
  obtain ⟨h1, h2, h3⟩ := h'
  refine ⟨h1, h2, fun j hj => ?_⟩
  have hj : j < σ.1 := hj
  show TrOK ((if σ.1 = 0 then σ.2.2 else va_up σ.2.2 σ.1 ((dfl (σ.2.1 0) T' 31).foldl tput (σ.2.2 σ.1))) (j + 1))
  rw [if_neg (by omega)]
  by_cases c : j + 1 = σ.1
  · rw [c, va_up_self]
    have e := h.2.2 j hj
    rw [c] at e
    exact e.fold (dfl_ok _ _)
  · rw [va_up_ne _ _ c]; exact h3 j hj
theorem r_ends {σ : SS} {T' : TT} {μ : jM} (h : RM (nowT σ T') μ) (hA : RW 10 (σ.2.1 0) μ) (hv : VS σ) (hT : VT T') (x : Int32) : ∃ μ', f_X12_ends 201 x μ = some (x, μ') ∧ RM (chg σ T') μ' ∧ jFr (fun c => c = 205 ∨ c = 206) μ μ' := by
  obtain ⟨h1, h2, h3⟩ := h
  have h1 : μ.1 201 9 = nI σ.1 := h1
  have hd := hv.1
  have hN : RW 0 T' μ := by
    have q := h2 0 (Nat.zero_le _)
    have e : (nowT σ T').2.1 0 = T' := va_up_self σ.2.1 0 T'
    rw [e] at q
    exact q
  unfold f_X12_ends
  by_cases c0 : σ.1 = 0
  · have e0 : f_X12_ends_L2 201 (0 : Int32) μ = some (.inr μ) := by
      unfold f_X12_ends_L2
      rw [if_neg (by decide), h1, c0, if_pos (by decide)]
    have e1 : jloop (fun (s : Int32 × jM) => f_X12_ends_L2 201 s.1 s.2) jfu ((0 : Int32), μ) = some μ := by
      show jloop _ (1999999 + 1) _ = _
      exact jloop_x e0
    rw [jcl_e e1]
    refine ⟨μ, rfl, ⟨h1, h2, fun j hj => ?_⟩, jFr.rf⟩
    have hj : j < σ.1 := hj
    omega
  · have oT : TrOK (σ.2.2 σ.1) := by
      have q := hv.2.2 (σ.1 - 1) (by omega)
      rw [show σ.1 - 1 + 1 = σ.1 by omega] at q
      exact q
    obtain ⟨w, hw, hr⟩ := jlpN (step := fun (q : Int32 × jM) => f_X12_ends_L2 201 q.1 q.2) 31
      (fun k q => q.1 = nI k ∧ TRr σ.1 ((dfl (σ.2.1 0) T' k).foldl tput (σ.2.2 σ.1)) q.2 ∧ (∀ j' l', j' ≠ σ.1 → l'.length ≤ 22 → TRr j' l' μ → TRr j' l' q.2) ∧ jFr (fun c => c = 205 ∨ c = 206) μ q.2)
      (fun m => TRr σ.1 ((dfl (σ.2.1 0) T' 31).foldl tput (σ.2.2 σ.1)) m ∧ (∀ j' l', j' ≠ σ.1 → l'.length ≤ 22 → TRr j' l' μ → TRr j' l' m) ∧ jFr (fun c => c = 205 ∨ c = 206) μ m)
      (fun k q hk hq => by
        obtain ⟨u, m⟩ := q
        obtain ⟨hu, hTr, ho, hfr⟩ := hq
        have hu : u = nI k := hu
        subst hu
        have em : m.1 201 9 = nI σ.1 := by rw [(hfr 201 (by omega)).1]; exact h1
        have hAm : RW 10 (σ.2.1 0) m := hA.fr (hfr 204 (by omega)).1
        have hNm : RW 0 T' m := hN.fr (hfr 204 (by omega)).1
        have pre : ∀ r, (if (if isTh k = true then (1 : Int32) else 0) = 0 then some (.inl (nI (k + 1), m)) else jcl (f_X12_isOther 201 (nI 10) (nI 0) (nI k) m) (fun v6 => if v6 = (0 : Int32) then some (.inl (nI (k + 1), m)) else jcl (f_X12_comesOn 201 (nI σ.1) (nI k) m) (fun m9 => some (.inl (nI (k + 1), m9))))) = r → f_X12_ends_L2 201 (nI k) m = r := by
          intro r hr
          rw [← hr]
          unfold f_X12_ends_L2
          rw [jlit 30, if_neg (nI_nlt (by omega) (by omega)), em, if_neg (nI_nle (by omega) (by omega)), isThing_r k hk, nI_1]
          rfl
        by_cases c : isTh k = true
        · have eo := r_oth hAm hNm (by decide) (by decide) (hv.2.1 0 (by omega)) hT hk c
          by_cases c2 : othB (σ.2.1 0) T' k = true
          · obtain ⟨m', e1, e2, e3, e4⟩ := r_comesOn hTr (by omega) (oT.fold (fun t ht => by
              obtain ⟨q1, q2⟩ := List.mem_filter.mp ht
              simp only [Bool.and_eq_true] at q2
              exact ⟨q2.1, by have := List.mem_range.mp q1; omega⟩)) c hk
            refine ⟨(nI (k + 1), m'), pre _ ?_, rfl, ?_, fun j' l' q1 q2 q3 => e3 j' l' q1 q2 (ho j' l' q1 q2 q3), hfr.tr e4⟩
            · rw [c, if_neg (by decide), jcl_e eo, c2, if_neg (by decide), jcl_e e1]
            · show TRr _ _ m'
              rw [dfl_s, c, c2]
              simp only [Bool.and_self, if_true, List.foldl_append, List.foldl_cons, List.foldl_nil]
              exact e2
          · have c2 : othB (σ.2.1 0) T' k = false := by simpa using c2
            refine ⟨(nI (k + 1), m), pre _ ?_, rfl, ?_, ho, hfr⟩
            · rw [c, if_neg (by decide), jcl_e eo, c2, if_pos (by decide)]
            · show TRr _ _ m
              rw [dfl_s, c2]
              simpa using hTr
        · have c : isTh k = false := by simpa using c
          refine ⟨(nI (k + 1), m), pre _ ?_, rfl, ?_, ho, hfr⟩
          · rw [c, if_pos (by decide)]
          · show TRr _ _ m
            rw [dfl_s, c]
            simpa using hTr)
      (fun q hq => by
        obtain ⟨u, m⟩ := q
        obtain ⟨hu, hTr, ho, hfr⟩ := hq
        have hu : u = nI 31 := hu
        subst hu
        refine ⟨m, ?_, hTr, ho, hfr⟩
        dsimp only
        unfold f_X12_ends_L2
        rw [jlit 30, if_pos (nI_lt (by omega) (by omega))])
      (i := 0) (n := jfu) (s := ((0 : Int32), μ)) (by omega) ⟨rfl, by
        have q := h3 (σ.1 - 1) (by show σ.1 - 1 < σ.1; omega)
        rw [show σ.1 - 1 + 1 = σ.1 by omega] at q
        exact q, fun _ _ _ _ q => q, jFr.rf⟩ (jfu_lt (by omega))
    rw [jcl_e hw]
    refine ⟨w, rfl, ⟨?_, fun j hj => (h2 j hj).fr (hr.2.2 204 (by omega)).1, fun j hj => ?_⟩, hr.2.2⟩
    · rw [(hr.2.2 201 (by omega)).1]; exact h1
    · have hj : j < σ.1 := hj
      show TRr _ ((if σ.1 = 0 then σ.2.2 else va_up σ.2.2 σ.1 ((dfl (σ.2.1 0) T' 31).foldl tput (σ.2.2 σ.1))) (j + 1)) w
      rw [if_neg c0]
      by_cases c : j + 1 = σ.1
      · rw [c, va_up_self]; exact hr.1
      · rw [va_up_ne _ _ c]
        exact hr.2.1 _ _ c (hv.2.2 j hj).len (h3 j hj)
