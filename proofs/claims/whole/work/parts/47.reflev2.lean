/-- which wholes of the reference's memory may have changed -/
def MF (b : Nat → Prop) (μ μ' : jM) : Prop := ∀ w, w < 34 → ¬ b w → ∀ k, k < 61 → μ'.1 204 (61 * w + k) = μ.1 204 (61 * w + k)
theorem MF.rf {b : Nat → Prop} {μ : jM} : MF b μ μ := fun _ _ _ _ _ => rfl
theorem MF.tr {b : Nat → Prop} {μ μ1 μ2 : jM} (h : MF b μ μ1) (h2 : MF b μ1 μ2) : MF b μ μ2 := fun w hw hb k hk => (h2 w hw hb k hk).trans (h w hw hb k hk)
theorem MF.mono {b b' : Nat → Prop} {μ μ1 : jM} (h : MF b μ μ1) (hb : ∀ w, b w → b' w) : MF b' μ μ1 := fun w hw hn k hk => h w hw (fun q => hn (hb w q)) k hk
theorem MF.of {b : Nat → Prop} {μ μ1 : jM} (h : μ1.1 204 = μ.1 204) : MF b μ μ1 := fun w hw hn k hk => by rw [h]
theorem RW.mf {w : Nat} {T : TT} {μ μ' : jM} {b : Nat → Prop} (h : RW w T μ) (hf : MF b μ μ') (hw : w < 34) (hb : ¬ b w) : RW w T μ' := fun k hk => (hf w hw hb k hk).trans (h k hk)
theorem r_copies2 {a b : Nat} {T : TT} {μ : jM} (h : RW a T μ) (ha : a < 34) (hb : b < 34) (hab : a ≠ b) : ∃ μ', f_X12_copies 201 (nI a) (nI b) μ = some μ' ∧ RW b T μ' ∧ MF (fun w => w = b) μ μ' ∧ jFr (fun c => c = 204) μ μ' := by
  obtain ⟨μ', h1, h2, h3, h4⟩ := r_copies h ha hb hab
  refine ⟨μ', h1, h2, fun w hw hn k hk => h3 _ ?_, h4⟩
  rcases Nat.lt_or_ge w b with q | q
  · left; omega
  · right
    have : b < w := Nat.lt_of_le_of_ne q (fun e => hn e.symm)
    omega
theorem r_begins {σ : SS} {μ : jM} (h : RM σ μ) (hd : σ.1 ≤ 9) : ∃ μ', f_X12_begins 201 μ = some μ' ∧ RM σ μ' ∧ RW 10 (σ.2.1 0) μ' ∧ MF (fun w => w = 10) μ μ' ∧ jFr (fun c => c = 204) μ μ' := by
  obtain ⟨μ', h1, h2, h3, h4⟩ := r_copies2 (b := 10) (h.2.1 0 (Nat.zero_le _)) (by decide) (by decide) (by decide)
  unfold f_X12_begins
  have e : f_X12_copies 201 (0 : Int32) (10 : Int32) μ = some μ' := h1
  rw [jcl_e e]
  refine ⟨μ', rfl, ⟨?_, fun j hj => (h.2.1 j hj).mf h3 (by omega) (by omega), fun j hj => (h.2.2 j hj).fr (h4 205 (by decide)).1 (h4 206 (by decide)).1⟩, h2, h3, h4⟩
  rw [(h4 201 (by decide)).1]; exact h.1
theorem r_open {σ : SS} {μ : jM} (h : RM σ μ) (hv : VS σ) (hd : σ.1 < 9) : ∃ μ', f_X12_opensOne 201 μ = some (nI (σ.1 + 1), μ') ∧ RM (opn σ) μ' ∧ MF (fun w => w ≤ 9) μ μ' ∧ jFr (fun c => c = 201 ∨ c = 204 ∨ c = 206) μ μ' ∧ (∀ k, k ≠ 9 → μ'.1 201 k = μ.1 201 k) := by
  obtain ⟨h1, h2, h3⟩ := h
  unfold f_X12_opensOne
  rw [h1, jlit 9, if_neg (fun q => by have := (nI_eq (by omega) (by omega)).mp q; omega), nI_1, jbd_e, jsi_at]
  have r0 : RW 0 (σ.2.1 0) (jsi μ 201 9 (nI (σ.1 + 1))) := (h2 0 (Nat.zero_le _)).fr (jsi_ne (by decide))
  obtain ⟨m1, e1, e2, e3, e4⟩ := r_copies2 (b := σ.1 + 1) r0 (by decide) (by omega) (by omega)
  have ed : m1.1 201 9 = nI (σ.1 + 1) := by rw [(e4 201 (by decide)).1, jsi_at]
  have e1 : f_X12_copies 201 (0 : Int32) (nI (σ.1 + 1)) (jsi μ 201 9 (nI (σ.1 + 1))) = some m1 := e1
  rw [jcl_e e1, ed, jin_n (by omega) (by decide), nI_clamp (by omega), jbd_e]
  show ∃ μ', some ((jsi m1 206 (σ.1 + 1) 0).1 201 9, jsi m1 206 (σ.1 + 1) 0) = _ ∧ _
  rw [jsi_ne (by decide), ed]
  refine ⟨_, rfl, ⟨?_, fun j hj => ?_, fun j hj => ?_⟩, ?_, ?_, ?_⟩
  · rw [jsi_ne (by decide), ed]; rfl
  · show RW j (va_up σ.2.1 (σ.1 + 1) (σ.2.1 0) j) _
    have hj : j ≤ σ.1 + 1 := hj
    by_cases c : j = σ.1 + 1
    · rw [c, va_up_self]
      exact e2.fr (jsi_ne (by decide))
    · rw [va_up_ne _ _ c]
      have q : RW j (σ.2.1 j) m1 := ((h2 j (by omega)).fr (μ' := jsi μ 201 9 (nI (σ.1 + 1))) (jsi_ne (by decide))).mf e3 (by omega) c
      exact q.fr (jsi_ne (by decide))
  · show TRr _ (va_up σ.2.2 (σ.1 + 1) [] (j + 1)) _
    have hj : j < σ.1 + 1 := hj
    by_cases c : j = σ.1
    · rw [c, va_up_self]
      exact ⟨jsi_at _ _ _ _, fun i hi => absurd hi (Nat.not_lt_zero i)⟩
    · rw [va_up_ne _ _ (by omega)]
      have q := h3 j (by omega)
      refine ⟨?_, fun i hi => ?_⟩
      · rw [jsi_pl (by omega), (e4 206 (by decide)).1, jsi_ne (by decide)]; exact q.1
      · rw [jsi_ne (by decide), (e4 205 (by decide)).1, jsi_ne (by decide)]; exact q.2 i hi
  · exact ((MF.of (jsi_ne (by decide))).tr (e3.mono (fun w hw => by omega))).tr (MF.of (jsi_ne (by decide)))
  · exact ((jFr.si _ _ _ (Or.inl rfl)).tr (e4.mono (fun c hc => Or.inr (Or.inl hc)))).tr (jFr.si _ _ _ (Or.inr (Or.inr rfl)))
  · intro k hk
    rw [jsi_ne (by decide), (e4 201 (by decide)).1, jsi_pl hk]
theorem r_open9 {σ : SS} {μ : jM} (h : RM σ μ) (hd : σ.1 = 9) : f_X12_opensOne 201 μ = some (-2, μ) := by
  unfold f_X12_opensOne
  rw [h.1, hd, if_pos (by rfl)]
theorem r_close {σ : SS} {μ : jM} (h : RM σ μ) (hv : VS σ) (hd : 0 < σ.1) : ∃ μ', f_X12_closesOne 201 μ = some (nI (σ.1 - 1), μ') ∧ RM (clo (σ.1 - 1) σ) μ' ∧ MF (fun w => w ≤ 9) μ μ' ∧ jFr (fun c => c = 201 ∨ c = 204) μ μ' ∧ (∀ k, k ≠ 9 → μ'.1 201 k = μ.1 201 k) := by
  obtain ⟨h1, h2, h3⟩ := h
  have h9 := hv.1
  unfold f_X12_closesOne
  rw [h1, if_neg (nI_ne0 hd (by omega))]
  obtain ⟨m1, e1, e2, e3, e4⟩ := r_copies2 (b := 0) (h2 σ.1 (Nat.le_refl _)) (by omega) (by decide) (by omega)
  have ed : m1.1 201 9 = nI σ.1 := by rw [(e4 201 (by decide)).1]; exact h1
  have e1 : f_X12_copies 201 (nI σ.1) (0 : Int32) μ = some m1 := e1
  have e : nI σ.1 - (1 : Int32) = nI (σ.1 - 1) := pk_sub (b := 1) (by omega)
  rw [jcl_e e1, ed, e, jbd_e, jsi_at]
  refine ⟨_, rfl, ⟨jsi_at _ _ _ _, fun j hj => ?_, fun j hj => ?_⟩, ?_, ?_, ?_⟩
  · show RW j (va_up σ.2.1 0 (σ.2.1 (σ.1 - 1 + 1)) j) _
    have hj : j ≤ σ.1 - 1 := hj
    rw [show σ.1 - 1 + 1 = σ.1 by omega]
    by_cases c : j = 0
    · rw [c, va_up_self]; exact e2.fr (jsi_ne (by decide))
    · rw [va_up_ne _ _ c]
      exact ((h2 j (by omega)).mf e3 (by omega) c).fr (jsi_ne (by decide))
  · have hj : j < σ.1 - 1 := hj
    exact (h3 j (by omega)).fr (by rw [jsi_ne (by decide), (e4 205 (by decide)).1]) (by rw [jsi_ne (by decide), (e4 206 (by decide)).1])
  · exact (e3.mono (fun w hw => by omega)).tr (MF.of (jsi_ne (by decide)))
  · exact (e4.mono (fun c hc => Or.inr hc)).tr (jFr.si _ _ _ (Or.inl rfl))
  · intro k hk
    rw [jsi_pl hk, (e4 201 (by decide)).1]
theorem tput_in {l : List Nat} {t : Nat} (h : t ∈ l) : tput l t = l := if_pos h
theorem tput_nin {l : List Nat} {t : Nat} (h : t ∉ l) : tput l t = l ++ [t] := if_neg h
theorem r_commit {σ : SS} {μ : jM} (h : RM σ μ) (hv : VS σ) (hd : 0 < σ.1) : ∃ μ', f_X12_commitsOne 201 μ = some (nI (σ.1 - 1), μ') ∧ RM (com σ) μ' ∧ μ'.1 201 15 = nI (shr σ) ∧ μ'.1 204 = μ.1 204 ∧ jFr (fun c => c = 201 ∨ c = 205 ∨ c = 206) μ μ' ∧ (∀ k, k ≠ 9 → k ≠ 15 → μ'.1 201 k = μ.1 201 k) := by
  obtain ⟨h1, h2, h3⟩ := h
  have h9 := hv.1
  have e : nI σ.1 - (1 : Int32) = nI (σ.1 - 1) := pk_sub (b := 1) (by omega)
  have oG : TrOK (σ.2.2 σ.1) := by
    have q := hv.2.2 (σ.1 - 1) (by omega)
    rw [show σ.1 - 1 + 1 = σ.1 by omega] at q
    exact q
  have tG : TRr σ.1 (σ.2.2 σ.1) μ := by
    have q := h3 (σ.1 - 1) (by omega)
    rw [show σ.1 - 1 + 1 = σ.1 by omega] at q
    exact q
  have hlen := oG.len
  unfold f_X12_commitsOne
  rw [h1, if_neg (nI_ne0 hd (by omega)), jbd_e, jbd_e, jsi_pl (by decide), h1, e]
  by_cases c1 : σ.1 = 1
  · have es : f_X12_commitsOne_L24 201 (nI (σ.1 - 1)) (0 : Int32) (jsi μ 201 15 0) = some (.inr (jsi μ 201 15 0)) := by
      unfold f_X12_commitsOne_L24
      show jrd ((jsi μ 201 15 0).1 206) _ _ _ = _
      rw [jsi_pl (by decide), h1, jrd_n (by omega) (by decide), c1]
      by_cases c : (jsi μ 201 15 0).1 206 1 ≤ (0 : Int32)
      · rw [if_pos c]
      · rw [if_neg c]; rfl
    have el : jloop (fun (s : Int32 × jM) => f_X12_commitsOne_L24 201 (nI (σ.1 - 1)) s.1 s.2) jfu ((0 : Int32), jsi μ 201 15 0) = some (jsi μ 201 15 0) := by
      show jloop _ (1999999 + 1) _ = _
      exact jloop_x es
    rw [jcl_e el, jbd_e]
    refine ⟨_, rfl, ⟨jsi_at _ _ _ _, fun j hj => ?_, fun j hj => ?_⟩, ?_, ?_, ?_, ?_⟩
    · have hj : j ≤ σ.1 - 1 := hj
      exact (h2 j (by omega)).fr (by rw [jsi_ne (by decide), jsi_ne (by decide)])
    · have hj : j < σ.1 - 1 := hj
      omega
    · rw [jsi_pl (by decide), jsi_at]; unfold shr; rw [if_pos (by omega)]; rfl
    · rw [jsi_ne (by decide), jsi_ne (by decide)]
    · exact (jFr.si _ _ _ (Or.inl rfl)).tr (jFr.si _ _ _ (Or.inl rfl))
    · intro k k1 k2
      rw [jsi_pl k1, jsi_pl k2]
  · have oB : TrOK (σ.2.2 (σ.1 - 1)) := by
      have q := hv.2.2 (σ.1 - 2) (by omega)
      rw [show σ.1 - 2 + 1 = σ.1 - 1 by omega] at q
      exact q
    have tB : TRr (σ.1 - 1) (σ.2.2 (σ.1 - 1)) μ := by
      have q := h3 (σ.1 - 2) (by omega)
      rw [show σ.1 - 2 + 1 = σ.1 - 1 by omega] at q
      exact q
    obtain ⟨w, hw, hr⟩ := jlpN (step := fun (q : Int32 × jM) => f_X12_commitsOne_L24 201 (nI (σ.1 - 1)) q.1 q.2) (σ.2.2 σ.1).length
      (fun k q => q.1 = nI k ∧ TRr (σ.1 - 1) (((σ.2.2 σ.1).take k).foldl tput (σ.2.2 (σ.1 - 1))) q.2 ∧ (∀ j' l', j' ≠ σ.1 - 1 → l'.length ≤ 22 → TRr j' l' μ → TRr j' l' q.2) ∧ q.2.1 201 15 = nI (k - ((((σ.2.2 σ.1).take k).foldl tput (σ.2.2 (σ.1 - 1))).length - (σ.2.2 (σ.1 - 1)).length)) ∧ (∀ k, k ≠ 15 → q.2.1 201 k = μ.1 201 k) ∧ jFr (fun c => c = 201 ∨ c = 205 ∨ c = 206) μ q.2)
      (fun m => TRr (σ.1 - 1) ((σ.2.2 σ.1).foldl tput (σ.2.2 (σ.1 - 1))) m ∧ (∀ j' l', j' ≠ σ.1 - 1 → l'.length ≤ 22 → TRr j' l' μ → TRr j' l' m) ∧ m.1 201 15 = nI (shr σ) ∧ (∀ k, k ≠ 15 → m.1 201 k = μ.1 201 k) ∧ jFr (fun c => c = 201 ∨ c = 205 ∨ c = 206) μ m)
      (fun k q hk hq => by
        obtain ⟨u, m⟩ := q
        obtain ⟨hu, hT, ho, hc, h0, hfr⟩ := hq
        have hu : u = nI k := hu
        subst hu
        have hT : TRr (σ.1 - 1) (((σ.2.2 σ.1).take k).foldl tput (σ.2.2 (σ.1 - 1))) m := hT
        have hc : m.1 201 15 = _ := hc
        have hm9 : m.1 201 9 = nI σ.1 := (h0 9 (by decide)).trans h1
        have hGm : TRr σ.1 (σ.2.2 σ.1) m := ho _ _ (by omega) hlen tG
        have hin : isTh ((σ.2.2 σ.1).getD k 0) = true ∧ (σ.2.2 σ.1).getD k 0 < 31 := oG.2 _ (by simp [hk])
        have oF : TrOK (((σ.2.2 σ.1).take k).foldl tput (σ.2.2 (σ.1 - 1))) := oB.fold (fun t ht => oG.2 t (List.mem_of_mem_take ht))
        have hOn := r_isOn hT (by omega) oF hin.2
        generalize hm1 : jsi m 201 15 (m.1 201 15 + f_X12_flag (if (σ.2.2 σ.1).getD k 0 ∈ (((σ.2.2 σ.1).take k).foldl tput (σ.2.2 (σ.1 - 1))) then 1 else 0)) = m1
        have n5 : m1.1 205 = m.1 205 := by rw [← hm1]; exact jsi_ne (by decide)
        have n6 : m1.1 206 = m.1 206 := by rw [← hm1]; exact jsi_ne (by decide)
        have hT1 : TRr (σ.1 - 1) (((σ.2.2 σ.1).take k).foldl tput (σ.2.2 (σ.1 - 1))) m1 := hT.fr n5 n6
        obtain ⟨m', e1, e2, e3, e4⟩ := r_comesOn hT1 (by omega) oF hin.1 hin.2
        refine ⟨(nI (k + 1), m'), ?_, rfl, ?_, fun j' l' q1 q2 q3 => e3 j' l' q1 q2 ((ho j' l' q1 q2 q3).fr n5 n6), ?_, fun i hi => ?_, ?_⟩
        · dsimp only
          unfold f_X12_commitsOne_L24
          show jrd (m.1 206) _ _ _ = _
          rw [hm9, jrd_n (by omega) (by decide), hGm.1, if_neg (nI_ge hk (by omega)), if_neg (nI_nle (by omega) (by omega))]
          show jrd (m.1 205) _ _ _ = _
          rw [jlit 22, pk_mul, nI_add, jrd_n (by omega) (by decide), hGm.2 k hk, jcl_e hOn, jbd_e, hm1, jcl_e e1, nI_1]
        · show TRr _ _ m'
          rw [take_fold _ _ hk]; exact e2
        · show m'.1 201 15 = _
          rw [(e4 201 (by decide)).1, ← hm1, jsi_at, hc, take_fold _ _ hk]
          have hfl := fold_len ((σ.2.2 σ.1).take k) (σ.2.2 (σ.1 - 1))
          rw [List.length_take, Nat.min_eq_left (by omega)] at hfl
          by_cases c : (σ.2.2 σ.1).getD k 0 ∈ (((σ.2.2 σ.1).take k).foldl tput (σ.2.2 (σ.1 - 1)))
          · rw [if_pos c, tput_in c]
            show _ + nI 1 = _
            rw [nI_add]; congr 1
            show _ = k + 1 - ((((σ.2.2 σ.1).take k).foldl tput (σ.2.2 (σ.1 - 1))).length - _)
            omega
          · rw [if_neg c, tput_nin c, List.length_append, List.length_singleton]
            show _ + nI 0 = _
            rw [nI_add]; congr 1
            omega
        · show m'.1 201 i = _
          rw [(e4 201 (by decide)).1, ← hm1, jsi_pl hi]; exact h0 i hi
        · refine (hfr.tr ?_).tr (e4.mono (fun c hc => Or.inr hc))
          rw [← hm1]
          exact jFr.si _ _ _ (Or.inl rfl))
      (fun q hq => by
        obtain ⟨u, m⟩ := q
        obtain ⟨hu, hT, ho, hc, h0, hfr⟩ := hq
        have hu : u = nI (σ.2.2 σ.1).length := hu
        subst hu
        have hm9 : m.1 201 9 = nI σ.1 := (h0 9 (by decide)).trans h1
        have hGm : TRr σ.1 (σ.2.2 σ.1) m := ho _ _ (by omega) hlen tG
        rw [List.take_length] at hT hc
        refine ⟨m, ?_, hT, ho, ?_, h0, hfr⟩
        · dsimp only
          unfold f_X12_commitsOne_L24
          show jrd (m.1 206) _ _ _ = _
          rw [hm9, jrd_n (by omega) (by decide), hGm.1, if_pos (nI_le (Nat.le_refl _) (by omega))]
        · rw [show m.1 201 15 = _ from hc]; unfold shr; rw [if_neg (by omega)])
      (i := 0) (n := jfu) (s := ((0 : Int32), jsi μ 201 15 0)) (by omega) ⟨rfl, tB.fr (jsi_ne (by decide)) (jsi_ne (by decide)), fun j' l' _ _ q => q.fr (jsi_ne (by decide)) (jsi_ne (by decide)), by show (jsi μ 201 15 0).1 201 15 = nI (0 - _); rw [jsi_at, Nat.zero_sub]; rfl, fun k hk => jsi_pl hk, jFr.si _ _ _ (Or.inl rfl)⟩ (jfu_lt (by omega))
    rw [jcl_e hw, jbd_e]
    obtain ⟨w1, w2, w3, w4, w5⟩ := hr
    refine ⟨_, rfl, ⟨jsi_at _ _ _ _, fun j hj => ?_, fun j hj => ?_⟩, ?_, ?_, ?_, ?_⟩
    · have hj : j ≤ σ.1 - 1 := hj
      exact (h2 j (by omega)).fr (by rw [jsi_ne (by decide), (w5 204 (by decide)).1])
    · have hj : j < σ.1 - 1 := hj
      show TRr _ ((if σ.1 ≤ 1 then σ.2.2 else va_up σ.2.2 (σ.1 - 1) ((σ.2.2 σ.1).foldl tput (σ.2.2 (σ.1 - 1)))) (j + 1)) _
      rw [if_neg (by omega)]
      refine TRr.fr (μ := w) ?_ (jsi_ne (by decide)) (jsi_ne (by decide))
      by_cases c : j + 1 = σ.1 - 1
      · rw [c, va_up_self]; exact w1
      · rw [va_up_ne _ _ c]
        exact w2 _ _ c (hv.2.2 j (by omega)).len (h3 j (by omega))
    · rw [jsi_pl (by decide)]; exact w3
    · rw [jsi_ne (by decide), (w5 204 (by decide)).1]
    · exact w5.tr (jFr.si _ _ _ (Or.inl rfl))
    · intro k k1 k2
      rw [jsi_pl k1]; exact w4 k k2
theorem r_trs {σ : SS} {μ : jM} (h : RM σ μ) (hv : VS σ) : f_X12_trailsMany 201 μ = some (nI (trs σ σ.1)) := by
  obtain ⟨h1, h2, h3⟩ := h
  have hd := hv.1
  obtain ⟨e, he, hr⟩ := jlpN (step := fun (q : Int32 × Int32) => f_X12_trailsMany_L4 201 μ q.1 q.2) σ.1 (fun k q => q = (nI (trs σ k), nI (k + 1))) (fun e => e = nI (trs σ σ.1))
    (fun k q hk hq => by
      subst hq
      refine ⟨(nI (trs σ (k + 1)), nI (k + 1 + 1)), ?_, rfl⟩
      dsimp only
      unfold f_X12_trailsMany_L4
      rw [h1, if_neg (nI_nlt (by omega) (by omega))]
      show jrd (μ.1 206) _ _ _ = _
      rw [jrd_n (by omega) (by decide), (h3 k hk).1, nI_add, nI_1]
      rfl)
    (fun q hq => by
      subst hq
      refine ⟨_, ?_, rfl⟩
      dsimp only
      unfold f_X12_trailsMany_L4
      rw [h1, if_pos (nI_lt (by omega) (by omega))])
    (i := 0) (n := jfu) (s := ((0 : Int32), (1 : Int32))) (by omega) rfl (jfu_lt (by omega))
  unfold f_X12_trailsMany
  rw [jcl_e he, hr]
