def chT (σ : SS) (t : Nat) : SS := (σ.1, σ.2.1, if σ.1 = 0 then σ.2.2 else va_up σ.2.2 σ.1 (tput (σ.2.2 σ.1) t))
def nowT (σ : SS) (T : TT) : SS := (σ.1, va_up σ.2.1 0 T, σ.2.2)
theorem VS.chT {σ : SS} (h : VS σ) {t : Nat} (ht : isTh t = true) (hb : t < 31) : VS (chT σ t) := by
  obtain ⟨h1, h2, h3⟩ := h
  refine ⟨h1, h2, fun j hj => ?_⟩
  have hj : j < σ.1 := hj
  show TrOK ((if σ.1 = 0 then σ.2.2 else va_up σ.2.2 σ.1 (tput (σ.2.2 σ.1) t)) (j + 1))
  rw [if_neg (by omega)]
  by_cases c : j + 1 = σ.1
  · rw [c, va_up_self]
    have e := h3 j hj
    rw [c] at e
    exact e.put ht hb
  · rw [va_up_ne _ _ c]; exact h3 j hj
theorem VS.nowT {σ : SS} (h : VS σ) {T : TT} (hT : VT T) : VS (nowT σ T) := by
  obtain ⟨h1, h2, h3⟩ := h
  refine ⟨h1, fun j hj => ?_, h3⟩
  show VT (va_up σ.2.1 0 T j)
  by_cases c : j = 0
  · rw [c, va_up_self]; exact hT
  · rw [va_up_ne _ _ c]; exact h2 j hj
theorem RS.now {s : Nat} {σ : SS} {T : TT} {μ μ' : jM} (h : RS s σ μ) (hd : σ.1 ≤ 9) (hT : RT (s + 1) T μ') (hf : jFr (fun c => s + 1 ≤ c ∧ c ≤ s + 6) μ μ') : RS s (nowT σ T) μ' := by
  obtain ⟨h1, h2, h3⟩ := h
  refine ⟨?_, ?_, fun j hj => ?_⟩
  · rw [(hf s (by omega)).1]; exact h1
  · show RT (s + 1) (va_up σ.2.1 0 T 0) μ'
    rw [va_up_self]; exact hT
  · show RLv _ (va_up σ.2.1 0 T (j + 1)) _ μ'
    have hj : j < σ.1 := hj
    rw [va_up_ne _ _ (by omega)]
    exact (h3 j hj).fr (fun c q1 q2 => (hf c (by omega)).1)
theorem c_changed {s : Nat} {σ : SS} {μ : jM} (h : RS s σ μ) (hv : VS σ) {t : Nat} (ht : isTh t = true) (hb : t < 31) : ∃ μ', f_X7_changed s (nI t) μ = some μ' ∧ RS s (chT σ t) μ' ∧ jFr (fun c => inS s c ∧ s + 8 ≤ c) μ μ' := by
  have hR := h
  obtain ⟨h1, h2, h3⟩ := h
  have hd := hv.1
  unfold f_X7_changed
  rw [h1]
  by_cases c : σ.1 = 0
  · rw [c, if_pos (by decide)]
    refine ⟨_, rfl, ?_, jFr.rf⟩
    unfold chT
    rw [if_pos c]
    exact hR
  · have e : nI σ.1 - (1 : Int32) = nI (σ.1 - 1) := pk_sub (b := 1) (by omega)
    rw [if_neg (nI_nle (by omega) (by omega)), e, jin_n (by omega) (by omega), nI_clamp (by omega)]
    have hL := h3 (σ.1 - 1) (by omega)
    have hO := hv.2.2 (σ.1 - 1) (by omega)
    rw [show σ.1 - 1 + 1 = σ.1 by omega] at hL hO
    obtain ⟨μ1, e1, r1, f1⟩ := c_put hL hO ht hb
    rw [jcl_e e1]
    refine ⟨_, rfl, ⟨?_, ?_, fun j hj => ?_⟩, f1.mono (fun c hc => ⟨⟨by omega, by omega⟩, by omega⟩)⟩
    · rw [(f1 s (by omega)).1]; exact h1
    · exact h2.fr (fun c q1 q2 => (f1 c (by omega)).1)
    · have hj : j < σ.1 := hj
      show RLv _ _ ((if σ.1 = 0 then σ.2.2 else va_up σ.2.2 σ.1 (tput (σ.2.2 σ.1) t)) (j + 1)) μ1
      rw [if_neg c]
      by_cases c2 : j + 1 = σ.1
      · rw [c2, va_up_self, show j = σ.1 - 1 by omega]
        exact r1
      · rw [va_up_ne _ _ c2]
        exact (h3 j hj).fr (fun c q1 q2 => (f1 c (by omega)).1)
/-- how many of the committed one's were on the one below -/
def shr (σ : SS) : Nat := if σ.1 ≤ 1 then 0 else (σ.2.2 σ.1).length - (((σ.2.2 σ.1).foldl tput (σ.2.2 (σ.1 - 1))).length - (σ.2.2 (σ.1 - 1)).length)
theorem tput_len (l : List Nat) (t : Nat) : l.length ≤ (tput l t).length ∧ (tput l t).length ≤ l.length + 1 := by
  unfold tput
  by_cases c : t ∈ l
  · rw [if_pos c]; omega
  · rw [if_neg c, List.length_append, List.length_singleton]; omega
theorem fold_len (g : List Nat) : ∀ l : List Nat, l.length ≤ (g.foldl tput l).length ∧ (g.foldl tput l).length ≤ l.length + g.length := by
  induction g with
  | nil => intro l; exact ⟨Nat.le_refl _, Nat.le_refl _⟩
  | cons a g ih =>
    intro l
    have h1 := ih (tput l a)
    have h2 := tput_len l a
    simp only [List.foldl_cons, List.length_cons]
    omega
theorem take_fold (g l : List Nat) {k : Nat} (hk : k < g.length) : (g.take (k + 1)).foldl tput l = tput ((g.take k).foldl tput l) (g.getD k 0) := by
  rw [List.take_succ, List.foldl_append]
  simp [hk]
theorem c_commit {s : Nat} {σ : SS} {μ : jM} (h : RS s σ μ) (hv : VS σ) (hd : 0 < σ.1) : ∃ μ', f_X7_commitLevel s μ = some (nI (shr σ), μ') ∧ RS s (com σ) μ' ∧ jFr (inS s) μ μ' := by
  obtain ⟨h1, h2, h3⟩ := h
  have hd9 := hv.1
  have e : nI σ.1 - (1 : Int32) = nI (σ.1 - 1) := pk_sub (b := 1) (by omega)
  unfold f_X7_commitLevel
  rw [h1, if_neg (nI_ne0 hd (by omega)), e, jbd_e, jsi_at]
  have R0 : RS s (σ.1 - 1, σ.2.1, σ.2.2) (jsi μ s 2 (nI (σ.1 - 1))) := by
    refine ⟨jsi_at _ _ _ _, h2.fr (fun c q1 q2 => jsi_ne (by omega)), fun j hj => ?_⟩
    have hj : j < σ.1 - 1 := hj
    exact (h3 j (by omega)).fr (fun c q1 q2 => jsi_ne (by omega))
  by_cases c : σ.1 = 1
  · rw [if_pos (by rw [c]; rfl)]
    refine ⟨_, by unfold shr; rw [if_pos (by omega)]; rfl, ?_, jFr.si _ _ _ ⟨by omega, by omega⟩⟩
    unfold com
    rw [if_pos (by omega)]
    exact R0
  · have e2 : nI (σ.1 - 1) - (1 : Int32) = nI (σ.1 - 2) := by rw [jlit 1, pk_sub (by omega)]; congr 1
    rw [if_neg (nI_ne0 (by omega) (by omega)), e2, jin_n (by omega) (by omega), jin_n (by omega) (by omega), nI_clamp (by omega), nI_clamp (by omega)]
    have hG : RLv (s + 8 + 8 * (σ.1 - 1)) (σ.2.1 σ.1) (σ.2.2 σ.1) (jsi μ s 2 (nI (σ.1 - 1))) := by
      have q := h3 (σ.1 - 1) (by omega)
      rw [show σ.1 - 1 + 1 = σ.1 by omega] at q
      exact q.fr (fun c q1 q2 => jsi_ne (by omega))
    have hB : RLv (s + 8 + 8 * (σ.1 - 2)) (σ.2.1 (σ.1 - 1)) (σ.2.2 (σ.1 - 1)) (jsi μ s 2 (nI (σ.1 - 1))) := by
      have q := h3 (σ.1 - 2) (by omega)
      rw [show σ.1 - 2 + 1 = σ.1 - 1 by omega] at q
      exact q.fr (fun c q1 q2 => jsi_ne (by omega))
    have oG : TrOK (σ.2.2 σ.1) := by
      have q := hv.2.2 (σ.1 - 1) (by omega)
      rw [show σ.1 - 1 + 1 = σ.1 by omega] at q
      exact q
    have oB : TrOK (σ.2.2 (σ.1 - 1)) := by
      have q := hv.2.2 (σ.1 - 2) (by omega)
      rw [show σ.1 - 2 + 1 = σ.1 - 1 by omega] at q
      exact q
    generalize hm2 : jsi μ s 2 (nI (σ.1 - 1)) = m2 at R0 hG hB
    have ed : m2.1 s 2 = nI (σ.1 - 1) := R0.1
    obtain ⟨w, hw, hr⟩ := jlpN (step := fun (q : Int32 × jM) => f_X7_commitLevel_L58 s m2 q.1 q.2) (σ.2.2 σ.1).length
      (fun k q => q.1 = nI k ∧ RLv (s + 8 + 8 * (σ.1 - 2)) (σ.2.1 (σ.1 - 1)) (((σ.2.2 σ.1).take k).foldl tput (σ.2.2 (σ.1 - 1))) q.2 ∧ jFr (fun c => c = s + 8 + 8 * (σ.1 - 2) ∨ c = s + 8 + 8 * (σ.1 - 2) + 7) m2 q.2)
      (fun m => RLv (s + 8 + 8 * (σ.1 - 2)) (σ.2.1 (σ.1 - 1)) ((σ.2.2 σ.1).foldl tput (σ.2.2 (σ.1 - 1))) m ∧ jFr (fun c => c = s + 8 + 8 * (σ.1 - 2) ∨ c = s + 8 + 8 * (σ.1 - 2) + 7) m2 m)
      (fun k q hk hq => by
        obtain ⟨u, m⟩ := q
        obtain ⟨hu, hRl, hfr⟩ := hq
        have hu : u = nI k := hu
        subst hu
        have hlen := oG.len
        have hGm := hG.fr (μ' := m) (fun c q1 q2 => (hfr c (by omega)).1)
        obtain ⟨g1, g2, g3, g4⟩ := hGm
        have hin : isTh ((σ.2.2 σ.1).getD k 0) = true ∧ (σ.2.2 σ.1).getD k 0 < 31 := oG.2 _ (by simp [hk])
        obtain ⟨m', ep, rp, fp⟩ := c_put hRl (oB.fold (fun t ht => oG.2 t (List.mem_of_mem_take ht))) hin.1 hin.2
        refine ⟨(nI (k + 1), m'), ?_, rfl, ?_, hfr.tr fp⟩
        · dsimp only
          unfold f_X7_commitLevel_L58
          rw [ed, e2, nI_clamp (by omega), nI_clamp (by omega), g2, if_neg (nI_ge hk (by omega)), jrd_n (by omega) (by omega), g4 k hk, jcl_e ep, nI_1]
        · rw [take_fold _ _ hk]; exact rp)
      (fun q hq => by
        obtain ⟨u, m⟩ := q
        obtain ⟨hu, hRl, hfr⟩ := hq
        have hu : u = nI (σ.2.2 σ.1).length := hu
        subst hu
        have hlen := oG.len
        have hGm := hG.fr (μ' := m) (fun c q1 q2 => (hfr c (by omega)).1)
        refine ⟨m, ?_, by rw [List.take_length] at hRl; exact hRl, hfr⟩
        dsimp only
        unfold f_X7_commitLevel_L58
        rw [ed, nI_clamp (by omega), hGm.2.1, if_pos (nI_le (by omega) (by omega))])
      (i := 0) (n := jfu) (s := ((0 : Int32), m2)) (by omega) ⟨rfl, hB, jFr.rf⟩ (jfu_lt (by have := oG.len; omega))
    have hGw := hG.fr (μ' := w) (fun c q1 q2 => (hr.2 c (by omega)).1)
    have hfl := fold_len (σ.2.2 σ.1) (σ.2.2 (σ.1 - 1))
    have hlen := oG.len
    have hlb := oB.len
    have hlf := (oB.fold (fun t ht => oG.2 t ht) : TrOK ((σ.2.2 σ.1).foldl tput (σ.2.2 (σ.1 - 1)))).len
    rw [jbd_e, jcl_e hw, hGw.2.1, hr.1.2.1, hB.2.1, pk_sub (by omega), pk_sub (by omega)]
    refine ⟨w, by unfold shr; rw [if_neg (by omega)], ⟨?_, ?_, fun j hj => ?_⟩, ?_⟩
    · rw [(hr.2 s (by omega)).1]; exact R0.1
    · exact R0.2.1.fr (fun c q1 q2 => (hr.2 c (by omega)).1)
    · have hj : j < σ.1 - 1 := hj
      show RLv _ (σ.2.1 (j + 1)) ((if σ.1 ≤ 1 then σ.2.2 else va_up σ.2.2 (σ.1 - 1) ((σ.2.2 σ.1).foldl tput (σ.2.2 (σ.1 - 1)))) (j + 1)) w
      rw [if_neg (by omega)]
      by_cases c2 : j + 1 = σ.1 - 1
      · rw [c2, va_up_self, show j = σ.1 - 2 by omega]
        exact hr.1
      · rw [va_up_ne _ _ c2]
        exact (R0.2.2 j hj).fr (fun c q1 q2 => (hr.2 c (by omega)).1)
    · have f0 : jFr (inS s) μ m2 := by rw [← hm2]; exact jFr.si _ _ _ ⟨by omega, by omega⟩
      exact f0.tr (hr.2.mono (fun c hc => ⟨by omega, by omega⟩))
/-- how many things all trails have together -/
def trs (σ : SS) : Nat → Nat
  | 0 => 0
  | n + 1 => trs σ n + (σ.2.2 (n + 1)).length
theorem trs_le {σ : SS} (hv : VS σ) : ∀ n, n ≤ σ.1 → trs σ n ≤ 22 * n
  | 0, _ => Nat.le_refl _
  | n + 1, h => by
    have h1 := trs_le hv n (by omega)
    have h2 := (hv.2.2 n (by omega)).len
    unfold trs
    omega
theorem c_trs {s : Nat} {σ : SS} {μ : jM} (h : RS s σ μ) (hv : VS σ) : f_X7_thingsOnTrails s μ = some (nI (trs σ σ.1)) := by
  obtain ⟨h1, h2, h3⟩ := h
  have hd := hv.1
  obtain ⟨e, he, hr⟩ := jlpN (step := fun (q : Int32 × Int32) => f_X7_thingsOnTrails_L4 s μ q.1 q.2) σ.1 (fun k q => q = (nI (trs σ k), nI k)) (fun e => e = nI (trs σ σ.1))
    (fun k q hk hq => by
      subst hq
      refine ⟨(nI (trs σ (k + 1)), nI (k + 1)), ?_, rfl⟩
      dsimp only
      unfold f_X7_thingsOnTrails_L4
      rw [h1, if_neg (nI_ge hk (by omega)), jin_n (by omega) (by omega), nI_clamp (by omega), (h3 k hk).2.1, jbd_e, nI_add, nI_1]
      rfl)
    (fun q hq => by
      subst hq
      refine ⟨_, ?_, rfl⟩
      dsimp only
      unfold f_X7_thingsOnTrails_L4
      rw [h1, if_pos (nI_le (Nat.le_refl _) (by omega))])
    (i := 0) (n := jfu) (s := ((0 : Int32), (0 : Int32))) (by omega) rfl (jfu_lt (by omega))
  unfold f_X7_thingsOnTrails
  rw [jcl_e he, hr]
