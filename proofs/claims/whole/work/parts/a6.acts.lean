/-! run: an act, done by both -/
theorem pfx_all {ch g : Nat → Nat} : ∀ {m i : Nat}, pfx ch g m i = i + m → ∀ j, i ≤ j → j < i + m → mc (ch j) (g j) = true
  | 0, i, h, j, h1, h2 => by omega
  | m + 1, i, h, j, h1, h2 => by
    unfold pfx at h
    by_cases c : mc (ch i) (g i) = true
    · rw [if_pos c] at h
      by_cases e : j = i
      · rw [e]; exact c
      · exact pfx_all (m := m) (i := i + 1) (by omega) j (by omega) (by omega)
    · rw [if_neg c] at h
      omega
theorem ra_mc {n p k : Nat} {s : Nat → Nat} (h : (ra n s p).2 = some k) : ∀ j, j < fml k → mc (fm k j) (cl n s (p + j)) = true := by
  obtain ⟨-, -, a3, -⟩ := ra_some h
  intro j hj
  exact pfx_all (ch := fm k) (g := fun i => cl n s (p + i)) (m := fml k) (i := 0) (by rw [Nat.zero_add]; exact a3) j (by omega) (by omega)
theorem cl_0 {n q : Nat} {s : Nat → Nat} (h : cl n s q = 0) : q < n ∧ 65 ≤ s q ∧ s q < 65 + 6 := by
  have hn := cl_n (s := s) (p := q) (n := n) (by omega)
  rw [cl_b hn] at h
  refine ⟨hn, ?_⟩
  unfold clb at h
  repeat' split at h
  all_goals omega
theorem cl_1 {n q : Nat} {s : Nat → Nat} (h : cl n s q = 1) : q < n ∧ 118 ≤ s q ∧ s q < 118 + 5 := by
  have hn := cl_n (s := s) (p := q) (n := n) (by omega)
  rw [cl_b hn] at h
  refine ⟨hn, ?_⟩
  unfold clb at h
  repeat' split at h
  all_goals omega
theorem cl_10 {n q : Nat} {s : Nat → Nat} (h : cl n s q = 10) : q < n ∧ 48 ≤ s q ∧ s q < 48 + 6 := by
  have hn := cl_n (s := s) (p := q) (n := n) (by omega)
  rw [cl_b hn] at h
  refine ⟨hn, ?_⟩
  unfold clb at h
  repeat' split at h
  all_goals omega
theorem cl_d {n q : Nat} {s : Nat → Nat} (h : dgc (cl n s q) = true) : q < n ∧ 48 ≤ s q ∧ s q < 48 + 10 := by
  have hn := dgc_n h
  rw [cl_b hn] at h
  refine ⟨hn, ?_⟩
  unfold dgc at h
  rw [Bool.or_eq_true] at h
  rcases h with h | h
  · have h := Nat.eq_of_beq_eq_true h
    unfold clb at h
    repeat' split at h
    all_goals omega
  · have h := Nat.eq_of_beq_eq_true h
    unfold clb at h
    repeat' split at h
    all_goals omega
theorem mc_0 {c : Nat} (h : mc 0 c = true) : c = 0 := (Nat.eq_of_beq_eq_true h).symm
theorem mc_1 {c : Nat} (h : mc 1 c = true) : c = 1 := (Nat.eq_of_beq_eq_true h).symm
theorem mc_10 {c : Nat} (h : mc 10 c = true) : c = 10 := (Nat.eq_of_beq_eq_true h).symm
theorem mc_11 {c : Nat} (h : mc 11 c = true) : dgc c = true := h
theorem sub_65 : ∀ b, b < 256 → (nI b - (65 : Int32)).toInt = (b : Int) - 65 := by decide +kernel
theorem c_cellAt {n p : Nat} {s : Nat → Nat} {m : jM} (h : CT n s m) (h0 : p < n ∧ 65 ≤ s p ∧ s p < 65 + 6) : f_X8_cellAt 1 (nI p) m = some (nI (s p - 65)) := by
  have hs := (h.2.2 p (by have := h.1; omega)).2
  have e := sub_65 (s p) hs
  unfold f_X8_cellAt
  rw [jcl_e (c_sgn h (by have := h.1; omega))]
  unfold sgn
  rw [if_pos h0.1, cell_i, e, if_pos (show 0 ≤ (s p : Int) - 65 ∧ (s p : Int) - 65 < 6 by omega), if_neg (by decide), jlit 65, nI_subx h0.2.1]
theorem c_varAt {n p : Nat} {s : Nat → Nat} {m : jM} (h : CT n s m) (h0 : p < n ∧ 118 ≤ s p ∧ s p < 118 + 5) : f_X8_variableAt 1 (nI p) m = some (nI (s p - 118)) := by
  rw [c_variable h (by have := h.1; omega), rg_y h0]; rfl
theorem c_digAt {n p : Nat} {s : Nat → Nat} {m : jM} (h : CT n s m) (h0 : p < n ∧ 48 ≤ s p ∧ s p < 48 + 10) : f_X8_digitAt 1 (nI p) m = some (nI (s p - 48)) := by
  rw [c_digit h (by have := h.1; omega), rg_y h0]; rfl
def tw (s : Nat → Nat) (q : Nat) : Nat := 10 * (s q - 48) + (s (q + 1) - 48)
theorem c_twoAt {n p : Nat} {s : Nat → Nat} {m : jM} (h : CT n s m) (h0 : p < n ∧ 48 ≤ s p ∧ s p < 48 + 10) (h1 : p + 1 < n ∧ 48 ≤ s (p + 1) ∧ s (p + 1) < 48 + 10) : f_X8_twoDigitsAt 1 (nI p) m = some (nI (tw s p)) := by
  unfold f_X8_twoDigitsAt
  rw [jcl_e (c_digAt h h0), nI_1, jcl_e (c_digAt h h1), jlit 10, nI_mulx, nI_add]
  rfl
def aA (s : Nat → Nat) (k p : Nat) : Int32 := if k < 3 then nI (s p - 65) else if k < 7 then nI (s p - 118) else if k < 9 then nI (s (p + 1) - 48) else if k = 9 then 0 else if k < 13 then nI (s (p + 1) - 65) else if k = 13 then nI (s (p + 1) - 118) else -1
def aB (s : Nat → Nat) (k p : Nat) : Int32 := if k < 2 then nI (tw s (p + 2)) else if k = 2 then -nI (tw s (p + 2)) else if k < 7 then nI (s (p + 2) - 48) else if k = 7 then nI (tw s (p + 3)) else if k < 10 then 0 else if k < 13 then nI (tw s (p + 3)) else nI (s (p + 2) - 48)
def rop (k : Nat) : Nat := if k < 2 then k else k - 1
def kact (k : Nat) (t : Int32) (m : jM) : Option (Int32 × jM) := if t = (0 : Int32) then some ((t &&& 1, m)) else jbd (jsi m 179 4 ((m.1 179 4) + (jsLn (f_X4_form (nI k))))) (fun m7 => jbd (jsi m7 179 5 ((m7.1 179 5) + (1 : Int32))) (fun m9 => some ((t &&& 1, m9))))
def AOK (n : Nat) (s : Nat → Nat) (σ : SS) (k p : Nat) : Prop := ∃ r T', VT T' ∧ (∀ μ dn, CT n s μ → RS 5 σ μ → μ.1 179 4 = nI p → μ.1 179 5 = nI dn → ∃ μ', f_X4_doAct 179 (nI k) μ = some ((if r < (0 : Int32) then 0 else 1), μ') ∧ RS 5 (chg σ T') μ' ∧ μ'.1 179 4 = nI (if r < (0 : Int32) then p else p + fml k) ∧ μ'.1 179 5 = nI (if r < (0 : Int32) then dn else dn + 1) ∧ jFr (fun c => CA 5 c ∨ c = 179) μ μ') ∧ (∀ m j, j < 168 → RM σ m → RW 10 (σ.2.1 0) m → m.1 211 j = nI (rop k) → m.1 212 j = aA s k p → m.1 213 j = aB s k p → ∃ m', f_X12_doesAct 201 (nI j) m = some (r, m') ∧ RM (nowT σ T') m' ∧ RW 10 (σ.2.1 0) m' ∧ RA m m')
theorem n179 : ¬ CA 5 179 := fun q => by
  rcases q with ⟨q1, q2⟩ | q
  · omega
  · omega
theorem act_fin {n k p : Nat} {s : Nat → Nat} {σ : SS} {fc : Nat → jM → Option (Int32 × jM)} {one : jM → Option (Int32 × jM)} (hv : VS σ) (hk : k < 15) (ha : ActOK σ fc one)
    (hc : ∀ μ, CT n s μ → RS 5 σ μ → μ.1 179 4 = nI p → f_X4_doAct 179 (nI k) μ = jcl2 (fc 5 μ) (fun v m => kact k (if v < (0 : Int32) then (0 : Int32) else 1) m))
    (hr : ∀ m j, j < 168 → RM σ m → m.1 211 j = nI (rop k) → m.1 212 j = aA s k p → m.1 213 j = aB s k p → f_X12_doesAct 201 (nI j) m = one m) : AOK n s σ k p := by
  obtain ⟨r, T', hT, c1, c2⟩ := ha
  obtain ⟨e1, e2, -, e4, -⟩ := st_form k hk
  refine ⟨r, T', hT, fun μ dn hC hS hp hd => ?_, fun m j hj hM hW o1 o2 o3 => ?_⟩
  · obtain ⟨μ1, a1, a2, a3⟩ := c1 5 μ (Or.inl rfl) hS
    have q4 : μ1.1 179 4 = nI p := by rw [(a3 179 n179).1]; exact hp
    have q5 : μ1.1 179 5 = nI dn := by rw [(a3 179 n179).1]; exact hd
    have f1 : jFr (fun c => CA 5 c ∨ c = 179) μ μ1 := a3.mono (fun c hc => Or.inl hc)
    have z0 : (0 : Int32) &&& 1 = 0 := by decide
    have z1 : (1 : Int32) &&& 1 = 1 := by decide
    rw [hc μ hC hS hp, jcl2_e a1]
    unfold kact
    by_cases c : r < (0 : Int32)
    · rw [if_pos c, if_pos c, if_pos c, if_pos rfl, z0]
      exact ⟨μ1, rfl, a2, q4, q5, f1⟩
    · rw [if_neg c, if_neg c, if_neg c, if_neg (by decide), z1, q4, e1, e2, nI_add, jbd_e, jsi_pl (by decide), q5, nI_1, jbd_e]
      refine ⟨_, rfl, a2.fr (hv.chg hT).1 (fun c hc => ?_), ?_, jsi_at _ _ _ _, (f1.tr (jFr.si _ _ _ (Or.inr rfl))).tr (jFr.si _ _ _ (Or.inr rfl))⟩
      · obtain ⟨q1, q2⟩ := hc
        rw [jsi_ne (by omega), jsi_ne (by omega)]
      · rw [jsi_pl (by decide), jsi_at]
  · rw [hr m j hj hM o1 o2 o3]
    exact c2 m hM hW
theorem act_rd {j k p : Nat} {s : Nat → Nat} {m : jM} {β : Type} (hj : j < 168) (o1 : m.1 211 j = nI (rop k)) (o2 : m.1 212 j = aA s k p) (o3 : m.1 213 j = aB s k p) (F : Int32 → Int32 → Int32 → Option β) : jrd (m.1 (201 + 11)) (nI j) 168 (fun v2 => jrd (m.1 (201 + 12)) (nI j) 168 (fun v5 => jrd (m.1 (201 + 10)) (nI j) 168 (fun v8 => F v2 v5 v8))) = F (aA s k p) (aB s k p) (nI (rop k)) := by
  show jrd (m.1 212) (nI j) 168 (fun v2 => jrd (m.1 213) (nI j) 168 (fun v5 => jrd (m.1 211) (nI j) 168 (fun v8 => F v2 v5 v8))) = _
  rw [jrd_n hj (by decide), jrd_n hj (by decide), jrd_n hj (by decide), o1, o2, o3]
theorem aok_0 {n p : Nat} {s : Nat → Nat} {σ : SS} (hv : VS σ) (h : (ra n s p).2 = some 0) : AOK n s σ 0 p := by
  have M := ra_mc h
  have g0 : p < n ∧ 65 ≤ s (p) ∧ s (p) < 65 + 6 := cl_0 (mc_0 (M 0 (by decide)))
  have g2 := cl_d (mc_11 (M 2 (by decide)))
  have g3 := cl_d (mc_11 (M 3 (by decide)))
  refine act_fin hv (by decide) (ok_sets hv (nI (s p - 65)) (nI (tw s (p + 2)))) (fun μ hC hS hp => ?_) (fun m j hj hM o1 o2 o3 => ?_)
  · unfold f_X4_doAct
    rw [jbd_e, if_pos (by decide), hp, jcl_e (c_cellAt hC g0), jlit 2, nI_add, jcl_e (c_twoAt hC g2 g3)]
    rfl
  · unfold f_X12_doesAct
    refine (act_rd hj o1 o2 o3 _).trans ?_
    rw [if_pos (by decide), jcl2_id]
    try rfl
theorem aok_1 {n p : Nat} {s : Nat → Nat} {σ : SS} (hv : VS σ) (h : (ra n s p).2 = some 1) : AOK n s σ 1 p := by
  have M := ra_mc h
  have g0 : p < n ∧ 65 ≤ s (p) ∧ s (p) < 65 + 6 := cl_0 (mc_0 (M 0 (by decide)))
  have g2 := cl_d (mc_11 (M 2 (by decide)))
  have g3 := cl_d (mc_11 (M 3 (by decide)))
  refine act_fin hv (by decide) (ok_adds hv (nI (s p - 65)) (nI (tw s (p + 2)))) (fun μ hC hS hp => ?_) (fun m j hj hM o1 o2 o3 => ?_)
  · unfold f_X4_doAct
    rw [jbd_e, if_neg (by decide), if_pos (by decide), hp, jcl_e (c_cellAt hC g0), jlit 2, nI_add, jcl_e (c_twoAt hC g2 g3)]
    rfl
  · unfold f_X12_doesAct
    refine (act_rd hj o1 o2 o3 _).trans ?_
    rw [if_neg (by decide), if_pos (by decide), jcl2_id]
    try rfl
theorem aok_2 {n p : Nat} {s : Nat → Nat} {σ : SS} (hv : VS σ) (h : (ra n s p).2 = some 2) : AOK n s σ 2 p := by
  have M := ra_mc h
  have g0 : p < n ∧ 65 ≤ s (p) ∧ s (p) < 65 + 6 := cl_0 (mc_0 (M 0 (by decide)))
  have g2 := cl_d (mc_11 (M 2 (by decide)))
  have g3 := cl_d (mc_11 (M 3 (by decide)))
  refine act_fin hv (by decide) (ok_adds hv (nI (s p - 65)) (-nI (tw s (p + 2)))) (fun μ hC hS hp => ?_) (fun m j hj hM o1 o2 o3 => ?_)
  · unfold f_X4_doAct
    rw [jbd_e, if_neg (by decide), if_neg (by decide), if_pos (by decide), hp, jcl_e (c_cellAt hC g0), jlit 2, nI_add, jcl_e (c_twoAt hC g2 g3)]
    rfl
  · unfold f_X12_doesAct
    refine (act_rd hj o1 o2 o3 _).trans ?_
    rw [if_neg (by decide), if_pos (by decide), jcl2_id]
    try rfl
theorem aok_3 {n p : Nat} {s : Nat → Nat} {σ : SS} (hv : VS σ) (h : (ra n s p).2 = some 3) : AOK n s σ 3 p := by
  have M := ra_mc h
  have g0 : p < n ∧ 118 ≤ s (p) ∧ s (p) < 118 + 5 := cl_1 (mc_1 (M 0 (by decide)))
  have g2 := cl_10 (mc_10 (M 2 (by decide)))
  refine act_fin hv (by decide) (ok_removes hv (nI (s p - 118)) (nI (s (p + 2) - 48))) (fun μ hC hS hp => ?_) (fun m j hj hM o1 o2 o3 => ?_)
  · unfold f_X4_doAct
    rw [jbd_e, if_neg (by decide), if_neg (by decide), if_neg (by decide), if_pos (by decide), hp, jcl_e (c_varAt hC g0), jlit 2, nI_add, jcl_e (c_digAt hC ⟨g2.1, g2.2.1, by omega⟩)]
    rfl
  · unfold f_X12_doesAct
    refine (act_rd hj o1 o2 o3 _).trans ?_
    rw [if_neg (by decide), if_neg (by decide), if_pos (by decide), jcl2_id]
    try rfl
theorem aok_4 {n p : Nat} {s : Nat → Nat} {σ : SS} (hv : VS σ) (h : (ra n s p).2 = some 4) : AOK n s σ 4 p := by
  have M := ra_mc h
  have g0 : p < n ∧ 118 ≤ s (p) ∧ s (p) < 118 + 5 := cl_1 (mc_1 (M 0 (by decide)))
  have g2 := cl_10 (mc_10 (M 2 (by decide)))
  refine act_fin hv (by decide) (ok_fixes hv (nI (s p - 118)) (nI (s (p + 2) - 48))) (fun μ hC hS hp => ?_) (fun m j hj hM o1 o2 o3 => ?_)
  · unfold f_X4_doAct
    rw [jbd_e, if_neg (by decide), if_neg (by decide), if_neg (by decide), if_neg (by decide), if_pos (by decide), hp, jcl_e (c_varAt hC g0), jlit 2, nI_add, jcl_e (c_digAt hC ⟨g2.1, g2.2.1, by omega⟩)]
    rfl
  · unfold f_X12_doesAct
    refine (act_rd hj o1 o2 o3 _).trans ?_
    rw [if_neg (by decide), if_neg (by decide), if_neg (by decide), if_pos (by decide), jcl2_id]
    try rfl
theorem aok_5 {n p : Nat} {s : Nat → Nat} {σ : SS} (hv : VS σ) (h : (ra n s p).2 = some 5) : AOK n s σ 5 p := by
  have M := ra_mc h
  have g0 : p < n ∧ 118 ≤ s (p) ∧ s (p) < 118 + 5 := cl_1 (mc_1 (M 0 (by decide)))
  have g2 := cl_10 (mc_10 (M 2 (by decide)))
  refine act_fin hv (by decide) (ok_limits hv (nI (s p - 118)) 0 (nI (s (p + 2) - 48))) (fun μ hC hS hp => ?_) (fun m j hj hM o1 o2 o3 => ?_)
  · unfold f_X4_doAct
    rw [jbd_e, if_neg (by decide), if_neg (by decide), if_neg (by decide), if_neg (by decide), if_neg (by decide), if_pos (by decide), hp, jcl_e (c_varAt hC g0), jlit 2, nI_add, jcl_e (c_digAt hC ⟨g2.1, g2.2.1, by omega⟩)]
    rfl
  · unfold f_X12_doesAct
    refine (act_rd hj o1 o2 o3 _).trans ?_
    rw [if_neg (by decide), if_neg (by decide), if_neg (by decide), if_neg (by decide), if_pos (by decide), jcl2_id]
    try rfl
theorem aok_6 {n p : Nat} {s : Nat → Nat} {σ : SS} (hv : VS σ) (h : (ra n s p).2 = some 6) : AOK n s σ 6 p := by
  have M := ra_mc h
  have g0 : p < n ∧ 118 ≤ s (p) ∧ s (p) < 118 + 5 := cl_1 (mc_1 (M 0 (by decide)))
  have g2 := cl_10 (mc_10 (M 2 (by decide)))
  refine act_fin hv (by decide) (ok_limits hv (nI (s p - 118)) (nI (s (p + 2) - 48)) 5) (fun μ hC hS hp => ?_) (fun m j hj hM o1 o2 o3 => ?_)
  · unfold f_X4_doAct
    rw [jbd_e, if_neg (by decide), if_neg (by decide), if_neg (by decide), if_neg (by decide), if_neg (by decide), if_neg (by decide), if_pos (by decide), hp, jcl_e (c_varAt hC g0), jlit 2, nI_add, jcl_e (c_digAt hC ⟨g2.1, g2.2.1, by omega⟩)]
    rfl
  · unfold f_X12_doesAct
    refine (act_rd hj o1 o2 o3 _).trans ?_
    rw [if_neg (by decide), if_neg (by decide), if_neg (by decide), if_neg (by decide), if_neg (by decide), if_pos (by decide), jcl2_id]
    try rfl
theorem aok_7 {n p : Nat} {s : Nat → Nat} {σ : SS} (hv : VS σ) (h : (ra n s p).2 = some 7) : AOK n s σ 7 p := by
  have M := ra_mc h
  have g1 := cl_d (mc_11 (M 1 (by decide)))
  have g3 := cl_d (mc_11 (M 3 (by decide)))
  have g4 := cl_d (mc_11 (M 4 (by decide)))
  refine act_fin hv (by decide) (ok_puts hv (nI (s (p + 1) - 48)) (nI (tw s (p + 3)))) (fun μ hC hS hp => ?_) (fun m j hj hM o1 o2 o3 => ?_)
  · unfold f_X4_doAct
    rw [jbd_e, if_neg (by decide), if_neg (by decide), if_neg (by decide), if_neg (by decide), if_neg (by decide), if_neg (by decide), if_neg (by decide), if_pos (by decide), hp, nI_1, jcl_e (c_digAt hC g1), jlit 3, nI_add, jcl_e (c_twoAt hC g3 g4)]
    rfl
  · unfold f_X12_doesAct
    refine (act_rd hj o1 o2 o3 _).trans ?_
    rw [if_neg (by decide), if_neg (by decide), if_neg (by decide), if_neg (by decide), if_neg (by decide), if_neg (by decide), if_pos (by decide), jcl2_id]
    try rfl
theorem aok_8 {n p : Nat} {s : Nat → Nat} {σ : SS} (hv : VS σ) (h : (ra n s p).2 = some 8) : AOK n s σ 8 p := by
  have M := ra_mc h
  have g1 := cl_d (mc_11 (M 1 (by decide)))
  refine act_fin hv (by decide) (ok_drops hv (nI (s (p + 1) - 48))) (fun μ hC hS hp => ?_) (fun m j hj hM o1 o2 o3 => ?_)
  · unfold f_X4_doAct
    rw [jbd_e, if_neg (by decide), if_neg (by decide), if_neg (by decide), if_neg (by decide), if_neg (by decide), if_neg (by decide), if_neg (by decide), if_neg (by decide), if_pos (by decide), hp, nI_1, jcl_e (c_digAt hC g1)]
    rfl
  · unfold f_X12_doesAct
    refine (act_rd hj o1 o2 o3 _).trans ?_
    rw [if_neg (by decide), if_neg (by decide), if_neg (by decide), if_neg (by decide), if_neg (by decide), if_neg (by decide), if_neg (by decide), if_pos (by decide), jcl2_id]
    try rfl
theorem aok_9 {n p : Nat} {s : Nat → Nat} {σ : SS} (hv : VS σ) (h : (ra n s p).2 = some 9) : AOK n s σ 9 p := by
  refine act_fin hv (by decide) (ok_spreads hv) (fun μ hC hS hp => ?_) (fun m j hj hM o1 o2 o3 => ?_)
  · unfold f_X4_doAct
    rw [jbd_e, if_neg (by decide), if_neg (by decide), if_neg (by decide), if_neg (by decide), if_neg (by decide), if_neg (by decide), if_neg (by decide), if_neg (by decide), if_neg (by decide), if_pos (by decide)]
    rfl
  · unfold f_X12_doesAct
    refine (act_rd hj o1 o2 o3 _).trans ?_
    rw [if_neg (by decide), if_neg (by decide), if_neg (by decide), if_neg (by decide), if_neg (by decide), if_neg (by decide), if_neg (by decide), if_neg (by decide), if_pos (by decide), jcl2_id]
    try rfl
