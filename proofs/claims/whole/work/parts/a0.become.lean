/-! years, run: a store becomes another; all is saved and restored -/
theorem c_lvBecome {a b : Nat} {T : TT} {l : List Nat} {μ : jM} (h : RLv b T l μ) (hl : l.length ≤ 22) (hd : a + 7 < b ∨ b + 7 < a) : ∃ μ', f_X1_become a b μ = some μ' ∧ RLv a T l μ' ∧ jFr (fun c => a ≤ c ∧ c ≤ a + 7) μ μ' := by
  obtain ⟨h1, h2, h3, h4⟩ := h
  have e0 : (0 : Int32).toNatClampNeg = 0 := by decide
  have e22 : (22 : Int32).toNatClampNeg = 22 := by decide
  obtain ⟨μ1, a1, a2, a3⟩ := c_become (a := a + 1) h1 (by omega)
  have k : ∀ c, (c < a + 1 ∨ a + 6 < c) → μ1.1 c = μ.1 c := fun c hc => (a3 c (by omega)).1
  unfold f_X1_become
  rw [jcl_e a1, e0, e22, jlit 22, jcpq_z (by decide), jbd_e, jbd_e, jbd_e]
  refine ⟨_, rfl, ⟨?_, ?_, ?_, ?_⟩, ?_⟩
  · exact a2.fr (fun c q1 q2 => by rw [jsi_ne (by omega), jsi_ne (by omega), jcp_ne (by omega)])
  · rw [jsi_pl (by omega), jsi_at, jcp_ne (by omega), k b (by omega)]; exact h2
  · rw [jsi_at, jsi_ne (by omega), jcp_ne (by omega), k b (by omega)]; exact h3
  · intro i hi
    rw [jsi_ne (by omega), jsi_ne (by omega), jcp_at (by omega), k (b + 7) (by omega)]
    exact h4 i hi
  · refine (((a3.mono (fun c hc => ⟨by omega, by omega⟩)).tr (jFr.cp _ _ _ _ _ ?_)).tr (jFr.si _ _ _ ?_)).tr (jFr.si _ _ _ ?_) <;> constructor <;> omega
theorem c_stBecome {a b : Nat} {σ : SS} {μ : jM} (h : RS b σ μ) (hv : VS σ) (hd : a + 79 < b ∨ b + 79 < a) : ∃ μ', f_X7_become a b μ = some μ' ∧ RS a σ μ' ∧ jFr (inS a) μ μ' := by
  have h9 := hv.1
  obtain ⟨h1, h2, h3⟩ := h
  obtain ⟨μ1, a1, a2, a3⟩ := c_become (a := a + 1) h2 (by omega)
  have k1 : ∀ c, (c < a + 1 ∨ a + 6 < c) → μ1.1 c = μ.1 c := fun c hc => (a3 c (by omega)).1
  obtain ⟨m3, hm3⟩ : ∃ m3, m3 = jsi μ1 a 2 (nI σ.1) := ⟨_, rfl⟩
  have f3 : jFr (inS a) μ m3 := by
    rw [hm3]
    exact (a3.mono (fun c hc => ⟨by omega, by omega⟩)).tr (jFr.si _ _ _ ⟨by omega, by omega⟩)
  have r3 : RT (a + 1) (σ.2.1 0) m3 := by
    rw [hm3]
    exact a2.fr (fun c q1 q2 => jsi_ne (by omega))
  have d3 : m3.1 a 2 = nI σ.1 := by rw [hm3, jsi_at]
  obtain ⟨w, hw, hr⟩ := jlpN (step := fun (q : Int32 × jM) => f_X7_become_L21 a b q.1 q.2) σ.1
    (fun k q => q.1 = nI k ∧ q.2.1 a 2 = nI σ.1 ∧ RT (a + 1) (σ.2.1 0) q.2 ∧ (∀ j, j < k → RLv (a + 8 + 8 * j) (σ.2.1 (j + 1)) (σ.2.2 (j + 1)) q.2) ∧ jFr (inS a) μ q.2)
    (fun m => RS a σ m ∧ jFr (inS a) μ m)
    (fun k q hk hq => by
      obtain ⟨u, m⟩ := q
      obtain ⟨hu, hd2, hR, hL, hf⟩ := hq
      have hu : u = nI k := hu
      subst hu
      have hf : jFr (inS a) μ m := hf
      have hd2 : m.1 a 2 = nI σ.1 := hd2
      have hlk : RLv (b + 8 + 8 * k) (σ.2.1 (k + 1)) (σ.2.2 (k + 1)) m := (h3 k hk).fr (fun c q1 q2 => (hf c (fun z => by obtain ⟨z1, z2⟩ := z; omega)).1)
      obtain ⟨m', b1, b2, b3⟩ := c_lvBecome (a := a + 8 + 8 * k) hlk (hv.2.2 k hk).len (by omega)
      refine ⟨(nI (k + 1), m'), ?_, rfl, ?_, ?_, fun j hj => ?_, hf.tr (b3.mono (fun c hc => ⟨by omega, by omega⟩))⟩
      · dsimp only
        unfold f_X7_become_L21
        rw [hd2, if_neg (nI_ge hk (by omega)), jin_n (by omega) (by decide), jin_n (by omega) (by decide), nI_clamp (by omega), jcl_e b1, nI_1]
      · show m'.1 a 2 = _
        rw [(b3 a (by omega)).1]; exact hd2
      · exact RT.fr hR (fun c q1 q2 => (b3 c (by omega)).1)
      · by_cases c : j = k
        · rw [c]; exact b2
        · exact (hL j (by omega)).fr (fun c q1 q2 => (b3 c (by omega)).1))
    (fun q hq => by
      obtain ⟨u, m⟩ := q
      obtain ⟨hu, hd2, hR, hL, hf⟩ := hq
      have hu : u = nI σ.1 := hu
      subst hu
      have hd2 : m.1 a 2 = nI σ.1 := hd2
      refine ⟨m, ?_, ⟨hd2, hR, hL⟩, hf⟩
      dsimp only
      unfold f_X7_become_L21
      rw [hd2, if_pos (nI_le (Nat.le_refl _) (by omega))])
    (i := 0) (n := jfu) (s := ((0 : Int32), m3)) (by omega) ⟨rfl, d3, r3, fun j hj => absurd hj (Nat.not_lt_zero j), f3⟩ (jfu_lt (by omega))
  unfold f_X7_become
  rw [jcl_e a1, k1 b (by omega), h1, ← hm3, jbd_e, jcl_e hw]
  exact ⟨w, rfl, hr⟩
/-- the reference -/
def SV (b : Nat) (σ : SS) (m : jM) : Prop := m.1 201 14 = nI σ.1 ∧ (∀ j, j ≤ σ.1 → RW (b + j) (σ.2.1 j) m) ∧ ∀ j, j < σ.1 → m.1 208 (j + 1) = nI (σ.2.2 (j + 1)).length ∧ ∀ i, i < (σ.2.2 (j + 1)).length → m.1 207 (22 * (j + 1) + i) = nI ((σ.2.2 (j + 1)).getD i 0)
theorem SV.fr {b : Nat} {σ : SS} {m m' : jM} {B : Nat → Prop} (h : SV b σ m) (hv : VS σ) (hb : b ≤ 23) (e : m'.1 201 14 = m.1 201 14) (h7 : m'.1 207 = m.1 207) (h8 : m'.1 208 = m.1 208) (hM : MF B m m') (hB : ∀ w, b ≤ w → w ≤ b + 9 → ¬ B w) : SV b σ m' := by
  have h9 := hv.1
  refine ⟨e.trans h.1, fun j hj => (h.2.1 j hj).mf hM (by omega) (hB _ (by omega) (by omega)), fun j hj => ?_⟩
  rw [h7, h8]
  exact h.2.2 j hj
theorem RM.mf {σ : SS} {m m' : jM} {B : Nat → Prop} (h : RM σ m) (hv : VS σ) (hM : MF B m m') (hB : ∀ w, w ≤ 9 → ¬ B w) (hf : jFr (fun c => c = 204) m m') : RM σ m' := by
  have h9 := hv.1
  refine ⟨?_, fun j hj => (h.2.1 j hj).mf hM (by omega) (hB j (by omega)), fun j hj => (h.2.2 j hj).fr (hf 205 (by decide)).1 (hf 206 (by decide)).1⟩
  rw [(hf 201 (by decide)).1]; exact h.1
theorem r_cpL {m : jM} (st : Int32 → jM → Option ((Int32 × jM) ⊕ jM)) {x y N : Nat} (hxy : x ≠ y) (hN : N < 1000) (hs : ∀ k w, k < N → st (nI k) w = some (.inl (nI (k + 1), jsi w y k (w.1 x k)))) (hx : ∀ w, st (nI N) w = some (.inr w)) : ∃ w, jloop (fun (q : Int32 × jM) => st q.1 q.2) jfu (((0 : Int32), m)) = some w ∧ (∀ i, i < N → w.1 y i = m.1 x i) ∧ jFr (fun c => c = y) m w := by
  obtain ⟨w, hw, hr⟩ := jlpN (step := fun (q : Int32 × jM) => st q.1 q.2) N
    (fun k q => q.1 = nI k ∧ (∀ i, i < k → q.2.1 y i = m.1 x i) ∧ jFr (fun c => c = y) m q.2)
    (fun w => (∀ i, i < N → w.1 y i = m.1 x i) ∧ jFr (fun c => c = y) m w)
    (fun k q hk hq => by
      obtain ⟨u, w⟩ := q
      obtain ⟨hu, hi, hf⟩ := hq
      have hu : u = nI k := hu
      subst hu
      have hf : jFr (fun c => c = y) m w := hf
      refine ⟨(nI (k + 1), jsi w y k (w.1 x k)), hs k w hk, rfl, fun i hi2 => ?_, hf.tr (jFr.si _ _ _ rfl)⟩
      show (jsi w y k (w.1 x k)).1 y i = _
      by_cases c : i = k
      · rw [c, jsi_at, (hf x hxy).1]
      · rw [jsi_pl c]; exact hi i (by omega))
    (fun q hq => by
      obtain ⟨u, w⟩ := q
      obtain ⟨hu, hi, hf⟩ := hq
      have hu : u = nI N := hu
      subst hu
      exact ⟨w, hx w, hi, hf⟩)
    (i := 0) (n := jfu) (s := ((0 : Int32), m)) (by omega) ⟨rfl, fun i hi => absurd hi (Nat.not_lt_zero i), jFr.rf⟩ (jfu_lt (by omega))
  exact ⟨w, hw, hr⟩
theorem r_saves {b : Nat} {σ : SS} {m : jM} (h : RM σ m) (hv : VS σ) (hb : 13 ≤ b) (hb2 : b ≤ 23) : ∃ m', f_X12_saves 201 (nI b) m = some m' ∧ RM σ m' ∧ SV b σ m' ∧ MF (fun w => b ≤ w ∧ w ≤ b + 9) m m' ∧ jFr (fun c => c = 201 ∨ c = 204 ∨ c = 207 ∨ c = 208) m m' ∧ ∀ k, k ≠ 14 → m'.1 201 k = m.1 201 k := by
  have h9 := hv.1
  obtain ⟨w, hw, w1, w2, w3, w4⟩ := jlpN (step := fun (q : Int32 × jM) => f_X12_saves_L2 201 (nI b) q.1 q.2) (σ.1 + 1)
    (fun k q => q.1 = nI k ∧ RM σ q.2 ∧ (∀ j, j < k → RW (b + j) (σ.2.1 j) q.2) ∧ MF (fun w => b ≤ w ∧ w ≤ b + 9) m q.2 ∧ jFr (fun c => c = 204) m q.2)
    (fun w => RM σ w ∧ (∀ j, j < σ.1 + 1 → RW (b + j) (σ.2.1 j) w) ∧ MF (fun w => b ≤ w ∧ w ≤ b + 9) m w ∧ jFr (fun c => c = 204) m w)
    (fun k q hk hq => by
      obtain ⟨u, w⟩ := q
      obtain ⟨hu, hR, hW, hM, hf⟩ := hq
      have hu : u = nI k := hu
      subst hu
      have hR : RM σ w := hR
      obtain ⟨w', b1, b2, b3, b4⟩ := r_copies2 (b := b + k) (hR.2.1 k (by omega)) (by omega) (by omega) (by omega)
      have M2 : MF (fun w => b ≤ w ∧ w ≤ b + 9) w w' := b3.mono (fun z hz => by omega)
      refine ⟨(nI (k + 1), w'), ?_, rfl, hR.mf hv M2 (fun z hz => by omega) b4, fun j hj => ?_, MF.tr hM M2, jFr.tr hf b4⟩
      · dsimp only
        unfold f_X12_saves_L2
        rw [hR.1, if_neg (nI_nlt (by omega) (by omega)), nI_add, jcl_e b1, nI_1]
      · by_cases c : j = k
        · rw [c]; exact b2
        · exact (hW j (by omega)).mf b3 (by omega) (by omega))
    (fun q hq => by
      obtain ⟨u, w⟩ := q
      obtain ⟨hu, hR, hW, hM, hf⟩ := hq
      have hu : u = nI (σ.1 + 1) := hu
      subst hu
      have hR : RM σ w := hR
      refine ⟨w, ?_, hR, hW, hM, hf⟩
      dsimp only
      unfold f_X12_saves_L2
      rw [hR.1, if_pos (nI_lt (by omega) (by omega))])
    (i := 0) (n := jfu) (s := ((0 : Int32), m)) (by omega) ⟨rfl, h, fun j hj => absurd hj (Nat.not_lt_zero j), MF.rf, jFr.rf⟩ (jfu_lt (by omega))
  obtain ⟨u, hu, u1, u2⟩ := r_cpL (m := w) (f_X12_saves_L26 201) (x := 205) (y := 207) (N := 220) (by decide) (by decide) (fun k z hk => by
    unfold f_X12_saves_L26
    rw [if_neg (nI_ge hk (by decide)), jrd_n hk (by decide), jin_n hk (by decide), nI_clamp (by omega), jbd_e, nI_1]) (fun z => by
    unfold f_X12_saves_L26
    rw [if_pos (nI_le (Nat.le_refl _) (by decide))])
  obtain ⟨v, hv2, v1, v2⟩ := r_cpL (m := u) (f_X12_saves_L55 201) (x := 206) (y := 208) (N := 10) (by decide) (by decide) (fun k z hk => by
    unfold f_X12_saves_L55
    rw [jlit 9, if_neg (nI_nlt (by omega) (by omega)), jrd_n hk (by decide), jin_n hk (by decide), nI_clamp (by omega), jbd_e, nI_1]) (fun z => by
    unfold f_X12_saves_L55
    rw [jlit 9, if_pos (nI_lt (by omega) (by omega))])
  have g : ∀ c, c ≠ 201 → c ≠ 207 → c ≠ 208 → (jsi v 201 14 (nI σ.1)).1 c = w.1 c := fun c c1 c2 c3 => by
    rw [jsi_ne c1, (v2 c c3).1, (u2 c c2).1]
  have g201 : ∀ k, v.1 201 k = m.1 201 k := fun k => by rw [(v2 201 (by decide)).1, (u2 201 (by decide)).1, (w4 201 (by decide)).1]
  unfold f_X12_saves
  rw [jcl_e hw, jcl_e hu, jcl_e hv2, g201 9, h.1, jbd_e]
  refine ⟨_, rfl, ?_, ⟨jsi_at _ _ _ _, fun j hj => ?_, fun j hj => ?_⟩, ?_, ?_, fun k hk => ?_⟩
  · exact w1.fr (by rw [jsi_pl (by decide), g201 9, (w4 201 (by decide)).1]) (g 204 (by decide) (by decide) (by decide)) (g 205 (by decide) (by decide) (by decide)) (g 206 (by decide) (by decide) (by decide))
  · exact (w2 j (by omega)).fr (g 204 (by decide) (by decide) (by decide))
  · obtain ⟨t1, t2⟩ := h.2.2 j hj
    have hlen := (hv.2.2 j hj).len
    refine ⟨?_, fun i hi => ?_⟩
    · rw [jsi_ne (by decide), v1 (j + 1) (by omega), (u2 206 (by decide)).1, (w4 206 (by decide)).1]
      exact t1
    · rw [jsi_ne (by decide), (v2 207 (by decide)).1, u1 _ (by omega), (w4 205 (by decide)).1]
      exact t2 i hi
  · exact w3.tr (MF.of (g 204 (by decide) (by decide) (by decide)))
  · exact (((w4.mono (fun c hc => by omega)).tr (u2.mono (fun c hc => by omega))).tr (v2.mono (fun c hc => by omega))).tr (jFr.si _ _ _ (Or.inl rfl))
  · rw [jsi_pl hk, g201 k]
theorem r_restores {b : Nat} {σ : SS} {m : jM} (h : SV b σ m) (hv : VS σ) (hb : 13 ≤ b) (hb2 : b ≤ 23) : ∃ m', f_X12_restores 201 (nI b) m = some m' ∧ RM σ m' ∧ MF (fun w => w ≤ 9) m m' ∧ jFr (fun c => c = 201 ∨ (204 ≤ c ∧ c ≤ 206)) m m' ∧ ∀ k, k ≠ 9 → m'.1 201 k = m.1 201 k := by
  have h9 := hv.1
  obtain ⟨m1, hm1⟩ : ∃ m1, m1 = jsi m 201 9 (nI σ.1) := ⟨_, rfl⟩
  have f1 : jFr (fun c => c = 201) m m1 := by rw [hm1]; exact jFr.si _ _ _ rfl
  have d1 : m1.1 201 9 = nI σ.1 := by rw [hm1, jsi_at]
  have S1 : ∀ j, j ≤ σ.1 → RW (b + j) (σ.2.1 j) m1 := fun j hj => (h.2.1 j hj).fr (f1 204 (by decide)).1
  obtain ⟨w, hw, w2, w3, w4⟩ := jlpN (step := fun (q : Int32 × jM) => f_X12_restores_L10 201 (nI b) q.1 q.2) (σ.1 + 1)
    (fun k q => q.1 = nI k ∧ (∀ j, j < k → RW j (σ.2.1 j) q.2) ∧ MF (fun w => w ≤ 9) m1 q.2 ∧ jFr (fun c => c = 204) m1 q.2)
    (fun w => (∀ j, j < σ.1 + 1 → RW j (σ.2.1 j) w) ∧ MF (fun w => w ≤ 9) m1 w ∧ jFr (fun c => c = 204) m1 w)
    (fun k q hk hq => by
      obtain ⟨u, w⟩ := q
      obtain ⟨hu, hW, hM, hf⟩ := hq
      have hu : u = nI k := hu
      subst hu
      have hM : MF (fun w => w ≤ 9) m1 w := hM
      have hf : jFr (fun c => c = 204) m1 w := hf
      obtain ⟨w', b1, b2, b3, b4⟩ := r_copies2 (b := k) ((S1 k (by omega)).mf hM (by omega) (by omega)) (by omega) (by omega) (by omega)
      refine ⟨(nI (k + 1), w'), ?_, rfl, fun j hj => ?_, hM.tr (b3.mono (fun z hz => by omega)), hf.tr b4⟩
      · dsimp only
        unfold f_X12_restores_L10
        rw [(hf 201 (by decide)).1, d1, if_neg (nI_nlt (by omega) (by omega)), nI_add, jcl_e b1, nI_1]
      · by_cases c : j = k
        · rw [c]; exact b2
        · exact (hW j (by omega)).mf b3 (by omega) (by omega))
    (fun q hq => by
      obtain ⟨u, w⟩ := q
      obtain ⟨hu, hW, hM, hf⟩ := hq
      have hu : u = nI (σ.1 + 1) := hu
      subst hu
      have hf : jFr (fun c => c = 204) m1 w := hf
      refine ⟨w, ?_, hW, hM, hf⟩
      dsimp only
      unfold f_X12_restores_L10
      rw [(hf 201 (by decide)).1, d1, if_pos (nI_lt (by omega) (by omega))])
    (i := 0) (n := jfu) (s := ((0 : Int32), m1)) (by omega) ⟨rfl, fun j hj => absurd hj (Nat.not_lt_zero j), MF.rf, jFr.rf⟩ (jfu_lt (by omega))
  obtain ⟨u, hu, u1, u2⟩ := r_cpL (m := w) (f_X12_restores_L34 201) (x := 207) (y := 205) (N := 220) (by decide) (by decide) (fun k z hk => by
    unfold f_X12_restores_L34
    rw [if_neg (nI_ge hk (by decide)), jrd_n hk (by decide), jin_n hk (by decide), nI_clamp (by omega), jbd_e, nI_1]) (fun z => by
    unfold f_X12_restores_L34
    rw [if_pos (nI_le (Nat.le_refl _) (by decide))])
  obtain ⟨v, hv2, v1, v2⟩ := r_cpL (m := u) (f_X12_restores_L63 201) (x := 208) (y := 206) (N := 10) (by decide) (by decide) (fun k z hk => by
    unfold f_X12_restores_L63
    rw [jlit 9, if_neg (nI_nlt (by omega) (by omega)), jrd_n hk (by decide), jin_n hk (by decide), nI_clamp (by omega), jbd_e, nI_1]) (fun z => by
    unfold f_X12_restores_L63
    rw [jlit 9, if_pos (nI_lt (by omega) (by omega))])
  have g : ∀ c, c ≠ 204 → c ≠ 205 → c ≠ 206 → v.1 c = m1.1 c := fun c c1 c2 c3 => by
    rw [(v2 c c3).1, (u2 c c2).1, (w4 c c1).1]
  have g204 : v.1 204 = w.1 204 := by rw [(v2 204 (by decide)).1, (u2 204 (by decide)).1]
  unfold f_X12_restores
  rw [h.1, ← hm1, jbd_e, jcl_e hw, jcl_e hu, jcl_e hv2]
  refine ⟨v, rfl, ⟨?_, fun j hj => (w2 j (by omega)).fr g204, fun j hj => ?_⟩, ?_, ?_, fun k hk => ?_⟩
  · rw [g 201 (by decide) (by decide) (by decide)]; exact d1
  · obtain ⟨t1, t2⟩ := h.2.2 j hj
    have hlen := (hv.2.2 j hj).len
    refine ⟨?_, fun i hi => ?_⟩
    · rw [v1 (j + 1) (by omega), (u2 208 (by decide)).1, (w4 208 (by decide)).1, (f1 208 (by decide)).1]
      exact t1
    · rw [(v2 205 (by decide)).1, u1 _ (by omega), (w4 207 (by decide)).1, (f1 207 (by decide)).1]
      exact t2 i hi
  · exact (MF.of (f1 204 (by decide)).1).tr (w3.tr (MF.of g204))
  · exact (((f1.mono (fun c hc => by omega)).tr (w4.mono (fun c hc => by omega))).tr (u2.mono (fun c hc => by omega))).tr (v2.mono (fun c hc => by omega))
  · rw [g 201 (by decide) (by decide) (by decide), hm1, jsi_pl hk]
