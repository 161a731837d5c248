/-! spreads -/
theorem smP_tot (T : TT) : ∀ k, smP T k = totL (vm T) k
  | 0 => rfl
  | k + 1 => by
    show smP T k + _ = totL (vm T) k + _
    rw [smP_tot T k]
theorem r_sumOf {L : LV} {μ : jM} (hL : RLm 210 L μ) : f_X12_sumOf 210 μ = some (nI (totL L 5)) := by
  obtain ⟨e, he, hr⟩ := jlpN (step := fun (s : Int32 × Int32) => f_X12_sumOf_L4 210 μ s.1 s.2) 5 (fun k s => s = (nI (totL L k), nI k)) (fun e => e = nI (totL L 5))
    (fun k s hk hs => by
      subst hs
      refine ⟨(nI (totL L (k + 1)), nI (k + 1)), ?_, rfl⟩
      obtain ⟨q1, q2⟩ := hL k hk
      dsimp only
      unfold f_X12_sumOf_L4
      rw [jlit 5, if_neg (nI_ge hk (by decide)), show jlen 210 = 5 by decide, jrd_n hk (by decide), q1, jcl_e (r_bits (by omega)), nI_add, nI_1]
      rfl)
    (fun s hs => by
      subst hs
      refine ⟨_, ?_, rfl⟩
      dsimp only
      unfold f_X12_sumOf_L4
      rw [jlit 5, if_pos (nI_le (Nat.le_refl _) (by decide))]) (i := 0) (n := jfu) (s := ((0 : Int32), (0 : Int32))) (by omega) rfl (jfu_lt (by omega))
  unfold f_X12_sumOf
  rw [jcl_e he, hr]
theorem bits_up {a b : Nat} (ha : a < 64) (h : ∀ v, v < 6 → a.testBit v = true → b.testBit v = true) : ∀ i, a.testBit i = true → b.testBit i = true := fun i hi => by
  by_cases c : i < 6
  · exact h i c hi
  · have p : 64 ≤ 2 ^ i := Nat.pow_le_pow_right (n := 2) (by decide) (show 6 ≤ i by omega)
    rw [Nat.testBit_lt_two_pow (by omega)] at hi
    cases hi
def lvT (T : TT) (L : LV) : TT := fun j => if 6 ≤ j ∧ j < 11 then nI (L (j - 6)) else T j
theorem lvT_at {T : TT} {L : LV} {x : Nat} (hx : x < 5) : lvT T L (6 + x) = nI (L x) := by
  unfold lvT
  rw [if_pos (by omega), show 6 + x - 6 = x by omega]
theorem VT.lv {T : TT} {L : LV} (h : VT T) (hL : ∀ x, x < 5 → 0 < L x ∧ L x < 64) {k : Nat} (hk : k ≤ 11) (h6 : 6 ≤ k) : VT (mixT T (lvT T L) 6 k) := h.mix (fun j h1 h2 => by omega) (fun j hj _ => ⟨L j, (hL j hj).1, (hL j hj).2, lvT_at hj⟩) k h6 hk
theorem lv_tot {T : TT} {L : LV} {R : Nat} (hv : VT T) (hg : goodL T R (vm T) L) : ∀ k, k ≤ 5 → totL L k ≤ totL (vm T) k
  | 0, _ => Nat.le_refl _
  | k + 1, h => by
    have := lv_tot hv hg k (by omega)
    have q := (pc_sub (hg.1 k (by omega)).2 (vm_of hv (x := k) (by omega)).2.1 (hg.2.1 k (by omega))).1
    rw [totL_s, totL_s]
    omega
theorem c_spreadL {s : Nat} {σ : SS} {L : LV} {R : Nat} {μ : jM} (hs : s = 5 ∨ s = 85) (hv : VS σ) (hS : RS s σ μ) (hL : RLm 166 L μ) (hg : goodL (σ.2.1 0) R (vm (σ.2.1 0)) L) : ∃ w, jloop (fun (q : Int32 × Int32 × jM) => f_X7_spreadAll_L29 s 165 q.1 q.2.1 q.2.2) jfu (((0 : Int32), (0 : Int32), μ)) = some (nI (totL (vm (σ.2.1 0)) 5 - totL L 5), w) ∧ RS s (chg σ (mixT (σ.2.1 0) (lvT (σ.2.1 0) L) 6 11)) w ∧ jFr (inS s) μ w := by
  have h0 := hv.2.1 0 (Nat.zero_le _)
  have lt := lv_tot h0 hg
  obtain ⟨e, he, h1, h2, h3⟩ := jlpN (step := fun (q : Int32 × Int32 × jM) => f_X7_spreadAll_L29 s 165 q.1 q.2.1 q.2.2) 5
    (fun k q => q.1 = nI (totL (vm (σ.2.1 0)) k - totL L k) ∧ q.2.1 = nI k ∧ RS s (chg σ (mixT (σ.2.1 0) (lvT (σ.2.1 0) L) 6 (6 + k))) q.2.2 ∧ jFr (inS s) μ q.2.2)
    (fun e => e.1 = nI (totL (vm (σ.2.1 0)) 5 - totL L 5) ∧ RS s (chg σ (mixT (σ.2.1 0) (lvT (σ.2.1 0) L) 6 11)) e.2 ∧ jFr (inS s) μ e.2)
    (fun k q hk hq => by
      obtain ⟨u, v, m⟩ := q
      obtain ⟨hu, hv1, g1, g2⟩ := hq
      have hu : u = nI (totL (vm (σ.2.1 0)) k - totL L k) := hu
      have hv1 : v = nI k := hv1
      subst hu
      subst hv1
      have g2 : jFr (inS s) μ m := g2
      have hmx := h0.lv hg.1 (k := 6 + k) (by omega) (by omega)
      obtain ⟨l1, l2⟩ := hg.1 k hk
      have hL' : m.1 166 k = nI (L k) := by rw [(g2 166 (by rintro ⟨z1, z2⟩; omega)).1]; exact (hL k hk).1
      obtain ⟨m', b1, b2, b3⟩ := c_var g1 (hv.chg hmx) hk l1 l2
      obtain ⟨v1, v2, v3⟩ := vm_of h0 hk
      have ek : mixT (σ.2.1 0) (lvT (σ.2.1 0) L) 6 (6 + k) (6 + k) = nI (vm (σ.2.1 0) k) := by rw [mixT_out (by omega)]; exact v3
      rw [chg_now0] at b1 b2
      have sb := sub_bits (m := vm (σ.2.1 0) k) (m' := L k) (by omega) (by omega) (bits_up l2 (hg.2.1 k hk))
      rw [ek, sb.1, pk_sub sb.2] at b1
      have eu : upd (mixT (σ.2.1 0) (lvT (σ.2.1 0) L) 6 (6 + k)) (6 + k) (nI (L k)) = mixT (σ.2.1 0) (lvT (σ.2.1 0) L) 6 (6 + (k + 1)) := by
        rw [← lvT_at (T := σ.2.1 0) (L := L) hk]
        exact mixT_s (by omega)
      rw [eu, show 6 + (k + 1) = 6 + k + 1 by omega, chg_mix hv hmx (by omega) (by omega)] at b2
      have t1 := lt k (by omega)
      refine ⟨(nI (totL (vm (σ.2.1 0)) (k + 1) - totL L (k + 1)), nI (k + 1), m'), ?_, rfl, rfl, b2, g2.tr b3⟩
      dsimp only
      unfold f_X7_spreadAll_L29
      rw [jlit 5, if_neg (nI_ge hk (by decide))]
      show jrd (m.1 166) _ _ _ = _
      rw [jrd_n hk (by decide), hL', jcl2_e b1, nI_add, nI_1, totL_s, totL_s, show totL (vm (σ.2.1 0)) k - totL L k + (pc (vm (σ.2.1 0) k) - pc (L k)) = totL (vm (σ.2.1 0)) k + pc (vm (σ.2.1 0) k) - (totL L k + pc (L k)) by have := sb.2; omega])
    (fun q hq => by
      obtain ⟨u, v, m⟩ := q
      obtain ⟨hu, hv1, g1, g2⟩ := hq
      have hv1 : v = nI 5 := hv1
      subst hv1
      refine ⟨(u, m), ?_, hu, g1, g2⟩
      dsimp only
      unfold f_X7_spreadAll_L29
      rw [jlit 5, if_pos (nI_le (Nat.le_refl _) (by decide))])
    (i := 0) (n := jfu) (s := ((0 : Int32), (0 : Int32), μ)) (by omega) ⟨rfl, rfl, by rw [show 6 + 0 = 6 from rfl, mixT_0, chg_self]; exact hS, jFr.rf⟩ (jfu_lt (by omega))
  exact ⟨e.2, by rw [he]; exact congrArg some (Prod.ext h1 rfl), h2, h3⟩
theorem r_spreadL {σ : SS} {L : LV} {μ : jM} (hv : VS σ) (hM : RM σ μ) (h10 : RW 10 (σ.2.1 0) μ) (hL : RLm 210 L μ) : ∃ w, jloop (fun (q : Int32 × jM) => f_X12_spreadsOne_L36 201 q.1 q.2) jfu (((0 : Int32), μ)) = some w ∧ RM (nowT σ (mixT (σ.2.1 0) (lvT (σ.2.1 0) L) 6 11)) w ∧ RW 10 (σ.2.1 0) w ∧ RF μ w := by
  obtain ⟨e, he, h1, h2, h3⟩ := jlpN (step := fun (q : Int32 × jM) => f_X12_spreadsOne_L36 201 q.1 q.2) 5
    (fun k q => q.1 = nI k ∧ RM (nowT σ (mixT (σ.2.1 0) (lvT (σ.2.1 0) L) 6 (6 + k))) q.2 ∧ RW 10 (σ.2.1 0) q.2 ∧ RF μ q.2)
    (fun e => RM (nowT σ (mixT (σ.2.1 0) (lvT (σ.2.1 0) L) 6 11)) e ∧ RW 10 (σ.2.1 0) e ∧ RF μ e)
    (fun k q hk hq => by
      obtain ⟨u, m⟩ := q
      obtain ⟨hu, g1, g2, g3⟩ := hq
      have hu : u = nI k := hu
      subst hu
      have g3 : RF μ m := g3
      have hL' : m.1 210 k = nI (L k) := by rw [(g3.1 210 (by omega)).1]; exact (hL k hk).1
      have q1 := RM.set2 (k := 6 + k) (v := nI (L k)) g1 hv.1 (by omega)
      have eu : upd (mixT (σ.2.1 0) (lvT (σ.2.1 0) L) 6 (6 + k)) (6 + k) (nI (L k)) = mixT (σ.2.1 0) (lvT (σ.2.1 0) L) 6 (6 + (k + 1)) := by
        rw [← lvT_at (T := σ.2.1 0) (L := L) hk]
        exact mixT_s (by omega)
      rw [eu] at q1
      refine ⟨(nI (k + 1), jsi m 204 (6 + k) (nI (L k))), ?_, rfl, q1.1, RW.set10 g2 (by omega), g3.tr q1.2⟩
      dsimp only
      unfold f_X12_spreadsOne_L36
      rw [jlit 5, if_neg (nI_ge hk (by decide))]
      show jrd (m.1 210) _ _ _ = _
      rw [jrd_n hk (by decide), hL', jlit 6, nI_add, jin_n (by omega) (by decide), nI_clamp (by omega), jbd_e, nI_1])
    (fun q hq => by
      obtain ⟨u, m⟩ := q
      obtain ⟨hu, g1, g2, g3⟩ := hq
      have hu : u = nI 5 := hu
      subst hu
      refine ⟨m, ?_, g1, g2, g3⟩
      dsimp only
      unfold f_X12_spreadsOne_L36
      rw [jlit 5, if_pos (nI_le (Nat.le_refl _) (by decide))])
    (i := 0) (n := jfu) (s := ((0 : Int32), μ)) (by omega) ⟨rfl, by rw [show 6 + 0 = 6 from rfl, mixT_0, nowT_self]; exact hM, h10, RF.rf⟩ (jfu_lt (by omega))
  exact ⟨e, he, h1, h2, h3⟩
theorem vm_pos {T : TT} (hv : VT T) : ∀ x, x < 5 → 0 < vm T x := fun x hx => (vm_of hv hx).1
theorem ok_spreads {σ : SS} (hv : VS σ) : ActOK σ (fun s => f_X7_spreadAll s 165) (f_X12_spreadsOne 201) := by
  have h0 := hv.2.1 0 (Nat.zero_le _)
  have cl : ∀ (s : Nat) (μ : jM), (s = 5 ∨ s = 85) → RS s σ μ → ∃ r L m, (∀ z, (if r = (0 : Int32) then some (((-2 : Int32), m)) else jcl (jloop (fun (q : Int32 × Int32 × jM) => f_X7_spreadAll_L29 s 165 q.1 q.2.1 q.2.2) jfu (((0 : Int32), (0 : Int32), m))) (fun w17 => some ((w17.1, w17.2)))) = z → f_X7_spreadAll s 165 μ = z) ∧ spEnd (σ.2.1 0) 255 (vm (σ.2.1 0)) r L ∧ (r = 1 → RLm 166 L m) ∧ jFr (fun q => q = 166) μ m := fun s μ hs hS => by
    obtain ⟨m1, a1, a2, a3⟩ := c_begin (by omega) hS.2.1 h0
    obtain ⟨r, L, m2, b1, b2, b3, b4⟩ := c_spread (R := 255) (by omega) (hS.2.1.fc a3 (fun c q1 q2 q3 => by omega)) h0 (by decide) a2 (vm_pos h0)
    refine ⟨r, L, m2, fun z hz => ?_, b2, b3, a3.tr b4⟩
    unfold f_X7_spreadAll
    have b1' : f_X6_spread 165 (s + 1) (255 : Int32) m1 = some (r, m2) := b1
    rw [jcl_e a1, jcl2_e b1']
    exact hz
  have rl : ∀ m, RM σ m → ∃ r L m', (∀ z, (if r = (0 : Int32) then some (((-2 : Int32), m')) else jcl (f_X12_valuesMany 201 m') (fun v7 => jcl (f_X12_sumOf 210 m') (fun v9 => jcl (jloop (fun (s : Int32 × jM) => f_X12_spreadsOne_L36 201 s.1 s.2) jfu (((0 : Int32), m'))) (fun w20 => some ((v7 - v9, w20)))))) = z → f_X12_spreadsOne 201 m = z) ∧ spEnd (σ.2.1 0) 255 (vm (σ.2.1 0)) r L ∧ (r = 1 → RLm 210 L m') ∧ jFr (fun q => q = 210) m m' := fun m hm => by
    obtain ⟨m1, a1, a2, a3⟩ := r_lays (hm.2.1 0 (Nat.zero_le _)) h0
    obtain ⟨r, L, m2, b1, b2, b3, b4⟩ := r_spread (c := 210) (R := 255) (by decide) (by decide) ((hm.2.1 0 (Nat.zero_le _)).fr (a3 204 (by decide)).1) h0 (by decide) a2 (vm_pos h0)
    refine ⟨r, L, m2, fun z hz => ?_, b2, b3, a3.tr b4⟩
    unfold f_X12_spreadsOne
    have b1' : f_X12_spreadsBy 201 (201 + 9) (255 : Int32) m1 = some (r, m2) := b1
    rw [jcl_e a1, jcl2_e b1']
    exact hz
  have rfr : ∀ m m' : jM, jFr (fun q => q = 210) m m' → RM σ m → RM σ m' := fun m m' f h => h.fr (by rw [(f 201 (by decide)).1]) (f 204 (by decide)).1 (f 205 (by decide)).1 (f 206 (by decide)).1
  have ra : ∀ m m' : jM, jFr (fun q => q = 210) m m' → RA m m' := fun m m' f => ⟨f.mono (fun c hc => by omega), MF.of (f 204 (by decide)).1, fun k _ _ _ => by rw [(f 201 (by decide)).1]⟩
  by_cases hE : ∃ L, goodL (σ.2.1 0) 255 (vm (σ.2.1 0)) L ∧ closedL (σ.2.1 0) 255 L
  · obtain ⟨L, hg, hc⟩ := hE
    have hsp : spEnd (σ.2.1 0) 255 (vm (σ.2.1 0)) 1 L := Or.inl ⟨rfl, hg, hc⟩
    have lt := lv_tot h0 hg 5 (Nat.le_refl _)
    refine ⟨nI (totL (vm (σ.2.1 0)) 5 - totL L 5), mixT (σ.2.1 0) (lvT (σ.2.1 0) L) 6 11, h0.lv hg.1 (Nat.le_refl _) (by omega), fun s μ hs hS => ?_, fun m hm hw => ?_⟩
    · obtain ⟨r, L', m1, a1, a2, a3, a4⟩ := cl s μ hs hS
      obtain ⟨e1, e2⟩ := spEnd_eq hsp a2
      have hL : RLm 166 L m1 := fun x hx => by
        have := a3 e1.symm x hx
        rw [← e2 rfl x hx] at this
        exact this
      obtain ⟨w, w1, w2, w3⟩ := c_spreadL hs hv (hS.fc hv.1 a4 (fun c q z => by obtain ⟨q1, q2⟩ := q; omega)) hL hg
      refine ⟨w, a1 _ ?_, w2, (a4.mono (fun c hc => Or.inr hc)).tr (w3.mono (fun c hc => Or.inl hc))⟩
      rw [← e1, if_neg (by decide), jcl_e w1]
    · obtain ⟨r, L', m1, a1, a2, a3, a4⟩ := rl m hm
      obtain ⟨e1, e2⟩ := spEnd_eq hsp a2
      have hL : RLm 210 L m1 := fun x hx => by
        have := a3 e1.symm x hx
        rw [← e2 rfl x hx] at this
        exact this
      have hM1 := rfr m m1 a4 hm
      obtain ⟨w, w1, w2, w3, w4⟩ := r_spreadL hv hM1 (hw.fr (a4 204 (by decide)).1) hL
      refine ⟨w, a1 _ ?_, w2, w3, (ra m m1 a4).tr (RA.of w4)⟩
      rw [← e1, if_neg (by decide), jcl_e (r_vals hM1 hv), jcl_e (r_sumOf hL), jcl_e w1, smP_tot, pk_sub lt]
  · have r0 : ∀ r L, spEnd (σ.2.1 0) 255 (vm (σ.2.1 0)) r L → r = 0 := fun r L h => by
      rcases h with ⟨rfl, h1, h2⟩ | ⟨rfl, -⟩
      · exact absurd ⟨L, h1, h2⟩ hE
      · rfl
    refine ⟨-2, σ.2.1 0, h0, fun s μ hs hS => ?_, fun m hm hw => ?_⟩
    · obtain ⟨r, L', m1, a1, a2, a3, a4⟩ := cl s μ hs hS
      refine ⟨m1, a1 _ (by rw [r0 r L' a2, if_pos rfl]), ?_, a4.mono (fun c hc => Or.inr hc)⟩
      rw [chg_self]
      exact hS.fc hv.1 a4 (fun c q z => by obtain ⟨q1, q2⟩ := q; omega)
    · obtain ⟨r, L', m1, a1, a2, a3, a4⟩ := rl m hm
      refine ⟨m1, a1 _ (by rw [r0 r L' a2, if_pos rfl]), ?_, hw.fr (a4 204 (by decide)).1, ra m m1 a4⟩
      rw [nowT_self]
      exact rfr m m1 a4 hm
theorem sim_spreads {μ : jM} (h : Rel μ) : ∃ r μ1 μ2, f_X11_spreads 0 μ = some (r, μ1) ∧ f_X12_spreads 201 μ1 = some (r, μ2) ∧ Rel μ2 :=
  sim_ok (fc := fun s => f_X7_spreadAll s 165) (fa := f_X11_spreads 0) (fr := f_X12_spreads 201) h (by unfold f_X11_spreads; rw [jcl2_id]) (fun m => by unfold f_X12_spreads; simp only [jcl2_id]) (fun σ hv => ok_spreads hv)
