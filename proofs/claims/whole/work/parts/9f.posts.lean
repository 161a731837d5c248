/-! posts: what was read is added -/
def rps (T : TT) (L : List Q4) (k : Nat) : TT := fun j => if 29 + 4 * nc T ≤ j ∧ j < 29 + 4 * nc T + k then e4 L (j - (29 + 4 * nc T)) else T j
theorem rps_in {T : TT} {L : List Q4} {k j : Nat} (h : 29 + 4 * nc T ≤ j ∧ j < 29 + 4 * nc T + k) : rps T L k j = e4 L (j - (29 + 4 * nc T)) := if_pos h
theorem rps_out {T : TT} {L : List Q4} {k j : Nat} (h : ¬ (29 + 4 * nc T ≤ j ∧ j < 29 + 4 * nc T + k)) : rps T L k j = T j := if_neg h
theorem rps_0 (T : TT) (L : List Q4) : rps T L 0 = T := by
  funext j
  exact rps_out (by omega)
theorem rps_s {T : TT} {L : List Q4} {k : Nat} : upd (rps T L k) (29 + 4 * nc T + k) (e4 L k) = rps T L (k + 1) := by
  funext j
  by_cases c : j = 29 + 4 * nc T + k
  · rw [c, pk_us, rps_in (by omega)]
    congr 1
    omega
  · rw [pk_un c]
    by_cases d : 29 + 4 * nc T ≤ j ∧ j < 29 + 4 * nc T + k
    · rw [rps_in d, rps_in (by omega)]
    · rw [rps_out d, rps_out (by omega)]
def pst (T : TT) (L : List Q4) : TT := upd (rps T L (4 * L.length)) 28 (nI (nc T + L.length))
theorem pst_nc {T : TT} {L : List Q4} (h : nc T + L.length ≤ 8) : nc (pst T L) = nc T + L.length ∧ pst T L 28 = nI (nc T + L.length) := by
  have e : pst T L 28 = nI (nc T + L.length) := by unfold pst; rw [pk_us]
  exact ⟨by show (pst T L 28).toNatClampNeg = _; rw [e, nI_clamp (by omega)], e⟩
theorem pst_o {T : TT} {L : List Q4} {j : Nat} (hj : j < 28) : pst T L j = T j := by
  unfold pst
  rw [pk_un (by omega), rps_out (by omega)]
theorem pst_a {T : TT} {L : List Q4} {j r : Nat} (hj : j < nc T) (hr : r < 4) : pst T L (29 + (4 * j + r)) = T (29 + (4 * j + r)) := by
  unfold pst
  rw [pk_un (by omega), rps_out (by omega)]
theorem pst_b {T : TT} {L : List Q4} {j r : Nat} (hj : j < L.length) (hr : r < 4) : pst T L (29 + (4 * (nc T + j) + r)) = e4 L (4 * j + r) := by
  unfold pst
  rw [pk_un (by omega), rps_in (by omega)]
  congr 1
  omega
theorem e4_at {L : List Q4} {j : Nat} : e4 L (4 * j) = (L.getD j (0, 0, 0, 0)).1 ∧ e4 L (4 * j + 1) = (L.getD j (0, 0, 0, 0)).2.1 ∧ e4 L (4 * j + 2) = (L.getD j (0, 0, 0, 0)).2.2.1 ∧ e4 L (4 * j + 3) = (L.getD j (0, 0, 0, 0)).2.2.2 := by
  unfold e4
  refine ⟨?_, ?_, ?_, ?_⟩
  · rw [if_pos (by omega), show 4 * j / 4 = j by omega]
  · rw [if_neg (by omega), if_pos (by omega), show (4 * j + 1) / 4 = j by omega]
  · rw [if_neg (by omega), if_neg (by omega), if_pos (by omega), show (4 * j + 2) / 4 = j by omega]
  · rw [if_neg (by omega), if_neg (by omega), if_neg (by omega), show (4 * j + 3) / 4 = j by omega]
theorem getD_in {L : List Q4} {j : Nat} {d : Q4} (h : j < L.length) : L.getD j d ∈ L := by
  rw [List.getD_eq_getElem?_getD, List.getElem?_eq_getElem h]
  exact List.getElem_mem h
theorem VT.post {T : TT} {L : List Q4} (h : VT T) (hL : ∀ c ∈ L, c4 c) (hb : nc T + L.length ≤ 8) : VT (pst T L) := by
  obtain ⟨h1, h2, h3, h4, h5, h6, h7, h8⟩ := h
  have hn := h1.1
  have hc := h2.1
  obtain ⟨e1, e2⟩ := pst_nc hb
  have k : ∀ j, j < 28 → pst T L j = T j := fun j hj => pst_o hj
  have en : np (pst T L) = np T := by unfold np; rw [k _ (by omega)]
  unfold VT
  rw [e1, e2, en, k 11 (by omega)]
  refine ⟨h1, ⟨by omega, rfl⟩, fun j hj => ?_, fun j hj => ?_, fun j hj => ?_, fun a b ha hb => ?_, fun j hj => ?_, fun j hj => ?_⟩
  · rw [k _ (by omega)]; exact h3 j hj
  · rw [k _ (by omega)]; exact h4 j hj
  · rw [k _ (by omega)]; exact h5 j hj
  · rw [k _ (by omega), k _ (by omega)]; exact h6 a b ha hb
  · rw [k _ (by omega)]; exact h7 j hj
  · by_cases c : j < nc T
    · have q := @pst_a T L j
      have q0 := q (r := 0) c (by omega)
      rw [Nat.add_zero] at q0
      rw [q0, q c (by omega), q c (by omega), q c (by omega)]
      exact h8 j c
    · obtain ⟨i, rfl⟩ : ∃ i, j = nc T + i := ⟨j - nc T, by omega⟩
      have hi : i < L.length := by omega
      have q := @pst_b T L i
      have q0 := q (r := 0) hi (by omega)
      rw [Nat.add_zero, Nat.add_zero] at q0
      obtain ⟨g0, g1, g2, g3⟩ := e4_at (L := L) (j := i)
      rw [q0, q hi (by omega), q hi (by omega), q hi (by omega), g0, g1, g2, g3]
      exact hL _ (getD_in hi)
theorem pst_nil {T : TT} (h : VT T) : pst T [] = T := by
  unfold pst
  rw [show 4 * ([] : List Q4).length = 0 from rfl, rps_0]
  funext j
  by_cases c : j = 28
  · rw [c, pk_us]; exact h.2.1.2.symm
  · rw [pk_un c]
theorem jlen178 : jlen 178 = 32 := by decide +kernel
theorem c_addL {T : TT} {L : List Q4} {μ : jM} (h : RT 6 T μ) (hv : VT T) (hb : nc T + L.length ≤ 8) (hH : HC L μ) : ∃ w, jloop (fun (q : Int32 × jM) => f_X7_addConstraints_L13 5 178 (nI L.length) (nI (4 * nc T)) q.1 q.2) jfu (((0 : Int32), μ)) = some w ∧ RT 6 (rps T L (4 * L.length)) w ∧ jFr (fun c => c = 11) μ w := by
  obtain ⟨w, hw, hr⟩ := jlpN (step := fun (q : Int32 × jM) => f_X7_addConstraints_L13 5 178 (nI L.length) (nI (4 * nc T)) q.1 q.2) (4 * L.length)
    (fun k q => q.1 = nI k ∧ RT 6 (rps T L k) q.2 ∧ jFr (fun c => c = 11) μ q.2)
    (fun m => RT 6 (rps T L (4 * L.length)) m ∧ jFr (fun c => c = 11) μ m)
    (fun k q hk hq => by
      obtain ⟨u, m⟩ := q
      obtain ⟨hu, hR, hf⟩ := hq
      have hu : u = nI k := hu
      subst hu
      have hR : RT 6 (rps T L k) m := hR
      have k1 : m.1 178 k = e4 L k := by
        rw [(hf 178 (by decide)).1]
        exact hH.2 k hk (by omega)
      refine ⟨(nI (k + 1), jsi m 11 (4 * nc T + k) (e4 L k)), ?_, rfl, ?_, jFr.tr hf (jFr.si _ _ _ rfl)⟩
      · dsimp only
        unfold f_X7_addConstraints_L13
        rw [jlen178, jlit 4, pk_mul, if_neg (nI_ge (by omega) (by omega)), if_neg (nI_ge (by omega) (by omega)), nI_add, if_neg (nI_ge (by omega) (by omega)), jrd_n (n := 32) (by omega) (by decide), k1, jin_n (n := 32) (by omega) (by decide), nI_clamp (by omega), jbd_e, nI_1]
      · show RT 6 _ (jsi m (6 + 5) (4 * nc T + k) _)
        have q1 := hR.par (i := 4 * nc T + k) (v := e4 L k) (by omega)
        rw [show 29 + (4 * nc T + k) = 29 + 4 * nc T + k by omega, rps_s] at q1
        exact q1)
    (fun q hq => by
      obtain ⟨u, m⟩ := q
      obtain ⟨hu, hR, hf⟩ := hq
      have hu : u = nI (4 * L.length) := hu
      subst hu
      refine ⟨m, ?_, hR, hf⟩
      dsimp only
      unfold f_X7_addConstraints_L13
      rw [jlit 4, pk_mul, if_pos (nI_le (by omega) (by omega))])
    (i := 0) (n := jfu) (s := ((0 : Int32), μ)) (by omega) ⟨rfl, by rw [rps_0]; exact h, jFr.rf⟩ (jfu_lt (by omega))
  exact ⟨w, hw, hr⟩
theorem r_addL {σ : SS} {L : List Q4} {μ : jM} (hv : VS σ) (hb : nc (σ.2.1 0) + L.length ≤ 8) (h : RM σ μ) (h10 : RW 10 (σ.2.1 0) μ) (hH : HT L μ) : ∃ w, jloop (fun (q : Int32 × jM) => f_X12_posts_L111 201 q.1 q.2) jfu (((0 : Int32), μ)) = some w ∧ RM (nowT σ (rps (σ.2.1 0) L (4 * L.length))) w ∧ RW 10 (σ.2.1 0) w ∧ RF μ w := by
  have h0 := hv.2.1 0 (Nat.zero_le _)
  obtain ⟨w, hw, hr⟩ := jlpN (step := fun (q : Int32 × jM) => f_X12_posts_L111 201 q.1 q.2) (4 * L.length)
    (fun k q => q.1 = nI k ∧ RM (nowT σ (rps (σ.2.1 0) L k)) q.2 ∧ RW 10 (σ.2.1 0) q.2 ∧ RF μ q.2)
    (fun m => RM (nowT σ (rps (σ.2.1 0) L (4 * L.length))) m ∧ RW 10 (σ.2.1 0) m ∧ RF μ m)
    (fun k q hk hq => by
      obtain ⟨u, m⟩ := q
      obtain ⟨hu, hR, h1, hf⟩ := hq
      have hu : u = nI k := hu
      subst hu
      have hR : RM (nowT σ (rps (σ.2.1 0) L k)) m := hR
      have hf : RF μ m := hf
      have e17 : m.1 201 17 = nI L.length := by rw [hf.2.2 17 (by decide) (by decide) (by decide)]; exact hH.1
      have e28 : m.1 204 28 = nI (nc (σ.2.1 0)) := by
        have := hR.at (k := 28) (by omega)
        rw [nowT_0, rps_out (by omega), h0.2.1.2] at this
        exact this
      have k1 : m.1 209 k = e4 L k := by
        rw [(hf.1 209 (by decide)).1]
        exact hH.2 k hk (by omega)
      have q1 := hR.set2 (k := 29 + 4 * nc (σ.2.1 0) + k) (v := e4 L k) hv.1 (by omega)
      rw [rps_s] at q1
      refine ⟨(nI (k + 1), jsi m 204 (29 + 4 * nc (σ.2.1 0) + k) (e4 L k)), ?_, rfl, q1.1, RW.set10 h1 (by omega), RF.tr hf q1.2⟩
      dsimp only
      unfold f_X12_posts_L111
      rw [e17, jlit 4, pk_mul, if_neg (nI_ge (by omega) (by omega))]
      show jrd (m.1 204) _ _ _ = _
      rw [jlit 28, jrd_n (n := 2074) (by omega) (by decide), e28]
      show jrd (m.1 209) _ _ _ = _
      rw [jrd_n (n := 320) (by omega) (by decide), k1, jlit 29, pk_mul, nI_add, nI_add, jin_n (n := 2074) (by omega) (by decide), nI_clamp (by omega), jbd_e, nI_1])
    (fun q hq => by
      obtain ⟨u, m⟩ := q
      obtain ⟨hu, hR, h1, hf⟩ := hq
      have hu : u = nI (4 * L.length) := hu
      subst hu
      have hf : RF μ m := hf
      have e17 : m.1 201 17 = nI L.length := by rw [hf.2.2 17 (by decide) (by decide) (by decide)]; exact hH.1
      refine ⟨m, ?_, hR, h1, hf⟩
      dsimp only
      unfold f_X12_posts_L111
      rw [e17, jlit 4, pk_mul, if_pos (nI_le (by omega) (by omega))])
    (i := 0) (n := jfu) (s := ((0 : Int32), μ)) (by omega) ⟨rfl, by rw [rps_0, nowT_self]; exact h, h10, RF.rf⟩ (jfu_lt (by omega))
  exact ⟨w, hw, hr⟩
/-- calls that empty the text -/
def RCt (μ μ' : jM) : Prop := jFr (fun c => c = 201 ∨ (204 ≤ c ∧ c ≤ 219)) μ μ' ∧ MF (fun w => w ≠ 11 ∧ w ≠ 12) μ μ' ∧ (∀ k, k = 1 ∨ k = 37 → μ'.1 201 k = μ.1 201 k) ∧ μ'.1 201 4 = 0
theorem tx_emp {μ μ1 μ2 : jM} (h : TX μ) (f1 : jFr (fun c => CFs c ∨ c = 1 ∨ c = 3 ∨ c = 4) μ μ1) (e1 : μ1.1 1 1 = 0) (f2 : jFr (fun c => (201 ≤ c ∧ c ≤ 202) ∨ (204 ≤ c ∧ c ≤ 219)) μ1 μ2) (e2 : μ2.1 201 4 = 0) : TX μ2 := by
  obtain ⟨n, hn, h1, h2, h3⟩ := h
  refine ⟨0, by omega, ?_, e2, fun i hi => ?_⟩
  · rw [(f2 1 (by omega)).1]; exact e1
  · rw [(f2 2 (by omega)).1, (f2 203 (by omega)).1, (f1 2 (by unfold CFs; omega)).1, (f1 203 (by unfold CFs; omega)).1]
    exact h3 i hi
theorem rel_emp {σ' : SS} {μ μ1 μ2 : jM} (h : Rel μ) (hv : VS σ') (h1 : RS 5 σ' μ1) (f1 : jFr (fun c => CFs c ∨ c = 1) μ μ1) (e1 : μ1.1 1 1 = 0) (h2 : RM σ' μ2) (f2 : RCt μ1 μ2) : Rel μ2 := by
  have k1 : ∀ c, ¬ (CFs c ∨ c = 1) → ¬ (c = 201 ∨ (204 ≤ c ∧ c ≤ 219)) → μ2.1 c = μ.1 c ∧ μ2.2 c = μ.2 c := fun c c1 c2 => ⟨(f2.1 c c2).1.trans (f1 c c1).1, (f2.1 c c2).2.trans (f1 c c1).2⟩
  have k3 : ∀ k, k = 1 ∨ k = 37 → μ2.1 201 k = μ.1 201 k := fun k a => (f2.2.2.1 k a).trans (by rw [(f1 201 (by unfold CFs; omega)).1])
  refine rel_gen h hv (h1.fr hv.1 (fun c hc => (f2.1 c (by obtain ⟨q1, q2⟩ := hc; omega)).1)) h2 ?_ ?_ ⟨fun c hc => (k1 c (by unfold CFs; omega) (by omega)).1, (MF.of (f1 204 (by unfold CFs; omega)).1).tr f2.2.1, k3 37 (by omega)⟩
  · exact tx_emp h.2.1 (f1.mono (fun c hc => hc.elim Or.inl (fun q => Or.inr (Or.inl q)))) e1 (f2.1.mono (fun c hc => by omega)) f2.2.2.2
  · exact h.2.2.1.fr (k1 3 (by unfold CFs; omega) (by omega)).1 (k1 4 (by unfold CFs; omega) (by omega)).2 (k1 202 (by unfold CFs; omega) (by omega)).2 (k3 1 (by omega))
/-- behind the reading -/
def ptail (w : jM) : Option (Int32 × jM) := jrd (w.1 204) (28 : Int32) 2074 (fun v31 => (if (v31 + (w.1 201 17)) ≤ (8 : Int32) then jcl (f_X12_begins 201 w) (fun m34 => jcl (jloop (fun (s : Int32 × jM) => f_X12_posts_L111 201 s.1 s.2) jfu (((0 : Int32), m34))) (fun w48 => jrd (w48.1 204) (28 : Int32) 2074 (fun v53 => jin (28 : Int32) 2074 (jbd (jsi w48 204 (28 : Int32).toNatClampNeg (v53 + (w48.1 201 17))) (fun m56 => jcl2 (f_X12_ends 201 (m56.1 201 17) m56) (fun v58 m59 => some ((v58, m59)))))))) else some (((-100 : Int32), w))))
theorem r_posts {n : Nat} {s : Nat → Nat} {m : jM} (h4 : m.1 201 4 = nI n) (hn : n ≤ 80) (h3 : ∀ i, i < 80 → m.1 203 i = nI (s i) ∧ s i < 256) : ∃ w, jFr (fun c => c = 201 ∨ c = 209) m w ∧ (∀ k, k ≠ 0 → k ≠ 4 → k ≠ 5 → k ≠ 6 → k ≠ 7 → k ≠ 17 → w.1 201 k = m.1 201 k) ∧ w.1 201 4 = 0 ∧ (((rdn n s).2 = none ∧ f_X12_posts 201 m = some (-1 - nI (rdn n s).1, w)) ∨ (∃ L, (rdn n s).2 = some L ∧ HT L w ∧ f_X12_posts 201 m = ptail w)) := by
  obtain ⟨m5, hm5⟩ : ∃ m5, m5 = jsi (jsi (jsi (jsi (jsi (jsi m 201 0 0) 201 6 (nI n)) 201 4 0) 201 5 0) 201 7 0) 201 17 0 := ⟨_, rfl⟩
  have hm : jsi (f_X12_reads 201 (jsi m 201 0 0)) 201 17 (0 : Int32) = m5 := by
    unfold f_X12_reads
    simp only [jbd_e]
    rw [show (jsi m 201 0 0).1 201 4 = nI n by rw [jsi_pl (by decide)]; exact h4]
    exact hm5.symm
  have f5 : jFr (fun c => c = 201 ∨ c = 209) m m5 := by
    rw [hm5]
    exact (((((jFr.si _ _ _ (Or.inl rfl)).tr (jFr.si _ _ _ (Or.inl rfl))).tr (jFr.si _ _ _ (Or.inl rfl))).tr (jFr.si _ _ _ (Or.inl rfl))).tr (jFr.si _ _ _ (Or.inl rfl))).tr (jFr.si _ _ _ (Or.inl rfl))
  have g5 : ∀ k, k ≠ 0 → k ≠ 4 → k ≠ 5 → k ≠ 6 → k ≠ 7 → k ≠ 17 → m5.1 201 k = m.1 201 k := fun k a b c d e f => by
    rw [hm5, jsi_pl f, jsi_pl e, jsi_pl c, jsi_pl b, jsi_pl d, jsi_pl a]
  have t5 : m5.1 201 4 = 0 := by rw [hm5, jsi_pl (by decide), jsi_pl (by decide), jsi_pl (by decide), jsi_at]
  have u5 : RU n s 0 [] m5 := by
    refine ⟨⟨hn, Nat.zero_le _, ?_, ?_, fun i hi => ?_⟩, ?_, fun j a _ => absurd a (Nat.not_lt_zero j)⟩
    · rw [hm5, jsi_pl (by decide), jsi_pl (by decide), jsi_pl (by decide), jsi_pl (by decide), jsi_at]
    · rw [hm5, jsi_pl (by decide), jsi_pl (by decide), jsi_at]; rfl
    · rw [(f5 203 (by decide)).1]; exact h3 i hi
    · rw [hm5, jsi_at]; rfl
  have fin : ∀ w, FRr m5 w → jFr (fun c => c = 201 ∨ c = 209) m w ∧ (∀ k, k ≠ 0 → k ≠ 4 → k ≠ 5 → k ≠ 6 → k ≠ 7 → k ≠ 17 → w.1 201 k = m.1 201 k) ∧ w.1 201 4 = 0 := fun w hw =>
    ⟨f5.tr hw.1, fun k a b c d e f => (hw.2 k c f).trans (g5 k a b c d e f), (hw.2 4 (by decide) (by decide)).trans t5⟩
  unfold f_X12_posts
  simp only [jbd_e]
  rw [hm, u5.1.2.2.1]
  by_cases c : n = 0
  · rw [if_pos (by rw [c]; rfl)]
    obtain ⟨e, e1, w, e2, e3, e4⟩ := r_postL u5 (Nat.le_refl _)
    have er : rdn n s = rls n s 81 0 [] := by
      unfold rdn
      rw [if_pos c, show (81 : Nat) = 80 + 1 from rfl, rls_s, if_pos c.symm]
    rw [er]
    obtain ⟨z1, z2, z3⟩ := fin w e2
    refine ⟨w, z1, z2, z3, ?_⟩
    rw [jcl_e e1]
    rcases e4 with ⟨d1, rfl⟩ | ⟨L, d1, rfl, d3⟩
    · refine Or.inl ⟨d1, ?_⟩
      rw [if_pos rfl, e3.2.2.2.1]
    · refine Or.inr ⟨L, d1, d3, ?_⟩
      rw [if_neg (show ¬ (1 : Int32) = 0 by decide)]
      rfl
  · rw [if_neg (show ¬ nI n = (0 : Int32) from fun z => c ((nI_eq (b := 0) (by omega) (by decide)).mp z))]
    obtain ⟨w0, a1, a2, a3, a4⟩ := r_ruleX u5 (by decide)
    obtain ⟨b1, b2, b3⟩ := rl_ok (n := n) (s := s) (p := 0) (by omega)
    have er : rdn n s = rlp n s 81 0 [] := if_neg c
    rw [er, jcl2_e a1]
    cases c1 : (rl n s 0).2 with
    | none =>
      rw [rlp_n c1, if_pos (show (if (none : Option Q4).isSome = true then (1 : Int32) else 0) = 0 from rfl)]
      have e1 : jloop (fun (z : Int32 × jM) => f_X12_posts_L34 201 z.1 z.2) jfu ((0 : Int32), w0) = some (0, w0) := jloop_x (by
        dsimp only
        unfold f_X12_posts_L34
        rw [if_pos rfl])
      obtain ⟨z1, z2, z3⟩ := fin w0 a4
      refine ⟨w0, z1, z2, z3, Or.inl ⟨rfl, ?_⟩⟩
      rw [jcl_e e1, if_pos rfl, a2.2.2.2.1]
    | some q =>
      obtain ⟨d1, d2⟩ := b3 q c1
      rw [rlp_s c1, if_neg (show ¬ (if (some q).isSome = true then (1 : Int32) else 0) = 0 from show ¬ (1 : Int32) = 0 by decide)]
      obtain ⟨e, e1, w, e2, e3, e4⟩ := r_postL (l := [q]) ⟨a2, a3 q c1⟩ (by show 3 * 1 ≤ _; omega)
      obtain ⟨z1, z2, z3⟩ := fin w (a4.tr e2)
      refine ⟨w, z1, z2, z3, ?_⟩
      rw [jcl_e e1]
      rcases e4 with ⟨d1, rfl⟩ | ⟨L, d1, rfl, d3⟩
      · refine Or.inl ⟨d1, ?_⟩
        rw [if_pos rfl, e3.2.2.2.1]
        rfl
      · refine Or.inr ⟨L, d1, d3, ?_⟩
        rw [if_neg (show ¬ (1 : Int32) = 0 by decide)]
        rfl
theorem sim_posts {μ : jM} (h : Rel μ) : ∃ r μ1 μ2, f_X11_posts 0 μ = some (r, μ1) ∧ f_X12_posts 201 μ1 = some (r, μ2) ∧ Rel μ2 := by
  obtain ⟨⟨σ, hv, hS, hM⟩, hT, -⟩ := id h
  have h0 := hv.2.1 0 (Nat.zero_le _)
  have hc := h0.2.1.1
  obtain ⟨n, s, c1, c2, c3⟩ := hT.ct
  have n80 := c1.1
  obtain ⟨w, a1, a2, a3⟩ := c_fault c1
  obtain ⟨q1, q2⟩ := rdn_ok n s
  obtain ⟨m4, hm4⟩ : ∃ m4, m4 = jsi w 1 1 0 := ⟨_, rfl⟩
  have f4 : jFr (fun c => c = 1 ∨ c = 177 ∨ c = 178) μ m4 := by
    rw [hm4]
    exact (a3.mono (fun c hc => by omega)).tr (jFr.si _ _ _ (Or.inl rfl))
  have e4 : m4.1 1 1 = 0 := by rw [hm4, jsi_at]
  have hS4 : RS 5 σ m4 := hS.fr hv.1 (fun c hc => (f4 c (by obtain ⟨z1, z2⟩ := hc; omega)).1)
  have hM4 : RM σ m4 := hM.fr (by rw [(f4 201 (by decide)).1]) (f4 204 (by decide)).1 (f4 205 (by decide)).1 (f4 206 (by decide)).1
  have ft : jFr (fun c => CFs c ∨ c = 1) μ m4 := f4.mono (fun c hc => by unfold CFs; omega)
  have e6 : m4.1 6 6 = nI (nc (σ.2.1 0)) := by rw [show (6 : Nat) = 5 + 1 from rfl, hS4.2.1.2.2.2.2.2.1]; exact h0.2.1.2
  have em : f_X8_empty 1 w = m4 := hm4.symm
  unfold f_X11_posts
  rw [show (0 : Nat) + 177 = 177 from rfl, jcl2_e a1, show (0 : Nat) + 1 = 1 from rfl, em, jbd_e]
  -- the reference behind a class's memory
  have ref : ∀ m, jFr (fun c => CFs c ∨ c = 1) μ m → ∃ w, jFr (fun c => c = 201 ∨ c = 209) m w ∧ (∀ k, k ≠ 0 → k ≠ 4 → k ≠ 5 → k ≠ 6 → k ≠ 7 → k ≠ 17 → w.1 201 k = m.1 201 k) ∧ w.1 201 4 = 0 ∧ (((rdn n s).2 = none ∧ f_X12_posts 201 m = some (-1 - nI (rdn n s).1, w)) ∨ (∃ L, (rdn n s).2 = some L ∧ HT L w ∧ f_X12_posts 201 m = ptail w)) := fun m hm =>
    r_posts (by rw [(hm 201 (by unfold CFs; omega)).1]; exact c2) n80 (fun i hi => by rw [(hm 203 (by unfold CFs; omega)).1]; exact c3 i hi)
  have rct : ∀ m w : jM, jFr (fun c => c = 201 ∨ c = 209) m w → (∀ k, k ≠ 0 → k ≠ 4 → k ≠ 5 → k ≠ 6 → k ≠ 7 → k ≠ 17 → w.1 201 k = m.1 201 k) → w.1 201 4 = 0 → RCt m w := fun m w z1 z2 z3 =>
    ⟨z1.mono (fun c hc => by omega), MF.of (z1 204 (by decide)).1, fun k hk => z2 k (by omega) (by omega) (by omega) (by omega) (by omega) (by omega), z3⟩
  have rmw : ∀ m w : jM, RM σ m → jFr (fun c => c = 201 ∨ c = 209) m w → (∀ k, k ≠ 0 → k ≠ 4 → k ≠ 5 → k ≠ 6 → k ≠ 7 → k ≠ 17 → w.1 201 k = m.1 201 k) → RM σ w := fun m w z0 z1 z2 =>
    z0.fr (z2 9 (by decide) (by decide) (by decide) (by decide) (by decide) (by decide)) (z1 204 (by decide)).1 (z1 205 (by decide)).1 (z1 206 (by decide)).1
  cases d1 : (rdn n s).2 with
  | none =>
    dsimp only
    rw [if_neg (nI_m1 (by omega))]
    obtain ⟨w2, z1, z2, z3, z4⟩ := ref m4 ft
    rcases z4 with ⟨-, z5⟩ | ⟨L, z5, -⟩
    · exact ⟨_, m4, w2, rfl, z5, rel_emp h hv hS4 ft e4 (rmw _ _ hM4 z1 z2) (rct _ _ z1 z2 z3)⟩
    · rw [d1] at z5; cases z5
  | some L =>
    have hH := a2 L d1
    obtain ⟨l1, l2⟩ := q2 L d1
    have hH4 : HC L m4 := by
      rw [hm4]
      exact ⟨by rw [jsi_ne (by decide)]; exact hH.1, fun j a b => by rw [jsi_ne (by decide)]; exact hH.2 j a b⟩
    dsimp only
    rw [if_pos rfl]
    show ∃ r μ1 μ2, (if m4.1 6 6 + m4.1 177 1 ≤ (8 : Int32) then jcl (f_X7_addConstraints 5 178 (m4.1 177 1) m4) (fun m8 => some ((m8.1 177 1, m8))) else some (((-100 : Int32), m4))) = some (r, μ1) ∧ _
    rw [e6, hH4.1, nI_add]
    by_cases c8 : nc (σ.2.1 0) + L.length ≤ 8
    · rw [if_pos (show nI (nc (σ.2.1 0) + L.length) ≤ (8 : Int32) from nI_le (b := 8) c8 (by decide))]
      -- the class
      obtain ⟨w1, b1, b2, b3⟩ := c_addL hS4.2.1 h0 c8 hH4
      have e5 : w1.1 6 6 + nI L.length = nI (nc (σ.2.1 0) + L.length) := by
        rw [b2.2.2.2.2.2.1, rps_out (by omega), h0.2.1.2, nI_add]
      have r1 : RT 6 (pst (σ.2.1 0) L) (jsi w1 6 6 (nI (nc (σ.2.1 0) + L.length))) := b2.nc
      have f1 : jFr (fun c => 5 + 1 ≤ c ∧ c ≤ 5 + 6) m4 (jsi w1 6 6 (nI (nc (σ.2.1 0) + L.length))) := (b3.mono (fun c hc => ⟨by omega, by omega⟩)).tr (jFr.si _ _ _ ⟨by omega, by omega⟩)
      have hT' := h0.post l1 c8
      have hS1 := hS4.now hv.1 r1 f1
      have cls : ∃ μ1, f_X7_addConstraints 5 178 (nI L.length) m4 = some μ1 ∧ RS 5 (chg σ (pst (σ.2.1 0) L)) μ1 ∧ jFr (inS 5) m4 μ1 := by
        have ff : jFr (inS 5) m4 (jsi w1 6 6 (nI (nc (σ.2.1 0) + L.length))) := f1.mono (fun c hc => ⟨by omega, by omega⟩)
        have pre : ∀ o, (if nI L.length ≤ (0 : Int32) then some (jsi w1 6 6 (nI (nc (σ.2.1 0) + L.length))) else jcl (f_X7_changed 5 (30 : Int32) (jsi w1 6 6 (nI (nc (σ.2.1 0) + L.length)))) (fun m21 => some m21)) = o → f_X7_addConstraints 5 178 (nI L.length) m4 = o := fun o ho => by
          unfold f_X7_addConstraints
          show jbd (4 * m4.1 6 6) _ = _
          rw [e6, jlit 4, pk_mul, jbd_e, jcl_e b1]
          show jbd (jsi w1 6 6 (w1.1 6 6 + nI L.length)) _ = _
          rw [e5, jbd_e]
          exact ho
        by_cases c0 : L.length = 0
        · have : L = [] := List.eq_nil_of_length_eq_zero c0
          refine ⟨_, pre _ (if_pos (by rw [c0]; decide)), ?_, ff⟩
          rw [this, pst_nil h0] at hS1 ⊢
          rw [nowT_self] at hS1
          rw [chg_self]
          exact hS1
        · obtain ⟨μ1, g1, g2, g3⟩ := c_changed hS1 (hv.nowT hT') (t := 30) (by decide) (by decide)
          have hd : dfl (σ.2.1 0) (pst (σ.2.1 0) L) 31 = [30] := dfl_con h0 (by
            rw [(pst_nc c8).2, h0.2.1.2]
            intro z
            have := (nI_eq (by omega) (by omega)).mp z
            omega) (fun j hj => pst_o hj)
          refine ⟨μ1, pre _ ?_, ?_, ff.tr (g3.mono (fun c hc => hc.1))⟩
          · rw [if_neg (nI_nle (by omega) (by omega)), jcl_id]; exact g1
          · rw [chg_one hd]; exact g2
      obtain ⟨μ1, g1, g2, g3⟩ := cls
      have ft1 : jFr (fun c => CFs c ∨ c = 1) μ μ1 := ft.tr (g3.mono (fun c hc => by obtain ⟨z1, z2⟩ := hc; unfold CFs; omega))
      have n5 : ∀ c, 85 ≤ c ∨ c < 5 → ¬ inS 5 c := fun c hc q => by obtain ⟨q1, q2⟩ := q; omega
      have e1 : μ1.1 1 1 = 0 := by rw [(g3 1 (n5 _ (by omega))).1]; exact e4
      have hM1 : RM σ μ1 := hM4.fr (by rw [(g3 201 (n5 _ (by omega))).1]) (g3 204 (n5 _ (by omega))).1 (g3 205 (n5 _ (by omega))).1 (g3 206 (n5 _ (by omega))).1
      have e177 : μ1.1 177 1 = nI L.length := by rw [(g3 177 (n5 _ (by omega))).1]; exact hH4.1
      obtain ⟨w2, z1, z2, z3, z4⟩ := ref μ1 ft1
      rcases z4 with ⟨z5, -⟩ | ⟨L', z5, z6, z7⟩
      · rw [d1] at z5; cases z5
      · rw [d1] at z5
        cases z5
        have hMw := rmw _ _ hM1 z1 z2
        obtain ⟨m1, x1, x2, x3, x4, x5⟩ := r_begins hMw hv.1
        have zm : HT L m1 := ⟨by rw [(x5 201 (by decide)).1]; exact z6.1, fun j a b => by rw [(x5 209 (by decide)).1]; exact z6.2 j a b⟩
        obtain ⟨m2, y1, y2, y3, y4⟩ := r_addL hv c8 x2 x3 zm
        have y28 : m2.1 204 28 = nI (nc (σ.2.1 0)) := by
          have := y2.at (k := 28) (by omega)
          rw [nowT_0, rps_out (by omega), h0.2.1.2] at this
          exact this
        have y17 : m2.1 201 17 = nI L.length := by rw [y4.2.2 17 (by decide) (by decide) (by decide)]; exact zm.1
        have s1 := y2.set2 (k := 28) (v := nI (nc (σ.2.1 0) + L.length)) hv.1 (by omega)
        obtain ⟨m3, v1, v2, v3⟩ := r_ends (T' := pst (σ.2.1 0) L) s1.1 (y3.set10 (by omega)) hv hT' (nI L.length)
        refine ⟨nI L.length, μ1, m3, ?_, ?_, ?_⟩
        · rw [jcl_e g1, e177]
        · rw [z7]
          unfold ptail
          have w28 : w2.1 204 28 = nI (nc (σ.2.1 0)) := by rw [hMw.at (k := 28) (by omega)]; exact h0.2.1.2
          rw [jlit 28, jrd_n (n := 2074) (by omega) (by decide), w28, z6.1, nI_add, if_pos (show nI (nc (σ.2.1 0) + L.length) ≤ (8 : Int32) from nI_le (b := 8) c8 (by decide)), jcl_e x1, jcl_e y1, jrd_n (n := 2074) (by omega) (by decide), y28, y17, nI_add, jin_n (n := 2074) (by omega) (by decide), nI_clamp (by omega), jbd_e, jsi_ne (show (201 : Nat) ≠ 204 by decide), y17, jcl2_e v1]
        · refine rel_emp h (hv.chg hT') g2 ft1 e1 v2 ?_
          have t1 := rct _ _ z1 z2 z3
          refine ⟨((t1.1.tr (x5.mono (fun c hc => by omega))).tr (y4.1.mono (fun c hc => by omega))).tr ((s1.2.1.mono (fun c hc => by omega)).tr (v3.mono (fun c hc => by omega))), ((t1.2.1.tr (x4.mono (fun c hc => by omega))).tr (y4.2.1.mono (fun c hc => by omega))).tr ((s1.2.2.1.mono (fun c hc => by omega)).tr (MF.of (v3 204 (by decide)).1)), fun k hk => ?_, ?_⟩
          · rw [(v3 201 (by decide)).1, s1.2.2.2 k (by omega) (by omega) (by omega), y4.2.2 k (by omega) (by omega) (by omega), (x5 201 (by decide)).1]
            exact t1.2.2.1 k hk
          · rw [(v3 201 (by decide)).1, s1.2.2.2 4 (by omega) (by omega) (by omega), y4.2.2 4 (by omega) (by omega) (by omega), (x5 201 (by decide)).1]
            exact z3
    · rw [if_neg (show ¬ nI (nc (σ.2.1 0) + L.length) ≤ (8 : Int32) from nI_ge (a := 8) (by omega) (by omega))]
      obtain ⟨w2, z1, z2, z3, z4⟩ := ref m4 ft
      rcases z4 with ⟨z5, -⟩ | ⟨L', z5, z6, z7⟩
      · rw [d1] at z5; cases z5
      · rw [d1] at z5
        cases z5
        have hMw := rmw _ _ hM4 z1 z2
        have w28 : w2.1 204 28 = nI (nc (σ.2.1 0)) := by rw [hMw.at (k := 28) (by omega)]; exact h0.2.1.2
        refine ⟨-100, m4, w2, rfl, ?_, rel_emp h hv hS4 ft e4 hMw (rct _ _ z1 z2 z3)⟩
        rw [z7]
        unfold ptail
        rw [jlit 28, jrd_n (n := 2074) (by omega) (by decide), w28, z6.1, nI_add, if_neg (show ¬ nI (nc (σ.2.1 0) + L.length) ≤ (8 : Int32) from nI_ge (a := 8) (by omega) (by omega))]
