/-! mends -/
theorem r_without {t : Nat → Nat} {S : Nat} {m : jM} (hS : S < 256) (ht : TY 219 256 t m) : f_X12_without 201 (nI S) m = some (nI (wsm t S 256)) := by
  obtain ⟨w, hw, h1⟩ := jlpN (step := fun (z : Int32 × Int32) => f_X12_without_L4 201 (nI S) m z.1 z.2) 256
    (fun k z => z = (nI (wsm t S k), nI k)) (fun w => w = nI (wsm t S 256))
    (fun k z hk hz => by
      subst hz
      refine ⟨_, ?_, rfl⟩
      dsimp only
      unfold f_X12_without_L4
      rw [jlit 256, if_neg (nI_ge hk (by decide)), nI_dif (by omega) (by omega), nI_1, wsm_s]
      have hd := dif_lt S hk
      by_cases c : dif k S = 0
      · rw [if_pos c, c, if_pos (show nI 0 = (0 : Int32) from rfl)]
        show jrd (m.1 219) _ _ _ = _
        rw [jrd_n hk (by decide), ht k hk, nI_add]
      · rw [if_neg c, if_neg (nI_ne0 (by omega) (by omega)), Int32.add_zero]
        rfl)
    (fun z hz => by
      subst hz
      refine ⟨_, ?_, rfl⟩
      dsimp only
      unfold f_X12_without_L4
      rw [jlit 256, if_pos (nI_le (Nat.le_refl _) (by decide))])
    (i := 0) (n := jfu) (s := ((0 : Int32), (0 : Int32))) (by omega) rfl (jfu_lt (by omega))
  unfold f_X12_without
  rw [jcl_e hw, h1]
theorem sim_mends {μ : jM} (h : Rel μ) : ∃ r μ1 μ2, f_X11_mends 0 μ = some (r, μ1) ∧ f_X12_mends 201 μ1 = some (r, μ2) ∧ Rel μ2 := by
  obtain ⟨⟨σ, hv, hS, hM⟩, -⟩ := id h
  have h0 := hv.2.1 0 (Nat.zero_le _)
  have h9 := hv.1
  have hn := h0.2.1.1
  obtain ⟨N, hN⟩ : ∃ N, N = nc (σ.2.1 0) := ⟨_, rfl⟩
  have hN8 : N ≤ 8 := by rw [hN]; exact hn
  have hp := pc_full N (by omega)
  obtain ⟨sh, hsh⟩ : ∃ sh : Nat → Nat, sh = fun r => pmk (σ.2.1 0) (val r) 5 := ⟨_, rfl⟩
  have sl : ∀ r, sh r < 2 ^ N := fun r => by rw [hsh, hN]; exact pmk_nc _ 5
  obtain ⟨A, hA⟩ : ∃ A : Nat → Nat → Nat, A = fo (gdB (σ.2.1 0) false) (shF sh) (fun _ => 0) := ⟨_, rfl⟩
  have A_s : ∀ p, A (p + 1) = if gdB (σ.2.1 0) false p then shF sh (A p) p else A p := fun p => by rw [hA]; rfl
  have iv : ∀ p, (∀ i, A p i ≤ p) ∧ ∀ i, 2 ^ N ≤ i → A p i = 0 := fun p => by rw [hA]; exact shF_iv _ sh (2 ^ N) sl p
  obtain ⟨l1, l2⟩ := iv 7776
  obtain ⟨t, ht⟩ : ∃ t, t = A 7776 := ⟨_, rfl⟩
  have hex : ∃ i, 0 < t i := by
    obtain ⟨r, hr, ho⟩ := row_ex h0
    refine ⟨sh r, ?_⟩
    rw [ht, hA]
    exact shF_pos _ sh (by rw [gdB_f]; exact ho) 7776 hr
  rw [← ht] at l1 l2
  obtain ⟨c, hc⟩ : ∃ c, c = cmn t N 256 := ⟨_, rfl⟩
  have hcm : isMn t c := by rw [hc]; exact cmn_mn hN8 l2 hex
  have hcl : c < 2 ^ N := by rw [hc]; exact (cmn_iv hN8 l2 256).1
  have wl := wsm_le l1 c 256
  have pcc := pc_le c
  obtain ⟨m0, z1, z2, z3⟩ := c_fill μ
  obtain ⟨m1, a1, a2, a3⟩ := c_wbegin (T := σ.2.1 0) false m0
  obtain ⟨e, he, e2, e3⟩ := walkG (step := fun (s : Int32 × jM) => f_X11_mends_L18 0 s.1 s.2) hS.2.1 h0 (h := false)
    (fun s => s.2) (fun s => s.1) (fun s m => m) (fun s m9 => jcl (f_X10_brokenInAll (0 + 167) m9) (fun v12 => jrd (m9.1 (0 + 187)) v12 256 (fun v15 => jin v12 256 (jbd (jsi m9 (0 + 187) v12.toNatClampNeg (v15 + (1 : Int32))) (fun m18 => some (.inl ((s.1 + (1 : Int32), m18))))))))
    (fun s => rfl) (shF sh) (fun _ => 0) (fun a s => TY 187 256 a s.2)
    (fun a e => TY 187 256 a e ∧ jFr WF μ e)
    (fun s m r hJ f1 f2 hr hg hat hbr => by
      obtain ⟨v, mm⟩ := s
      rw [← hA] at hJ ⊢
      have j2 : TY 187 256 (A r) mm := hJ
      have f1 : jFr (fun c => c = 167 ∨ c = 168 ∨ c = 169) mm m := f1
      have j3 : TY 187 256 (A r) m := fun i hi => by rw [(f1 187 (by decide)).1]; exact j2 i hi
      have slr := sl r
      refine ⟨(v + 1, jsi m 187 (sh r) (nI (A r (sh r) + 1))), ?_, rfl, jFr.si _ _ _ (Or.inl rfl), j3.one⟩
      dsimp only
      have eb : f_X10_brokenInAll (0 + 167) m = some (nI (sh r)) := by
        unfold f_X10_brokenInAll
        show jrd (m.1 169) _ _ _ = _
        rw [jlit 4, jrd_n (by omega) (by decide), hbr, hsh]
      rw [jcl_e eb]
      show jrd (m.1 187) _ _ _ = _
      rw [jrd_n (by omega) (by decide), jin_n (by omega) (by decide), jbd_e, nI_clamp (by omega), j3 _ (by omega), nI_1])
    (fun s m hJ f1 f2 => ⟨fun i hi => by show m.1 187 i = _; rw [(f1 187 (by decide)).1]; exact hJ i hi, f2⟩)
    (s0 := ((0 : Int32), m1)) (fun i hi => by show m1.1 187 i = 0; rw [(a3 187 (by decide)).1]; exact z2 i hi) rfl a2 ((z3.mono (fun c hc => by unfold WF; omega)).tr (a3.mono (fun c hc => by unfold WF; omega)))
  rw [← hA, ← ht] at e2
  have hSe : RS 5 σ e := RS.wf hS h9 e3
  have ea : f_X11_allConstraints 0 e = nI (2 ^ N - 1) := by
    unfold f_X11_allConstraints
    show ((1 : Int32) <<< ((e.1 6 6) &&& 31)) - (1 : Int32) = _
    rw [hSe.2.1.2.2.2.2.2.1, h0.2.1.2, ← hN]
    exact (all_n N (by omega)).1
  obtain ⟨w, q1, q2⟩ := jlpN (step := fun (s : Int32 × Int32) => f_X11_mends_L64 0 e s.1 s.2) 256
    (fun k s => s = (nI (cmn t N k), nI k)) (fun s => s = nI c)
    (fun k s hk hs => by
      subst hs
      have t1 := l1 k
      have ck := (cmn_iv hN8 l2 k).1
      have p1 := pc_le (cmn t N k)
      have p2 := pc_le k
      refine ⟨_, ?_, rfl⟩
      dsimp only
      unfold f_X11_mends_L64
      rw [if_neg (nI_ge hk (by decide))]
      show jrd (e.1 187) _ _ _ = _
      rw [jrd_n (by omega) (by decide), e2 k hk, c_bits k hk, c_bits _ (by omega), nI_1, cmn_s]
      by_cases z : 0 < t k
      · rw [if_neg (nI_nle z (by omega))]
        by_cases d : pc (cmn t N k) ≤ pc k
        · rw [if_pos (nI_le d (by omega)), if_neg (fun q => q.2 d)]
        · rw [if_neg (nI_ge (show pc k < pc (cmn t N k) by omega) (by omega)), if_pos ⟨z, d⟩]
      · rw [if_neg (show ¬ (0 < t k ∧ ¬ pc (cmn t N k) ≤ pc k) from fun q => z q.1), show t k = 0 by omega, if_pos (show nI 0 ≤ (0 : Int32) by decide)])
    (fun s hs => by
      subst hs
      refine ⟨_, ?_, by rw [hc]⟩
      dsimp only
      unfold f_X11_mends_L64
      rw [if_pos (nI_le (Nat.le_refl _) (by decide))])
    (i := 0) (n := jfu) (s := (nI (2 ^ N - 1), (0 : Int32))) (by omega) rfl (jfu_lt (by omega))
  obtain ⟨w', q3, q4⟩ := jlpN (step := fun (s : Int32 × Int32) => f_X11_mends_L105 0 e (nI c) s.1 s.2) 256
    (fun k s => s = (nI (wsm t c k), nI k)) (fun s => s = nI (wsm t c 256))
    (fun k s hk hs => by
      subst hs
      refine ⟨_, ?_, rfl⟩
      dsimp only
      unfold f_X11_mends_L105
      rw [if_neg (nI_ge hk (by decide)), nI_dif (by omega) (by omega), nI_1, wsm_s]
      have hd := dif_lt c hk
      by_cases d : dif k c = 0
      · rw [if_pos d, d, if_pos (show nI 0 = (0 : Int32) from rfl)]
        show jrd (e.1 187) _ _ _ = _
        rw [jrd_n hk (by decide), e2 k hk, nI_add]
      · rw [if_neg d, if_neg (nI_ne0 (by omega) (by omega))]
        rfl)
    (fun s hs => by
      subst hs
      refine ⟨_, ?_, rfl⟩
      dsimp only
      unfold f_X11_mends_L105
      rw [if_pos (nI_le (Nat.le_refl _) (by decide))])
    (i := 0) (n := jfu) (s := ((0 : Int32), (0 : Int32))) (by omega) rfl (jfu_lt (by omega))
  obtain ⟨m2, d1, d2, d3⟩ := c_only e (nI (pc c)).toInt64
  obtain ⟨m3, f1, f2, f3⟩ := c_tellR d2 (by show 1 < 22; omega) (nI (wsm t c 256)).toInt64
  have F : CFr μ m3 := ((WF.cf e3).r.tr (CFr.row d3)).tr (CFr.row f3)
  have hS2 : RS 5 σ m3 := (hSe.fc h9 d3 (fun c q z => by obtain ⟨q1, q2⟩ := q; omega)).fc h9 f3 (fun c q z => by obtain ⟨q1, q2⟩ := q; omega)
  -- the reference
  have hM1 : RM σ (jsi m3 201 0 0) := (hM.fc F).thr (by decide)
  obtain ⟨m4, t1, t2, t3⟩ := r_tries (hM1.2.1 0 (Nat.zero_le _)) h0
  have hM4 : RM σ m4 := RM216 hM1 t3
  obtain ⟨w0, y1, y2, y3⟩ := r_zero (c := 219) (n := 256) (step := fun (s : Int32 × jM) => f_X12_mends_L11 201 s.1 s.2) m4 (by omega)
    (fun k m hk => by
      dsimp only
      unfold f_X12_mends_L11
      rw [jlit 256, if_neg (nI_ge hk (by decide)), jin_n (by omega) (by decide), jbd_e, nI_clamp (by omega), nI_1])
    (fun m => by
      dsimp only
      unfold f_X12_mends_L11
      rw [jlit 256, if_pos (nI_le (Nat.le_refl _) (by decide))])
  obtain ⟨e', he', k2, k3⟩ := jlpN (step := fun (s : Int32 × jM) => f_X12_mends_L33 201 s.1 s.2) 7776
    (fun k s => s.1 = nI k ∧ TY 219 256 (A k) s.2 ∧ jFr (fun c => c = 219) m4 s.2)
    (fun e => TY 219 256 (A 7776) e ∧ jFr (fun c => c = 219) m4 e)
    (fun k s hk hs => by
      obtain ⟨v, m⟩ := s
      obtain ⟨hv1, g1, g2⟩ := hs
      have hv1 : v = nI k := hv1
      subst hv1
      have g1 : TY 219 256 (A k) m := g1
      have g2 : jFr (fun c => c = 219) m4 m := g2
      have slk := sl k
      have hT := t2 k hk
      have pre : ∀ z, (if m4.1 216 k < (0 : Int32) then some (.inl ((nI (k + 1), m))) else jrd (m.1 219) (m4.1 216 k) 256 (fun v26 => jin (m4.1 216 k) 256 (jbd (jsi m 219 (m4.1 216 k).toNatClampNeg (v26 + (1 : Int32))) (fun m29 => some (.inl ((nI (k + 1), m29))))))) = z → f_X12_mends_L33 201 (nI k) m = z := fun z hz => by
        unfold f_X12_mends_L33
        rw [jlit 7776, if_neg (nI_ge hk (by decide)), nI_1]
        show jrd (m.1 216) _ _ _ = _
        rw [jrd_n hk (by decide)]
        show (if _ then _ else jrd (m.1 216) _ _ _) = _
        rw [jrd_n hk (by decide), (g2 216 (by decide)).1]
        exact hz
      rcases hT with ⟨o1, o2⟩ | ⟨o1, o2⟩
      · refine ⟨(nI (k + 1), jsi m 219 (sh k) (nI (A k (sh k) + 1))), ?_, rfl, ?_, g2.tr (jFr.si _ _ _ rfl)⟩
        · refine pre _ ?_
          rw [o2, show pmk (σ.2.1 0) (val k) 5 = sh k by rw [hsh], if_neg (show ¬ nI (sh k) < (0 : Int32) from nI_nlt (b := 0) (Nat.zero_le _) (by omega))]
          show jrd (m.1 219) _ _ _ = _
          rw [jrd_n (by omega) (by decide), jin_n (by omega) (by decide), jbd_e, nI_clamp (by omega), g1 _ (by omega), nI_1]
        · rw [A_s, gdB_f, o1, if_pos rfl]
          exact g1.one
      · refine ⟨(nI (k + 1), m), ?_, rfl, ?_, g2⟩
        · refine pre _ ?_
          rw [o2, if_pos (by decide)]
        · rw [A_s, gdB_f, o1, if_neg Bool.false_ne_true]
          exact g1)
    (fun s hs => by
      obtain ⟨v, m⟩ := s
      obtain ⟨hv1, g1, g2⟩ := hs
      have hv1 : v = nI 7776 := hv1
      subst hv1
      refine ⟨m, ?_, g1, g2⟩
      dsimp only
      unfold f_X12_mends_L33
      rw [jlit 7776, if_pos (nI_le (Nat.le_refl _) (by decide))])
    (i := 0) (n := jfu) (s := ((0 : Int32), w0)) (by omega) ⟨rfl, fun i hi => by rw [hA]; exact y2 i hi, y3⟩ (jfu_lt (by omega))
  rw [← ht] at k2
  have fr : RC m4 e' := ⟨k3.mono (fun c hc => by omega), MF.of (k3 204 (by decide)).1, fun k _ => by rw [(k3 201 (by decide)).1]⟩
  have hMe : RM σ e' := hM4.fr (by rw [(k3 201 (by decide)).1]) (k3 204 (by decide)).1 (k3 205 (by decide)).1 (k3 206 (by decide)).1
  have en : e'.1 204 28 = nI N := by rw [hMe.at (by omega), h0.2.1.2, hN]
  have e255 : (255 : Int32) = nI 255 := rfl
  have sn : (1 : Int32) <<< (nI N &&& 31) = nI (2 ^ N) := shl_n N (by omega)
  have wle : ∀ S, wsm t S 256 ≤ 7776 * 256 := fun S => wsm_le l1 S 256
  obtain ⟨w2, q5, q6⟩ := jlpN (step := fun (s : Int32 × Int32) => f_X12_mends_L76 201 e' s.1 s.2) 256
    (fun k s => s.2 = nI (256 - k) + (-1 : Int32) ∧ ((s.1 = -1 ∧ ∀ S, 256 - k ≤ S → S < 2 ^ N → wsm t S 256 = 0) ∨ ∃ b, s.1 = nI b ∧ b < 2 ^ N ∧ 256 - k ≤ b ∧ 0 < wsm t b 256 ∧ ∀ S, 256 - k ≤ S → S < 2 ^ N → 0 < wsm t S 256 → pc b ≤ pc S ∧ (pc b = pc S → b ≤ S)))
    (fun s => s = nI c)
    (fun k s hk hs => by
      obtain ⟨u, v⟩ := s
      obtain ⟨hv1, hu⟩ := hs
      have hv1 : v = nI (256 - k) + (-1 : Int32) := hv1
      obtain ⟨S, hS1⟩ : ∃ S, S = 255 - k := ⟨_, rfl⟩
      have hS2 : 256 - k = S + 1 := by omega
      have hS3 : S < 256 := by omega
      have pr : ∀ a : Nat, nI (a + 1) + (-1 : Int32) = nI a := fun a => by rw [← nI_add, Int32.add_assoc]; show nI a + ((1 : Int32) + -1) = _; rw [show (1 : Int32) + -1 = 0 by decide, Int32.add_zero]
      rw [hS2, pr] at hv1
      subst hv1
      have nxt : 256 - (k + 1) = S := by omega
      have wS := wle S
      have pS := pc_le S
      rw [hS2] at hu
      have hu : (u = -1 ∧ ∀ S', S + 1 ≤ S' → S' < 2 ^ N → wsm t S' 256 = 0) ∨ ∃ b, u = nI b ∧ b < 2 ^ N ∧ S + 1 ≤ b ∧ 0 < wsm t b 256 ∧ ∀ S', S + 1 ≤ S' → S' < 2 ^ N → 0 < wsm t S' 256 → pc b ≤ pc S' ∧ (pc b = pc S' → b ≤ S') := hu
      rw [nxt]
      have pre : ∀ z, (if 2 ^ N ≤ S then some (.inl ((u, nI S + (-1 : Int32)))) else (if wsm t S 256 = 0 then some (.inl ((u, nI S + (-1 : Int32)))) else (if u < (0 : Int32) then some (.inl ((nI S, nI S + (-1 : Int32)))) else jcl (f_X12_bitsOf u) (fun v48 => (if v48 < nI (pc S) then some (.inl ((u, nI S + (-1 : Int32)))) else some (.inl ((nI S, nI S + (-1 : Int32))))))))) = z → f_X12_mends_L76 201 e' u (nI S) = z := fun z hz => by
        unfold f_X12_mends_L76
        rw [if_neg (show ¬ nI S < (0 : Int32) from nI_nlt (b := 0) (Nat.zero_le _) (by omega))]
        show jrd (e'.1 204) _ _ _ = _
        rw [jlit 28, jrd_n (by omega) (by decide), en, sn, jcl_e (r_without hS3 k2), jcl_e (r_bits (by omega)), ← hz]
        by_cases c1 : 2 ^ N ≤ S
        · rw [if_pos c1, if_pos (nI_le c1 (by omega))]
        · rw [if_neg c1, if_neg (nI_ge (show S < 2 ^ N by omega) (by omega))]
          by_cases c2 : wsm t S 256 = 0
          · rw [if_pos c2, c2, if_pos (by decide)]
          · rw [if_neg c2, if_neg (nI_nle (by omega) (by omega))]
      by_cases c1 : 2 ^ N ≤ S
      · rw [if_pos c1] at pre
        refine ⟨_, pre _ rfl, rfl, ?_⟩
        rcases hu with ⟨u1, u2⟩ | ⟨b, u1, u2, u3, -⟩
        · exact Or.inl ⟨u1, fun S' h1 h2 => by omega⟩
        · omega
      · rw [if_neg c1] at pre
        by_cases c2 : wsm t S 256 = 0
        · rw [if_pos c2] at pre
          refine ⟨_, pre _ rfl, rfl, ?_⟩
          rcases hu with ⟨u1, u2⟩ | ⟨b, u1, u2, u3, u4, u5⟩
          · refine Or.inl ⟨u1, fun S' h1 h2 => ?_⟩
            by_cases z : S' = S
            · rw [z]; exact c2
            · exact u2 S' (by omega) h2
          · refine Or.inr ⟨b, u1, u2, by omega, u4, fun S' h1 h2 h3 => ?_⟩
            by_cases z : S' = S
            · rw [z] at h3; omega
            · exact u5 S' (by omega) h2 h3
        · rw [if_neg c2] at pre
          rcases hu with ⟨u1, u2⟩ | ⟨b, u1, u2, u3, u4, u5⟩
          · subst u1
            rw [if_pos (by decide)] at pre
            refine ⟨_, pre _ rfl, rfl, Or.inr ⟨S, rfl, by omega, Nat.le_refl _, by omega, fun S' h1 h2 h3 => ?_⟩⟩
            by_cases z : S' = S
            · rw [z]; exact ⟨Nat.le_refl _, fun _ => Nat.le_refl _⟩
            · rw [u2 S' (by omega) h2] at h3; omega
          · subst u1
            have pb := pc_le b
            rw [if_neg (show ¬ nI b < (0 : Int32) from nI_nlt (b := 0) (Nat.zero_le _) (by omega)), jcl_e (r_bits (show b < 2 ^ 31 by omega))] at pre
            by_cases d : pc b < pc S
            · rw [if_pos (nI_lt d (by omega))] at pre
              refine ⟨_, pre _ rfl, rfl, Or.inr ⟨b, rfl, u2, by omega, u4, fun S' h1 h2 h3 => ?_⟩⟩
              by_cases z : S' = S
              · rw [z]; exact ⟨by omega, fun q => by omega⟩
              · exact u5 S' (by omega) h2 h3
            · rw [if_neg (nI_nlt (show pc S ≤ pc b by omega) (by omega))] at pre
              refine ⟨_, pre _ rfl, rfl, Or.inr ⟨S, rfl, by omega, Nat.le_refl _, by omega, fun S' h1 h2 h3 => ?_⟩⟩
              by_cases z : S' = S
              · rw [z]; exact ⟨Nat.le_refl _, fun _ => Nat.le_refl _⟩
              · have := u5 S' (by omega) h2 h3
                exact ⟨by omega, fun q => by omega⟩)
    (fun s hs => by
      obtain ⟨u, v⟩ := s
      obtain ⟨hv1, hu⟩ := hs
      have hv1 : v = nI (256 - 256) + (-1 : Int32) := hv1
      subst hv1
      refine ⟨u, ?_, ?_⟩
      · dsimp only
        unfold f_X12_mends_L76
        rw [if_pos (by decide)]
      · rcases hu with ⟨u1, u2⟩ | ⟨b, u1, u2, u3, u4, u5⟩
        · have := u2 c (by omega) hcl
          have w : 0 < wsm t c 256 := wsm_pos.mpr ⟨c, by omega, dif_self c, hcm.1⟩
          omega
        · have u1 : u = nI b := u1
          rw [u1, isMn_eq (rmn_mn hN8 l2 u2 u4 (fun S h1 h2 => u5 S (by omega) h1 h2)) hcm])
    (i := 0) (n := jfu) (s := ((-1 : Int32), (255 : Int32))) (by omega) ⟨by decide, Or.inl ⟨rfl, fun S h1 h2 => by omega⟩⟩ (jfu_lt (by omega))
  have hbr : f_X12_bitsOf (nI c) = some (nI (pc c)) := r_bits (by omega)
  obtain ⟨m5, u1, u2, u3, u4⟩ := r_enters (r_told0 e') (by show 0 < 40; omega) (nI (pc c)).toInt64
  have Q : Q9 e' m5 := Q9.told.tr (Q9.ent u3 u4)
  have k5 : TY 219 256 t m5 := fun i hi => by rw [(u3 219 (by decide)).1, jsi_ne (by decide)]; exact k2 i hi
  obtain ⟨m6, v1, v2, v3, v4⟩ := r_enters u2 (by show 1 < 40; omega) (nI (wsm t c 256)).toInt64
  have Q2 : Q9 e' m6 := Q.tr (Q9.ent v3 v4)
  refine ⟨nI c, m3, m6, ?_, ?_, rel_row h hv hS2 F (Q2.rm hMe) ((((RC.thr (by decide)).tr (RCr216 t3)).tr fr).r.tr Q2.rc) f2 v2 (by show 2 ≤ 22; omega)⟩
  · unfold f_X11_mends
    rw [jcl_e (show f_J7_fill_53178 (0 + 187) (0 : Int32) μ = some m0 from z1), jcl_e (show f_X10_begin (0 + 167) (0 : Int32) m0 = some m1 from a1), jcl_e he, ea, jbd_e, jcl_e q1, q2, jcl_e q3, q4, c_bits c (by omega), jcl_e (show f_X3_only (0 + 3) _ e = some m2 from d1), jcl_e (show f_X3_tell (0 + 3) _ m2 = some m3 from f1)]
  · unfold f_X12_mends
    rw [jbd_e, jcl_e t1, jcl_e y1, jcl_e he', jcl_e q5, q6, jbd_e, jcl_e hbr, jcl_e u1, jcl_e (r_without (by omega) k5), jcl_e v1]
