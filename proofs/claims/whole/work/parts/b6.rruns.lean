/-! run: the reference reads all -/
theorem rd_nob {n p t : Nat} {s : Nat → Nat} {rA : Nat → jM → Option (Int32 × jM)} {m : jM} (h : RP n s p m) (hp : p < n) (h7 : m.1 201 7 = nI t) (hb : bo (s p) = false ∨ t = 4) : fb_X12_readsBlock rA 201 m = some (0, m) := by
  unfold fb_X12_readsBlock
  rw [h7]
  by_cases c : nI t = (4 : Int32)
  · rw [if_pos c]
  · rw [if_neg c]
    have hb : bo (s p) = false := by
      rcases hb with z | z
      · exact z
      · exact absurd (by rw [z]; rfl) c
    rcases r_takesOf (ch := opS) st_25.1 st_25.2.1 (by omega) st_25.2.2 h with ⟨i, i1, i2, i3, -, i5⟩ | ⟨g, e⟩
    · have := (opS_b i i1).1
      rw [i3, hb] at this
      cases this
    · rw [jcl2_e e, if_neg (by decide)]
theorem rd_run {n : Nat} {s : Nat → Nat} : ∀ d E, 1 ≤ d → d ≤ E → RdOK n s d (f_X12_readsRun E 201) := by
  intro d
  induction d with
  | zero => intro E h; omega
  | succ d ih =>
    intro E _ hE
    obtain ⟨E, rfl⟩ : ∃ f, E = f + 1 := ⟨E - 1, by omega⟩
    intro p ln st m h hl hln h7 hst ho
    have n80 := h.1
    have B := fun P => bd_rn n s P d
    obtain ⟨e, he, hr⟩ := jlp (step := fun (z : jM) => f_X12_readsRun_L0 201 (f_X12_readsRun E) z)
      (fun w => ∃ p1 l1 k, RP n s p1 w ∧ w.1 201 24 = nI l1 ∧ p ≤ p1 ∧ ln ≤ l1 ∧ l1 ≤ 2 * p1 ∧ w.1 201 7 = nI st.length ∧ SqR (ItR n s (PR w) (RnR n s (PR w) d)) k p p1 ln l1 ∧ sc n s p st = sc n s p1 st ∧ RdF ln m w)
      (fun w => 200 - (w.1 201 5).toNatClampNeg)
      (fun e => (∃ w q, e = .inl w ∧ RP n s q w ∧ p ≤ q ∧ RdF ln m w ∧ sc n s p st = some q) ∨ (∃ w q l' k, e = .inr w ∧ RP n s q w ∧ p ≤ q ∧ RdF ln m w ∧ w.1 201 24 = nI l' ∧ ln ≤ l' ∧ l' ≤ 2 * q ∧ w.1 201 7 = nI st.length ∧ (q = n ∨ (0 < st.length ∧ (s q = 124 ∨ bc (s q) = true))) ∧ SqR (ItR n s (PR w) (RnR n s (PR w) d)) k p q ln l' ∧ sc n s p st = sc n s q st))
      (fun w hw => by
        obtain ⟨p1, l1, k, g1, g2, g3, g4, g5, g6, g7, g8, g9⟩ := hw
        have p1n := g1.2.1
        have e5 := g1.2.2.2.1
        have bs := bd_sq (bd_it (s := s) (P := PR w) (B (PR w))) k _ _ _ _ g7 (by have := h.2.1; omega)
        have dec : ∀ (w' : jM) (q : Nat), w'.1 201 5 = nI q → p1 < q → q ≤ n → 200 - (w'.1 201 5).toNatClampNeg < 200 - (w.1 201 5).toNatClampNeg := fun w' q a b c => by
          rw [a, e5, nI_clamp (by omega), nI_clamp (by omega)]; omega
        have mv : ∀ w' : jM, (∀ i, i < l1 → PR w' i = PR w i) → SqR (ItR n s (PR w') (RnR n s (PR w') d)) k p p1 ln l1 := fun w' hP => fm_sq (bd_it (B (PR w))) (fm_it (B (PR w)) (fm_rn n s (PR w) (PR w') d)) k _ _ _ _ g7 (by have := h.2.1; omega) (fun i _ hi => hP i hi)
        by_cases en : p1 = n ∨ (0 < st.length ∧ (s p1 = 124 ∨ bc (s p1) = true))
        · refine ⟨.inr (.inr w), ?_, Or.inr ⟨w, p1, l1, k, rfl, g1, g3, g9, g2, g4, g5, g6, en, g7, g8⟩⟩
          have ie := r_isEnd g1 g6 (by omega)
          rw [if_pos en] at ie
          unfold f_X12_readsRun_L0
          rw [jcl_e ie, if_neg (by decide)]
        · have lt : p1 < n := by
            rcases Nat.lt_or_ge p1 n with z | z
            · exact z
            · exact absurd (Or.inl (by omega)) en
          by_cases c5 : cl n s p1 < 5
          · obtain ⟨r, w', a1, a2⟩ := rd_act (rA := f_X12_readsRun E) g1 g2 (by omega) g6 (by omega) en c5
            obtain ⟨f, f7, a3⟩ := a1
            have no : ¬ (bo (s p1) = true ∨ bc (s p1) = true ∨ s p1 = 124) := fun z => by
              have := clb_12 _ z
              rw [cl_b lt] at c5
              omega
            have b1 : bo (s p1) = false := by
              cases z : bo (s p1) with
              | false => rfl
              | true => exact absurd (Or.inl z) no
            have b2 : ¬ (s p1 = 124 ∨ bc (s p1) = true) := fun z => no (by rcases z with z | z; exact Or.inr (Or.inr z); exact Or.inr (Or.inl z))
            have rb := ra_b (s := s) p1n
            rcases a3 with ⟨q, h1, rfl, h2, h3, h4, h5, h6, h8⟩ | ⟨h1, rfl, h2⟩
            · have adv := ra_adv h1
              rw [if_neg (by decide)] at a2
              refine ⟨.inl w', a2, ⟨(ra n s p1).1, l1 + 1, k + 1, h2, h3, by omega, by omega, by omega, by rw [f7]; exact g6, ?_, ?_, g9.tr (f.le g4)⟩, dec w' _ h2.2.2.2.1 adv rb.2.1⟩
              · exact sq_app (mv w' f.2.2) (Or.inl ⟨q, lt, b1, b2, h1, rfl, rfl, h4, h5, h6, h8⟩)
              · rw [g8, sc_act lt b1 b2 h1]
            · rw [if_pos rfl] at a2
              exact ⟨.inr (.inl w'), a2, Or.inl ⟨w', _, rfl, h2, by omega, g9.tr (f.le g4), by rw [g8, sc_bad lt b1 b2 h1]⟩⟩
          · have ro := rd_oth (rA := f_X12_readsRun E) g1 g6 (by omega) en (by omega)
            obtain ⟨w0, hw0⟩ : ∃ w0, w0 = jsi w 201 5 (nI p1) := ⟨_, rfl⟩
            rw [← hw0] at ro
            have r0 : RP n s p1 w0 := by rw [hw0]; exact g1.at p1n rfl
            have l0 : w0.1 201 24 = nI l1 := by rw [hw0, a24.1]; exact g2
            have s0 : w0.1 201 7 = nI st.length := by rw [hw0, a24.2]; exact g6
            have f0 : RdF l1 w w0 := by rw [hw0]; exact RdF.at (Or.inl rfl)
            have P0 : PR w0 = PR w := by rw [hw0, pr_201]
            have bad : (bo (s p1) = false ∨ st.length = 4) → sc n s p1 st = some p1 → ∃ o, f_X12_readsRun_L0 201 (f_X12_readsRun E) w = some o ∧ jok (fun s' => (∃ p1 l1 k, RP n s p1 s' ∧ s'.1 201 24 = nI l1 ∧ p ≤ p1 ∧ ln ≤ l1 ∧ l1 ≤ 2 * p1 ∧ s'.1 201 7 = nI st.length ∧ SqR (ItR n s (PR s') (RnR n s (PR s') d)) k p p1 ln l1 ∧ sc n s p st = sc n s p1 st ∧ RdF ln m s') ∧ 200 - (s'.1 201 5).toNatClampNeg < 200 - (w.1 201 5).toNatClampNeg) (fun e => (∃ w q, e = .inl w ∧ RP n s q w ∧ p ≤ q ∧ RdF ln m w ∧ sc n s p st = some q) ∨ (∃ w q l' k, e = .inr w ∧ RP n s q w ∧ p ≤ q ∧ RdF ln m w ∧ w.1 201 24 = nI l' ∧ ln ≤ l' ∧ l' ≤ 2 * q ∧ w.1 201 7 = nI st.length ∧ (q = n ∨ (0 < st.length ∧ (s q = 124 ∨ bc (s q) = true))) ∧ SqR (ItR n s (PR w) (RnR n s (PR w) d)) k p q ln l' ∧ sc n s p st = sc n s q st)) o := fun hb hs => by
              refine ⟨.inr (.inl w0), ?_, Or.inl ⟨w0, p1, rfl, r0, g3, g9.tr (f0.le g4), g8.trans hs⟩⟩
              rw [ro, jcl2_e (rd_nob r0 lt s0 hb), if_pos rfl]
            cases b : bo (s p1) with
            | true =>
              by_cases s4 : st.length < 4
              · obtain ⟨ok, w', q, l', k1, k2, k3, k4, k5, k6⟩ := rd_block (d := d) (rA := f_X12_readsRun E) (ih E (by omega) (by omega)) (by omega) s4 ho r0 l0 (by omega) s0 lt b
                rw [jcl2_e k1] at ro
                cases ok with
                | true =>
                  obtain ⟨t1, t2, t3, t4, t5, t6, t7⟩ := k5 rfl
                  refine ⟨.inl w', ro.trans (if_neg (by decide)), ⟨q, l', k + 1, k2, t1, by omega, by omega, t3, t4, ?_, g8.trans t7, g9.tr ((f0.tr k4).le g4)⟩, dec w' q k2.2.2.2.1 t6 k2.2.1⟩
                  exact sq_app (mv w' (fun i hi => (k4.2.2 i hi).trans (by rw [P0]))) (Or.inr t5)
                | false =>
                  exact ⟨.inr (.inl w'), ro.trans (if_pos rfl), Or.inl ⟨w', q, rfl, k2, by omega, g9.tr ((f0.tr k4).le g4), g8.trans (k6 rfl)⟩⟩
              · exact bad (Or.inr (by omega)) (sc_full lt b s4)
            | false =>
              refine bad (Or.inl b) ?_
              by_cases d2 : s p1 = 124 ∨ bc (s p1) = true
              · have : st = [] := by
                  rcases Nat.eq_zero_or_pos st.length with z | z
                  · exact List.eq_nil_of_length_eq_zero z
                  · exact absurd (Or.inr ⟨z, d2⟩) en
                rw [this]
                exact sc_nil lt d2
              · have e3 := c3_5 (show 5 ≤ cl n s p1 by omega)
                have hn : (ra n s p1).2 = none := by show (c3 n s p1).2 = none; rw [e3]
                rw [sc_bad lt b d2 hn]
                show some (p1 + (c3 n s p1).1) = _
                rw [e3]
                rfl)
      jfu m ⟨p, ln, 0, h, hl, Nat.le_refl _, Nat.le_refl _, hln, h7, ⟨rfl, rfl⟩, rfl, RdF.rf⟩ (by show 200 - _ < 2000000; omega)
    have pre : ∀ o, (fun (e : jM ⊕ jM) => match e with | .inl w55 => some (((0 : Int32), w55)) | .inr w55 => some (((1 : Int32), w55))) e = o → f_X12_readsRun (E + 1) 201 m = o := fun o hO => by
      show fb_X12_readsRun (f_X12_readsRun E) 201 m = o
      unfold fb_X12_readsRun
      rw [jcl_e he]
      exact hO
    rcases hr with ⟨w, q, rfl, g1, g2, g3, g4⟩ | ⟨w, q, l', k, rfl, g1, g2, g3, g4, g5, g6, g7, g8, g9, g10⟩
    · exact ⟨false, w, q, 0, pre _ rfl, g1, g2, g3, fun z => by (cases z), fun _ => g4⟩
    · exact ⟨true, w, q, l', pre _ rfl, g1, g2, g3, fun _ => ⟨g4, g5, g6, g7, g8, ⟨k, g9⟩, g10⟩, fun z => by (cases z)⟩
/-- behind the reading -/
def rtail (m8 : jM) : Option (Int32 × jM) := jcl (f_X12_saves 201 (13 : Int32) m8) (fun m11 => jbd (jsi m11 201 25 (0 : Int32)) (fun m13 => jcl2 (f_X12_does 8 201 (0 : Int32) (m13.1 201 24) m13) (fun v15 m16 => (if v15 < (0 : Int32) then jbd (jsi m16 201 1 (0 : Int32)) (fun m19 => jcl (f_X12_othersMany 201 (13 : Int32) (0 : Int32) m19) (fun v21 => jcl (f_X12_enters 201 v21.toInt64 m19) (fun m23 => some ((m23.1 201 25, m23))))) else jcl (f_X12_restores 201 (13 : Int32) m16) (fun m25 => jrd (m25.1 214) v15 168 (fun v28 => some (((-100 : Int32) - v28, m25))))))))
theorem r_run {n : Nat} {s : Nat → Nat} {m : jM} (h4 : m.1 201 4 = nI n) (hn : n ≤ 80) (h3 : ∀ i, i < 80 → m.1 203 i = nI (s i) ∧ s i < 256) : ∃ w, jFr (fun c => c = 201 ∨ (211 ≤ c ∧ c ≤ 215)) m w ∧ (∀ k, k ≠ 0 → k ≠ 4 → k ≠ 5 → k ≠ 6 → k ≠ 7 → k ≠ 24 → w.1 201 k = m.1 201 k) ∧ w.1 201 4 = 0 ∧ ((∃ q, q ≤ n ∧ sc n s 0 [] = some q ∧ f_X12_run 201 m = some (-1 - nI q, w)) ∨ (∃ l', sc n s 0 [] = none ∧ l' ≤ 160 ∧ RnR n s (PR w) 5 0 n 0 l' ∧ w.1 201 24 = nI l' ∧ f_X12_run 201 m = rtail w)) := by
  obtain ⟨m5, hm5⟩ : ∃ m5, m5 = jsi (jsi (jsi (jsi (jsi (jsi m 201 0 0) 201 6 (nI n)) 201 4 0) 201 5 0) 201 7 0) 201 24 0 := ⟨_, rfl⟩
  have hm : jsi (f_X12_reads 201 (jsi m 201 0 0)) 201 24 (0 : Int32) = m5 := by
    unfold f_X12_reads
    simp only [jbd_e]
    rw [show (jsi m 201 0 0).1 201 4 = nI n by rw [jsi_pl (by decide)]; exact h4]
    exact hm5.symm
  have f5 : jFr (fun c => c = 201 ∨ (211 ≤ c ∧ c ≤ 215)) m m5 := by
    rw [hm5]
    exact (((((jFr.si _ _ _ (Or.inl rfl)).tr (jFr.si _ _ _ (Or.inl rfl))).tr (jFr.si _ _ _ (Or.inl rfl))).tr (jFr.si _ _ _ (Or.inl rfl))).tr (jFr.si _ _ _ (Or.inl rfl))).tr (jFr.si _ _ _ (Or.inl rfl))
  have g5 : ∀ k, k ≠ 0 → k ≠ 4 → k ≠ 5 → k ≠ 6 → k ≠ 7 → k ≠ 24 → m5.1 201 k = m.1 201 k := fun k a b c d e f => by
    rw [hm5, jsi_pl f, jsi_pl e, jsi_pl c, jsi_pl b, jsi_pl d, jsi_pl a]
  have t5 : m5.1 201 4 = 0 := by rw [hm5, jsi_pl (by decide), jsi_pl (by decide), jsi_pl (by decide), jsi_at]
  have u5 : RP n s 0 m5 := by
    refine ⟨hn, Nat.zero_le _, ?_, ?_, fun i hi => ?_⟩
    · rw [hm5, jsi_pl (by decide), jsi_pl (by decide), jsi_pl (by decide), jsi_pl (by decide), jsi_at]
    · rw [hm5, jsi_pl (by decide), jsi_pl (by decide), jsi_at]; rfl
    · rw [(f5 203 (by decide)).1]; exact h3 i hi
  have l5 : m5.1 201 24 = nI 0 := by rw [hm5, jsi_at]; rfl
  have s5 : m5.1 201 7 = nI ([] : List Nat).length := by rw [hm5, jsi_pl (by decide), jsi_at]; rfl
  obtain ⟨ok, w, q, l', r1, r2, r3, r4, r5, r6⟩ := rd_run (n := n) (s := s) 5 8 (by decide) (by decide) 0 0 [] m5 u5 l5 (by omega) s5 rfl (fun o hO => absurd hO (List.not_mem_nil))
  refine ⟨w, f5.tr r4.1, fun k a b c d e f => (r4.2.1 k c e f).trans (g5 k a b c d e f), (r4.2.1 4 (by decide) (by decide) (by decide)).trans t5, ?_⟩
  have pre : ∀ o, (if (if ok then (1 : Int32) else 0) = (0 : Int32) then some (((-1 : Int32) - (w.1 201 5), w)) else rtail w) = o → f_X12_run 201 m = o := fun o hO => by
    unfold f_X12_run
    simp only [jbd_e]
    rw [hm, jcl2_e r1]
    exact hO
  cases ok with
  | false =>
    refine Or.inl ⟨q, r2.2.1, r6 rfl, pre _ ?_⟩
    rw [if_pos (show (if false = true then (1 : Int32) else 0) = 0 from rfl), r2.2.2.2.1]
  | true =>
    obtain ⟨t1, t2, t3, t4, t5', t6, t7⟩ := r5 rfl
    have qn : q = n := by
      rcases t5' with z | z
      · exact z
      · exact absurd z.1 (by decide)
    subst qn
    refine Or.inr ⟨l', ?_, by omega, t6, t1, pre _ ?_⟩
    · rw [t7, sc_end, if_pos rfl]
    · rw [if_neg (show ¬ (if true = true then (1 : Int32) else 0) = 0 by decide)]
