/-! run: the reference reads a run -/
theorem rd_block {n d p ln : Nat} {s : Nat → Nat} {st : List Nat} {rA : Nat → jM → Option (Int32 × jM)} {m : jM} (hd : RdOK n s d (rA 201)) (hst : st.length + 1 + d = 5) (h4 : st.length < 4) (ho : ∀ o ∈ st, bo o = true)
    (h : RP n s p m) (hl : m.1 201 24 = nI ln) (hln : ln ≤ 2 * p) (h7 : m.1 201 7 = nI st.length) (hp : p < n) (hb : bo (s p) = true) :
    ∃ (ok : Bool) (w : jM) (q ln' : Nat), fb_X12_readsBlock rA 201 m = some ((if ok then (1 : Int32) else 0), w) ∧ RP n s q w ∧ p ≤ q ∧ RdF ln m w ∧
    (ok = true → w.1 201 24 = nI ln' ∧ ln ≤ ln' ∧ ln' ≤ 2 * q ∧ w.1 201 7 = nI st.length ∧ ItB n s (PR w) (RnR n s (PR w) d) p q ln ln' ∧ p < q ∧ sc n s p st = sc n s q st) ∧ (ok = false → sc n s p st = some q) := by
  have n80 := h.1
  have z01 : (0 : Int32) &&& 1 = 0 := by decide
  have z11 : (1 : Int32) &&& 1 = 1 := by decide
  obtain ⟨so, hso, es⟩ : ∃ so, so < 3 ∧ s p = opS so := by
    have := (bo_i hb).1
    simp only [List.mem_cons, List.mem_nil_iff, or_false] at this
    rcases this with z | z | z
    · exact ⟨0, by decide, z⟩
    · exact ⟨1, by decide, z⟩
    · exact ⟨2, by decide, z⟩
  have tk : f_X12_takesOf 201 25 m = some (nI so, jsi m 201 5 (nI (p + 1))) := by
    rcases r_takesOf (ch := opS) st_25.1 st_25.2.1 (by omega) st_25.2.2 h with ⟨i, i1, i2, i3, -, i5⟩ | ⟨g, -⟩
    · have : i = so := by
        rw [es] at i3
        have a : i = 0 ∨ i = 1 ∨ i = 2 := by omega
        have b : so = 0 ∨ so = 1 ∨ so = 2 := by omega
        rcases a with rfl | rfl | rfl <;> rcases b with rfl | rfl | rfl <;> first | rfl | (exact absurd i3 (by decide))
      rw [← this]; exact i5
    · exact absurd es.symm (g hp so hso)
  obtain ⟨m6, hm6⟩ : ∃ m6, m6 = jsi (jsi m 201 5 (nI (p + 1))) 201 7 (nI (st.length + 1)) := ⟨_, rfl⟩
  have r6 : RP n s (p + 1) m6 := by rw [hm6]; exact (h.at hp rfl).nst
  have l6 : m6.1 201 24 = nI ln := by rw [hm6, jsi_pl (by decide), a24.1]; exact hl
  have s6 : m6.1 201 7 = nI (st.length + 1) := by rw [hm6, jsi_at]
  have f6 : RdF ln m m6 := by rw [hm6]; exact (RdF.at (Or.inl rfl)).tr (RdF.at (Or.inr (Or.inl rfl)))
  obtain ⟨m9, c1, c2, c3', c4, c5, c6, c7, c8, c9⟩ := r_comes r6 l6 (show ln < 168 by omega) ((20 : Int32) + nI so) 0 0 (nI p)
  have f9 : RdF ln m m9 := f6.tr c8
  obtain ⟨e, e1, e2⟩ := rd_in (lb := ln) hd hso hst ho (Nat.lt_succ_self ln) c2 c3' (by omega) (by rw [c9]; exact s6)
  have pre : ∀ o, (fun (e : jM ⊕ jM) => match e with | .inl w29 => some (((0 : Int32), w29)) | .inr w29 => jin (nI ln) 168 (jbd (jsi w29 (201 + 14) (nI ln).toNatClampNeg (w29.1 201 24)) (fun m35 => jbd (jsi m35 201 7 ((m35.1 201 7) - (1 : Int32))) (fun m37 => (if nI so = (0 : Int32) then jcl2 (f_X12_takes 201 (41 : Int32) m37) (fun v47 m48 => some ((v47 &&& 1, m48))) else (if nI so = (1 : Int32) then jcl2 (f_X12_takes 201 (93 : Int32) m37) (fun v44 m45 => some ((v44 &&& 1, m45))) else jcl2 (f_X12_takes 201 (125 : Int32) m37) (fun v41 m42 => some ((v41 &&& 1, m42))))))))) e = o → fb_X12_readsBlock rA 201 m = o := fun o hO => by
    unfold fb_X12_readsBlock
    rw [h7, if_neg (show ¬ nI st.length = (4 : Int32) from fun z => by have := (nI_eq (b := 4) (by omega) (by decide)).mp z; omega), jcl2_e tk, if_pos (nI_pos' (by omega)), a24.2, h7, nI_1, ← hm6, jbd_e, h.2.2.2.1, jcl2_e c1, jcl_e e1]
    exact hO
  have sc0 : sc n s p st = sc n s (p + 1) (opS so :: st) := by rw [sc_open hp hb h4, es]
  rcases e2 with ⟨w, q, rfl, g1, g2, g3, g4⟩ | ⟨w, k, p1, l1, q1, l', rfl, g1, g2, g3, g4, g5, g6, g7, g8, g9, g10, g11, g12, g13, g14, g15⟩
  · exact ⟨false, w, q, 0, pre _ rfl, g1, by omega, f9.tr (g3.le (by omega)), fun z => by (cases z), fun _ => sc0.trans g4⟩
  · have br := bd_rn n s (PR w) d _ _ _ _ g11 g14
    obtain ⟨m37, hm37⟩ : ∃ m37, m37 = jsi (jsi w 215 ln (nI l')) 201 7 (nI st.length) := ⟨_, rfl⟩
    have r37 : RP n s q1 m37 := by rw [hm37]; exact g1.stp.nst
    have f37 : RdF ln m m37 := by rw [hm37]; exact ((f9.tr (g2.le (by omega))).tr (RdF.stp (Nat.le_refl _))).tr (RdF.at (Or.inr (Or.inl rfl)))
    have l37 : m37.1 201 24 = nI l' := by rw [hm37, jsi_pl (by decide), jsi_ne (by decide)]; exact g3
    have s37 : m37.1 201 7 = nI st.length := by rw [hm37, jsi_at]
    have pr37 : PR m37 = PR (jsi w 215 ln (nI l')) := by rw [hm37, pr_201]
    have P1 : ∀ i, i ≠ ln → PR m37 i = PR w i := fun i hi => by rw [pr37]; exact pr_st.1 i hi
    have P2 : PR m37 ln = ((PR w ln).1, (PR w ln).2.1, (PR w ln).2.2.1, (PR w ln).2.2.2.1, nI l') := by rw [pr37]; exact pr_st.2
    have P3 : PR w ln = PR m9 ln := g2.2.2 ln (Nat.lt_succ_self ln)
    have cs : ∀ c, c = clS so → (if nI so = (0 : Int32) then jcl2 (f_X12_takes 201 (41 : Int32) m37) (fun v47 m48 => some ((v47 &&& 1, m48))) else (if nI so = (1 : Int32) then jcl2 (f_X12_takes 201 (93 : Int32) m37) (fun v44 m45 => some ((v44 &&& 1, m45))) else jcl2 (f_X12_takes 201 (125 : Int32) m37) (fun v41 m42 => some ((v41 &&& 1, m42))))) = jcl2 (f_X12_takes 201 (nI c) m37) (fun v m => some (v &&& 1, m)) := fun c hc => by
      have b : so = 0 ∨ so = 1 ∨ so = 2 := by omega
      rcases b with rfl | rfl | rfl
      · rw [if_pos (by decide), hc]; rfl
      · rw [if_neg (by decide), if_pos (by decide), hc]; rfl
      · rw [if_neg (by decide), if_neg (by decide), hc]; rfl
    have pre2 : ∀ o, jcl2 (f_X12_takes 201 (nI (clS so)) m37) (fun v m => some (v &&& 1, m)) = o → fb_X12_readsBlock rA 201 m = o := fun o hO => by
      apply pre
      dsimp only
      rw [jin_n (show ln < 168 by omega) (by decide), nI_clamp (by omega), jbd_e, g3]
      show jbd (jsi (jsi w 215 ln (nI l')) 201 7 ((jsi w 215 ln (nI l')).1 201 7 - 1)) _ = _
      rw [jsi_ne (show (201 : Nat) ≠ 215 by decide), g7, jlit 1, pk_sub (by omega), Nat.add_sub_cancel, ← hm37, jbd_e]
      exact (cs _ rfl).trans hO
    have c256 : clS so < 256 := by
      have b : so = 0 ∨ so = 1 ∨ so = 2 := by omega
      rcases b with rfl | rfl | rfl <;> decide
    obtain ⟨v, y1, y2⟩ := r_takes r37 c256
    by_cases cc : q1 < n ∧ s q1 = clS so
    · rw [if_pos cc] at y1 y2
      rw [jcl2_e y1, z11] at pre2
      obtain ⟨b1, b2, b3⟩ := clS_b so hso
      refine ⟨true, jsi m37 201 5 v, q1 + 1, l', pre2 _ rfl, r37.at cc.1 y2, by omega, f37.tr (RdF.at (Or.inl rfl)), fun _ => ⟨by rw [a24.1]; exact l37, by omega, by omega, by rw [a24.2]; exact s37, ?_, by omega, ?_⟩, fun z => by (cases z)⟩
      · rw [pr_201]
        have B := bd_rn n s (PR w) d
        have I0 : InR n s (PR w) (RnR n s (PR w) d) so k (p + 1) (q1 + 1) (ln + 1) l' := in_of g10 ⟨q1, g11, g12, cc.1, cc.2, rfl⟩
        have I1 : InR n s (PR m37) (RnR n s (PR m37) d) so k (p + 1) (q1 + 1) (ln + 1) l' := fm_in B (fm_rn n s (PR w) (PR m37) d) so k _ _ _ _ I0 (by omega) (fun i a _ => P1 i (by omega))
        refine ⟨so, k, hso, hp, es, ?_, ?_, ?_, I1⟩
        · rw [P2, P3]
          show (PR m9 ln).1 = _
          rw [c4, jlit 20, nI_add]
        · rw [P2, P3]
          exact c7
        · rw [P2]
      · rw [sc0, g15, sc_in cc.1 (Or.inr (by rw [cc.2]; exact b1)) (by rw [cc.2]; exact bl_yes so hso), if_neg (by rw [cc.2]; exact b3)]
    · rw [if_neg cc] at y1 y2
      rw [jcl2_e y1, z01] at pre2
      refine ⟨false, jsi m37 201 5 v, q1, 0, pre2 _ rfl, r37.at r37.2.1 y2, by omega, f37.tr (RdF.at (Or.inl rfl)), fun z => by (cases z), fun _ => ?_⟩
      rw [sc0, g15]
      have q1n := g1.2.1
      by_cases eq : q1 = n
      · rw [eq, sc_end, if_neg (List.cons_ne_nil _ _)]
      · have lt : q1 < n := by omega
        have en : s q1 = 124 ∨ bc (s q1) = true := g8.elim (fun z => absurd z eq) id
        refine sc_out lt en (bl_no so hso _ ?_ (fun z => cc ⟨lt, z⟩) (fun z => g9 z lt))
        rcases en with z | z
        · rw [z]; decide
        · rcases bc_i z with y | y | y <;> (rw [y]; decide)
theorem r_isEnd {n p t : Nat} {s : Nat → Nat} {m : jM} (h : RP n s p m) (h7 : m.1 201 7 = nI t) (ht : t < 100) : f_X12_isEnd 201 m = some (if p = n ∨ (0 < t ∧ (s p = 124 ∨ bc (s p) = true)) then 1 else 0) := by
  have n80 := h.1
  have hp := h.2.1
  unfold f_X12_isEnd
  rw [h.2.2.2.1, h.2.2.1, h7]
  by_cases c : p = n
  · rw [if_pos (by rw [c]), if_pos (Or.inl c)]
  · rw [if_neg (fun z => c ((nI_eq (by omega) (by omega)).mp z))]
    by_cases c2 : 0 < t
    · obtain ⟨g1, g2⟩ := h.2.2.2.2 p (by omega)
      have q : ∀ b : Nat, b < 256 → (nI (s p) = nI b ↔ s p = b) := fun b hb => nI_eq (by omega) (by omega)
      rw [if_neg (nI_nle c2 (by omega))]
      show jrd (m.1 203) _ _ _ = _
      rw [jrd_n (by omega) (by decide), g1]
      by_cases c41 : s p = 41
      · rw [if_pos (show nI (s p) = (41 : Int32) from (q 41 (by omega)).mpr c41), if_pos (Or.inr ⟨c2, Or.inr (by rw [c41]; rfl)⟩)]
      · rw [if_neg (show ¬ nI (s p) = (41 : Int32) from fun z => c41 ((q 41 (by omega)).mp z))]
        show jrd (m.1 203) _ _ _ = _
        rw [jrd_n (by omega) (by decide), g1]
        by_cases c93 : s p = 93
        · rw [if_pos (show nI (s p) = (93 : Int32) from (q 93 (by omega)).mpr c93), if_pos (Or.inr ⟨c2, Or.inr (by rw [c93]; rfl)⟩)]
        · rw [if_neg (show ¬ nI (s p) = (93 : Int32) from fun z => c93 ((q 93 (by omega)).mp z))]
          show jrd (m.1 203) _ _ _ = _
          rw [jrd_n (by omega) (by decide), g1]
          by_cases c125 : s p = 125
          · rw [if_pos (show nI (s p) = (125 : Int32) from (q 125 (by omega)).mpr c125), if_pos (Or.inr ⟨c2, Or.inr (by rw [c125]; rfl)⟩)]
          · rw [if_neg (show ¬ nI (s p) = (125 : Int32) from fun z => c125 ((q 125 (by omega)).mp z))]
            show jrd (m.1 203) _ _ _ = _
            rw [jrd_n (by omega) (by decide), g1]
            by_cases c124 : s p = 124
            · rw [if_pos (show nI (s p) = (124 : Int32) from (q 124 (by omega)).mpr c124), if_pos (Or.inr ⟨c2, Or.inl c124⟩)]
            · rw [if_neg (show ¬ nI (s p) = (124 : Int32) from fun z => c124 ((q 124 (by omega)).mp z)), if_neg (fun z => by
                rcases z with z | ⟨-, z | z⟩
                · exact c z
                · exact c124 z
                · rcases bc_i z with y | y | y
                  · exact c41 y
                  · exact c93 y
                  · exact c125 y)]
    · rw [if_pos (show nI t ≤ (0 : Int32) by rw [show t = 0 by omega]; decide), if_neg (fun z => by
        rcases z with z | z
        · exact c z
        · exact c2 z.1)]
theorem c3_5 {n p : Nat} {s : Nat → Nat} (h : 5 ≤ cl n s p) : c3 n s p = (0, none) := by
  unfold c3 rac
  rw [if_neg (by omega), if_neg (by omega), if_neg (by omega), if_neg (by omega), if_neg (by omega)]
/-- one of a run: an act -/
theorem rd_act {n p ln t : Nat} {s : Nat → Nat} {rA : Nat → jM → Option (Int32 × jM)} {m : jM} (h : RP n s p m) (hl : m.1 201 24 = nI ln) (hln : ln < 168) (h7 : m.1 201 7 = nI t) (ht : t < 100) (hne : ¬ (p = n ∨ (0 < t ∧ (s p = 124 ∨ bc (s p) = true)))) (hc : cl n s p < 5) :
    ∃ r w, AR n s p ln m r w ∧ f_X12_readsRun_L0 201 rA m = some (if r = (0 : Int32) then .inr (.inl w) else .inl w) := by
  have m1 : (-1 : Int32) < 0 := by decide
  have ie := r_isEnd h h7 ht
  rw [if_neg hne] at ie
  have e5 := h.2.2.2.1
  have hp := cl_n (s := s) (n := n) (p := p) (by omega)
  have n80 := h.1
  unfold f_X12_readsRun_L0
  simp only [jbd_e]
  rw [jcl_e ie, if_pos rfl, e5]
  have AP : ∀ {m1 w r}, RdF ln m m1 → m1.1 201 7 = m.1 201 7 → AR n s p ln m1 r w → AR n s p ln m r w := fun f q a => ⟨f.tr a.1, a.2.1.trans q, a.2.2⟩
  have fin : ∀ (r : Int32) (w : jM), (if r = (0 : Int32) then (some (.inr (.inl w)) : Option ((jM) ⊕ ((jM) ⊕ (jM)))) else some (.inl w)) = some (if r = (0 : Int32) then .inr (.inl w) else .inl w) := fun r w => by
    by_cases c : r = 0
    · rw [if_pos c, if_pos c]
    · rw [if_neg c, if_neg c]
  rcases tk_cell h with ⟨a1, a2, a3, a4⟩ | ⟨a1, a4⟩
  · have a5 := cl_0 a1
    have u1 := h.at (q := p + 1) (v := nI (p + 1)) a2 rfl
    obtain ⟨r, w, b1, b2⟩ := rd_cell u1 (by rw [a24.1]; exact hl) hln a1
    refine ⟨r, w, AP (RdF.at (Or.inl rfl)) a24.2 b2, ?_⟩
    rw [jcl2_e a4, if_neg (nI_pos (by omega)), if_neg (nI_pos (by omega)), jcl2_e b1]
    exact fin r w
  · rw [jcl2_e a4, if_pos m1]
    rcases tk_var h with ⟨b1, b2, b3, b4⟩ | ⟨b1, b4⟩
    · have b5 := cl_1 b1
      have u1 := h.at (q := p + 1) (v := nI (p + 1)) b2 rfl
      obtain ⟨r, w, c1, c2⟩ := rd_var u1 (by rw [a24.1]; exact hl) hln b1
      refine ⟨r, w, AP (RdF.at (Or.inl rfl)) a24.2 c2, ?_⟩
      rw [jcl2_e b4, if_pos m1, if_neg (nI_pos (by omega)), jcl2_e c1]
      exact fin r w
    · rw [jcl2_e b4, if_pos m1, if_pos m1]
      rcases tk_one (c := 2) h (by decide) (by decide) (by decide) (by decide) with ⟨e1, e2, e3⟩ | ⟨e1, e3⟩
      · have u1 := h.at (q := p + 1) (v := nI (p + 1)) e2 rfl
        obtain ⟨r, w, c1, c2⟩ := rd_key u1 (by rw [a24.1]; exact hl) hln e1
        refine ⟨r, w, AP (RdF.at (Or.inl rfl)) a24.2 c2, ?_⟩
        rw [jcl2_e (show f_X12_takes 201 (107 : Int32) m = _ from e3), if_neg (by decide), jcl2_e c1]
        exact fin r w
      · have h1 := h.at (q := p) (v := nI p) h.2.1 rfl
        rw [jcl2_e (show f_X12_takes 201 (107 : Int32) m = _ from e3), if_pos rfl]
        rcases tk_one (c := 3) h1 (by decide) (by decide) (by decide) (by decide) with ⟨g1, g2, g3⟩ | ⟨g1, g3⟩
        · have u1 := h1.at (q := p + 1) (v := nI (p + 1)) g2 rfl
          obtain ⟨r, w, c1, c2⟩ := rd_ask u1 (by rw [a24.1, a24.1]; exact hl) hln g1
          refine ⟨r, w, AP ((RdF.at (Or.inl rfl)).tr (RdF.at (Or.inl rfl))) (by rw [a24.2, a24.2]) c2, ?_⟩
          rw [jcl2_e (show f_X12_takes 201 (63 : Int32) _ = _ from g3), if_neg (by decide), jcl2_e c1]
          exact fin r w
        · have h2 := h1.at (q := p) (v := nI p) h.2.1 rfl
          rw [jcl2_e (show f_X12_takes 201 (63 : Int32) _ = _ from g3), if_pos rfl]
          rcases tk_one (c := 4) h2 (by decide) (by decide) (by decide) (by decide) with ⟨k1, k2, k3⟩ | ⟨k1, k3⟩
          · have u1 := h2.at (q := p + 1) (v := nI (p + 1)) k2 rfl
            obtain ⟨w, d1, d2, d3, d4, d5, d6, d7, d8, d9⟩ := r_comes u1 (by rw [a24.1, a24.1, a24.1]; exact hl) hln (8 : Int32) 0 0 (nI p)
            have hc9 : c3 n s p = (1, some 9) := by
              unfold c3 rac
              rw [k1, if_neg (by decide), if_neg (by decide), if_neg (by decide), if_neg (by decide), if_pos rfl]
            refine ⟨1, w, ar_ok hc9 rfl d2 d3 ((RdF.at (Or.inl rfl)).tr ((RdF.at (Or.inl rfl)).tr (RdF.at (Or.inl rfl)))) (by rw [a24.2, a24.2, a24.2]) d8 d9 d4 d5 d6 d7 (by decide) rfl rfl, ?_⟩
            rw [jcl2_e (show f_X12_takes 201 (112 : Int32) _ = _ from k3), if_neg (by decide), jcl2_e d1]
            rfl
          · omega
theorem rd_oth {n p t : Nat} {s : Nat → Nat} {rA : Nat → jM → Option (Int32 × jM)} {m : jM} (h : RP n s p m) (h7 : m.1 201 7 = nI t) (ht : t < 100) (hne : ¬ (p = n ∨ (0 < t ∧ (s p = 124 ∨ bc (s p) = true)))) (hc : 5 ≤ cl n s p) :
    f_X12_readsRun_L0 201 rA m = jcl2 (fb_X12_readsBlock rA 201 (jsi m 201 5 (nI p))) (fun t13 m14 => (if t13 = (0 : Int32) then some (.inr (.inl m14)) else some (.inl m14))) := by
  have m1 : (-1 : Int32) < 0 := by decide
  have ie := r_isEnd h h7 ht
  rw [if_neg hne] at ie
  have h1 := h.at (q := p) (v := nI p) h.2.1 rfl
  have h2 := h1.at (q := p) (v := nI p) h.2.1 rfl
  have a4 : f_X12_takesOf 201 23 m = some (-1, m) := by
    rcases tk_cell h with ⟨a1, -⟩ | ⟨-, a4⟩
    · omega
    · exact a4
  have b4 : f_X12_takesOf 201 16 m = some (-1, m) := by
    rcases tk_var h with ⟨a1, -⟩ | ⟨-, a4⟩
    · omega
    · exact a4
  have k1 : f_X12_takes 201 (107 : Int32) m = some (0, jsi m 201 5 (nI p)) := by
    rcases tk_one (c := 2) h (by decide) (by decide) (by decide) (by decide) with ⟨e1, -⟩ | ⟨-, e3⟩
    · omega
    · exact e3
  have k2 : f_X12_takes 201 (63 : Int32) (jsi m 201 5 (nI p)) = some (0, jsi m 201 5 (nI p)) := by
    rcases tk_one (c := 3) h1 (by decide) (by decide) (by decide) (by decide) with ⟨e1, -⟩ | ⟨-, e3⟩
    · omega
    · rw [jsi_jsi] at e3; exact e3
  have k3 : f_X12_takes 201 (112 : Int32) (jsi m 201 5 (nI p)) = some (0, jsi m 201 5 (nI p)) := by
    rcases tk_one (c := 4) h1 (by decide) (by decide) (by decide) (by decide) with ⟨e1, -⟩ | ⟨-, e3⟩
    · omega
    · rw [jsi_jsi] at e3; exact e3
  unfold f_X12_readsRun_L0
  simp only [jbd_e]
  rw [jcl_e ie, if_pos rfl, jcl2_e a4, if_pos m1, jcl2_e b4, if_pos m1, if_pos m1, jcl2_e k1, if_pos rfl, jcl2_e k2, if_pos rfl, jcl2_e k3, if_pos rfl]
