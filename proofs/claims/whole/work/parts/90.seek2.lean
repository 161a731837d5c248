/-! search: the seeking itself -/
theorem mlt_lt {L L' : LV} {b v : Nat} (hb : b < 5) (hv : v < 6) (h64 : ∀ x, x < 5 → L x < 64) (h64' : ∀ x, x < 5 → L' x < 64) (h1 : 1 < pc (L b)) (hs : subL L' (va_up L b (2 ^ v))) : mlt L' < mlt L := by
  have p2 := pc_two v hv
  have d := (cnt_del (fun x => decide (1 < pc (L x))) b 5).2 hb (decide_eq_true h1)
  have m : cnt (fun x => decide (1 < pc (L' x))) 5 ≤ cnt (fun i => decide (1 < pc (L i)) && !(i == b)) 5 := cnt_mono 5 (fun i hi h => by
    have h := of_decide_eq_true h
    by_cases c : i = b
    · subst c
      have := (pc_sub (h64' i hi) p2.2.2 (fun w hw q => by have := hs i hi w hw q; rw [va_up_self] at this; exact this)).1
      omega
    · have := (pc_sub (h64' i hi) (h64 i hi) (fun w hw q => by have := hs i hi w hw q; rw [va_up_ne _ _ c] at this; exact this)).1
      rw [decide_eq_true (show 1 < pc (L i) by omega)]
      simp [c])
  show cnt (fun x => decide (1 < pc (L' x))) 5 < cnt (fun x => decide (1 < pc (L x))) 5
  omega
def SC (T : TT) (W n : Nat) (F D C : Int32) (m : jM) : Prop := RT 6 T m ∧ m.1 170 3 = nI W ∧ m.1 170 4 = nI n ∧ m.1 170 5 = F ∧ m.1 170 6 = D ∧ m.1 170 7 = C
theorem SC.fr {T : TT} {W n : Nat} {F D C : Int32} {m w : jM} (h : SC T W n F D C m) (f : jFr (fun c => c = 166 ∨ (171 ≤ c ∧ c ≤ 176)) m w) : SC T W n F D C w := by
  obtain ⟨h1, h2⟩ := h
  refine ⟨h1.fc f (fun c q1 q2 q3 => by omega), ?_⟩
  rw [(f 170 (by omega)).1]
  exact h2
theorem RT.si170 {T : TT} {m : jM} {j : Nat} {v : Int32} (h : RT 6 T m) : RT 6 T (jsi m 170 j v) := h.fc (jFr.si (S := fun c => c = 170) _ _ _ rfl) (fun c q1 q2 q3 => by omega)
theorem SC.n {T : TT} {W n : Nat} {F D C : Int32} {m : jM} (h : SC T W n F D C m) : SC T W (n + 1) F D C (jsi m 170 4 (m.1 170 4 + 1)) := by
  obtain ⟨h1, h2, h3, h4, h5, h6⟩ := h
  refine ⟨h1.si170, ?_, ?_, ?_, ?_, ?_⟩
  · rw [jsi_pl (by decide)]; exact h2
  · rw [jsi_at, h3, nI_1]
  · rw [jsi_pl (by decide)]; exact h4
  · rw [jsi_pl (by decide)]; exact h5
  · rw [jsi_pl (by decide)]; exact h6
theorem SC.f {T : TT} {W n : Nat} {F D C : Int32} {m : jM} (h : SC T W n F D C m) : SC T W n (F + 1) D C (jsi m 170 5 (m.1 170 5 + 1)) := by
  obtain ⟨h1, h2, h3, h4, h5, h6⟩ := h
  refine ⟨h1.si170, ?_, ?_, ?_, ?_, ?_⟩
  · rw [jsi_pl (by decide)]; exact h2
  · rw [jsi_pl (by decide)]; exact h3
  · rw [jsi_at, h4]
  · rw [jsi_pl (by decide)]; exact h5
  · rw [jsi_pl (by decide)]; exact h6
theorem SC.d {T : TT} {W n : Nat} {F D C x : Int32} {m : jM} (h : SC T W n F D C m) : SC T W n F (jmax D x) C (jsi m 170 6 (jmax (m.1 170 6) x)) := by
  obtain ⟨h1, h2, h3, h4, h5, h6⟩ := h
  refine ⟨h1.si170, ?_, ?_, ?_, ?_, ?_⟩
  · rw [jsi_pl (by decide)]; exact h2
  · rw [jsi_pl (by decide)]; exact h3
  · rw [jsi_pl (by decide)]; exact h4
  · rw [jsi_at, h5]
  · rw [jsi_pl (by decide)]; exact h6
theorem SC.c {T : TT} {W n : Nat} {F D C x : Int32} {m : jM} (h : SC T W n F D C m) : SC T W n F D (C + x) (jsi m 170 7 (m.1 170 7 + x)) := by
  obtain ⟨h1, h2, h3, h4, h5, h6⟩ := h
  refine ⟨h1.si170, ?_, ?_, ?_, ?_, ?_⟩
  · rw [jsi_pl (by decide)]; exact h2
  · rw [jsi_pl (by decide)]; exact h3
  · rw [jsi_pl (by decide)]; exact h4
  · rw [jsi_pl (by decide)]; exact h5
  · rw [jsi_at, h6]
def SQ (T : TT) (n : Nat) (F D C : Int32) (m : jM) : Prop := RW 0 T m ∧ m.1 201 28 = nI n ∧ m.1 201 29 = F ∧ m.1 201 30 = D ∧ m.1 201 31 = C
theorem SQ.fr {T : TT} {n : Nat} {F D C : Int32} {m w : jM} (h : SQ T n F D C m) (f : jFr (fun c => c = 210 ∨ c = 218) m w) : SQ T n F D C w := by
  obtain ⟨h1, h2⟩ := h
  refine ⟨h1.fr (f 204 (by decide)).1, ?_⟩
  rw [(f 201 (by omega)).1]
  exact h2
theorem SQ.n {T : TT} {n : Nat} {F D C : Int32} {m : jM} (h : SQ T n F D C m) : SQ T (n + 1) F D C (jsi m 201 28 (m.1 201 28 + 1)) := by
  obtain ⟨h1, h3, h4, h5, h6⟩ := h
  refine ⟨h1.fr (jsi_ne (by decide)), ?_, ?_, ?_, ?_⟩
  · rw [jsi_at, h3, nI_1]
  · rw [jsi_pl (by decide)]; exact h4
  · rw [jsi_pl (by decide)]; exact h5
  · rw [jsi_pl (by decide)]; exact h6
theorem SQ.f {T : TT} {n : Nat} {F D C : Int32} {m : jM} (h : SQ T n F D C m) : SQ T n (F + 1) D C (jsi m 201 29 (m.1 201 29 + 1)) := by
  obtain ⟨h1, h3, h4, h5, h6⟩ := h
  refine ⟨h1.fr (jsi_ne (by decide)), ?_, ?_, ?_, ?_⟩
  · rw [jsi_pl (by decide)]; exact h3
  · rw [jsi_at, h4]
  · rw [jsi_pl (by decide)]; exact h5
  · rw [jsi_pl (by decide)]; exact h6
theorem SQ.d {T : TT} {n : Nat} {F D C x : Int32} {m : jM} (h : SQ T n F D C m) : SQ T n F (jmax D x) C (jsi m 201 30 (jmax (m.1 201 30) x)) := by
  obtain ⟨h1, h3, h4, h5, h6⟩ := h
  refine ⟨h1.fr (jsi_ne (by decide)), ?_, ?_, ?_, ?_⟩
  · rw [jsi_pl (by decide)]; exact h3
  · rw [jsi_pl (by decide)]; exact h4
  · rw [jsi_at, h5]
  · rw [jsi_pl (by decide)]; exact h6
theorem SQ.c {T : TT} {n : Nat} {F D C x : Int32} {m : jM} (h : SQ T n F D C m) : SQ T n F D (C + x) (jsi m 201 31 (m.1 201 31 + x)) := by
  obtain ⟨h1, h3, h4, h5, h6⟩ := h
  refine ⟨h1.fr (jsi_ne (by decide)), ?_, ?_, ?_, ?_⟩
  · rw [jsi_pl (by decide)]; exact h3
  · rw [jsi_pl (by decide)]; exact h4
  · rw [jsi_pl (by decide)]; exact h5
  · rw [jsi_at, h6]
def CK (k : Nat) (m w : jM) : Prop := jFr (fun c => c = 166 ∨ c = 170 ∨ (172 + k ≤ c ∧ c ≤ 176)) m w
def RK (k : Nat) (m w : jM) : Prop := jFr (fun c => c = 201 ∨ c = 210 ∨ c = 218) m w ∧ (∀ j, j < 5 * k → w.1 218 j = m.1 218 j) ∧ ∀ j, j < 28 ∨ 31 < j → w.1 201 j = m.1 201 j
theorem RK.rf {k : Nat} {m : jM} : RK k m m := ⟨jFr.rf, fun _ _ => rfl, fun _ _ => rfl⟩
theorem RK.tr {k : Nat} {m w z : jM} (h : RK k m w) (h2 : RK k w z) : RK k m z := ⟨h.1.tr h2.1, fun j hj => (h2.2.1 j hj).trans (h.2.1 j hj), fun j hj => (h2.2.2 j hj).trans (h.2.2 j hj)⟩
theorem RK.si {k j : Nat} {v : Int32} {m : jM} (h : 28 ≤ j ∧ j ≤ 31) : RK k m (jsi m 201 j v) := ⟨jFr.si _ _ _ (Or.inl rfl), fun _ _ => by rw [jsi_ne (by decide)], fun i hi => jsi_pl (by omega)⟩
theorem RK.f10 {k : Nat} {m w : jM} (h : jFr (fun c => c = 210) m w) : RK k m w := ⟨h.mono (fun c hc => by omega), fun _ _ => by rw [(h 218 (by decide)).1], fun _ _ => by rw [(h 201 (by decide)).1]⟩
theorem RK.mono {k : Nat} {m w : jM} (h : RK (k + 1) m w) : RK k m w := ⟨h.1, fun j hj => h.2.1 j (by omega), h.2.2⟩
def outS : jM ⊕ ((Int32 × jM) ⊕ jM) → Int32 × jM
  | .inl w => (2, w)
  | .inr (.inl p) => p
  | .inr (.inr w) => (0, w)
def SGd (T : TT) (W k : Nat) (m m' : jM) (r : Int32) (w w' : jM) : Prop := ∃ n F D C, n ≤ 200 ∧ SC T W n F D C w ∧ SQ T n F D C w' ∧ CK k m w ∧ RK k m' w' ∧ (r = 0 ∨ r = 2 ∨ (r = 1 ∧ ∃ L, RLm 166 L w ∧ RLm 210 L w' ∧ ∀ x, x < 5 → pc (L x) = 1))
theorem seek2 {T : TT} {W : Nat} (hv : VT T) (hW : W < 3) : ∀ (d k : Nat) (L : LV) (n : Nat) (F D C : Int32) (m m' : jM), 5 - k < d → k ≤ 5 → mlt L ≤ 5 - k → n ≤ 200 → (∀ x, x < 5 → 0 < L x) → RLm 166 L m → RLm 210 L m' → SC T W n F D C m → SQ T n F D C m' → ∃ r w w', f_X5_seekIn d 170 (nI k) m = some (r, w) ∧ f_X12_seeks d 201 (nI W) (nI k) m' = some (r, w') ∧ SGd T W k m m' r w w'
  | 0, _, _, _, _, _, _, _, _, h, _, _, _, _, _, _, _, _ => absurd h (Nat.not_lt_zero _)
  | d + 1, k, L, n, F, D, C, m, m', hd, hk, hm, hn, hL0, hL, hL', hC, hQ => by
    have ch := c_chosen hC.1 hv hL hW hC.2.1
    have tk := r_taken hQ.1 hv hL' hW
    obtain ⟨p1, a1, a2, a3, a4⟩ := r_path hk hL'
    show ∃ r w w', fb_X5_seekIn (f_X5_seekIn d) 170 (nI k) m = some (r, w) ∧ fb_X12_seeks (f_X12_seeks d) 201 (nI W) (nI k) m' = some (r, w') ∧ SGd T W k m m' r w w'
    have hQ1 : SQ T n F D C p1 := hQ.fr (a3.mono (fun c hc => Or.inr hc))
    have hK1 : RK k m' p1 := ⟨a3.mono (fun c hc => by omega), a4, fun j _ => by rw [(a3 201 (by decide)).1]⟩
    cases e : pck W L (fun x => ru T x (nc T)) 5 with
    | none =>
      rw [e] at ch tk
      refine ⟨1, m, p1, ?_, ?_, n, F, D, C, hn, hC, hQ1, jFr.rf, hK1, Or.inr (Or.inr ⟨rfl, L, hL, fun x hx => ⟨by rw [(a3 210 (by decide)).1]; exact (hL' x hx).1, (hL x hx).2⟩, fun x hx => ?_⟩)⟩
      · unfold fb_X5_seekIn
        rw [jcl_e ch]
        show (if (-1 : Int32) = -1 then _ else _) = _
        rw [if_pos rfl]
      · unfold fb_X12_seeks
        rw [jcl_e (show f_X12_taken 201 (201 + 9) (nI W) m' = _ from tk), jcl_e a1]
        show (if (0 : Int32) ≤ -1 then _ else _) = _
        rw [if_neg (by decide)]
      · have := pck_none e x hx
        have := pc_pos6 (L x) (hL x hx).2 (by have := hL0 x hx; omega)
        omega
    | some b =>
      rw [e] at ch tk
      obtain ⟨hb, hb1⟩ := pck_some e
      have ch : f_X5_chosen 170 m = some (nI b) := ch
      have tk : f_X12_taken 201 210 (nI W) m' = some (nI b) := tk
      have h64 : ∀ x, x < 5 → L x < 64 := fun x hx => (hL x hx).2
      have m1 : 0 < mlt L := cnt_one hb (decide_eq_true hb1)
      have hk5 : k < 5 := by omega
      have ec : 170 + 2 + 1 * (nI k).toNatClampNeg = 172 + k := by rw [nI_clamp (by omega)]; omega
      have jl : ∀ k, k < 5 → jlen (172 + k) = 5 := by decide
      have z0 : (0 : Int32).toNatClampNeg = 0 := by decide
      have z5 : (5 : Int32).toNatClampNeg = 5 := by decide
      have k200 : (200 : Int32) = nI 200 := rfl
      obtain ⟨c7, hc7⟩ : ∃ c7, c7 = jcp m 166 0 (172 + k) 0 5 := ⟨_, rfl⟩
      have f7 : jFr (fun c => c = 172 + k) m c7 := by rw [hc7]; exact jFr.cp _ _ _ _ _ rfl
      have r7 : ∀ x, x < 5 → c7.1 (172 + k) x = nI (L x) := fun x hx => by rw [hc7, jcp_at hx]; exact (hL x hx).1
      obtain ⟨o, o', q1, q2, r, w, w', q3, q4, q5⟩ := jlp2 (step := fun (s : Int32 × jM) => f_X5_seekIn_L43 170 (nI k) (f_X5_seekIn d) (nI b) s.1 s.2) (step' := fun (s : Int32 × jM) => f_X12_seeks_L52 201 (nI W) (nI k) (f_X12_seeks d) (nI b) s.1 s.2) 6
        (fun v s s' => s.1 = nI v ∧ s'.1 = nI v ∧ ∃ n F D C, n ≤ 200 ∧ SC T W n F D C s.2 ∧ SQ T n F D C s'.2 ∧ RLm 166 L s.2 ∧ (∀ x, x < 5 → s.2.1 (172 + k) x = nI (L x)) ∧ (∀ x, x < 5 → s'.2.1 218 (5 * k + x) = nI (L x)) ∧ CK k m s.2 ∧ RK k m' s'.2)
        (fun o o' => ∃ r w w', outS o = (r, w) ∧ outS o' = (r, w') ∧ SGd T W k m m' r w w')
        (fun v s s' hv6 hI => by
          obtain ⟨u, mm⟩ := s
          obtain ⟨u', mm'⟩ := s'
          obtain ⟨hu, hu', n, F, D, C, hn, g1, g2, g3, g4, g5, g6, g7⟩ := hI
          have hu : u = nI v := hu
          have hu' : u' = nI v := hu'
          subst hu
          subst hu'
          have g1 : SC T W n F D C mm := g1
          have g2 : SQ T n F D C mm' := g2
          have g3 : RLm 166 L mm := g3
          have g4 : ∀ x, x < 5 → mm.1 (172 + k) x = nI (L x) := g4
          have g5 : ∀ x, x < 5 → mm'.1 218 (5 * k + x) = nI (L x) := g5
          have g6 : CK k m mm := g6
          have g7 : RK k m' mm' := g7
          have p2 := pc_two v hv6
          have hLb := h64 b hb
          have preC : ∀ z, (if (L b).testBit v then (if n < 200 then jcl2 (fb_X5_enter (f_X5_seekIn d) 170 (nI b) (nI v) (nI k) mm) (fun v17 m18 => (if v17 = (0 : Int32) then some (.inl ((nI (v + 1), jcp m18 (172 + k) 0 166 0 5))) else some (.inr (.inr (.inl ((v17, m18))))))) else some (.inr (.inl mm))) else some (.inl ((nI (v + 1), mm)))) = z → f_X5_seekIn_L43 170 (nI k) (f_X5_seekIn d) (nI b) (nI v) mm = z := fun z hz => by
            unfold f_X5_seekIn_L43
            simp only [jbd_e]
            rw [ec, z0, z5, jlit 6, if_neg (nI_ge hv6 (by decide)), jrd_n hb (by decide), g4 b hb, nI_bit (by omega) (by omega), g1.2.2.1, k200, nI_1, ← hz]
            simp only [jlit 5, jcpq_z (show 5 < 2 ^ 31 by decide)]
            cases (L b).testBit v with
            | false => rw [if_neg Bool.false_ne_true, if_neg Bool.false_ne_true, if_neg (by decide)]
            | true =>
              rw [if_pos rfl, if_pos rfl, if_pos rfl]
              by_cases c : n < 200
              · rw [if_pos c, if_pos (nI_lt c (by decide))]
              · rw [if_neg c, if_neg (nI_nlt (show 200 ≤ n by omega) (by omega))]
          obtain ⟨x1, hx1⟩ : ∃ x1, x1 = jsi mm' 201 28 (mm'.1 201 28 + 1) := ⟨_, rfl⟩
          obtain ⟨x2, hx2⟩ : ∃ x2, x2 = jsi x1 201 30 (jmax (x1.1 201 30) (nI (k + 1))) := ⟨_, rfl⟩
          have preR : ∀ z, (if (L b).testBit v then (if n = 200 then some (.inr (.inl mm')) else jcl (jloop (fun (s : Int32 × jM) => f_X12_seeks_L119 201 (nI k) (nI b) (nI v) s.1 s.2) jfu (((0 : Int32), x2))) (fun w42 => jcl2 (f_X12_spreadsBy 201 210 (nI 255) w42) (fun v46 m47 => (if v46 = (0 : Int32) then some (.inl ((nI (v + 1), jsi (jsi m47 201 29 (m47.1 201 29 + 1)) 201 31 ((jsi m47 201 29 (m47.1 201 29 + 1)).1 201 31 + 1)))) else jcl (jloop (fun (s : Int32 × jM) => f_X12_seeks_L202 201 (nI k) s.1 s.2) jfu (((0 : Int32), m47))) (fun w62 => jcl2 (f_X12_seeks d 201 (nI W) (nI (k + 1)) w62) (fun v66 m67 => (if v66 ≤ (0 : Int32) then some (.inl ((nI (v + 1), m67))) else some (.inr (.inr (.inl ((v66, m67))))))))))))
              else some (.inl ((nI (v + 1), mm')))) = z → f_X12_seeks_L52 201 (nI W) (nI k) (f_X12_seeks d) (nI b) (nI v) mm' = z := fun z hz => by
            unfold f_X12_seeks_L52
            simp only [jbd_e]
            rw [jlit 6, if_neg (nI_ge hv6 (by decide)), jlit 5, nI_mulx, nI_add]
            show jrd (mm'.1 218) _ _ _ = _
            rw [jrd_n (by omega) (by decide), g5 b hb, f_has (by omega) (by omega), nI_1 v, nI_1 k, ← hx1, ← hx2, ← hz]
            cases (L b).testBit v with
            | false => rw [if_neg Bool.false_ne_true, if_neg Bool.false_ne_true, if_pos rfl]
            | true =>
              rw [if_pos rfl, if_pos rfl, if_neg (by decide), g2.2.1, k200]
              by_cases c : n = 200
              · rw [if_pos c, if_pos (by rw [c])]
              · rw [if_neg c, if_neg (fun z => c ((nI_eq (by omega) (by decide)).mp z))]
                rfl
          cases y : (L b).testBit v with
          | false =>
            rw [y, if_neg Bool.false_ne_true] at preC preR
            exact Or.inl ⟨(nI (v + 1), mm), (nI (v + 1), mm'), preC _ rfl, preR _ rfl, rfl, rfl, n, F, D, C, hn, g1, g2, g3, g4, g5, g6, g7⟩
          | true =>
            rw [y, if_pos rfl] at preC preR
            by_cases c : n < 200
            · rw [if_pos c] at preC
              rw [if_neg (show ¬ n = 200 by omega)] at preR
              obtain ⟨y1, hy1⟩ : ∃ y1, y1 = jsi mm 170 4 (mm.1 170 4 + 1) := ⟨_, rfl⟩
              obtain ⟨y2, hy2⟩ : ∃ y2, y2 = jsi y1 170 6 (jmax (y1.1 170 6) (nI (k + 1))) := ⟨_, rfl⟩
              obtain ⟨y3, hy3⟩ : ∃ y3, y3 = jsi y2 166 b (nI (2 ^ v)) := ⟨_, rfl⟩
              have preE : ∀ z, (jcl2 (f_X6_spread 165 6 (nI 255) y3) (fun v8 m9 => (if v8 = (0 : Int32) then some ((0 : Int32), jsi (jsi m9 170 5 (m9.1 170 5 + 1)) 170 7 ((jsi m9 170 5 (m9.1 170 5 + 1)).1 170 7 + 1)) else jcl (f_X5_changesSince 170 (172 + k) m9) (fun v13 => jcl2 (f_X5_seekIn d 170 (nI (k + 1)) (jsi m9 170 7 (m9.1 170 7 + v13))) (fun v17 m18 => some (v17, m18)))))) = z → fb_X5_enter (f_X5_seekIn d) 170 (nI b) (nI v) (nI k) mm = z := fun z hz => by
                unfold fb_X5_enter
                simp only [jbd_e, jin_n hk5 (show 5 < 2 ^ 31 by decide)]
                rw [jin_n hb (by decide), nI_1 k, ← hy1, ← hy2, nI_clamp (show b < 2 ^ 31 by omega), shl_n _ (show v < 31 by omega), ← hy3, ec]
                exact hz
              have s2 : SC T W (n + 1) F (jmax D (nI (k + 1))) C y2 := by rw [hy2, hy1]; exact g1.n.d
              have f3 : CK k mm y3 := by
                rw [hy3, hy2, hy1]
                exact ((jFr.si _ _ _ (Or.inr (Or.inl rfl))).tr (jFr.si _ _ _ (Or.inr (Or.inl rfl)))).tr (jFr.si _ _ _ (Or.inl rfl))
              have f23 : jFr (fun c => c = 166) y2 y3 := by rw [hy3]; exact jFr.si _ _ _ rfl
              have s3 : SC T W (n + 1) F (jmax D (nI (k + 1))) C y3 := s2.fr (f23.mono (fun c hc => Or.inl hc))
              have e166 : y2.1 166 = mm.1 166 := by rw [hy2, hy1, jsi_ne (by decide), jsi_ne (by decide)]
              have l3 : RLm 166 (va_up L b (2 ^ v)) y3 := fun x hx => by
                by_cases cb : x = b
                · rw [cb, hy3, jsi_at, va_up_self]; exact ⟨rfl, p2.2.2⟩
                · rw [hy3, jsi_pl cb, va_up_ne _ _ cb, e166]; exact g3 x hx
              have l0 : ∀ x, x < 5 → 0 < va_up L b (2 ^ v) x := fun x hx => by
                by_cases cb : x = b
                · rw [cb, va_up_self]; exact p2.2.1
                · rw [va_up_ne _ _ cb]; exact hL0 x hx
              obtain ⟨r, La, y4, b1, b2, b3, b4⟩ := c_spread (t := 6) (R := 255) (by omega) s3.1 hv (by omega) l3 l0
              have s4 : SC T W (n + 1) F (jmax D (nI (k + 1))) C y4 := s3.fr (b4.mono (fun c hc => Or.inl hc))
              have f4 : CK k m y4 := (g6.tr f3).tr (b4.mono (fun c hc => Or.inl hc))
              have row4 : ∀ x, x < 5 → y4.1 (172 + k) x = nI (L x) := fun x hx => by
                rw [(b4 (172 + k) (by omega)).1, (f23 (172 + k) (by omega)).1, hy2, hy1, jsi_ne (by omega), jsi_ne (by omega)]; exact g4 x hx
              have s2' : SQ T (n + 1) F (jmax D (nI (k + 1))) C x2 := by rw [hx2, hx1]; exact g2.n.d
              have f2' : RK k mm' x2 := by rw [hx2, hx1]; exact (RK.si (by omega)).tr (RK.si (by omega))
              have e218 : x2.1 218 = mm'.1 218 := by rw [hx2, hx1, jsi_ne (by decide), jsi_ne (by decide)]
              obtain ⟨x3, e1, e2, e3⟩ := r_lay (m := x2) hk hb hv6 h64 (fun x hx => by rw [e218]; exact g5 x hx)
              have s3' : SQ T (n + 1) F (jmax D (nI (k + 1))) C x3 := s2'.fr (e3.mono (fun c hc => Or.inl hc))
              obtain ⟨r', Lb, x4, d1, d2, d3, d4⟩ := r_spread (c := 210) (R := 255) (by decide) (by decide) s3'.1 hv (by omega) e2 l0
              have s4' : SQ T (n + 1) F (jmax D (nI (k + 1))) C x4 := s3'.fr (d4.mono (fun c hc => Or.inl hc))
              have f4' : RK k m' x4 := ((g7.tr f2').tr (RK.f10 e3)).tr (RK.f10 d4)
              have row4' : ∀ x, x < 5 → x4.1 218 (5 * k + x) = nI (L x) := fun x hx => by
                rw [(d4 218 (by decide)).1, (e3 218 (by decide)).1, e218]; exact g5 x hx
              obtain ⟨er, eL⟩ := spEnd_eq b2 d2
              subst er
              rcases b2 with ⟨r1, gd, cl⟩ | ⟨r0, -⟩
              · subst r1
                have lA : RLm 166 La y4 := b3 rfl
                have lB : RLm 210 La x4 := fun x hx => by rw [eL rfl x hx]; exact d3 rfl x hx
                have hcs := c_changes (jl k hk5) lA (fun x hx => ⟨row4 x hx, h64 x hx⟩)
                obtain ⟨y5, hy5⟩ : ∃ y5, y5 = jsi y4 170 7 (y4.1 170 7 + nI (cdl L La 5)) := ⟨_, rfl⟩
                have s5 : SC T W (n + 1) F (jmax D (nI (k + 1))) (C + nI (cdl L La 5)) y5 := by rw [hy5]; exact s4.c
                obtain ⟨x5, k1, k2, k3, k4⟩ := r_changes (step := fun (s : Int32 × jM) => f_X12_seeks_L202 201 (nI k) s.1 s.2) (L := L) (L' := La) (C := C) (m := x4) (fun x hx => ⟨h64 x hx, (lA x hx).2⟩) s4'.2.2.2.2
                  (fun j w hj fw => by
                    dsimp only
                    unfold f_X12_seeks_L202
                    rw [jlit 5, if_neg (nI_ge hj (by decide)), nI_mulx, nI_add]
                    show jrd (w.1 210) _ _ _ = _
                    rw [jrd_n hj (by decide)]
                    show jrd (w.1 218) _ _ _ = _
                    rw [jrd_n (by omega) (by decide), jbd_e, nI_1, (fw 210 (by decide)).1, (fw 218 (by decide)).1, (lB j hj).1, row4' j hj])
                  (fun w => by
                    dsimp only
                    unfold f_X12_seeks_L202
                    rw [jlit 5, if_pos (nI_le (Nat.le_refl _) (by decide))])
                have s5' : SQ T (n + 1) F (jmax D (nI (k + 1))) (C + nI (cdl L La 5)) x5 := ⟨s4'.1.fr (k3 204 (by decide)).1, by rw [k4 28 (by decide)]; exact s4'.2.1, by rw [k4 29 (by decide)]; exact s4'.2.2.1, by rw [k4 30 (by decide)]; exact s4'.2.2.2.1, k2⟩
                have f5' : RK k x4 x5 := ⟨k3.mono (fun c hc => Or.inl hc), fun j hj => by rw [(k3 218 (by decide)).1], fun j hj => k4 j (by omega)⟩
                have ml := mlt_lt hb hv6 h64 (fun x hx => (lA x hx).2) hb1 gd.2.1
                obtain ⟨r2, w, w', t1, t2, n2, F2, D2, C2, u1, u2, u3, u4, u5, u6⟩ := seek2 hv hW d (k + 1) La (n + 1) F (jmax D (nI (k + 1))) (C + nI (cdl L La 5)) y5 x5 (by omega) (by omega) (by omega) (by omega) (fun x hx => (gd.1 x hx).1)
                  (fun x hx => by rw [hy5, jsi_ne (by decide)]; exact lA x hx) (fun x hx => by rw [(k3 210 (by decide)).1]; exact lB x hx) s5 s5'
                have f5 : CK k y4 y5 := by rw [hy5]; exact jFr.si _ _ _ (Or.inr (Or.inl rfl))
                have fw : CK k m w := (f4.tr f5).tr (u4.mono (fun c hc => by omega))
                have fw' : RK k m' w' := (f4'.tr f5').tr u5.mono
                have enq := preE (some (r2, w)) (by rw [jcl2_e b1, if_neg (by decide), jcl_e hcs, ← hy5, jcl2_e t1])
                rw [jcl2_e enq] at preC
                rw [jcl_e e1, jcl2_e d1, if_neg (by decide), jcl_e k1, jcl2_e t2] at preR
                rcases u6 with z | z | ⟨z, L2, v1, v2, v3⟩
                · subst z
                  rw [if_pos rfl] at preC
                  rw [if_pos (by decide)] at preR
                  refine Or.inl ⟨(nI (v + 1), jcp w (172 + k) 0 166 0 5), (nI (v + 1), w'), preC _ rfl, preR _ rfl, rfl, rfl, n2, F2, D2, C2, u1, u2.fr (jFr.cp _ _ _ _ _ (Or.inl rfl)), u3, ?_, ?_, ?_, fw.tr (jFr.cp _ _ _ _ _ (Or.inl rfl)), fw'⟩
                  · have rw1 : ∀ x, x < 5 → w.1 (172 + k) x = nI (L x) := fun x hx => by
                      rw [(u4 (172 + k) (by omega)).1, hy5, jsi_ne (by omega)]; exact row4 x hx
                    exact fun x hx => ⟨by show (jcp w (172 + k) 0 166 0 5).1 166 x = _; rw [jcp_at hx]; exact rw1 x hx, h64 x hx⟩
                  · intro x hx
                    show (jcp w (172 + k) 0 166 0 5).1 (172 + k) x = _
                    rw [jcp_ne (by omega), (u4 (172 + k) (by omega)).1, hy5, jsi_ne (by omega)]; exact row4 x hx
                  · intro x hx
                    show w'.1 218 (5 * k + x) = _
                    rw [u5.2.1 (5 * k + x) (by omega), (k3 218 (by decide)).1]; exact row4' x hx
                · subst z
                  rw [if_neg (by decide)] at preC
                  rw [if_neg (by decide)] at preR
                  exact Or.inr ⟨_, _, preC _ rfl, preR _ rfl, 2, w, w', rfl, rfl, n2, F2, D2, C2, u1, u2, u3, fw, fw', Or.inr (Or.inl rfl)⟩
                · subst z
                  rw [if_neg (by decide)] at preC
                  rw [if_neg (by decide)] at preR
                  exact Or.inr ⟨_, _, preC _ rfl, preR _ rfl, 1, w, w', rfl, rfl, n2, F2, D2, C2, u1, u2, u3, fw, fw', Or.inr (Or.inr ⟨rfl, L2, v1, v2, v3⟩)⟩
              · subst r0
                obtain ⟨y5, hy5⟩ : ∃ y5, y5 = jsi (jsi y4 170 5 (y4.1 170 5 + 1)) 170 7 ((jsi y4 170 5 (y4.1 170 5 + 1)).1 170 7 + 1) := ⟨_, rfl⟩
                obtain ⟨x5, hx5⟩ : ∃ x5, x5 = jsi (jsi x4 201 29 (x4.1 201 29 + 1)) 201 31 ((jsi x4 201 29 (x4.1 201 29 + 1)).1 201 31 + 1) := ⟨_, rfl⟩
                have s5 : SC T W (n + 1) (F + 1) (jmax D (nI (k + 1))) (C + 1) y5 := by rw [hy5]; exact s4.f.c
                have s5' : SQ T (n + 1) (F + 1) (jmax D (nI (k + 1))) (C + 1) x5 := by rw [hx5]; exact s4'.f.c
                have enq := preE (some (0, y5)) (by rw [jcl2_e b1, if_pos rfl, hy5])
                rw [jcl2_e enq, if_pos rfl] at preC
                rw [jcl_e e1, jcl2_e d1, if_pos rfl, ← hx5] at preR
                have f5 : CK k y4 y5 := by rw [hy5]; exact (jFr.si _ _ _ (Or.inr (Or.inl rfl))).tr (jFr.si _ _ _ (Or.inr (Or.inl rfl)))
                have f5' : RK k x4 x5 := by rw [hx5]; exact (RK.si (by omega)).tr (RK.si (by omega))
                have row5 : ∀ x, x < 5 → y5.1 (172 + k) x = nI (L x) := fun x hx => by
                  rw [hy5, jsi_ne (by omega), jsi_ne (by omega)]; exact row4 x hx
                refine Or.inl ⟨(nI (v + 1), jcp y5 (172 + k) 0 166 0 5), (nI (v + 1), x5), preC _ rfl, preR _ rfl, rfl, rfl, n + 1, F + 1, _, C + 1, by omega, s5.fr (jFr.cp _ _ _ _ _ (Or.inl rfl)), s5', ?_, ?_, ?_, (f4.tr f5).tr (jFr.cp _ _ _ _ _ (Or.inl rfl)), f4'.tr f5'⟩
                · exact fun x hx => ⟨by show (jcp y5 (172 + k) 0 166 0 5).1 166 x = _; rw [jcp_at hx]; exact row5 x hx, h64 x hx⟩
                · intro x hx
                  show (jcp y5 (172 + k) 0 166 0 5).1 (172 + k) x = _
                  rw [jcp_ne (by omega)]; exact row5 x hx
                · intro x hx
                  show x5.1 218 (5 * k + x) = _
                  rw [hx5, jsi_ne (by decide), jsi_ne (by decide)]; exact row4' x hx
            · have cn : n = 200 := by omega
              rw [if_neg c] at preC
              rw [if_pos cn] at preR
              exact Or.inr ⟨_, _, preC _ rfl, preR _ rfl, 2, mm, mm', rfl, rfl, n, F, D, C, hn, g1, g2, g6, g7, Or.inr (Or.inl rfl)⟩)
        (fun s s' hI => by
          obtain ⟨u, mm⟩ := s
          obtain ⟨u', mm'⟩ := s'
          obtain ⟨hu, hu', n, F, D, C, hn, g1, g2, g3, g4, g5, g6, g7⟩ := hI
          have hu : u = nI 6 := hu
          have hu' : u' = nI 6 := hu'
          subst hu
          subst hu'
          refine ⟨.inr (.inr mm), .inr (.inr mm'), ?_, ?_, 0, mm, mm', rfl, rfl, n, F, D, C, hn, g1, g2, g6, g7, Or.inl rfl⟩
          · dsimp only
            unfold f_X5_seekIn_L43
            rw [jlit 6, if_pos (nI_le (Nat.le_refl _) (by decide))]
          · dsimp only
            unfold f_X12_seeks_L52
            rw [jlit 6, if_pos (nI_le (Nat.le_refl _) (by decide))])
        jfu 0 ((0 : Int32), c7) ((0 : Int32), p1) (by omega) ⟨rfl, rfl, n, F, D, C, hn, hC.fr (f7.mono (fun c hc => by omega)), hQ1, fun x hx => ⟨by rw [(f7 166 (by omega)).1]; exact (hL x hx).1, h64 x hx⟩, r7, a2, f7.mono (fun c hc => by omega), hK1⟩ (by decide)
      refine ⟨r, w, w', ?_, ?_, q5⟩
      · unfold fb_X5_seekIn
        rw [jcl_e ch, if_neg (nI_m1 (by omega)), jlit 5, if_pos (nI_lt hk5 (by decide)), jin_n hk5 (by decide), jcpq_z (by decide), jbd_e, ec, z0, ← jlit 5, z5, ← hc7, jcl_e q1]
        rw [← q3]
        rcases o with o | o | o <;> rfl
      · unfold fb_X12_seeks
        rw [jcl_e (show f_X12_taken 201 (201 + 9) (nI W) m' = _ from tk), jcl_e a1, if_pos (show (0 : Int32) ≤ nI b from nI_le (a := 0) (Nat.zero_le _) (by omega)), jcl_e q2]
        rw [← q4]
        rcases o' with o | o | o <;> rfl
