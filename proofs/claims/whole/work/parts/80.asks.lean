/-! asks -/
theorem nI_mulx (a b : Nat) : nI a * nI b = nI (a * b) := (Int32.ofNat_mul a b).symm
theorem nI_subx {a b : Nat} (h : b ≤ a) : nI a - nI b = nI (a - b) := by
  have : nI a = nI (a - b) + nI b := by rw [nI_add, Nat.sub_add_cancel h]
  rw [this, Int32.add_sub_cancel]
theorem c_fill (μ : jM) : ∃ m, f_J7_fill_53178 187 0 μ = some m ∧ (∀ i, i < 256 → m.1 187 i = 0) ∧ jFr (fun c => c = 187) μ m := by
  have e : jlen 187 = 256 := by decide
  obtain ⟨m, hm, h1, h2⟩ := jlpN (step := fun (s : Int32 × jM) => f_J7_fill_53178_L5 187 0 s.1 s.2) 256
    (fun k s => s.1 = nI k ∧ (∀ i, i < k → s.2.1 187 i = 0) ∧ jFr (fun c => c = 187) μ s.2)
    (fun m => (∀ i, i < 256 → m.1 187 i = 0) ∧ jFr (fun c => c = 187) μ m)
    (fun k s hk hs => by
      obtain ⟨u, m⟩ := s
      obtain ⟨hu, g1, g2⟩ := hs
      have hu : u = nI k := hu
      subst hu
      have g1 : ∀ i, i < k → m.1 187 i = 0 := g1
      refine ⟨(nI (k + 1), jsi m 187 k 0), ?_, rfl, fun i hi => ?_, jFr.tr g2 (jFr.si _ _ _ rfl)⟩
      · dsimp only
        unfold f_J7_fill_53178_L5
        rw [e, if_neg (nI_ge hk (by decide)), jin_n hk (by decide), jbd_e, nI_clamp (by omega), nI_1]
      · show (jsi m 187 k 0).1 187 i = 0
        by_cases c : i = k
        · rw [c, jsi_at]
        · rw [jsi_pl c]; exact g1 i (by omega))
    (fun s hs => by
      obtain ⟨u, m⟩ := s
      obtain ⟨hu, g1, g2⟩ := hs
      have hu : u = nI 256 := hu
      subst hu
      refine ⟨m, ?_, g1, g2⟩
      dsimp only
      unfold f_J7_fill_53178_L5
      rw [e, if_pos (nI_le (Nat.le_refl _) (by decide))])
    (i := 0) (n := jfu) (s := ((0 : Int32), μ)) (by omega) ⟨rfl, fun i hi => absurd hi (Nat.not_lt_zero i), jFr.rf⟩ (jfu_lt (by omega))
  unfold f_J7_fill_53178
  rw [jcl_e hm]
  exact ⟨m, rfl, h1, h2⟩
/-- a table of counts -/
def TY (c n : Nat) (t : Nat → Nat) (m : jM) : Prop := ∀ i, i < n → m.1 c i = nI (t i)
def tyk (t : Nat → Nat) (r k i : Nat) : Nat := t i + (if i / 6 < k ∧ val r (i / 6) = i % 6 then 1 else 0)
theorem tyk_0 (t : Nat → Nat) (r : Nat) : tyk t r 0 = t := by
  funext i
  unfold tyk
  rw [if_neg (fun z => Nat.not_lt_zero _ z.1)]; rfl
theorem TY.one {c n j : Nat} {t : Nat → Nat} {m : jM} (h : TY c n t m) : TY c n (fun i => t i + if i = j then 1 else 0) (jsi m c j (nI (t j + 1))) := fun i hi => by
  show (jsi m c j (nI (t j + 1))).1 c i = nI (t i + if i = j then 1 else 0)
  by_cases q : i = j
  · subst q
    rw [jsi_at, if_pos rfl]
  · rw [jsi_pl q, if_neg q]; exact h i hi
theorem tyk_s (t : Nat → Nat) (r k : Nat) : (fun i => tyk t r k i + if i = 6 * k + val r k then 1 else 0) = tyk t r (k + 1) := by
  funext i
  have hv := val_lt r k
  unfold tyk
  by_cases c : i / 6 = k
  · rw [if_neg (by omega)]
    by_cases d : val r k = i % 6
    · rw [if_pos (by omega), if_pos ⟨by omega, by rw [c]; exact d⟩]
    · rw [if_neg (by omega), if_neg (fun z => d (by rw [← c]; exact z.2))]
  · rw [if_neg (show ¬ i = 6 * k + val r k by omega)]
    by_cases d : i / 6 < k ∧ val r (i / 6) = i % 6
    · rw [if_pos d, if_pos ⟨by omega, d.2⟩]
    · rw [if_neg d, if_neg (fun z => d ⟨by omega, z.2⟩)]
theorem c_tallyL {r : Nat} {t : Nat → Nat} {m : jM} (ht : TY 187 30 t m) (hat : ∀ x, x < 5 → m.1 168 x = nI (val r x)) : ∃ w, jloop (fun (s : Int32 × jM) => f_X11_tallyFitting_L56 0 s.1 s.2) jfu (((0 : Int32), m)) = some w ∧ TY 187 30 (tyk t r 5) w ∧ jFr (fun c => c = 187) m w := by
  refine jlpN (step := fun (s : Int32 × jM) => f_X11_tallyFitting_L56 0 s.1 s.2) 5
    (fun k s => s.1 = nI k ∧ TY 187 30 (tyk t r k) s.2 ∧ jFr (fun c => c = 187) m s.2)
    (fun w => TY 187 30 (tyk t r 5) w ∧ jFr (fun c => c = 187) m w)
    (fun k s hk hs => by
      obtain ⟨u, w⟩ := s
      obtain ⟨hu, g1, g2⟩ := hs
      have hu : u = nI k := hu
      subst hu
      have g1 : TY 187 30 (tyk t r k) w := g1
      have g2 : jFr (fun c => c = 187) m w := g2
      have hv := val_lt r k
      have := g1.one (j := 6 * k + val r k)
      rw [tyk_s] at this
      refine ⟨(nI (k + 1), jsi w 187 (6 * k + val r k) (nI (tyk t r k (6 * k + val r k) + 1))), ?_, rfl, this, g2.tr (jFr.si _ _ _ rfl)⟩
      dsimp only
      unfold f_X11_tallyFitting_L56
      rw [jlit 5, if_neg (nI_ge hk (by decide))]
      show jrd (w.1 168) _ _ _ = _
      rw [jrd_n hk (by decide), (g2 168 (by decide)).1, hat k hk, jlit 6, nI_mulx, nI_add]
      show jrd (w.1 187) _ _ _ = _
      rw [jrd_n (by omega) (by decide), jin_n (by omega) (by decide), jbd_e, nI_clamp (by omega), nI_1, g1 _ (by omega), nI_1])
    (fun s hs => by
      obtain ⟨u, w⟩ := s
      obtain ⟨hu, g1, g2⟩ := hs
      have hu : u = nI 5 := hu
      subst hu
      refine ⟨w, ?_, g1, g2⟩
      dsimp only
      unfold f_X11_tallyFitting_L56
      rw [jlit 5, if_pos (nI_le (Nat.le_refl _) (by decide))])
    (i := 0) (n := jfu) (s := ((0 : Int32), m)) (by omega) ⟨rfl, by rw [tyk_0]; exact ht, jFr.rf⟩ (jfu_lt (by omega))
theorem r_tallyL {r : Nat} {t : Nat → Nat} {m : jM} (hr : r < 7776) (ht : TY 217 30 t m) : ∃ w, jloop (fun (s : Int32 × jM) => f_X12_asks_L57 201 (nI r) s.1 s.2) jfu (((0 : Int32), m)) = some w ∧ TY 217 30 (tyk t r 5) w ∧ jFr (fun c => c = 217) m w := by
  refine jlpN (step := fun (s : Int32 × jM) => f_X12_asks_L57 201 (nI r) s.1 s.2) 5
    (fun k s => s.1 = nI k ∧ TY 217 30 (tyk t r k) s.2 ∧ jFr (fun c => c = 217) m s.2)
    (fun w => TY 217 30 (tyk t r 5) w ∧ jFr (fun c => c = 217) m w)
    (fun k s hk hs => by
      obtain ⟨u, w⟩ := s
      obtain ⟨hu, g1, g2⟩ := hs
      have hu : u = nI k := hu
      subst hu
      have g1 : TY 217 30 (tyk t r k) w := g1
      have g2 : jFr (fun c => c = 217) m w := g2
      have hv := val_lt r k
      have := g1.one (j := 6 * k + val r k)
      rw [tyk_s] at this
      refine ⟨(nI (k + 1), jsi w 217 (6 * k + val r k) (nI (tyk t r k (6 * k + val r k) + 1))), ?_, rfl, this, g2.tr (jFr.si _ _ _ rfl)⟩
      dsimp only
      unfold f_X12_asks_L57
      rw [jlit 5, if_neg (nI_ge hk (by decide)), jcl_e (r_valueOf hr hk), jlit 6, nI_mulx, nI_add]
      show jrd (w.1 217) _ _ _ = _
      rw [jrd_n (by omega) (by decide), jin_n (by omega) (by decide), jbd_e, nI_clamp (by omega), nI_1, g1 _ (by omega), nI_1])
    (fun s hs => by
      obtain ⟨u, w⟩ := s
      obtain ⟨hu, g1, g2⟩ := hs
      have hu : u = nI 5 := hu
      subst hu
      refine ⟨w, ?_, g1, g2⟩
      dsimp only
      unfold f_X12_asks_L57
      rw [jlit 5, if_pos (nI_le (Nat.le_refl _) (by decide))])
    (i := 0) (n := jfu) (s := ((0 : Int32), m)) (by omega) ⟨rfl, by rw [tyk_0]; exact ht, jFr.rf⟩ (jfu_lt (by omega))
/-- the table over all that fit -/
def ttl (g : Nat → Bool) : Nat → Nat × (Nat → Nat) := fo g (fun a r => (a.1 + 1, tyk a.2 r 5)) (0, fun _ => 0)
def tfl (q : Nat → Bool) (a : Nat × (Nat → Nat)) (r : Nat) : Nat × (Nat → Nat) := if q r then (a.1 + 1, tyk a.2 r 5) else a
theorem tfl_ttl (g q : Nat → Bool) (p : Nat) : fo g (tfl q) (0, fun _ => 0) p = ttl (fun r => g r && q r) p := fo_and g q _ _ p
theorem ttl_s (g : Nat → Bool) (p : Nat) : ttl g (p + 1) = if g p then ((ttl g p).1 + 1, tyk (ttl g p).2 p 5) else ttl g p := rfl
theorem ttl_le (g : Nat → Bool) (p : Nat) : (ttl g p).1 ≤ p ∧ ∀ i, (ttl g p).2 i ≤ (ttl g p).1 :=
  fo_inv (fun p (a : Nat × (Nat → Nat)) => a.1 ≤ p ∧ ∀ i, a.2 i ≤ a.1) ⟨Nat.le_refl _, fun _ => Nat.le_refl _⟩ (fun p a h => ⟨by omega, h.2⟩) (fun p a h _ => ⟨by show a.1 + 1 ≤ p + 1; omega, fun i => by
    show tyk a.2 p 5 i ≤ a.1 + 1
    have := h.2 i
    unfold tyk
    split <;> omega⟩) p
/-- the best of the first k -/
def bix (W : Nat → Nat) : Nat → Nat
  | 0 => 0
  | k + 1 => if W (bix W k) ≤ W k then bix W k else k
theorem bix_s (W : Nat → Nat) (k : Nat) : bix W (k + 1) = if W (bix W k) ≤ W k then bix W k else k := rfl
theorem bix_1 (W : Nat → Nat) : bix W 1 = 0 := by
  show (if W 0 ≤ W 0 then 0 else 0) = 0
  split <;> rfl
theorem bix_lt (W : Nat → Nat) : ∀ k, 0 < k → bix W k < k
  | 0, h => absurd h (Nat.lt_irrefl _)
  | k + 1, _ => by
    rw [bix_s]
    by_cases c : k = 0
    · subst c
      split
      · show 0 < 1; omega
      · omega
    · have := bix_lt W k (by omega)
      split <;> omega
theorem sim_asks {μ : jM} (h : Rel μ) : ∃ r μ1 μ2, f_X11_asks 0 μ = some (r, μ1) ∧ f_X12_asks 201 μ1 = some (r, μ2) ∧ Rel μ2 := by
  obtain ⟨⟨σ, hv, hS, hM⟩, hTX, hRO, hHR, -⟩ := id h
  obtain ⟨n, hx, hw, hb, hH⟩ := HX.of hHR
  have h0 := hv.2.1 0 (Nat.zero_le _)
  have h9 := hv.1
  have hn := h0.2.1.1
  let q := ftB n hx hw hb
  let g := fun r => gdB (σ.2.1 0) true r && q r
  obtain ⟨m0, z1, z2, z3⟩ := c_fill μ
  obtain ⟨m1, a1, a2, a3⟩ := c_wbegin (T := σ.2.1 0) true m0
  obtain ⟨e, he, e1, e2, e3⟩ := walkG (step := fun (s : Int32 × Int32 × jM) => f_X11_tallyFitting_L20 0 s.1 s.2.1 s.2.2) hS.2.1 h0 (h := true)
    (fun s => s.2.2) (fun s => s.2.1) (fun s m => (s.1, m)) (fun s m10 => jcl (f_X0_agrees (0 + 181) (0 + 168) m10) (fun v13 => (if v13 = (0 : Int32) then some (.inl ((s.1, s.2.1 + (1 : Int32), m10))) else jcl (jloop (fun (s : Int32 × jM) => f_X11_tallyFitting_L56 0 s.1 s.2) jfu (((0 : Int32), m10))) (fun w28 => some (.inl ((s.1 + (1 : Int32), s.2.1 + (1 : Int32), w28)))))))
    (fun s => rfl) (tfl q) (0, fun _ => 0) (fun a s => s.1 = nI a.1 ∧ TY 187 30 a.2 s.2.2)
    (fun a e => e.1 = nI a.1 ∧ TY 187 30 a.2 e.2 ∧ jFr WF μ e.2)
    (fun s m r hJ f1 f2 hr hg hat hbr => by
      obtain ⟨u, v, mm⟩ := s
      rw [tfl_ttl] at hJ ⊢
      obtain ⟨j1, j2⟩ := hJ
      have j1 : u = nI (ttl g r).1 := j1
      subst j1
      have j2 : TY 187 30 (ttl g r).2 mm := j2
      have f1 : jFr (fun c => c = 167 ∨ c = 168 ∨ c = 169) mm m := f1
      have hH2 : HX n hx hw hb m := hH.fr (fun c hc => (f2 c (by unfold WF; omega)).1) (by rw [(f2 201 (by unfold WF; omega)).1])
      dsimp only
      rw [jcl_e (show f_X0_agrees (0 + 181) (0 + 168) m = some (if q r then 1 else 0) from c_agrees hH2 hat)]
      show ∃ s' : Int32 × Int32 × jM, _ ∧ _ ∧ _ ∧ (s'.1 = nI (tfl q (ttl g r) r).1 ∧ TY 187 30 (tfl q (ttl g r) r).2 s'.2.2)
      have j3 : TY 187 30 (ttl g r).2 m := fun i hi => by rw [(f1 187 (by decide)).1]; exact j2 i hi
      unfold tfl
      cases y : q r with
      | false =>
        simp only [Bool.false_eq_true, if_false, if_true]
        exact ⟨_, rfl, rfl, jFr.rf, rfl, j3⟩
      | true =>
        simp only [if_true, i10, if_false]
        obtain ⟨w, k1, k2, k3⟩ := c_tallyL j3 hat
        refine ⟨(nI ((ttl g r).1 + 1), v + 1, w), ?_, rfl, k3.mono (fun c hc => Or.inl hc), rfl, k2⟩
        rw [jcl_e k1, nI_1])
    (fun s m hJ f1 f2 => ⟨hJ.1, fun i hi => by show m.1 187 i = _; rw [(f1 187 (by decide)).1]; exact hJ.2 i hi, f2⟩)
    (s0 := ((0 : Int32), (0 : Int32), m1)) ⟨rfl, fun i hi => by show m1.1 187 i = 0; rw [(a3 187 (by decide)).1]; exact z2 i (by omega)⟩ rfl a2 ((z3.mono (fun c hc => by unfold WF; omega)).tr (a3.mono (fun c hc => by unfold WF; omega)))
  rw [tfl_ttl] at e1 e2
  have e1 : e.1 = nI (ttl g 7776).1 := e1
  have e2 : TY 187 30 (ttl g 7776).2 e.2 := e2
  obtain ⟨sl, tl⟩ := ttl_le g 7776
  have hcl : f_X11_tallyFitting 0 μ = some (nI (ttl g 7776).1, e.2) := by
    unfold f_X11_tallyFitting
    rw [jcl_e (show f_J7_fill_53178 (0 + 187) (0 : Int32) μ = some m0 from z1), jcl_e (show f_X10_begin (0 + 167) (1 : Int32) m0 = some m1 from a1), jcl_e he, e1]
  have ref : ∀ m2 : jM, CFr μ m2 → ∃ m3, RM σ m3 ∧ RC m2 m3 ∧ TY 217 30 (ttl g 7776).2 m3 ∧ ∀ K : Int32 × jM → Option (Int32 × jM), jbd (jsi m2 201 0 (0 : Int32)) (fun m1 => jcl (f_X12_tries 201 m1) (fun m3 => jcl (jloop (fun (s : Int32 × jM) => f_X12_asks_L13 201 s.1 s.2) jfu (((0 : Int32), m3))) (fun w11 => jcl (jloop (fun (s : Int32 × Int32 × jM) => f_X12_asks_L34 201 s.1 s.2.1 s.2.2) jfu (((0 : Int32), (0 : Int32), w11))) K))) = K (nI (ttl g 7776).1, m3) := by
    intro m2 F
    have hM1 : RM σ (jsi m2 201 0 0) := (hM.fc F).thr (by decide)
    obtain ⟨m3, t1, t2, t3⟩ := r_tries (hM1.2.1 0 (Nat.zero_le _)) h0
    have hM3 : RM σ m3 := RM216 hM1 t3
    have hH3 : HX n hx hw hb m3 := hH.fr (fun c hc => by rw [(t3 c (by omega)).1, jsi_ne (by omega), (F c (by unfold CFs; omega)).1]) (by rw [(t3 201 (by decide)).1, jsi_pl (by decide), (F 201 (by unfold CFs; omega)).1])
    obtain ⟨w, hw1, hw2, hw3⟩ := jlpN (step := fun (s : Int32 × jM) => f_X12_asks_L13 201 s.1 s.2) 30
      (fun k s => s.1 = nI k ∧ (∀ i, i < k → s.2.1 217 i = 0) ∧ jFr (fun c => c = 217) m3 s.2)
      (fun m => (∀ i, i < 30 → m.1 217 i = 0) ∧ jFr (fun c => c = 217) m3 m)
      (fun k s hk hs => by
        obtain ⟨u, m⟩ := s
        obtain ⟨hu, g1, g2⟩ := hs
        have hu : u = nI k := hu
        subst hu
        have g1 : ∀ i, i < k → m.1 217 i = 0 := g1
        refine ⟨(nI (k + 1), jsi m 217 k 0), ?_, rfl, fun i hi => ?_, jFr.tr g2 (jFr.si _ _ _ rfl)⟩
        · dsimp only
          unfold f_X12_asks_L13
          rw [jlit 30, if_neg (nI_ge hk (by decide)), jin_n (by omega) (by decide), jbd_e, nI_clamp (by omega), nI_1]
        · show (jsi m 217 k 0).1 217 i = 0
          by_cases c : i = k
          · rw [c, jsi_at]
          · rw [jsi_pl c]; exact g1 i (by omega))
      (fun s hs => by
        obtain ⟨u, m⟩ := s
        obtain ⟨hu, g1, g2⟩ := hs
        have hu : u = nI 30 := hu
        subst hu
        refine ⟨m, ?_, g1, g2⟩
        dsimp only
        unfold f_X12_asks_L13
        rw [jlit 30, if_pos (nI_le (Nat.le_refl _) (by decide))])
      (i := 0) (n := jfu) (s := ((0 : Int32), m3)) (by omega) ⟨rfl, fun i hi => absurd hi (Nat.not_lt_zero i), jFr.rf⟩ (jfu_lt (by omega))
    obtain ⟨e', he', k1, k2, k3⟩ := jlpN (step := fun (s : Int32 × Int32 × jM) => f_X12_asks_L34 201 s.1 s.2.1 s.2.2) 7776
      (fun k s => s.1 = nI (ttl g k).1 ∧ s.2.1 = nI k ∧ TY 217 30 (ttl g k).2 s.2.2 ∧ jFr (fun c => c = 217) m3 s.2.2)
      (fun e => e.1 = nI (ttl g 7776).1 ∧ TY 217 30 (ttl g 7776).2 e.2 ∧ jFr (fun c => c = 217) m3 e.2)
      (fun k s hk hs => by
        obtain ⟨u, v, m⟩ := s
        obtain ⟨hu, hv1, g1, g2⟩ := hs
        have hu : u = nI (ttl g k).1 := hu
        have hv1 : v = nI k := hv1
        subst hu
        subst hv1
        have g1 : TY 217 30 (ttl g k).2 m := g1
        have g2 : jFr (fun c => c = 217) m3 m := g2
        have es := ttl_s g k
        have hH4 : HX n hx hw hb m := hH3.fr (fun c hc => (g2 c (by omega)).1) (by rw [(g2 201 (by decide)).1])
        have htr : f_X12_isFitting 201 (nI k) m = some (if g k then 1 else 0) := r_fitting hn hH4 hk (by rw [(g2 216 (by decide)).1]; exact t2 k hk)
        dsimp only
        unfold f_X12_asks_L34
        rw [jlit 7776, if_neg (nI_ge hk (by decide)), jcl_e htr, nI_1 k, nI_1 (ttl g k).1]
        cases y : g k with
        | false =>
          rw [y, if_neg Bool.false_ne_true] at es
          simp only [Bool.false_eq_true, if_false, if_true]
          exact ⟨_, rfl, by rw [es], rfl, by rw [es]; exact g1, g2⟩
        | true =>
          rw [y, if_pos rfl] at es
          simp only [if_true, i10, if_false]
          obtain ⟨w, w1, w2, w3⟩ := r_tallyL hk g1
          refine ⟨(nI ((ttl g k).1 + 1), nI (k + 1), w), by rw [jcl_e w1], by rw [es], rfl, by rw [es]; exact w2, g2.tr w3⟩)
      (fun s hs => by
        obtain ⟨u, v, m⟩ := s
        obtain ⟨hu, hv1, g1, g2⟩ := hs
        have hv1 : v = nI 7776 := hv1
        subst hv1
        refine ⟨(u, m), ?_, hu, g1, g2⟩
        dsimp only
        unfold f_X12_asks_L34
        rw [jlit 7776, if_pos (nI_le (Nat.le_refl _) (by decide))])
      (i := 0) (n := jfu) (s := ((0 : Int32), (0 : Int32), w)) (by omega) ⟨rfl, rfl, fun i hi => hw2 i hi, hw3⟩ (jfu_lt (by omega))
    have fr : RC m3 e'.2 := ⟨k3.mono (fun c hc => by omega), MF.of (k3 204 (by decide)).1, fun k _ => by rw [(k3 201 (by decide)).1]⟩
    refine ⟨e'.2, hM3.fr (by rw [(k3 201 (by decide)).1]) (k3 204 (by decide)).1 (k3 205 (by decide)).1 (k3 206 (by decide)).1, ((RC.thr (by decide)).tr (RCr216 t3)).tr fr, k2, fun K => ?_⟩
    rw [jbd_e, jcl_e t1, jcl_e hw1, jcl_e he', ← k1]
  have hSe : RS 5 σ e.2 := RS.wf hS h9 e3
  unfold f_X11_asks f_X12_asks
  by_cases cz : (ttl g 7776).1 = 0
  · have F : CF μ e.2 := WF.cf e3
    obtain ⟨m3, r1, r2, -, r7⟩ := ref e.2 F.r
    refine ⟨-2, e.2, m3, ?_, ?_, rel_mk h hv hSe F r1 r2⟩
    · rw [jcl2_e hcl, if_pos (by rw [cz]; rfl)]
    · rw [r7, if_pos (by rw [cz]; rfl)]
  · let t := (ttl g 7776).2
    let N := (ttl g 7776).1
    let W : Nat → Nat := fun i => max (t i) (N - t i)
    have hN : N ≤ 7776 := sl
    have ht : ∀ i, t i ≤ N := tl
    have hW : ∀ i, W i ≤ N := fun i => by have := ht i; show max (t i) (N - t i) ≤ N; omega
    have hcz : ¬ nI (ttl g 7776).1 = (0 : Int32) := nI_ne0 (by omega) (by omega)
    have mx : ∀ i, jmax (nI (t i)) (nI N - nI (t i)) = nI (W i) := fun i => by
      have := ht i
      rw [nI_subx this, jmax_n (by omega) (by omega)]
    obtain ⟨w, hw1, hw2, hw3⟩ := jlpN (step := fun (s : Int32 × Int32 × Int32) => f_X11_asks_L19 0 (nI N) e.2 s.1 s.2.1 s.2.2) 30
      (fun k s => s.1 = nI (bix W k) ∧ s.2.1 = nI (if k = 0 then N else W (bix W k)) ∧ s.2.2 = nI k)
      (fun s => s.1 = nI (bix W 30) ∧ s.2 = nI (W (bix W 30)))
      (fun k s hk hs => by
        obtain ⟨u, v, z⟩ := s
        obtain ⟨hu, hv1, hz⟩ := hs
        have hu : u = nI (bix W k) := hu
        have hv1 : v = nI (if k = 0 then N else W (bix W k)) := hv1
        have hz : z = nI k := hz
        subst hu
        subst hv1
        subst hz
        have w1 := hW k
        have w2 := hW (bix W k)
        have w3 := hW 0
        have es := bix_s W k
        have pre : ∀ o, (if nI (if k = 0 then N else W (bix W k)) ≤ nI (W k) then some (.inl ((nI (bix W k), nI (if k = 0 then N else W (bix W k)), nI (k + 1)))) else some (.inl ((nI k, nI (W k), nI (k + 1))))) = o → f_X11_asks_L19 0 (nI N) e.2 (nI (bix W k)) (nI (if k = 0 then N else W (bix W k))) (nI k) = o := fun o ho => by
          unfold f_X11_asks_L19
          rw [jlit 30, if_neg (nI_ge hk (by decide))]
          show jrd (e.2.1 187) _ _ _ = _
          rw [jrd_n (by omega) (by decide)]
          show jrd (e.2.1 187) _ _ _ = _
          rw [jrd_n (by omega) (by decide), e2 k hk, mx, jbd_e, nI_1]
          exact ho
        by_cases c : k = 0
        · subst c
          have e0 : bix W 0 = 0 := rfl
          have e1 : bix W (0 + 1) = 0 := bix_1 W
          rw [if_pos rfl] at pre ⊢
          by_cases d : N ≤ W 0
          · refine ⟨_, pre _ (if_pos (nI_le d (by omega))), by rw [e1]; rfl, ?_, rfl⟩
            show nI N = nI (if 0 + 1 = 0 then N else W (bix W (0 + 1)))
            rw [if_neg (by omega), e1, show W 0 = N by omega]
          · refine ⟨_, pre _ (if_neg (nI_ge (by omega) (by omega))), by rw [e1], ?_, rfl⟩
            show nI (W 0) = nI (if 0 + 1 = 0 then N else W (bix W (0 + 1)))
            rw [if_neg (by omega), e1]
        · rw [if_neg c] at pre ⊢
          by_cases d : W (bix W k) ≤ W k
          · rw [if_pos d] at es
            refine ⟨_, pre _ (if_pos (nI_le d (by omega))), by rw [es], ?_, rfl⟩
            show nI (W (bix W k)) = nI (if k + 1 = 0 then N else W (bix W (k + 1)))
            rw [if_neg (by omega), es]
          · rw [if_neg d] at es
            refine ⟨_, pre _ (if_neg (nI_ge (by omega) (by omega))), by rw [es], ?_, rfl⟩
            show nI (W k) = nI (if k + 1 = 0 then N else W (bix W (k + 1)))
            rw [if_neg (by omega), es])
      (fun s hs => by
        obtain ⟨u, v, z⟩ := s
        obtain ⟨hu, hv1, hz⟩ := hs
        have hz : z = nI 30 := hz
        subst hz
        refine ⟨(u, v), ?_, hu, hv1⟩
        dsimp only
        unfold f_X11_asks_L19
        rw [jlit 30, if_pos (nI_le (Nat.le_refl _) (by decide))])
      (i := 0) (n := jfu) (s := ((0 : Int32), nI N, (0 : Int32))) (by omega) ⟨rfl, rfl, rfl⟩ (jfu_lt (by omega))
    obtain ⟨m2, d1, d2, d3⟩ := c_only e.2 (nI (W (bix W 30))).toInt64
    have F : CFr μ m2 := (WF.cf e3).r.tr (CFr.row d3)
    have hS2 : RS 5 σ m2 := hSe.fc h9 d3 (fun c q z => by obtain ⟨q1, q2⟩ := q; omega)
    obtain ⟨m3, r1, r2, r3, r7⟩ := ref m2 F
    have bl : ∀ k, 0 < k → k ≤ 30 → bix W k < 30 := fun k h1 h2 => by have := bix_lt W k h1; omega
    obtain ⟨w', hv1, hv2⟩ := jlpN (step := fun (s : Int32 × Int32) => f_X12_asks_L104 201 (nI N) m3 s.1 s.2) 30
      (fun k s => 0 < k ∧ s.1 = nI (bix W k) ∧ s.2 = nI k) (fun s => s = nI (bix W 30))
      (fun k s hk hs => by
        obtain ⟨u, z⟩ := s
        obtain ⟨hk0, hu, hz⟩ := hs
        have hu : u = nI (bix W k) := hu
        have hz : z = nI k := hz
        subst hu
        subst hz
        have b1 := bl k hk0 (by omega)
        have w1 := hW k
        have w2 := hW (bix W k)
        refine ⟨(nI (bix W (k + 1)), nI (k + 1)), ?_, by omega, rfl, rfl⟩
        dsimp only
        unfold f_X12_asks_L104
        rw [jlit 30, if_neg (nI_ge hk (by decide))]
        show jrd (m3.1 217) _ _ _ = _
        rw [jrd_n (by omega) (by decide)]
        show jrd (m3.1 217) _ _ _ = _
        rw [jrd_n (by omega) (by decide)]
        show jrd (m3.1 217) _ _ _ = _
        rw [jrd_n (by omega) (by decide)]
        show jrd (m3.1 217) _ _ _ = _
        rw [jrd_n (by omega) (by decide), r3 _ hk, r3 _ b1, mx, mx, jbd_e, nI_1, bix_s]
        by_cases d : W (bix W k) ≤ W k
        · rw [if_pos d, if_pos (nI_le d (by omega))]
        · rw [if_neg d, if_neg (nI_ge (by omega) (by omega))])
      (fun s hs => by
        obtain ⟨u, z⟩ := s
        obtain ⟨hk0, hu, hz⟩ := hs
        have hz : z = nI 30 := hz
        subst hz
        refine ⟨u, ?_, hu⟩
        dsimp only
        unfold f_X12_asks_L104
        rw [jlit 30, if_pos (nI_le (Nat.le_refl _) (by decide))])
      (i := 1) (n := jfu) (s := ((0 : Int32), (1 : Int32))) (by omega) ⟨by omega, by rw [bix_1]; rfl, rfl⟩ (jfu_lt (by omega))
    obtain ⟨m4, u1, u2, u3, u4⟩ := r_enters (r_told0 m3) (by show 0 < 40; omega) (nI (W (bix W 30))).toInt64
    have Q : Q9 m3 m4 := Q9.told.tr (Q9.ent u3 u4)
    refine ⟨nI (bix W 30), m2, m4, ?_, ?_, rel_row h hv hS2 F (Q.rm r1) (r2.r.tr Q.rc) d2 u2 (by show 1 ≤ 22; omega)⟩
    · rw [jcl2_e hcl, if_neg hcz, jcl_e hw1, hw3, jcl_e (show f_X3_only (0 + 3) _ e.2 = some m2 from d1), hw2]
    · have b1 := bl 30 (by omega) (by omega)
      have r3' : TY 217 30 t (jsi m3 201 1 0) := fun i hi => by rw [jsi_ne (by decide)]; exact r3 i hi
      rw [r7, if_neg hcz, jcl_e hv1, jbd_e, hv2]
      show jrd ((jsi m3 201 1 0).1 217) _ _ _ = _
      rw [jrd_n (by omega) (by decide)]
      show jrd ((jsi m3 201 1 0).1 217) _ _ _ = _
      rw [jrd_n (by omega) (by decide), r3' _ b1]
      show jcl (f_X12_enters 201 (jmax (nI (t (bix W 30))) (nI N - nI (t (bix W 30)))).toInt64 _) _ = _
      rw [mx, jcl_e u1]
