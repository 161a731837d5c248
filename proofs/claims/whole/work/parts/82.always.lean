/-! always -/
theorem an_bit : ∀ m, m < 32 → ∀ k, k < 5 → ∀ x, x < 5 → (m &&& (31 - 2 ^ k)).testBit x = (m.testBit x && !(x == k)) := by decide +kernel
theorem an_31 : ∀ m, m < 32 → m &&& 31 = m := by decide +kernel
theorem an_p (m : Nat) (hm : m < 64) (v : Nat) (hv : v < 6) (hb : m.testBit v = true) : (pc m = 1 ↔ ∀ w, w < 6 → m.testBit w = true → w = v) ∧ (pc m = 1 → f_J6_numberOfTrailingZeros_0f7a4 (nI m) = nI v) := by
  have h0 : m ≠ 0 := fun z => by rw [z, Nat.zero_testBit] at hb; cases hb
  have one : pc m = 1 → ∀ w, w < 6 → m.testBit w = true → w = v := fun h w hw hb2 => by
    obtain ⟨j, hj, hq⟩ := one_b m hm h
    rw [(hq w hw).mp hb2, (hq v hv).mp hb]
  refine ⟨⟨one, fun h => ?_⟩, fun h => ?_⟩
  · by_cases c : pc m = 1
    · exact c
    · obtain ⟨j, hj, k, hk, hne, b1, b2⟩ := two_b m hm h0 c
      exact absurd ((h j hj b1).trans (h k hk b2).symm) hne
  · obtain ⟨j, hj, e, b1, -⟩ := mn_b m hm h0
    rw [e, one h j hj b1]
theorem an_sub : ∀ k, k < 5 → (31 : Int32) - nI (2 ^ k) = nI (31 - 2 ^ k) := by decide +kernel
def aw (s k : Nat) : List Nat := (List.range k).filter (fun x => s.testBit x)
theorem aw_s (s k : Nat) : aw s (k + 1) = if s.testBit k then aw s k ++ [k] else aw s k := by
  unfold aw
  rw [List.range_succ, List.filter_append, List.filter_cons]
  split
  · rfl
  · rw [List.filter_nil, List.append_nil]
theorem aw_mk : ∀ s, s < 32 → mk (aw s 5) = s := by decide +kernel
theorem aw_len (s : Nat) : ∀ k, (aw s k).length ≤ k
  | 0 => Nat.le_refl _
  | k + 1 => by
    have := aw_len s k
    rw [aw_s]
    split
    · rw [List.length_append]; show _ + 1 ≤ _; omega
    · omega
theorem aw_lt (s k : Nat) : ∀ t ∈ aw s k, t < k := fun t ht => List.mem_range.mp (List.mem_filter.mp ht).1
def sam (r fi s : Nat) : Nat → Nat
  | 0 => s
  | k + 1 => sam r fi s k &&& (if val r k = val fi k then 31 else 31 - 2 ^ k)
theorem sam_s (r fi s k : Nat) : sam r fi s (k + 1) = sam r fi s k &&& (if val r k = val fi k then 31 else 31 - 2 ^ k) := rfl
theorem sam_lt {r fi s : Nat} (hs : s < 32) : ∀ k, sam r fi s k < 32
  | 0 => hs
  | k + 1 => by
    rw [sam_s]
    exact Nat.lt_of_le_of_lt Nat.and_le_left (sam_lt hs k)
theorem sam_b {r fi s x : Nat} (hs : s < 32) (hx : x < 5) : ∀ k, k ≤ 5 → (sam r fi s k).testBit x = (s.testBit x && (!(decide (x < k)) || decide (val r x = val fi x)))
  | 0, _ => by simp [sam]
  | k + 1, hk => by
    have hl := sam_lt (r := r) (fi := fi) hs k
    rw [sam_s]
    by_cases c : val r k = val fi k
    · rw [if_pos c, an_31 _ hl, sam_b hs hx k (by omega)]
      by_cases d : x = k
      · subst d; simp [c]
      · have : decide (x < k + 1) = decide (x < k) := by rw [decide_eq_decide]; omega
        rw [this]
    · rw [if_neg c, an_bit _ hl k (by omega) x hx, sam_b hs hx k (by omega)]
      by_cases d : x = k
      · subst d; simp [c]
      · have : decide (x < k + 1) = decide (x < k) := by rw [decide_eq_decide]; omega
        rw [this]; simp [d]
abbrev AW := Nat × Nat × (Nat → Nat) × Nat
def alw (a : AW) (r : Nat) : AW := (a.1 + 1, (if a.1 = 0 then r else a.2.1), (fun x => a.2.2.1 x ||| 2 ^ val r x), sam r (if a.1 = 0 then r else a.2.1) a.2.2.2 5)
def AIV (p : Nat) (a : AW) : Prop := a.1 ≤ p ∧ a.2.1 ≤ p ∧ (0 < a.1 → a.2.1 < p) ∧ a.2.2.2 < 32 ∧ ∀ x, x < 5 → a.2.2.1 x < 64 ∧ (a.1 = 0 → a.2.2.1 x = 0 ∧ a.2.2.2 = 31) ∧ (0 < a.1 → (a.2.2.1 x).testBit (val a.2.1 x) = true ∧ (a.2.2.2.testBit x = true ↔ ∀ w, w < 6 → (a.2.2.1 x).testBit w = true → w = val a.2.1 x))
theorem alw_iv (g : Nat → Bool) (p : Nat) : AIV p (fo g alw (0, 0, (fun _ => 0), 31) p) :=
  fo_inv AIV ⟨Nat.le_refl _, Nat.le_refl _, fun z => absurd z (Nat.lt_irrefl _), by decide, fun x hx => ⟨by show 0 < 64; omega, fun _ => ⟨rfl, rfl⟩, fun z => absurd z (Nat.lt_irrefl _)⟩⟩
    (fun p a h => ⟨by have := h.1; omega, by have := h.2.1; omega, fun z => by have := h.2.2.1 z; omega, h.2.2.2⟩)
    (fun p a h _ => by
      obtain ⟨n, fi, mask, s⟩ := a
      obtain ⟨h1, h2, h3, h4, h5⟩ := h
      have h1 : n ≤ p := h1
      have h2 : fi ≤ p := h2
      have h4 : s < 32 := h4
      have sx : ∀ x, x < 5 → (sam p (if n = 0 then p else fi) s 5).testBit x = (s.testBit x && decide (val p x = val (if n = 0 then p else fi) x)) := fun x hx => by
        rw [sam_b h4 hx 5 (by omega)]; simp [hx]
      refine ⟨by show n + 1 ≤ p + 1; omega, ?_, fun _ => ?_, sam_lt h4 5, fun x hx => ?_⟩
      · show (if n = 0 then p else fi) ≤ p + 1; split <;> omega
      · show (if n = 0 then p else fi) < p + 1; split <;> omega
      · obtain ⟨k1, k2, k3⟩ := h5 x hx
        have k1 : mask x < 64 := k1
        have hv := val_lt p x
        have v64 : 2 ^ val p x < 2 ^ 6 := Nat.pow_lt_pow_right (by decide) hv
        refine ⟨by show mask x ||| 2 ^ val p x < 64; exact Nat.or_lt_two_pow (n := 6) k1 v64, fun z => absurd z (by show ¬ n + 1 = 0; omega), fun _ => ?_⟩
        show (mask x ||| 2 ^ val p x).testBit (val (if n = 0 then p else fi) x) = true ∧ ((sam p (if n = 0 then p else fi) s 5).testBit x = true ↔ ∀ w, w < 6 → (mask x ||| 2 ^ val p x).testBit w = true → w = val (if n = 0 then p else fi) x)
        rw [sx x hx]
        by_cases c : n = 0
        · obtain ⟨q1, q2⟩ := k2 c
          have q1 : mask x = 0 := q1
          have q2 : s = 31 := q2
          rw [if_pos c, q1, q2, Nat.zero_or]
          have : ∀ x, x < 5 → (31 : Nat).testBit x = true := by decide
          refine ⟨Nat.testBit_two_pow_self, fun _ w hw hb => ?_, fun _ => by rw [this x hx]; simp⟩
          rw [Nat.testBit_two_pow] at hb
          exact (of_decide_eq_true hb).symm
        · obtain ⟨q1, q2⟩ := k3 (by show 0 < n; omega)
          have q1 : (mask x).testBit (val fi x) = true := q1
          have q2 : s.testBit x = true ↔ ∀ w, w < 6 → (mask x).testBit w = true → w = val fi x := q2
          rw [if_neg c]
          refine ⟨by rw [Nat.testBit_or, q1]; rfl, ?_⟩
          rw [Bool.and_eq_true, q2, decide_eq_true_eq]
          constructor
          · rintro ⟨y1, y2⟩ w hw hb
            rw [Nat.testBit_or, Bool.or_eq_true, Nat.testBit_two_pow] at hb
            rcases hb with hb | hb
            · exact y1 w hw hb
            · rw [← of_decide_eq_true hb]; exact y2
          · intro y
            exact ⟨fun w hw hb => y w hw (by rw [Nat.testBit_or, hb]; rfl), y _ hv (by rw [Nat.testBit_or, Nat.testBit_two_pow_self, Bool.or_true])⟩) p
theorem c_alwL {r : Nat} {t : Nat → Nat} {m : jM} (h64 : ∀ x, x < 5 → t x < 64) (ht : TY 187 5 t m) (hat : ∀ x, x < 5 → m.1 168 x = nI (val r x)) : ∃ w, jloop (fun (s : Int32 × jM) => f_X11_always_L39 0 s.1 s.2) jfu (((0 : Int32), m)) = some w ∧ TY 187 5 (fun x => t x ||| 2 ^ val r x) w ∧ jFr (fun c => c = 187) m w := by
  refine jlpN (step := fun (s : Int32 × jM) => f_X11_always_L39 0 s.1 s.2) 5
    (fun k s => s.1 = nI k ∧ TY 187 5 (fun x => if x < k then t x ||| 2 ^ val r x else t x) s.2 ∧ jFr (fun c => c = 187) m s.2)
    (fun w => TY 187 5 (fun x => t x ||| 2 ^ val r x) w ∧ jFr (fun c => c = 187) m w)
    (fun k s hk hs => by
      obtain ⟨u, w⟩ := s
      obtain ⟨hu, g1, g2⟩ := hs
      have hu : u = nI k := hu
      subst hu
      have g1 : TY 187 5 (fun x => if x < k then t x ||| 2 ^ val r x else t x) w := g1
      have g2 : jFr (fun c => c = 187) m w := g2
      have hv := val_lt r k
      have h64k := h64 k hk
      have v64 : 2 ^ val r k < 2 ^ 6 := Nat.pow_lt_pow_right (by decide) hv
      have gk : w.1 187 k = nI (t k) := by
        rw [g1 k hk]
        show nI (if k < k then _ else t k) = _
        rw [if_neg (Nat.lt_irrefl _)]
      refine ⟨(nI (k + 1), jsi w 187 k (nI (t k ||| 2 ^ val r k))), ?_, rfl, fun i hi => ?_, g2.tr (jFr.si _ _ _ rfl)⟩
      · dsimp only
        unfold f_X11_always_L39
        rw [jlit 5, if_neg (nI_ge hk (by decide))]
        show jrd (w.1 187) _ _ _ = _
        rw [jrd_n (by omega) (by decide)]
        show jrd (w.1 168) _ _ _ = _
        rw [jrd_n hk (by decide), (g2 168 (by decide)).1, hat k hk, jin_n (by omega) (by decide), jbd_e, nI_clamp (by omega), nI_1, gk, shl_n _ (by omega), nI_or (by omega) (by omega)]
      · show (jsi w 187 k _).1 187 i = nI (if i < k + 1 then t i ||| 2 ^ val r i else t i)
        by_cases c : i = k
        · rw [c, jsi_at, if_pos (by omega)]
        · rw [jsi_pl c, g1 i hi]
          show nI (if i < k then _ else _) = _
          by_cases d : i < k
          · rw [if_pos d, if_pos (by omega)]
          · rw [if_neg d, if_neg (by omega)])
    (fun s hs => by
      obtain ⟨u, w⟩ := s
      obtain ⟨hu, g1, g2⟩ := hs
      have hu : u = nI 5 := hu
      subst hu
      refine ⟨w, ?_, fun i hi => ?_, g2⟩
      · dsimp only
        unfold f_X11_always_L39
        rw [jlit 5, if_pos (nI_le (Nat.le_refl _) (by decide))]
      · have := g1 i hi
        dsimp only at this ⊢
        rw [if_pos hi] at this
        exact this)
    (i := 0) (n := jfu) (s := ((0 : Int32), m)) (by omega) ⟨rfl, ht, jFr.rf⟩ (jfu_lt (by omega))
theorem r_samL {r fi s : Nat} (hr : r < 7776) (hf : fi < 7776) (hs : s < 32) : jloop (fun (z : Int32 × Int32) => f_X12_always_L48 (nI r) (nI fi) z.1 z.2) jfu ((nI s, (0 : Int32))) = some (nI (sam r fi s 5)) := by
  obtain ⟨w, hw, h1⟩ := jlpN (step := fun (z : Int32 × Int32) => f_X12_always_L48 (nI r) (nI fi) z.1 z.2) 5
    (fun k z => z.1 = nI (sam r fi s k) ∧ z.2 = nI k) (fun w => w = nI (sam r fi s 5))
    (fun k z hk hz => by
      obtain ⟨u, v⟩ := z
      obtain ⟨hu, hv⟩ := hz
      have hu : u = nI (sam r fi s k) := hu
      have hv : v = nI k := hv
      subst hu
      subst hv
      have hl := sam_lt (r := r) (fi := fi) hs k
      have v1 := val_lt r k
      have v2 := val_lt fi k
      refine ⟨(nI (sam r fi s (k + 1)), nI (k + 1)), ?_, rfl, rfl⟩
      dsimp only
      unfold f_X12_always_L48
      rw [jlit 5, if_neg (nI_ge hk (by decide)), jcl_e (r_valueOf hr hk), jcl_e (r_valueOf hf hk), jbd_e, nI_1, sam_s]
      by_cases c : val r k = val fi k
      · rw [if_pos c, if_pos (by rw [c]), jlit 31, nI_and (by omega) (by omega)]
      · rw [if_neg c, if_neg (fun z => c ((nI_eq (by omega) (by omega)).mp z)), shl_n _ (by omega), an_sub k hk, nI_and (by omega) (show 31 - 2 ^ k < 2 ^ 31 from Nat.lt_of_le_of_lt (Nat.sub_le _ _) (by decide))])
    (fun z hz => by
      obtain ⟨u, v⟩ := z
      obtain ⟨hu, hv⟩ := hz
      have hv : v = nI 5 := hv
      subst hv
      refine ⟨u, ?_, hu⟩
      dsimp only
      unfold f_X12_always_L48
      rw [jlit 5, if_pos (nI_le (Nat.le_refl _) (by decide))])
    (i := 0) (n := jfu) (s := ((nI s), (0 : Int32))) (by omega) ⟨rfl, rfl⟩ (jfu_lt (by omega))
  rw [hw, h1]
def awl (s fi k : Nat) : List Int64 := (aw s k).map (fun x => (nI (val fi x)).toInt64)
theorem awl_s (s fi k : Nat) : awl s fi (k + 1) = if s.testBit k then awl s fi k ++ [(nI (val fi k)).toInt64] else awl s fi k := by
  unfold awl
  rw [aw_s]
  split
  · rw [List.map_append]; rfl
  · rfl
theorem awl_len (s fi k : Nat) : (awl s fi k).length ≤ k := by
  unfold awl
  rw [List.length_map]
  exact aw_len s k
theorem sim_always {μ : jM} (h : Rel μ) : ∃ r μ1 μ2, f_X11_always 0 μ = some (r, μ1) ∧ f_X12_always 201 μ1 = some (r, μ2) ∧ Rel μ2 := by
  obtain ⟨⟨σ, hv, hS, hM⟩, -⟩ := id h
  have h0 := hv.2.1 0 (Nat.zero_le _)
  have h9 := hv.1
  have hn := h0.2.1.1
  obtain ⟨A, hA⟩ : ∃ A : Nat → AW, A = fo (gdB (σ.2.1 0) true) alw (0, 0, (fun _ => 0), 31) := ⟨_, rfl⟩
  have A_s : ∀ p, A (p + 1) = if gdB (σ.2.1 0) true p then alw (A p) p else A p := fun p => by rw [hA]; rfl
  have iv : ∀ p, AIV p (A p) := fun p => by rw [hA]; exact alw_iv _ p
  obtain ⟨m0, z1, z2, z3⟩ := c_fill μ
  obtain ⟨m1, a1, a2, a3⟩ := c_wbegin (T := σ.2.1 0) true m0
  obtain ⟨e, he, e1, e2, e3⟩ := walkG (step := fun (s : Int32 × Int32 × jM) => f_X11_always_L20 0 s.1 s.2.1 s.2.2) hS.2.1 h0 (h := true)
    (fun s => s.2.2) (fun s => s.2.1) (fun s m => (s.1, m)) (fun s m10 => jcl (jloop (fun (s : Int32 × jM) => f_X11_always_L39 0 s.1 s.2) jfu (((0 : Int32), m10))) (fun w25 => some (.inl ((s.1 + (1 : Int32), s.2.1 + (1 : Int32), w25)))))
    (fun s => rfl) alw (0, 0, (fun _ => 0), 31) (fun a s => s.1 = nI a.1 ∧ TY 187 5 a.2.2.1 s.2.2)
    (fun a e => e.1 = nI a.1 ∧ TY 187 5 a.2.2.1 e.2 ∧ jFr WF μ e.2)
    (fun s m r hJ f1 f2 hr hg hat hbr => by
      obtain ⟨u, v, mm⟩ := s
      rw [← hA] at hJ ⊢
      obtain ⟨j1, j2⟩ := hJ
      have j1 : u = nI (A r).1 := j1
      subst j1
      have j2 : TY 187 5 (A r).2.2.1 mm := j2
      have f1 : jFr (fun c => c = 167 ∨ c = 168 ∨ c = 169) mm m := f1
      have j3 : TY 187 5 (A r).2.2.1 m := fun i hi => by rw [(f1 187 (by decide)).1]; exact j2 i hi
      obtain ⟨w, k1, k2, k3⟩ := c_alwL (fun x hx => ((iv r).2.2.2.2 x hx).1) j3 hat
      refine ⟨(nI ((A r).1 + 1), v + 1, w), ?_, rfl, k3.mono (fun c hc => Or.inl hc), rfl, k2⟩
      dsimp only
      rw [jcl_e k1, nI_1])
    (fun s m hJ f1 f2 => ⟨hJ.1, fun i hi => by show m.1 187 i = _; rw [(f1 187 (by decide)).1]; exact hJ.2 i hi, f2⟩)
    (s0 := ((0 : Int32), (0 : Int32), m1)) ⟨rfl, fun i hi => by show m1.1 187 i = 0; rw [(a3 187 (by decide)).1]; exact z2 i (by omega)⟩ rfl a2 ((z3.mono (fun c hc => by unfold WF; omega)).tr (a3.mono (fun c hc => by unfold WF; omega)))
  rw [← hA] at e1 e2
  have hSe : RS 5 σ e.2 := RS.wf hS h9 e3
  obtain ⟨i1, i2, i3, i4, i5⟩ := iv 7776
  obtain ⟨n, hnn⟩ : ∃ n, n = (A 7776).1 := ⟨_, rfl⟩
  obtain ⟨fi, hfi⟩ : ∃ n, n = (A 7776).2.1 := ⟨_, rfl⟩
  obtain ⟨S, hSS⟩ : ∃ n, n = (A 7776).2.2.2 := ⟨_, rfl⟩
  obtain ⟨t, htt⟩ : ∃ n, n = (A 7776).2.2.1 := ⟨_, rfl⟩
  rw [← hnn] at i1 i3 i5 e1
  rw [← hfi] at i3 i5
  rw [← hSS] at i4 i5
  rw [← htt] at i5 e2
  have ref : ∀ m2 : jM, CFr μ m2 → ∃ m3, RM σ m3 ∧ RC m2 m3 ∧ ∀ K : Int32 × Int32 → jM → Option (Int32 × jM), jbd (jsi m2 201 0 (0 : Int32)) (fun m1 => jcl (f_X12_tries 201 m1) (fun m3 => jcl (jloop (fun (s : Int32 × Int32 × Int32) => f_X12_always_L16 201 m3 s.1 s.2.1 s.2.2) jfu (((-1 : Int32), (31 : Int32), (0 : Int32)))) (fun w => K w m3))) = K (if n = 0 then -1 else nI fi, nI S) m3 := by
    intro m2 F
    have hM1 : RM σ (jsi m2 201 0 0) := (hM.fc F).thr (by decide)
    obtain ⟨m3, t1, t2, t3⟩ := r_tries (hM1.2.1 0 (Nat.zero_le _)) h0
    have hM3 : RM σ m3 := RM216 hM1 t3
    obtain ⟨e', he', k1⟩ := jlpN (step := fun (s : Int32 × Int32 × Int32) => f_X12_always_L16 201 m3 s.1 s.2.1 s.2.2) 7776
      (fun k s => s = ((if (A k).1 = 0 then -1 else nI (A k).2.1), nI (A k).2.2.2, nI k))
      (fun e => e = ((if (A 7776).1 = 0 then -1 else nI (A 7776).2.1), nI (A 7776).2.2.2))
      (fun k s hk hs => by
        subst hs
        obtain ⟨l1, l2, l3, l4, -⟩ := iv k
        have htr := TRI0 hn (t2 k hk)
        refine ⟨_, ?_, rfl⟩
        dsimp only
        unfold f_X12_always_L16
        rw [jlit 7776, if_neg (nI_ge hk (by decide))]
        show jrd (m3.1 216) _ _ _ = _
        rw [jrd_n hk (by decide), nI_1 k, A_s, jbd_e]
        cases y : gdB (σ.2.1 0) true k with
        | false =>
          rw [if_neg (fun z => by rw [htr.mp z] at y; cases y), if_neg Bool.false_ne_true]
        | true =>
          rw [if_pos (htr.mpr y), if_pos rfl]
          have ef : (if (0 : Int32) ≤ (if (A k).1 = 0 then -1 else nI (A k).2.1) then (if (A k).1 = 0 then -1 else nI (A k).2.1) else nI k) = nI (if (A k).1 = 0 then k else (A k).2.1) := by
            by_cases c : (A k).1 = 0
            · rw [if_pos c, if_pos c, if_neg (by decide)]
            · rw [if_neg c, if_neg c, if_pos (show (0 : Int32) ≤ nI (A k).2.1 from nI_le (a := 0) (Nat.zero_le _) (by omega))]
          rw [ef, jcl_e (r_samL hk (show (if (A k).1 = 0 then k else (A k).2.1) < 7776 by split <;> omega) l4)]
          show _ = some (Sum.inl ((if (A k).1 + 1 = 0 then -1 else nI (if (A k).1 = 0 then k else (A k).2.1)), nI (sam k (if (A k).1 = 0 then k else (A k).2.1) (A k).2.2.2 5), nI (k + 1)))
          rw [if_neg (show ¬ (A k).1 + 1 = 0 by omega)])
      (fun s hs => by
        subst hs
        refine ⟨_, ?_, rfl⟩
        dsimp only
        unfold f_X12_always_L16
        rw [jlit 7776, if_pos (nI_le (Nat.le_refl _) (by decide))])
      (i := 0) (n := jfu) (s := ((-1 : Int32), (31 : Int32), (0 : Int32))) (by omega) (by rw [hA]; rfl) (jfu_lt (by omega))
    refine ⟨m3, hM3, (RC.thr (by decide)).tr (RCr216 t3), fun K => ?_⟩
    rw [jbd_e, jcl_e t1, jcl_e he', k1, ← hnn, ← hfi, ← hSS]
  unfold f_X11_always f_X12_always
  by_cases cz : n = 0
  · have F : CF μ e.2 := WF.cf e3
    obtain ⟨m3, r1, r2, r7⟩ := ref e.2 F.r
    refine ⟨-2, e.2, m3, ?_, ?_, rel_mk h hv hSe F r1 r2⟩
    · rw [jcl_e (show f_J7_fill_53178 (0 + 187) (0 : Int32) μ = some m0 from z1), jcl_e (show f_X10_begin (0 + 167) (1 : Int32) m0 = some m1 from a1), jcl_e he, e1, if_pos (by rw [cz]; rfl)]
    · refine (r7 (fun w30 m3 => (if (0 : Int32) ≤ w30.1 then jbd (jsi m3 201 1 (0 : Int32)) (fun m36 => jcl (jloop (fun (s : Int32 × jM) => f_X12_always_L110 201 w30.1 w30.2 s.1 s.2) jfu (((0 : Int32), m36))) (fun w46 => some ((w30.2, w46)))) else some (((-2 : Int32), m3))))).trans ?_
      dsimp only
      rw [if_pos cz, if_neg (by decide)]
  · have hfl : fi < 7776 := i3 (by omega)
    obtain ⟨w1, w2⟩ := c_empty e.2
    obtain ⟨w, q1, q2, q3, q4⟩ := jlpN (step := fun (s : Int32 × Int32 × jM) => f_X11_always_L97 0 s.1 s.2.1 s.2.2) 5
      (fun k s => s.1 = nI (mk (aw S k)) ∧ s.2.1 = nI k ∧ RwC (awl S fi k) s.2.2 ∧ jFr (fun c => c = 3 ∨ c = 4) e.2 s.2.2)
      (fun s => s.1 = nI (mk (aw S 5)) ∧ RwC (awl S fi 5) s.2 ∧ jFr (fun c => c = 3 ∨ c = 4) e.2 s.2)
      (fun k s hk hs => by
        obtain ⟨u, v, m⟩ := s
        obtain ⟨hu, hv1, g1, g2⟩ := hs
        have hu : u = nI (mk (aw S k)) := hu
        have hv1 : v = nI k := hv1
        subst hu
        subst hv1
        have g1 : RwC (awl S fi k) m := g1
        have g2 : jFr (fun c => c = 3 ∨ c = 4) e.2 m := g2
        obtain ⟨b1, -, b3⟩ := i5 k hk
        obtain ⟨b3, b4⟩ := b3 (by omega)
        have ml : mk (aw S k) < 2 ^ k := mk_lt (aw_lt S k)
        have kl : 2 ^ k < 2 ^ 5 := Nat.pow_lt_pow_right (by decide) hk
        have ll := awl_len S fi k
        obtain ⟨p1, p2⟩ := an_p _ b1 _ (val_lt fi k) b3
        have tkk : m.1 187 k = nI (t k) := by rw [(g2 187 (by decide)).1]; exact e2 k hk
        have pcl := pc_le (t k)
        have es := aw_s S k
        have el := awl_s S fi k
        have pre : ∀ o, (if pc (t k) = 1 then jcl (f_X3_tell 3 ((f_J6_numberOfTrailingZeros_0f7a4 (nI (t k))).toInt64) m) (fun m50 => some (.inl ((nI (mk (aw S k)) ||| nI (2 ^ k), nI (k + 1), m50)))) else some (.inl ((nI (mk (aw S k)), nI (k + 1), m)))) = o → f_X11_always_L97 0 (nI (mk (aw S k))) (nI k) m = o := fun o ho => by
          unfold f_X11_always_L97
          rw [jlit 5, if_neg (nI_ge hk (by decide))]
          show jrd (m.1 187) _ _ _ = _
          rw [jrd_n (by omega) (by decide), tkk, c_bits _ (by omega), shl_n _ (by omega), jbd_e, nI_1]
          show (if _ then jrd (m.1 187) _ _ _ else _) = _
          rw [jrd_n (by omega) (by decide), tkk]
          rw [← ho]
          by_cases c : pc (t k) = 1
          · rw [if_pos c, if_pos (by rw [c]; rfl)]
          · rw [if_neg c, if_neg (show ¬ nI (pc (t k)) = (1 : Int32) from fun z => c ((nI_eq (b := 1) (by omega) (by decide)).mp z))]
        by_cases c : S.testBit k = true
        · have c1 : pc (t k) = 1 := by
            rw [p1]; exact b4.mp c
          rw [if_pos c] at es el
          obtain ⟨m2, d1, d2, d3⟩ := c_tellR g1 (by omega) (nI (val fi k)).toInt64
          refine ⟨(nI (mk (aw S k)) ||| nI (2 ^ k), nI (k + 1), m2), pre _ (by rw [if_pos c1, p2 c1, jcl_e d1]), ?_, rfl, by rw [el]; exact d2, g2.tr d3⟩
          show nI (mk (aw S k)) ||| nI (2 ^ k) = _
          rw [es, mk_app, nI_or (by omega) (by omega)]
        · have c1 : ¬ pc (t k) = 1 := fun z => c (b4.mpr (p1.mp z))
          rw [if_neg c] at es el
          exact ⟨(nI (mk (aw S k)), nI (k + 1), m), pre _ (by rw [if_neg c1]), by rw [es], rfl, by rw [el]; exact g1, g2⟩)
      (fun s hs => by
        obtain ⟨u, v, m⟩ := s
        obtain ⟨hu, hv1, g1, g2⟩ := hs
        have hv1 : v = nI 5 := hv1
        subst hv1
        refine ⟨(u, m), ?_, hu, g1, g2⟩
        dsimp only
        unfold f_X11_always_L97
        rw [jlit 5, if_pos (nI_le (Nat.le_refl _) (by decide))])
      (i := 0) (n := jfu) (s := ((0 : Int32), (0 : Int32), f_X3_empty 3 e.2)) (by omega) ⟨rfl, rfl, w1, w2⟩ (jfu_lt (by omega))
    rw [aw_mk S i4] at q2
    have F : CFr μ w.2 := (WF.cf e3).r.tr (CFr.row q4)
    have hS2 : RS 5 σ w.2 := hSe.fc h9 q4 (fun c q z => by obtain ⟨q1, q2⟩ := q; omega)
    obtain ⟨m4, r1, r2, r7⟩ := ref w.2 F
    obtain ⟨w', y1, y2, y3⟩ := jlpN (step := fun (s : Int32 × jM) => f_X12_always_L110 201 (nI fi) (nI S) s.1 s.2) 5
      (fun k s => s.1 = nI k ∧ RwR (awl S fi k) s.2 ∧ Q9 (jsi m4 201 1 0) s.2)
      (fun s => RwR (awl S fi 5) s ∧ Q9 (jsi m4 201 1 0) s)
      (fun k s hk hs => by
        obtain ⟨v, m⟩ := s
        obtain ⟨hv1, g1, g2⟩ := hs
        have hv1 : v = nI k := hv1
        subst hv1
        have g1 : RwR (awl S fi k) m := g1
        have g2 : Q9 (jsi m4 201 1 0) m := g2
        have ll := awl_len S fi k
        have el := awl_s S fi k
        dsimp only
        unfold f_X12_always_L110
        rw [jlit 5, if_neg (nI_ge hk (by decide)), f_has (by omega) (by omega), jcl_e (r_valueOf hfl hk), nI_1]
        by_cases c : S.testBit k = true
        · rw [if_pos c] at el
          obtain ⟨m2, d1, d2, d3, d4⟩ := r_enters g1 (by omega) (nI (val fi k)).toInt64
          refine ⟨(nI (k + 1), m2), by rw [if_pos c, if_neg (by decide), jcl_e d1], rfl, by rw [el]; exact d2, g2.tr (Q9.ent d3 d4)⟩
        · rw [if_neg c] at el
          exact ⟨(nI (k + 1), m), by rw [if_neg c, if_pos rfl], rfl, by rw [el]; exact g1, g2⟩)
      (fun s hs => by
        obtain ⟨v, m⟩ := s
        obtain ⟨hv1, g1, g2⟩ := hs
        have hv1 : v = nI 5 := hv1
        subst hv1
        refine ⟨m, ?_, g1, g2⟩
        dsimp only
        unfold f_X12_always_L110
        rw [jlit 5, if_pos (nI_le (Nat.le_refl _) (by decide))])
      (i := 0) (n := jfu) (s := ((0 : Int32), jsi m4 201 1 0)) (by omega) ⟨rfl, r_told0 m4, Q9.rf⟩ (jfu_lt (by omega))
    have Q : Q9 m4 w' := Q9.told.tr y3
    refine ⟨nI S, w.2, w', ?_, ?_, rel_row h hv hS2 F (Q.rm r1) (r2.r.tr Q.rc) q3 y2 (by have := awl_len S fi 5; omega)⟩
    · rw [jcl_e (show f_J7_fill_53178 (0 + 187) (0 : Int32) μ = some m0 from z1), jcl_e (show f_X10_begin (0 + 167) (1 : Int32) m0 = some m1 from a1), jcl_e he, e1, if_neg (nI_ne0 (by omega) (by omega)), jbd_e]
      show jcl (jloop (fun (s : Int32 × Int32 × jM) => f_X11_always_L97 0 s.1 s.2.1 s.2.2) jfu ((0 : Int32), (0 : Int32), f_X3_empty 3 e.2)) _ = _
      rw [jcl_e q1, q2]
    · refine (r7 (fun w30 m3 => (if (0 : Int32) ≤ w30.1 then jbd (jsi m3 201 1 (0 : Int32)) (fun m36 => jcl (jloop (fun (s : Int32 × jM) => f_X12_always_L110 201 w30.1 w30.2 s.1 s.2) jfu (((0 : Int32), m36))) (fun w46 => some ((w30.2, w46)))) else some (((-2 : Int32), m3))))).trans ?_
      dsimp only
      rw [if_neg cz, if_pos (show (0 : Int32) ≤ nI fi from nI_le (a := 0) (Nat.zero_le _) (by omega)), jbd_e, jcl_e y1]
