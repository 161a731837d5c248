/-! run: both do the same -/
def CS (n : Nat) (s : Nat → Nat) (σ : SS) (dn : Nat) (μ : jM) : Prop := CT n s μ ∧ RS 5 σ μ ∧ μ.1 179 5 = nI dn
def CX (μ μ' : jM) : Prop := jFr (fun c => CA 5 c ∨ c = 179) μ μ'
def MS (P : PG) (σ : SS) (dn : Nat) (m : jM) : Prop := RM σ m ∧ m.1 201 25 = nI dn ∧ PR m = P
def MX (m m' : jM) : Prop := jFr (fun c => c = 201 ∨ (204 ≤ c ∧ c ≤ 206) ∨ c = 210) m m' ∧ MF (fun w => w ≤ 10) m m' ∧ ∀ k, k ≠ 0 → k ≠ 9 → k ≠ 15 → k ≠ 25 → m'.1 201 k = m.1 201 k
theorem MX.rf {m : jM} : MX m m := ⟨jFr.rf, MF.rf, fun _ _ _ _ _ => rfl⟩
theorem MX.tr {m w z : jM} (h : MX m w) (h2 : MX w z) : MX m z := ⟨h.1.tr h2.1, h.2.1.tr h2.2.1, fun k a b c d => (h2.2.2 k a b c d).trans (h.2.2 k a b c d)⟩
theorem MX.of {m w : jM} (h : RA m w) : MX m w := ⟨h.1, h.2.1, fun k a b c _ => h.2.2 k a b c⟩
theorem CX.rf {m : jM} : CX m m := jFr.rf
theorem CX.tr {m w z : jM} (h : CX m w) (h2 : CX w z) : CX m z := jFr.tr h h2
theorem CX.si {m : jM} {k : Nat} {v : Int32} : CX m (jsi m 179 k v) := jFr.si _ _ _ (Or.inr rfl)
theorem CX.of {m w : jM} (h : jFr (inS 5) m w) : CX m w := h.mono (fun c hc => Or.inl (Or.inl hc))
theorem ca_no {c : Nat} (h : c < 5 ∨ (85 ≤ c ∧ c ≠ 166 ∧ c ≠ 179)) : ¬ (CA 5 c ∨ c = 179) := fun q => by
  rcases q with (⟨q1, q2⟩ | q) | q <;> omega
theorem CT.cx {n : Nat} {s : Nat → Nat} {μ μ' : jM} (h : CT n s μ) (f : CX μ μ') : CT n s μ' := ⟨h.1, by rw [(f 1 (ca_no (by omega))).1]; exact h.2.1, fun i hi => by rw [(f 2 (ca_no (by omega))).1]; exact h.2.2 i hi⟩
theorem pr_mx {m m' : jM} (f : MX m m') : PR m' = PR m := by
  funext i
  unfold PR
  rw [(f.1 211 (by omega)).1, (f.1 212 (by omega)).1, (f.1 213 (by omega)).1, (f.1 214 (by omega)).1, (f.1 215 (by omega)).1]
theorem pr_op {m : jM} {P : PG} (h : PR m = P) (i : Nat) : m.1 211 i = (P i).1 ∧ m.1 212 i = (P i).2.1 ∧ m.1 213 i = (P i).2.2.1 ∧ m.1 214 i = (P i).2.2.2.1 ∧ m.1 215 i = (P i).2.2.2.2 := by
  rw [← h]
  exact ⟨rfl, rfl, rfl, rfl, rfl⟩
theorem RS.c179 {σ : SS} {μ : jM} {k : Nat} {v : Int32} (h : RS 5 σ μ) (hv : VS σ) : RS 5 σ (jsi μ 179 k v) := h.fr hv.1 (fun c hc => jsi_ne (by obtain ⟨q1, q2⟩ := hc; omega))
/-- an act -/
theorem ex_act {n p q l l' dn : Nat} {s : Nat → Nat} {P : PG} {σ : SS} (hv : VS σ) (hl : l < 168) (h : ItA n s P p q l l') :
    ∃ (ok : Bool) (σ' : SS) (dn' : Nat), VS σ' ∧ σ'.1 = σ.1 ∧
    (∀ μ, CS n s σ dn μ → μ.1 179 4 = nI p → ∃ μ', jcl (f_X4_actAt 179 (nI p) μ) (fun v => f_X4_doAct 179 v μ) = some ((if ok then (1 : Int32) else 0), μ') ∧ CS n s σ' dn' μ' ∧ (ok = true → μ'.1 179 4 = nI q) ∧ CX μ μ') ∧
    (∀ m, MS P σ dn m → ∃ m', (∀ {β : Type} (K : Int32 → jM → Option β), jcl (f_X12_begins 201 m) (fun m21 => jcl2 (f_X12_doesAct 201 (nI l) m21) (fun v23 m24 => jcl2 (f_X12_ends 201 v23 m24) (fun v26 m27 => jbd ((if v26 < (0 : Int32) then (0 : Int32) else (1 : Int32)) : Int32) (fun v30 => jbd (jsi m27 201 25 ((m27.1 201 25) + (f_X12_flag v30))) (fun m32 => K v30 m32))))) = K (if ok then (1 : Int32) else 0) m') ∧ MS P σ' dn' m' ∧ MX m m') := by
  obtain ⟨k, h1, h2, h3, h4, h5, h6, h7, h8, h9, h10⟩ := h
  obtain ⟨r, T', hT, c1, c2⟩ := aok (σ := σ) hv h4
  have hk := (ra_some h4).1
  have e1 := (ra_some h4).2.1
  have hf : ∀ b : Bool, f_X12_flag (if b then (1 : Int32) else 0) = if b then 1 else 0 := by decide
  obtain ⟨ok, g1, g2⟩ : ∃ ok : Bool, (if r < (0 : Int32) then (0 : Int32) else 1) = (if ok then 1 else 0) ∧ (ok = true ↔ ¬ r < 0) := by
    by_cases c : r < (0 : Int32)
    · exact ⟨false, by rw [if_pos c]; rfl, ⟨fun z => by (cases z), fun z => absurd c z⟩⟩
    · exact ⟨true, by rw [if_neg c]; rfl, ⟨fun _ => c, fun _ => rfl⟩⟩
  refine ⟨ok, chg σ T', if ok then dn + 1 else dn, hv.chg hT, rfl, fun μ hC hp => ?_, fun m hM => ?_⟩
  · obtain ⟨μ', a1, a2, a3, a4, a5⟩ := c1 μ dn hC.1 hC.2.1 hp hC.2.2
    refine ⟨μ', ?_, ⟨hC.1.cx a5, a2, ?_⟩, fun z => ?_, a5⟩
    · rw [jcl_e (c_actAt hC.1 (by have := hC.1.1; omega)), h4]
      show f_X4_doAct 179 (nI k) μ = _
      rw [a1, g1]
    · rw [a4]
      cases ok with
      | true => rw [if_neg (g2.mp rfl), if_pos rfl]
      | false =>
        rw [if_neg Bool.false_ne_true, if_pos]
        by_cases c : r < (0 : Int32)
        · exact c
        · exact absurd (g2.mpr c) Bool.false_ne_true
    · rw [a3, if_neg (g2.mp z), h5, e1]
  · obtain ⟨hR, hd, hP⟩ := hM
    obtain ⟨m1, b1, b2, b3, b4, b5⟩ := r_begins hR hv.1
    have f1 : MX m m1 := ⟨b5.mono (fun c hc => by omega), b4.mono (fun w hw => by omega), fun k _ _ _ _ => by rw [(b5 201 (by decide)).1]⟩
    obtain ⟨o1, o2, o3, o4, o5⟩ := pr_op ((pr_mx f1).trans hP) l
    obtain ⟨m2, d1, d2, d3, d4⟩ := c2 m1 l hl b2 b3 (o1.trans h7) (o2.trans h8) (o3.trans h9)
    obtain ⟨m3, e1, e2, e3⟩ := r_ends d2 d3 hv hT r
    have f3 : MX m2 m3 := ⟨e3.mono (fun c hc => by omega), MF.of (e3 204 (by decide)).1, fun k _ _ _ _ => by rw [(e3 201 (by decide)).1]⟩
    have f13 := (f1.tr (MX.of d4)).tr f3
    have d25 : m3.1 201 25 = nI dn := by
      rw [(e3 201 (by decide)).1, d4.2.2 25 (by decide) (by decide) (by decide), (b5 201 (by decide)).1]
      exact hd
    have f4 : MX m3 (jsi m3 201 25 (nI (if ok then dn + 1 else dn))) := ⟨jFr.si _ _ _ (Or.inl rfl), MF.of (jsi_ne (by decide)), fun k _ _ _ a => jsi_pl a⟩
    refine ⟨jsi m3 201 25 (nI (if ok then dn + 1 else dn)), fun K => ?_, ⟨e2.thr (by decide), jsi_at _ _ _ _, (pr_mx (f13.tr f4)).trans hP⟩, f13.tr f4⟩
    rw [jcl_e b1, jcl2_e d1, jcl2_e e1, g1, jbd_e, hf, d25, jbd_e]
    cases ok with
    | true => rw [if_pos rfl, nI_1]; rfl
    | false => rw [if_neg Bool.false_ne_true, show nI dn + (0 : Int32) = nI dn from Int32.add_zero _]; rfl
def EXR (n : Nat) (s : Nat → Nat) (P : PG) (fc fr : jM → Option (Int32 × jM)) (p q : Nat) : Prop := ∀ σ dn, VS σ → ∃ (ok : Bool) (σ' : SS) (dn' pr lr : Nat), VS σ' ∧ σ'.1 = σ.1 ∧ (ok = false → lr < 168 ∧ pr ≤ n ∧ (P lr).2.2.2.1 = nI pr) ∧
    (∀ μ, CS n s σ dn μ → μ.1 179 4 = nI p → ∃ μ', fc μ = some ((if ok then (1 : Int32) else 0), μ') ∧ CS n s σ' dn' μ' ∧ μ'.1 179 4 = nI (if ok then q else pr) ∧ CX μ μ') ∧
    (∀ m, MS P σ dn m → ∃ m', fr m = some ((if ok then (-1 : Int32) else nI lr), m') ∧ MS P σ' dn' m' ∧ MX m m')
def EXB (n : Nat) (s : Nat → Nat) (P : PG) (fc fr : jM → Option (Int32 × jM)) (p q : Nat) : Prop := ∀ σ dn, VS σ → ∃ (ok : Bool) (σ' : SS) (dn' : Nat), VS σ' ∧ σ'.1 = σ.1 ∧
    (∀ μ, CS n s σ dn μ → μ.1 179 4 = nI p → ∃ μ', fc μ = some ((if ok then (1 : Int32) else 0), μ') ∧ CS n s σ' dn' μ' ∧ (ok = true → μ'.1 179 4 = nI q) ∧ CX μ μ') ∧
    (∀ m, MS P σ dn m → ∃ m', fr m = some ((if ok then (1 : Int32) else 0), m') ∧ MS P σ' dn' m' ∧ MX m m')
/-- a run ends there -/
def Ed (n : Nat) (s : Nat → Nat) (q : Nat) : Prop := n ≤ q ∨ (q < n ∧ (s q = 124 ∨ bc (s q) = true))
theorem in_k {n : Nat} {s : Nat → Nat} {P : PG} {RR : R4} (hb : Bd n RR 0) (so : Nat) : ∀ k p q l l', InR n s P RR so k p q l l' → p ≤ n → p + k + 1 ≤ q ∧ q ≤ n
  | 0, p, q, l, l', hR, hp => by
    obtain ⟨q1, h1, -, h3, -, h5⟩ := hR
    have := hb _ _ _ _ h1 hp
    omega
  | k + 1, p, q, l, l', hR, hp => by
    obtain ⟨-, q1, l1, h1, -, h3, -, h5⟩ := hR
    have a := hb _ _ _ _ h1 hp
    have b := in_k hb so k _ _ _ _ h5 (by omega)
    omega
/-- a level is opened and a run is tried in it, by the class -/
theorem c_try {n p q pr dn : Nat} {s : Nat → Nat} {σ σ2 : SS} {dn2 : Nat} {ok : Bool} {x : Int32} {rA : Nat → Int32 → jM → Option (Int32 × jM)} {w : jM} (hv : VS σ) (h9 : σ.1 < 9) (hC : CS n s σ dn w)
    (hr : ∀ μ, CS n s (opn σ) dn μ → μ.1 179 4 = nI p → ∃ μ', rA 179 x μ = some ((if ok then (1 : Int32) else 0), μ') ∧ CS n s σ2 dn2 μ' ∧ μ'.1 179 4 = nI (if ok then q else pr) ∧ CX μ μ') :
    ∃ m20, CS n s σ2 dn2 m20 ∧ CX w m20 ∧ ∀ {β : Type} (K : Int32 → jM → Option β), jcl2 (f_X7_openLevel 5 w) (fun _ m15 => jbd (jsi m15 179 4 (nI p)) (fun m17 => jcl2 (rA 179 x m17) (fun v19 m20 => K v19 m20))) = K (if ok then (1 : Int32) else 0) m20 := by
  obtain ⟨hT, hS, hd⟩ := hC
  obtain ⟨μ1, a1, a2, a3⟩ := c_open hS hv h9
  have x1 : CX w μ1 := CX.of a3
  have x2 : CX w (jsi μ1 179 4 (nI p)) := x1.tr CX.si
  have d1 : (jsi μ1 179 4 (nI p)).1 179 5 = nI dn := by
    rw [jsi_pl (by decide), (a3 179 (fun z => by obtain ⟨z1, z2⟩ := z; omega)).1]
    exact hd
  obtain ⟨m20, b1, b2, b3, b4⟩ := hr (jsi μ1 179 4 (nI p)) ⟨hT.cx x2, a2.c179 (hv.opn h9), d1⟩ (jsi_at _ _ _ _)
  refine ⟨m20, b2, x2.tr b4, fun K => ?_⟩
  rw [jcl2_e a1, jbd_e, jcl2_e b1]
theorem c_back {n dn dn2 : Nat} {s : Nat → Nat} {σ2 : SS} {m20 : jM} (hv : VS σ2) (h0 : 0 < σ2.1) (hC : CS n s σ2 dn2 m20) : ∃ m35, CS n s (clo (σ2.1 - 1) σ2) dn m35 ∧ CX m20 m35 ∧ ∀ {β : Type} (K : jM → Option β), jcl (f_X7_closeTo 5 ((m20.1 5 2) - (1 : Int32)) m20) (fun m33 => jbd (jsi m33 179 5 (nI dn)) (fun m35 => K m35)) = K m35 := by
  obtain ⟨hT, hS, hd⟩ := hC
  obtain ⟨μ1, a1, a2, a3⟩ := c_close (n := σ2.1 - 1) hS hv (by omega)
  have x1 : CX m20 μ1 := CX.of a3
  have x2 : CX m20 (jsi μ1 179 5 (nI dn)) := x1.tr CX.si
  refine ⟨jsi μ1 179 5 (nI dn), ⟨hT.cx x2, a2.c179 (hv.clo (by omega)), jsi_at _ _ _ _⟩, x2, fun K => ?_⟩
  rw [hS.1, jlit 1, pk_sub (by omega), jcl_e a1, jbd_e]
theorem c_keep {n dn2 : Nat} {s : Nat → Nat} {σ2 : SS} {m20 : jM} (hv : VS σ2) (h0 : 0 < σ2.1) (hC : CS n s σ2 dn2 m20) : ∃ m40, CS n s (com σ2) dn2 m40 ∧ CX m20 m40 ∧ ∀ {β : Type} (K : jM → Option β), jcl2 (f_X7_commitLevel 5 m20) (fun _ m40 => K m40) = K m40 := by
  obtain ⟨hT, hS, hd⟩ := hC
  obtain ⟨μ1, a1, a2, a3⟩ := c_commit hS hv h0
  have x1 : CX m20 μ1 := CX.of a3
  refine ⟨μ1, ⟨hT.cx x1, a2, ?_⟩, x1, fun K => ?_⟩
  · rw [(a3 179 (fun z => by obtain ⟨z1, z2⟩ := z; omega)).1]
    exact hd
  · rw [jcl2_e a1]
/-- the same, by the reference -/
theorem MX.lv {m w : jM} {B C : Nat → Prop} (h1 : jFr C m w) (hC : ∀ c, C c → c = 201 ∨ (204 ≤ c ∧ c ≤ 206)) (h2 : MF B m w) (hB : ∀ z, B z → z ≤ 9) (h3 : ∀ k, k ≠ 9 → k ≠ 15 → w.1 201 k = m.1 201 k) : MX m w := ⟨h1.mono (fun c hc => by have := hC c hc; omega), h2.mono (fun z hz => by have := hB z hz; omega), fun k _ b c _ => h3 k b c⟩
theorem r_try {l l1 dn lr dn2 : Nat} {P : PG} {σ σ2 : SS} {ok : Bool} {rB : Nat → Int32 → Int32 → jM → Option (Int32 × jM)} {m : jM} (hv : VS σ) (h9 : σ.1 < 9) (hM : MS P σ dn m) (hl : l < 168) (hs : (P l).2.2.2.2 = nI l1)
    (hr : ∀ m, MS P (opn σ) dn m → ∃ m', rB 201 (nI (l + 1)) (nI l1) m = some ((if ok then (-1 : Int32) else nI lr), m') ∧ MS P σ2 dn2 m' ∧ MX m m') :
    ∃ m15, MS P σ2 dn2 m15 ∧ MX m m15 ∧ ∀ {β : Type} (K : Int32 → jM → Option β), jcl2 (f_X12_opensOne 201 m) (fun _ m9 => jrd (m9.1 (201 + 14)) (nI l) 168 (fun v12 => jcl2 (rB 201 (nI l + (1 : Int32)) v12 m9) (fun v14 m15 => K v14 m15))) = K (if ok then (-1 : Int32) else nI lr) m15 := by
  obtain ⟨hR, hd, hP⟩ := hM
  obtain ⟨m1, a1, a2, a3, a4, a5⟩ := r_open hR hv h9
  have x1 : MX m m1 := MX.lv a4 (fun c hc => by omega) a3 (fun z hz => hz) (fun k b _ => a5 k b)
  have p1 := (pr_mx x1).trans hP
  obtain ⟨m15, b1, b2, b3⟩ := hr m1 ⟨a2, (a5 25 (by decide)).trans hd, p1⟩
  refine ⟨m15, b2, x1.tr b3, fun K => ?_⟩
  rw [jcl2_e a1]
  show jrd (m1.1 215) _ _ _ = _
  rw [jrd_n hl (by decide), (pr_op p1 l).2.2.2.2, hs, nI_1, jcl2_e b1]
theorem r_back {dn dn2 : Nat} {P : PG} {σ2 : SS} {m15 : jM} (hv : VS σ2) (h0 : 0 < σ2.1) (hM : MS P σ2 dn2 m15) : ∃ m26, MS P (clo (σ2.1 - 1) σ2) dn m26 ∧ MX m15 m26 ∧ ∀ {β : Type} (K : jM → Option β), jcl2 (f_X12_closesOne 201 m15) (fun _ m24 => jbd (jsi m24 201 25 (nI dn)) (fun m26 => K m26)) = K m26 := by
  obtain ⟨hR, hd, hP⟩ := hM
  obtain ⟨m1, a1, a2, a3, a4, a5⟩ := r_close hR hv h0
  have x1 : MX m15 m1 := MX.lv a4 (fun c hc => by omega) a3 (fun z hz => hz) (fun k b _ => a5 k b)
  have x2 : MX m1 (jsi m1 201 25 (nI dn)) := ⟨jFr.si _ _ _ (Or.inl rfl), MF.of (jsi_ne (by decide)), fun k _ _ _ a => jsi_pl a⟩
  refine ⟨jsi m1 201 25 (nI dn), ⟨a2.thr (by decide), jsi_at _ _ _ _, (pr_mx (x1.tr x2)).trans hP⟩, x1.tr x2, fun K => ?_⟩
  rw [jcl2_e a1, jbd_e]
theorem r_keep {dn2 : Nat} {P : PG} {σ2 : SS} {m15 : jM} (hv : VS σ2) (h0 : 0 < σ2.1) (hM : MS P σ2 dn2 m15) : ∃ m45, MS P (com σ2) dn2 m45 ∧ MX m15 m45 ∧ jcl2 (f_X12_commitsOne 201 m15) (fun _ m45 => some (((1 : Int32), m45))) = some (1, m45) := by
  obtain ⟨hR, hd, hP⟩ := hM
  obtain ⟨m1, a1, a2, a3, a4, a5, a6⟩ := r_commit hR hv h0
  have x1 : MX m15 m1 := MX.lv (B := fun _ => False) a5 (fun c hc => by omega) (MF.of a4) (fun z hz => hz.elim) a6
  refine ⟨m1, ⟨a2, (a6 25 (by decide) (by decide)).trans hd, (pr_mx x1).trans hP⟩, x1, ?_⟩
  rw [jcl2_e a1]
