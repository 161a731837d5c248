/-! search: the variable chosen -/
def btr (W : Nat) (L R : Nat → Nat) (k b : Nat) : Bool := if W = 0 then false else if W = 1 then decide (pc (L k) < pc (L b)) else decide (R b < R k)
def pkx (W : Nat) (L R : Nat → Nat) (k : Nat) : Option Nat → Option Nat
  | none => some k
  | some b => if btr W L R k b then some k else some b
def pck (W : Nat) (L R : Nat → Nat) : Nat → Option Nat
  | 0 => none
  | k + 1 => if 1 < pc (L k) then pkx W L R k (pck W L R k) else pck W L R k
theorem pck_s (W : Nat) (L R : Nat → Nat) (k : Nat) : pck W L R (k + 1) = if 1 < pc (L k) then pkx W L R k (pck W L R k) else pck W L R k := rfl
theorem pck_some {W : Nat} {L R : Nat → Nat} : ∀ {k b : Nat}, pck W L R k = some b → b < k ∧ 1 < pc (L b)
  | 0, b, h => by cases h
  | k + 1, b, h => by
    rw [pck_s] at h
    by_cases c : 1 < pc (L k)
    · rw [if_pos c] at h
      cases e : pck W L R k with
      | none =>
        rw [e] at h
        cases h
        exact ⟨by omega, c⟩
      | some b' =>
        rw [e] at h
        have := pck_some e
        by_cases d : btr W L R k b' = true
        · have h : (if btr W L R k b' then some k else some b') = some b := h
          rw [if_pos d] at h
          cases h
          exact ⟨by omega, c⟩
        · have h : (if btr W L R k b' then some k else some b') = some b := h
          rw [if_neg d] at h
          cases h
          exact ⟨by omega, this.2⟩
    · rw [if_neg c] at h
      have := pck_some h
      exact ⟨by omega, this.2⟩
theorem pck_none {W : Nat} {L R : Nat → Nat} : ∀ {k : Nat}, pck W L R k = none → ∀ x, x < k → ¬ 1 < pc (L x)
  | 0, _, x, hx => absurd hx (Nat.not_lt_zero x)
  | k + 1, h, x, hx => by
    rw [pck_s] at h
    by_cases c : 1 < pc (L k)
    · rw [if_pos c] at h
      cases e : pck W L R k with
      | none => rw [e] at h; cases h
      | some b' =>
        rw [e] at h
        have h : (if btr W L R k b' then some k else some b') = none := h
        split at h <;> cases h
    · rw [if_neg c] at h
      by_cases d : x = k
      · rw [d]; exact c
      · exact pck_none h x (by omega)
def oI : Option Nat → Int32
  | none => -1
  | some b => nI b
theorem c_chosen {T : TT} {L : LV} {W : Nat} {m : jM} (hT : RT 6 T m) (hv : VT T) (hL : RLm 166 L m) (hW : W < 3) (eW : m.1 170 3 = nI W) : f_X5_chosen 170 m = some (oI (pck W L (fun x => ru T x (nc T)) 5)) := by
  have hn := hv.2.1.1
  obtain ⟨R, hR⟩ : ∃ R : Nat → Nat, R = fun x => ru T x (nc T) := ⟨_, rfl⟩
  rw [← hR]
  have Rl : ∀ x, R x ≤ 8 := fun x => by rw [hR]; have := ru_le T x (nc T); show ru T x (nc T) ≤ 8; omega
  have bt : ∀ k b, k < 5 → b < 5 → f_X5_isBetter 170 (nI k) (nI b) m = some (if btr W L R k b then 1 else 0) := fun k b hk hb => by
    have p1 := pc_le (L k)
    have p2 := pc_le (L b)
    obtain ⟨k1, k2⟩ := hL k hk
    obtain ⟨b1, b2⟩ := hL b hb
    have r1 := Rl k
    have r2 := Rl b
    unfold f_X5_isBetter btr
    rw [eW]
    by_cases w0 : W = 0
    · rw [if_pos w0, w0, if_pos (show nI 0 = (0 : Int32) from rfl), if_neg Bool.false_ne_true]
    · rw [if_neg w0, if_neg (nI_ne0 (by omega) (by omega))]
      by_cases w1 : W = 1
      · rw [if_pos w1, w1, if_pos (show nI 1 = (1 : Int32) from rfl), jrd_n hk (by decide), jrd_n hb (by decide), k1, b1, c_bits _ (by omega), c_bits _ (by omega)]
        by_cases d : pc (L k) < pc (L b)
        · rw [decide_eq_true d, if_pos rfl, if_neg (nI_ge d (by omega))]; rfl
        · rw [decide_eq_false d, if_neg Bool.false_ne_true, if_pos (nI_le (show pc (L b) ≤ pc (L k) by omega) (by omega))]; rfl
      · rw [if_neg w1, if_neg (show ¬ nI W = (1 : Int32) from fun z => w1 ((nI_eq (b := 1) (by omega) (by decide)).mp z)), jcl_e (c_rules hT hv hk), jcl_e (c_rules hT hv hb)]
        have ek : ru T k (nc T) = R k := by rw [hR]
        have eb : ru T b (nc T) = R b := by rw [hR]
        rw [ek, eb]
        by_cases d : R b < R k
        · rw [decide_eq_true d, if_pos rfl, if_neg (nI_ge d (by omega))]; rfl
        · rw [decide_eq_false d, if_neg Bool.false_ne_true, if_pos (nI_le (show R k ≤ R b by omega) (by omega))]; rfl
  obtain ⟨w, hw, h1⟩ := jlpN (step := fun (z : Int32 × Int32) => f_X5_chosen_L4 170 m z.1 z.2) 5
    (fun k z => z = (oI (pck W L R k), nI k)) (fun w => w = oI (pck W L R 5))
    (fun k z hk hz => by
      subst hz
      have p1 := pc_le (L k)
      obtain ⟨k1, k2⟩ := hL k hk
      refine ⟨_, ?_, rfl⟩
      dsimp only
      unfold f_X5_chosen_L4
      rw [jlit 5, if_neg (nI_ge hk (by decide)), jrd_n hk (by decide), k1, c_bits _ (by omega), nI_1, pck_s]
      by_cases c : 1 < pc (L k)
      · rw [if_pos c, if_neg (show ¬ nI (pc (L k)) ≤ (1 : Int32) from nI_ge (a := 1) c (by omega))]
        cases e : pck W L R k with
        | none =>
          show (if (-1 : Int32) = -1 then _ else _) = _
          rw [if_pos rfl]; rfl
        | some b =>
          have hb := (pck_some e).1
          show (if nI b = -1 then _ else jcl (f_X5_isBetter 170 (nI k) (nI b) m) _) = some (Sum.inl (oI (if btr W L R k b then some k else some b), nI (k + 1)))
          rw [if_neg (nI_m1 (by omega)), jcl_e (bt k b hk (by omega))]
          cases btr W L R k b with
          | false => rw [if_neg Bool.false_ne_true, if_neg Bool.false_ne_true, if_pos rfl]
          | true => rw [if_pos rfl, if_pos rfl, if_neg (by decide)]; rfl
      · rw [if_neg c, if_pos (show nI (pc (L k)) ≤ (1 : Int32) from nI_le (b := 1) (by omega) (by decide))])
    (fun z hz => by
      subst hz
      refine ⟨_, ?_, rfl⟩
      dsimp only
      unfold f_X5_chosen_L4
      rw [jlit 5, if_pos (nI_le (Nat.le_refl _) (by decide))])
    (i := 0) (n := jfu) (s := ((-1 : Int32), (0 : Int32))) (by omega) rfl (jfu_lt (by omega))
  unfold f_X5_chosen
  rw [jcl_e hw, h1]
theorem neg_le : ∀ a, a < 9 → ∀ b, b < 9 → ((-nI a ≤ -nI b) = (b ≤ a)) ∧ ¬ (1000000 : Int32) ≤ -nI b := by decide +kernel
def prc (W : Nat) (L R : Nat → Nat) (k : Nat) : Int32 := if W = 0 then 0 else if W = 1 then nI (pc (L k)) else -nI (R k)
def lst (W : Nat) (L R : Nat → Nat) : Option Nat → Int32
  | none => 1000000
  | some b => prc W L R b
theorem r_taken {T : TT} {L : LV} {W : Nat} {m : jM} (hT : RW 0 T m) (hv : VT T) (hL : RLm 210 L m) (hW : W < 3) : f_X12_taken 201 210 (nI W) m = some (oI (pck W L (fun x => ru T x (nc T)) 5)) := by
  have hn := hv.2.1.1
  obtain ⟨R, hR⟩ : ∃ R : Nat → Nat, R = fun x => ru T x (nc T) := ⟨_, rfl⟩
  rw [← hR]
  have Rl : ∀ x, R x ≤ 8 := fun x => by rw [hR]; have := ru_le T x (nc T); show ru T x (nc T) ≤ 8; omega
  have jl : jlen 210 = 5 := by decide
  have cmp : ∀ k b, k < 5 → b < 5 → (prc W L R b ≤ prc W L R k) = ¬ btr W L R k b = true := fun k b hk hb => by
    have p1 := pc_le (L k)
    have p2 := pc_le (L b)
    have r1 := Rl k
    have r2 := Rl b
    unfold prc btr
    by_cases w0 : W = 0
    · simp only [if_pos w0]; decide
    · simp only [if_neg w0]
      by_cases w1 : W = 1
      · simp only [if_pos w1]
        by_cases d : pc (L k) < pc (L b)
        · rw [decide_eq_true d]
          exact propext ⟨fun z => absurd z (nI_ge d (by omega)), fun z => absurd rfl z⟩
        · rw [decide_eq_false d]
          exact propext ⟨fun _ => Bool.false_ne_true, fun _ => nI_le (by omega) (by omega)⟩
      · simp only [if_neg w1]
        rw [(neg_le (R b) (by omega) (R k) (by omega)).1, decide_eq_true_eq]
        exact propext ⟨fun z => by omega, fun z => by omega⟩
  have ini : ∀ k, k < 5 → ¬ (1000000 : Int32) ≤ prc W L R k := fun k hk => by
    have p1 := pc_le (L k)
    have r1 := Rl k
    unfold prc
    by_cases w0 : W = 0
    · rw [if_pos w0]; decide
    · rw [if_neg w0]
      by_cases w1 : W = 1
      · rw [if_pos w1]; exact nI_ge (b := 1000000) (by omega) (by decide)
      · rw [if_neg w1]; exact (neg_le 0 (by omega) (R k) (by omega)).2
  obtain ⟨w, hw, h1⟩ := jlpN (step := fun (z : Int32 × Int32 × Int32) => f_X12_taken_L10 201 210 (nI W) m z.1 z.2.1 z.2.2) 5
    (fun k z => z = (oI (pck W L R k), lst W L R (pck W L R k), nI k)) (fun w => w = oI (pck W L R 5))
    (fun k z hk hz => by
      subst hz
      have p1 := pc_le (L k)
      obtain ⟨k1, k2⟩ := hL k hk
      have pre : ∀ z, (if pc (L k) ≤ 1 then some (.inl ((oI (pck W L R k), lst W L R (pck W L R k), nI (k + 1)))) else (if lst W L R (pck W L R k) ≤ prc W L R k then some (.inl ((oI (pck W L R k), lst W L R (pck W L R k), nI (k + 1)))) else some (.inl ((nI k, prc W L R k, nI (k + 1)))))) = z → f_X12_taken_L10 201 210 (nI W) m (oI (pck W L R k)) (lst W L R (pck W L R k)) (nI k) = z := fun z hz => by
        have k6 : ∀ t : Int32, t = prc W L R k → jrd (m.1 210) (nI k) (jlen 210) (fun v10 => jcl (f_X12_bitsOf v10) (fun v12 => (if v12 ≤ (1 : Int32) then some (.inl ((oI (pck W L R k), lst W L R (pck W L R k), nI k + (1 : Int32)))) else (if lst W L R (pck W L R k) ≤ t then some (.inl ((oI (pck W L R k), lst W L R (pck W L R k), nI k + (1 : Int32)))) else some (.inl ((nI k, t, nI k + (1 : Int32)))))))) = z := fun t ht => by
          subst ht
          rw [jl, jrd_n hk (by decide), k1, jcl_e (r_bits (by omega)), nI_1, ← hz]
          by_cases c : pc (L k) ≤ 1
          · rw [if_pos c, if_pos (show nI (pc (L k)) ≤ (1 : Int32) from nI_le (b := 1) c (by decide))]
          · rw [if_neg c, if_neg (show ¬ nI (pc (L k)) ≤ (1 : Int32) from nI_ge (a := 1) (by omega) (by omega))]
        unfold f_X12_taken_L10
        rw [jlit 5, if_neg (nI_ge hk (by decide))]
        simp only [jbd_e]
        by_cases w0 : W = 0
        · rw [if_pos (show nI W = (0 : Int32) by rw [w0]; rfl)]
          exact k6 _ (by unfold prc; rw [if_pos w0])
        · rw [if_neg (show ¬ nI W = (0 : Int32) from nI_ne0 (by omega) (by omega))]
          by_cases w1 : W = 1
          · rw [if_pos (show nI W = (1 : Int32) by rw [w1]; rfl)]
            rw [jl, jrd_n hk (by decide), k1, jcl_e (r_bits (by omega)), ← jl]
            exact k6 _ (by unfold prc; rw [if_neg w0, if_pos w1])
          · rw [if_neg (show ¬ nI W = (1 : Int32) from fun z => w1 ((nI_eq (b := 1) (by omega) (by decide)).mp z)), jcl_e (r_rules hT hv hk)]
            exact k6 _ (by unfold prc; rw [if_neg w0, if_neg w1, hR])
      refine ⟨_, pre _ ?_, rfl⟩
      rw [pck_s]
      by_cases c : 1 < pc (L k)
      · rw [if_pos c, if_neg (by omega)]
        cases e : pck W L R k with
        | none =>
          show (if (1000000 : Int32) ≤ _ then _ else _) = _
          rw [if_neg (ini k hk)]; rfl
        | some b =>
          have hb := (pck_some e).1
          show (if prc W L R b ≤ prc W L R k then _ else _) = some (Sum.inl (oI (if btr W L R k b then some k else some b), lst W L R (if btr W L R k b then some k else some b), nI (k + 1)))
          by_cases d : btr W L R k b = true
          · rw [if_pos d, if_neg (by rw [cmp k b hk (by omega)]; exact fun z => z d)]; rfl
          · rw [if_neg d, if_pos (by rw [cmp k b hk (by omega)]; exact d)]
      · rw [if_neg c, if_pos (by omega)])
    (fun z hz => by
      subst hz
      refine ⟨_, ?_, rfl⟩
      dsimp only
      unfold f_X12_taken_L10
      rw [jlit 5, if_pos (nI_le (Nat.le_refl _) (by decide))])
    (i := 0) (n := jfu) (s := ((-1 : Int32), (1000000 : Int32), (0 : Int32))) (by omega) rfl (jfu_lt (by omega))
  unfold f_X12_taken
  rw [jcl_e hw, h1]
