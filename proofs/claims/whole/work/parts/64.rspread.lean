/-! the reference spreads -/
theorem r_holds {s v w : Nat} {d : Int32} (hs : s < 3) (hv : v < 6) (hw : w < 6) (hd : -9 ≤ d.toInt ∧ d.toInt ≤ 9) : f_X12_holds (nI s) (nI v) (nI w) d = 0 ↔ ¬ hldB s v w d := by
  have ev := nI_toInt (n := v) (by omega)
  have ew := nI_toInt (n := w) (by omega)
  have ea : (nI w + d).toInt = w + d.toInt := by
    rw [Int32.toInt_add, ew, Int.bmod_eq_of_le] <;> omega
  have eq : nI v = nI w + d ↔ (v : Int) = w + d.toInt := by
    rw [← Int32.toInt_inj, ev, ea]
  unfold f_X12_holds hldB
  rcases (show s = 0 ∨ s = 1 ∨ s = 2 by omega) with q | q | q <;> subst q
  · rw [if_pos (by rfl), if_pos rfl]
    by_cases c : nI w + d ≤ nI v
    · rw [if_pos c]
      rw [i32_le, ea, ev] at c
      exact ⟨fun _ => by omega, fun _ => rfl⟩
    · rw [if_neg c]
      rw [i32_le, ea, ev] at c
      exact ⟨fun z => absurd z (by decide), fun z => absurd (by omega) z⟩
  · rw [if_neg (show ¬ nI 1 = (0 : Int32) by decide), if_pos (show nI 1 = (1 : Int32) from rfl), if_neg (show ¬ (1 : Nat) = 0 by decide), if_pos (show (1 : Nat) = 1 from rfl)]
    by_cases c : nI v = nI w + d
    · rw [if_pos c]
      exact ⟨fun z => absurd z (by decide), fun z => absurd (eq.mp c) z⟩
    · rw [if_neg c]
      exact ⟨fun _ z => c (eq.mpr z), fun _ => rfl⟩
  · rw [if_neg (show ¬ nI 2 = (0 : Int32) by decide), if_neg (show ¬ nI 2 = (1 : Int32) by decide), if_neg (show ¬ (2 : Nat) = 0 by decide), if_neg (show ¬ (2 : Nat) = 1 by decide)]
    by_cases c : nI v = nI w + d
    · rw [if_pos c]
      exact ⟨fun _ z => z (eq.mp c), fun _ => rfl⟩
    · rw [if_neg c]
      exact ⟨fun z => absurd z (by decide), fun z => absurd (fun q => c (eq.mpr q)) z⟩
theorem supp_two {T : TT} {i x v s a b : Nat} {L : LV} (hs : s < 3) (ha : a < 5) (hb : b < 5) (e0 : T (29 + 4 * i) = nI s) (e1 : T (29 + (4 * i + 1)) = nI a) (e2 : T (29 + (4 * i + 2)) = nI b) : supp T i L x v ↔ (x = a → ∃ w, w < 6 ∧ (L b).testBit w = true ∧ hldB s v w (T (29 + (4 * i + 3)))) ∧ (x = b → ∃ w, w < 6 ∧ (L a).testBit w = true ∧ hldB s w v (T (29 + (4 * i + 3)))) := by
  constructor
  · intro h
    exact h.1 s a b hs ha hb e0 e1 e2
  · intro h
    refine ⟨fun s' a' b' h1 h2 h3 q0 q1 q2 => ?_, fun m hm q0 => ?_⟩
    · have z0 : s' = s := (nI_eq (by omega) (by omega)).mp (q0.symm.trans e0)
      have z1 : a' = a := (nI_eq (by omega) (by omega)).mp (q1.symm.trans e1)
      have z2 : b' = b := (nI_eq (by omega) (by omega)).mp (q2.symm.trans e2)
      rw [z0, z1, z2]; exact h
    · have := (nI_eq (by omega) (by omega)).mp (q0.symm.trans e0)
      omega
theorem supp_set {T : TT} {i x v m : Nat} {L : LV} (hm : m < 32) (e0 : T (29 + 4 * i) = nI 3) (e1 : T (29 + (4 * i + 1)) = nI m) : supp T i L x v ↔ (m.testBit x = true → ∃ s, sdr (fun z => m.testBit z && !(z == x)) (fun z w => (L z).testBit w && !(w == v)) s) := by
  constructor
  · intro h hx
    exact h.2 m hm e0 e1 hx
  · intro h
    refine ⟨fun s' a' b' h1 h2 h3 q0 => ?_, fun m' hm' q0 q1 hx => ?_⟩
    · have := (nI_eq (by omega) (by omega)).mp (q0.symm.trans e0)
      omega
    · have z1 : m' = m := (nI_eq (by omega) (by omega)).mp (q1.symm.trans e1)
      rw [z1] at hx ⊢
      exact h hx
theorem r_bears {c i x v : Nat} {T : TT} {L : LV} {μ : jM} (hc : jlen c = 5) (hL : RLm c L μ) (hT : RW 0 T μ) (hv : VT T) (hi : i < nc T) (hx : x < 5) (hvv : v < 6) : ∃ r, f_X12_bears 201 c (nI i) (nI x) (nI v) μ = some r ∧ (r = 0 ∨ r = 1) ∧ (r = 1 ↔ supp T i L x v) := by
  have hn := hv.2.1.1
  have hcon := hv.2.2.2.2.2.2.2 i hi
  have rd : ∀ q (z : Option Int32) (K : Int32 → Option Int32), q < 4 → K (T (29 + (4 * i + q))) = z → jrd (μ.1 (201 + 3)) (nI (29 + 4 * i + q)) 2074 K = z := fun q z K hq hz => by
    show jrd (μ.1 204) _ _ _ = _
    rw [jrd_n (by omega) (by decide), hT.at (by omega), show 29 + 4 * i + q = 29 + (4 * i + q) by omega]
    exact hz
  have hb : ∀ z, (if T (29 + 4 * i) = (3 : Int32) then (if (f_X12_has (T (29 + (4 * i + 1))) (nI x)) = (0 : Int32) then some (1 : Int32) else jcl (f_X12_areUnlike 8 201 c (T (29 + (4 * i + 1)) - ((1 : Int32) <<< (nI x &&& 31))) ((1 : Int32) <<< (nI v &&& 31)) μ) (fun v33 => (if v33 = (0 : Int32) then some (0 : Int32) else some (1 : Int32)))) else jbd (jcl (jloop (fun (s : Int32) => f_X12_bears_L114 c (nI x) (nI v) μ (T (29 + 4 * i)) (T (29 + (4 * i + 1))) (T (29 + (4 * i + 2))) (T (29 + (4 * i + 3))) s) jfu (0 : Int32)) (fun w27 => match w27 with | .inl w27 => some (1 : Int32) | .inr w27 => match w27 with | .inl w27 => some (1 : Int32) | .inr w27 => some (0 : Int32))) (fun k14 => (if nI x = T (29 + (4 * i + 1)) then k14 else (if nI x = T (29 + (4 * i + 2)) then k14 else some (1 : Int32))))) = z → f_X12_bears 201 c (nI i) (nI x) (nI v) μ = z := fun z hz => by
    unfold f_X12_bears
    have e1 : ∀ q, q < 4 → (29 : Int32) + (4 : Int32) * nI i + nI q = nI (29 + 4 * i + q) := fun q _ => by rw [jlit 29, jlit 4, pk_mul, nI_add, nI_add]
    have e0 : (29 : Int32) + (4 : Int32) * nI i = nI (29 + 4 * i + 0) := by rw [jlit 29, jlit 4, pk_mul, nI_add]; rfl
    have a1 := e1 1 (by decide)
    have a2 := e1 2 (by decide)
    have a3 := e1 3 (by decide)
    have a1 : (29 : Int32) + (4 : Int32) * nI i + (1 : Int32) = nI (29 + 4 * i + 1) := a1
    have a2 : (29 : Int32) + (4 : Int32) * nI i + (2 : Int32) = nI (29 + 4 * i + 2) := a2
    have a3 : (29 : Int32) + (4 : Int32) * nI i + (3 : Int32) = nI (29 + 4 * i + 3) := a3
    rw [a1, a2, a3, e0]
    refine rd 0 _ _ (by decide) ?_
    refine rd 1 _ _ (by decide) ?_
    refine rd 2 _ _ (by decide) ?_
    refine rd 3 _ _ (by decide) ?_
    exact hz
  rcases hcon with ⟨s, a, b, hs, e0, ha, hb5, hab, e1, e2, hd⟩ | ⟨e0, m, hm, e1, -, -, -⟩
  · rw [supp_two hs ha hb5 e0 e1 e2]
    have n3 : ¬ nI s = (3 : Int32) := fun z => by
      have := (nI_eq (b := 3) (by omega) (by decide)).mp z
      omega
    generalize hdd : T (29 + (4 * i + 3)) = d at hb hd
    rw [e0, e1, e2] at hb
    -- the other one
    have loop : ∀ (o : Nat) (P : Nat → Prop) (E : Unit ⊕ (Unit ⊕ Unit)), o < 5 → (if nI x = nI a then nI b else nI a) = nI o → E ≠ .inr (.inr ()) → (∀ k, k < 6 → (L o).testBit k = true → (P k → f_X12_bears_L114 c (nI x) (nI v) μ (nI s) (nI a) (nI b) d (nI k) = some (.inr E)) ∧ (¬ P k → f_X12_bears_L114 c (nI x) (nI v) μ (nI s) (nI a) (nI b) d (nI k) = some (.inl (nI (k + 1))))) → ∃ w, jloop (fun (s' : Int32) => f_X12_bears_L114 c (nI x) (nI v) μ (nI s) (nI a) (nI b) d s') jfu (0 : Int32) = some w ∧ ((w = E ∧ ∃ k, k < 6 ∧ (L o).testBit k = true ∧ P k) ∨ (w = .inr (.inr ()) ∧ ∀ k, k < 6 → (L o).testBit k = true → ¬ P k)) := by
      intro o P E ho heo hE hst
      obtain ⟨l1, l2⟩ := hL o ho
      refine jlp (I := fun s' => ∃ k, k ≤ 6 ∧ s' = nI k ∧ ∀ j, j < k → (L o).testBit j = true → ¬ P j) (m := fun s' => 6 - s'.toNatClampNeg) (R := fun w => (w = E ∧ ∃ k, k < 6 ∧ (L o).testBit k = true ∧ P k) ∨ (w = .inr (.inr ()) ∧ ∀ k, k < 6 → (L o).testBit k = true → ¬ P k)) ?_ jfu (0 : Int32) ⟨0, by omega, rfl, fun v hv => absurd hv (Nat.not_lt_zero v)⟩ (by show 6 - _ < 2000000; omega)
      rintro s' ⟨k, hk, rfl, hn⟩
      by_cases c6 : k < 6
      · have dec : k + 1 ≤ 6 ∧ 6 - (nI (k + 1)).toNatClampNeg < 6 - (nI k).toNatClampNeg := by rw [nI_clamp (by omega), nI_clamp (by omega)]; omega
        cases q : (L o).testBit k with
        | false =>
          refine ⟨.inl (nI (k + 1)), ?_, ⟨k + 1, dec.1, rfl, fun j hj hb => ?_⟩, dec.2⟩
          · unfold f_X12_bears_L114
            rw [jlit 6, if_neg (nI_ge c6 (by decide)), heo, hc, jrd_n ho (by decide), l1, f_has (by omega) (by omega), q, if_neg Bool.false_ne_true, if_pos rfl, nI_1]
          · by_cases z : j = k
            · rw [z, q] at hb; cases hb
            · exact hn j (by omega) hb
        | true =>
          by_cases p : P k
          · exact ⟨_, (hst k c6 q).1 p, Or.inl ⟨rfl, k, c6, q, p⟩⟩
          · refine ⟨_, (hst k c6 q).2 p, ⟨k + 1, dec.1, rfl, fun j hj hb => ?_⟩, dec.2⟩
            by_cases z : j = k
            · rw [z]; exact p
            · exact hn j (by omega) hb
      · have : k = 6 := by omega
        subst this
        refine ⟨.inr (.inr (.inr ())), ?_, Or.inr ⟨rfl, fun j hj => hn j hj⟩⟩
        unfold f_X12_bears_L114
        rw [jlit 6, if_pos (nI_le (Nat.le_refl _) (by decide))]
    by_cases xa : x = a
    · have xb : ¬ x = b := fun z => hab (xa.symm.trans z)
      obtain ⟨w, w1, w2⟩ := loop b (fun k => hldB s v k d) (.inl ()) hb5 (by rw [xa, if_pos rfl]) (by intro z; cases z) (fun k hk hbk => by
        obtain ⟨l1, l2⟩ := hL b hb5
        have hh := r_holds (v := v) hs hvv hk hd
        have pre : ∀ z, (if f_X12_holds (nI s) (nI v) (nI k) d = (0 : Int32) then some (.inl (nI k + (1 : Int32))) else some (.inr (.inl ()))) = z → f_X12_bears_L114 c (nI x) (nI v) μ (nI s) (nI a) (nI b) d (nI k) = z := fun z hz => by
          unfold f_X12_bears_L114
          rw [jlit 6, if_neg (nI_ge hk (by decide)), if_pos (by rw [xa]), hc, jrd_n hb5 (by decide), l1, f_has (by omega) (by omega), hbk, if_pos rfl, if_neg (by decide), if_pos (by rw [xa])]
          exact hz
        refine ⟨fun p => pre _ ?_, fun p => pre _ ?_⟩
        · rw [if_neg (fun z => (hh.mp z) p)]
        · rw [if_pos (hh.mpr p), nI_1])
      have key : ∀ r, (w = .inl () → r = (1 : Int32)) → (w = .inr (.inr ()) → r = 0) → f_X12_bears 201 c (nI i) (nI x) (nI v) μ = some r := fun r q1 q2 => by
        apply hb
        rw [if_neg n3, jbd_e, if_pos (by rw [xa]), jcl_e w1]
        rcases w2 with ⟨z, -⟩ | ⟨z, -⟩
        · rw [q1 z, z]
        · rw [q2 z, z]
      rcases w2 with ⟨z, g⟩ | ⟨z, g⟩
      · refine ⟨1, key 1 (fun _ => rfl) (fun q => by rw [z] at q; cases q), Or.inr rfl, fun _ => ⟨fun _ => g, fun q => absurd q xb⟩, fun _ => rfl⟩
      · refine ⟨0, key 0 (fun q => by rw [z] at q; cases q) (fun _ => rfl), Or.inl rfl, fun q => absurd q (by decide), fun q => ?_⟩
        obtain ⟨k, k1, k2, k3⟩ := q.1 xa
        exact absurd k3 (g k k1 k2)
    · have nxa : ¬ nI x = nI a := fun z => xa ((nI_eq (by omega) (by omega)).mp z)
      by_cases xb : x = b
      · obtain ⟨w, w1, w2⟩ := loop a (fun k => hldB s k v d) (.inr (.inl ())) ha (by rw [if_neg nxa]) (by intro z; cases z) (fun k hk hbk => by
          obtain ⟨l1, l2⟩ := hL a ha
          have hh := r_holds (v := k) (w := v) hs hk hvv hd
          have pre : ∀ z, (if f_X12_holds (nI s) (nI k) (nI v) d = (0 : Int32) then some (.inl (nI k + (1 : Int32))) else some (.inr (.inr (.inl ())))) = z → f_X12_bears_L114 c (nI x) (nI v) μ (nI s) (nI a) (nI b) d (nI k) = z := fun z hz => by
            unfold f_X12_bears_L114
            rw [jlit 6, if_neg (nI_ge hk (by decide)), if_neg nxa, hc, jrd_n ha (by decide), l1, f_has (by omega) (by omega), hbk, if_pos rfl, if_neg (by decide), if_neg nxa]
            exact hz
          refine ⟨fun p => pre _ ?_, fun p => pre _ ?_⟩
          · rw [if_neg (fun z => (hh.mp z) p)]
          · rw [if_pos (hh.mpr p), nI_1])
        have key : ∀ r, (w = .inr (.inl ()) → r = (1 : Int32)) → (w = .inr (.inr ()) → r = 0) → f_X12_bears 201 c (nI i) (nI x) (nI v) μ = some r := fun r q1 q2 => by
          apply hb
          rw [if_neg n3, jbd_e, if_neg nxa, if_pos (by rw [xb]), jcl_e w1]
          rcases w2 with ⟨z, -⟩ | ⟨z, -⟩
          · rw [q1 z, z]
          · rw [q2 z, z]
        rcases w2 with ⟨z, g⟩ | ⟨z, g⟩
        · refine ⟨1, key 1 (fun _ => rfl) (fun q => by rw [z] at q; cases q), Or.inr rfl, fun _ => ⟨fun q => absurd q xa, fun _ => g⟩, fun _ => rfl⟩
        · refine ⟨0, key 0 (fun q => by rw [z] at q; cases q) (fun _ => rfl), Or.inl rfl, fun q => absurd q (by decide), fun q => ?_⟩
          obtain ⟨k, k1, k2, k3⟩ := q.2 xb
          exact absurd k3 (g k k1 k2)
      · have nxb : ¬ nI x = nI b := fun z => xb ((nI_eq (by omega) (by omega)).mp z)
        refine ⟨1, ?_, Or.inr rfl, fun _ => ⟨fun q => absurd q xa, fun q => absurd q xb⟩, fun _ => rfl⟩
        apply hb
        rw [if_neg n3, jbd_e, if_neg nxa, if_neg nxb]
  · rw [supp_set hm e0 e1]
    rw [e0, e1] at hb
    cases q : m.testBit x with
    | false =>
      refine ⟨1, ?_, Or.inr rfl, fun _ z => (by cases z), fun _ => rfl⟩
      apply hb
      rw [if_pos (by rfl), f_has (by omega) (by omega), q, if_neg Bool.false_ne_true, if_pos rfl]
    | true =>
      obtain ⟨d1, d2⟩ := set_del m hm x hx q
      have h2 : m - 2 ^ x < 32 := Nat.lt_of_le_of_lt (Nat.sub_le _ _) hm
      have h3 : 2 ^ v < 64 := Nat.pow_lt_pow_right (n := 6) (by decide) hvv
      have h5 : cnt (fun z => (m - 2 ^ x).testBit z) 5 < 8 := by
        have : ∀ (p : Nat → Bool) k, cnt p k ≤ k := by
          intro p k
          induction k with
          | zero => exact Nat.le_refl _
          | succ k ih => rw [cnt_s]; split <;> omega
        have := this (fun z => (m - 2 ^ x).testBit z) 5
        omega
      obtain ⟨r, r1, r2, r3⟩ := r_unlike hc hL 8 (m - 2 ^ x) (2 ^ v) h2 h3 h5
      have cg : (∃ s, sdr (fun z => (m - 2 ^ x).testBit z) (fun z w => (L z).testBit w && !(2 ^ v).testBit w) s) ↔ ∃ s, sdr (fun z => m.testBit z && !(z == x)) (fun z w => (L z).testBit w && !(w == v)) s := sdr_congr (fun z hz => d2 z hz) (fun z hz w hw => by
        have : (2 ^ v).testBit w = (w == v) := by
          rw [Nat.testBit_two_pow]
          by_cases e : v = w
          · simp [e]
          · have e' : ¬ w = v := fun z => e z.symm
            simp [e, e']
        rw [this])
      refine ⟨r, ?_, r2, fun z _ => cg.mp (r3.mp z), fun z => r3.mpr (cg.mpr (z rfl))⟩
      apply hb
      rw [if_pos (by rfl), f_has (by omega) (by omega), q, if_pos rfl, if_neg (by decide), shl_n x (by omega), shl_n v (by omega), pk_sub d1, jcl_e r1]
      rcases r2 with z | z
      · rw [z, if_pos rfl]
      · rw [z, if_neg (by decide)]
