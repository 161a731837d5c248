/-! search -/
theorem one_v : ∀ m, m < 64 → pc m = 1 → ∃ j, j < 6 ∧ m = 2 ^ j ∧ f_J6_numberOfTrailingZeros_0f7a4 (nI m) = nI j := by decide +kernel
theorem two_v : ∀ i, i < 6 → ∀ j, j < 6 → (2 ^ i = 2 ^ j ↔ i = j) := by decide +kernel
theorem joint {σ : SS} {W : Nat} {μ m' : jM} (hS : RS 5 σ μ) (hv : VS σ) (hM : RM σ m') (hW : W < 3) : ∃ r wc wr n F D C, f_X5_seek 170 (nI W) μ = some (r, wc) ∧ (∀ K : Int32 → jM → Option (Int32 × jM), jbd (jsi m' 201 28 (0 : Int32)) (fun m4 => jbd (jsi m4 201 29 (0 : Int32)) (fun m6 => jbd (jsi m6 201 30 (0 : Int32)) (fun m8 => jbd (jsi m8 201 31 (0 : Int32)) (fun m10 => jcl (f_X12_lays 201 m10) (fun m12 => jcl2 (f_X12_spreadsBy 201 (201 + 9) (255 : Int32) m12) (fun v14 m15 => (if v14 = (0 : Int32) then jbd (jsi m15 201 29 (1 : Int32)) (fun m71 => K (0 : Int32) m71) else jcl (jloop (fun (s : Int32 × jM) => f_X12_search_L69 201 s.1 s.2) jfu (((0 : Int32), m15))) (fun w64 => jcl2 (f_X12_seeks 8 201 (nI W) (0 : Int32) w64) (fun v68 m69 => K v68 m69))))))))) = K r wr) ∧ SC (σ.2.1 0) W n F D C wc ∧ SQ (σ.2.1 0) n F D C wr ∧ jFr (fun c => c = 166 ∨ c = 170 ∨ (172 ≤ c ∧ c ≤ 176)) μ wc ∧ RK 0 m' wr ∧ (r = 0 ∨ r = 2 ∨ (r = 1 ∧ ∃ L, RLm 166 L wc ∧ RLm 210 L wr ∧ ∀ x, x < 5 → pc (L x) = 1)) := by
  have h0 := hv.2.1 0 (Nat.zero_le _)
  have hvp : ∀ x, x < 5 → 0 < vm (σ.2.1 0) x := fun x hx => (vm_of h0 hx).1
  obtain ⟨m9, hm9⟩ : ∃ m9, m9 = jsi (jsi (jsi (jsi (jsi μ 170 3 (nI W)) 170 4 0) 170 5 0) 170 6 0) 170 7 0 := ⟨_, rfl⟩
  have f9 : jFr (fun c => c = 170) μ m9 := by
    rw [hm9]
    exact ((((jFr.si (S := fun c => c = 170) _ _ _ rfl).tr (jFr.si _ _ _ rfl)).tr (jFr.si _ _ _ rfl)).tr (jFr.si _ _ _ rfl)).tr (jFr.si _ _ _ rfl)
  have s9 : SC (σ.2.1 0) W 0 0 0 0 m9 := by
    refine ⟨hS.2.1.fc f9 (fun c q1 q2 q3 => by omega), ?_, ?_, ?_, ?_, ?_⟩
    · rw [hm9, jsi_pl (by decide), jsi_pl (by decide), jsi_pl (by decide), jsi_pl (by decide), jsi_at]
    · rw [hm9, jsi_pl (by decide), jsi_pl (by decide), jsi_pl (by decide), jsi_at]; rfl
    · rw [hm9, jsi_pl (by decide), jsi_pl (by decide), jsi_at]
    · rw [hm9, jsi_pl (by decide), jsi_at]
    · rw [hm9, jsi_at]
  obtain ⟨m11, a1, a2, a3⟩ := c_begin (t := 6) (by omega) s9.1 h0
  have s11 := s9.fr (a3.mono (fun c hc => Or.inl hc))
  obtain ⟨r, La, m14, b1, b2, b3, b4⟩ := c_spread (t := 6) (R := 255) (by omega) s11.1 h0 (by omega) a2 hvp
  have s14 := s11.fr (b4.mono (fun c hc => Or.inl hc))
  have f14 : jFr (fun c => c = 166 ∨ c = 170 ∨ (172 ≤ c ∧ c ≤ 176)) μ m14 := ((f9.mono (fun c hc => Or.inr (Or.inl hc))).tr (a3.mono (fun c hc => Or.inl hc))).tr (b4.mono (fun c hc => Or.inl hc))
  obtain ⟨n9, hn9⟩ : ∃ n9, n9 = jsi (jsi (jsi (jsi m' 201 28 0) 201 29 0) 201 30 0) 201 31 0 := ⟨_, rfl⟩
  have g9 : RK 0 m' n9 := by
    rw [hn9]
    exact (((RK.si (by omega)).tr (RK.si (by omega))).tr (RK.si (by omega))).tr (RK.si (by omega))
  have q9 : SQ (σ.2.1 0) 0 0 0 0 n9 := by
    refine ⟨(hM.2.1 0 (Nat.zero_le _)).fr (g9.1 204 (by decide)).1, ?_, ?_, ?_, ?_⟩
    · rw [hn9, jsi_pl (by decide), jsi_pl (by decide), jsi_pl (by decide), jsi_at]; rfl
    · rw [hn9, jsi_pl (by decide), jsi_pl (by decide), jsi_at]
    · rw [hn9, jsi_pl (by decide), jsi_at]
    · rw [hn9, jsi_at]
  obtain ⟨n12, c1, c2, c3⟩ := r_lays q9.1 h0
  have q12 := q9.fr (c3.mono (fun c hc => Or.inl hc))
  obtain ⟨r', Lb, n15, d1, d2, d3, d4⟩ := r_spread (c := 210) (R := 255) (by decide) (by decide) q12.1 h0 (by omega) c2 hvp
  have q15 := q12.fr (d4.mono (fun c hc => Or.inl hc))
  have g15 : RK 0 m' n15 := (g9.tr (RK.f10 c3)).tr (RK.f10 d4)
  obtain ⟨er, eL⟩ := spEnd_eq b2 d2
  subst er
  have preC : ∀ z, (if r = (0 : Int32) then some ((0 : Int32), jsi m14 170 5 (1 : Int32)) else jcl (f_X5_changesSince 170 8 m14) (fun v17 => jcl2 (f_X5_seekIn 8 170 (0 : Int32) (jsi m14 170 7 v17)) (fun v21 m22 => some ((v21, m22))))) = z → f_X5_seek 170 (nI W) μ = z := fun z hz => by
    unfold f_X5_seek
    simp only [jbd_e]
    rw [← hm9, jcl_e a1, jcl2_e (show f_X6_spread 165 6 (255 : Int32) m11 = some (r, m14) from b1)]
    exact hz
  have preR : ∀ (K : Int32 → jM → Option (Int32 × jM)) (z : Option (Int32 × jM)), (if r = (0 : Int32) then K (0 : Int32) (jsi n15 201 29 (1 : Int32)) else jcl (jloop (fun (s : Int32 × jM) => f_X12_search_L69 201 s.1 s.2) jfu (((0 : Int32), n15))) (fun w64 => jcl2 (f_X12_seeks 8 201 (nI W) (0 : Int32) w64) (fun v68 m69 => K v68 m69))) = z → jbd (jsi m' 201 28 (0 : Int32)) (fun m4 => jbd (jsi m4 201 29 (0 : Int32)) (fun m6 => jbd (jsi m6 201 30 (0 : Int32)) (fun m8 => jbd (jsi m8 201 31 (0 : Int32)) (fun m10 => jcl (f_X12_lays 201 m10) (fun m12 => jcl2 (f_X12_spreadsBy 201 (201 + 9) (255 : Int32) m12) (fun v14 m15 => (if v14 = (0 : Int32) then jbd (jsi m15 201 29 (1 : Int32)) (fun m71 => K (0 : Int32) m71) else jcl (jloop (fun (s : Int32 × jM) => f_X12_search_L69 201 s.1 s.2) jfu (((0 : Int32), m15))) (fun w64 => jcl2 (f_X12_seeks 8 201 (nI W) (0 : Int32) w64) (fun v68 m69 => K v68 m69))))))))) = z := fun K z hz => by
    simp only [jbd_e]
    rw [← hn9, jcl_e c1, jcl2_e (show f_X12_spreadsBy 201 (201 + 9) (255 : Int32) n12 = some (r, n15) from d1)]
    exact hz
  rcases b2 with ⟨r1, gd, cl⟩ | ⟨r0, -⟩
  · subst r1
    rw [if_neg (by decide)] at preC
    have lA : RLm 166 La m14 := b3 rfl
    have lB : RLm 210 La n15 := fun x hx => by rw [eL rfl x hx]; exact d3 rfl x hx
    have hcs := c_changes (c := 8) (L := vm (σ.2.1 0)) (by decide) lA (fun x hx => ⟨by rw [s14.1.2.1 x hx]; exact (vm_of h0 hx).2.2, (vm_of h0 hx).2.1⟩)
    have s15 : SC (σ.2.1 0) W 0 0 0 (nI (cdl (vm (σ.2.1 0)) La 5)) (jsi m14 170 7 (nI (cdl (vm (σ.2.1 0)) La 5))) := by
      have := s14.c (x := nI (cdl (vm (σ.2.1 0)) La 5))
      rw [s14.2.2.2.2.2, Int32.zero_add] at this
      exact this
    obtain ⟨n16, k1, k2, k3, k4⟩ := r_changes (step := fun (s : Int32 × jM) => f_X12_search_L69 201 s.1 s.2) (L := vm (σ.2.1 0)) (L' := La) (C := 0) (m := n15) (fun x hx => ⟨(vm_of h0 hx).2.1, (lA x hx).2⟩) q15.2.2.2.2
      (fun j w hj fw => by
        dsimp only
        unfold f_X12_search_L69
        rw [jlit 5, if_neg (nI_ge hj (by decide)), jlit 6, nI_add]
        show jrd (w.1 210) _ _ _ = _
        rw [jrd_n hj (by decide)]
        show jrd (w.1 204) _ _ _ = _
        rw [jrd_n (by omega) (by decide), jbd_e, nI_1, (fw 210 (by decide)).1, (fw 204 (by decide)).1, (lB j hj).1, q15.1.at (by omega), (vm_of h0 hj).2.2])
      (fun w => by
        dsimp only
        unfold f_X12_search_L69
        rw [jlit 5, if_pos (nI_le (Nat.le_refl _) (by decide))])
    rw [Int32.zero_add] at k2
    have q16 : SQ (σ.2.1 0) 0 0 0 (nI (cdl (vm (σ.2.1 0)) La 5)) n16 := ⟨q15.1.fr (k3 204 (by decide)).1, by rw [k4 28 (by decide)]; exact q15.2.1, by rw [k4 29 (by decide)]; exact q15.2.2.1, by rw [k4 30 (by decide)]; exact q15.2.2.2.1, k2⟩
    have g16 : RK 0 n15 n16 := ⟨k3.mono (fun c hc => Or.inl hc), fun j hj => by rw [(k3 218 (by decide)).1], fun j hj => k4 j (by omega)⟩
    have ml : ∀ L : LV, mlt L ≤ 5 := fun L => by
      have : ∀ p : Nat → Bool, ∀ k, cnt p k ≤ k := fun p k => by
        induction k with
        | zero => exact Nat.le_refl _
        | succ k ih =>
          rw [cnt_s]
          split <;> omega
      exact this _ 5
    obtain ⟨r2, w, w', t1, t2, n2, F2, D2, C2, u1, u2, u3, u4, u5, u6⟩ := seek2 h0 hW 8 0 La 0 0 0 (nI (cdl (vm (σ.2.1 0)) La 5)) (jsi m14 170 7 (nI (cdl (vm (σ.2.1 0)) La 5))) n16 (by omega) (by omega) (ml La) (by omega) (fun x hx => (gd.1 x hx).1)
      (fun x hx => by rw [jsi_ne (by decide)]; exact lA x hx) (fun x hx => by rw [(k3 210 (by decide)).1]; exact lB x hx) s15 q16
    refine ⟨r2, w, w', n2, F2, D2, C2, preC _ ?_, fun K => preR K _ ?_, u2, u3, ?_, (g15.tr g16).tr u5, u6⟩
    · rw [jcl_e hcs, jcl2_e (show f_X5_seekIn 8 170 (0 : Int32) _ = some (r2, w) from t1)]
    · rw [if_neg (by decide), jcl_e k1, jcl2_e (show f_X12_seeks 8 201 (nI W) (0 : Int32) n16 = some (r2, w') from t2)]
    · exact (f14.tr (jFr.si _ _ _ (Or.inr (Or.inl rfl)))).tr (u4.mono (fun c hc => by omega))
  · subst r0
    rw [if_pos rfl] at preC
    refine ⟨0, jsi m14 170 5 1, jsi n15 201 29 1, 0, 1, 0, 0, preC _ rfl, fun K => preR K _ (if_pos rfl), ?_, ?_, f14.tr (jFr.si _ _ _ (Or.inr (Or.inl rfl))), g15.tr (RK.si (by omega)), Or.inl rfl⟩
    · have := s14.f
      rw [s14.2.2.2.1, Int32.zero_add] at this
      exact this
    · have := q15.f
      rw [q15.2.2.1, Int32.zero_add] at this
      exact this
