/-! a pair goes, a constraint goes -/
def midT (T : TT) (p k : Nat) : TT := fun j => if 12 + p ≤ j ∧ j < 12 + p + k then T (j + 1) else if 20 + p ≤ j ∧ j < 20 + p + k then T (j + 1) else T j
theorem midT_in1 {T : TT} {p k j : Nat} (h : 12 + p ≤ j ∧ j < 12 + p + k) : midT T p k j = T (j + 1) := if_pos h
theorem midT_in2 {T : TT} {p k j : Nat} (h0 : ¬ (12 + p ≤ j ∧ j < 12 + p + k)) (h : 20 + p ≤ j ∧ j < 20 + p + k) : midT T p k j = T (j + 1) := by unfold midT; rw [if_neg h0, if_pos h]
theorem midT_out {T : TT} {p k j : Nat} (h0 : ¬ (12 + p ≤ j ∧ j < 12 + p + k)) (h : ¬ (20 + p ≤ j ∧ j < 20 + p + k)) : midT T p k j = T j := by unfold midT; rw [if_neg h0, if_neg h]
theorem midT_0 (T : TT) (p : Nat) : midT T p 0 = T := by
  funext j
  exact midT_out (by omega) (by omega)
theorem midT_s {T : TT} {p k : Nat} (h : p + k < 8) : upd (upd (midT T p k) (12 + p + k) (T (12 + p + k + 1))) (20 + p + k) (T (20 + p + k + 1)) = midT T p (k + 1) := by
  funext j
  by_cases c : j = 20 + p + k
  · rw [c, pk_us, midT_in2 (by omega) (by omega)]
  · rw [pk_un c]
    by_cases c2 : j = 12 + p + k
    · rw [c2, pk_us, midT_in1 (by omega)]
    · rw [pk_un c2]
      by_cases d1 : 12 + p ≤ j ∧ j < 12 + p + k
      · rw [midT_in1 d1, midT_in1 (by omega)]
      · by_cases d2 : 20 + p ≤ j ∧ j < 20 + p + k
        · rw [midT_in2 d1 d2, midT_in2 (by omega) (by omega)]
        · rw [midT_out d1 d2, midT_out (by omega) (by omega)]
def dropT (T : TT) (p : Nat) : TT := upd (midT T p (np T - 1 - p)) 11 (nI (np T - 1))
theorem dropT_np {T : TT} {p : Nat} (h : np T ≤ 8) : np (dropT T p) = np T - 1 ∧ dropT T p 11 = nI (np T - 1) := by
  have e : dropT T p 11 = nI (np T - 1) := by unfold dropT; rw [pk_us]
  exact ⟨by show (dropT T p 11).toNatClampNeg = _; rw [e, nI_clamp (by omega)], e⟩
theorem dropT_k {T : TT} {p j : Nat} (h : np T ≤ 8) (hj : j < np T - 1) : dropT T p (12 + j) = T (12 + (if j < p then j else j + 1)) ∧ dropT T p (20 + j) = T (20 + (if j < p then j else j + 1)) := by
  unfold dropT
  rw [pk_un (by omega), pk_un (by omega)]
  by_cases c : j < p
  · rw [if_pos c, midT_out (by omega) (by omega), midT_out (by omega) (by omega)]
    exact ⟨rfl, rfl⟩
  · rw [if_neg c, midT_in1 (by omega), midT_in2 (by omega) (by omega)]
    exact ⟨rfl, rfl⟩
theorem dropT_o {T : TT} {p j : Nat} (h : np T ≤ 8) (hp : p < np T) (hj : j < 11 ∨ 28 ≤ j) : dropT T p j = T j := by
  unfold dropT
  rw [pk_un (by omega), midT_out (by omega) (by omega)]
theorem VT.drop {T : TT} {p : Nat} (h : VT T) (hp : p < np T) : VT (dropT T p) := by
  obtain ⟨h1, h2, h3, h4, h5, h6, h7, h8⟩ := h
  have hn := h1.1
  have hc := h2.1
  obtain ⟨e1, e2⟩ := dropT_np (p := p) hn
  have k : ∀ j, (j < 11 ∨ 28 ≤ j) → dropT T p j = T j := fun j hj => dropT_o hn hp hj
  have ec : nc (dropT T p) = nc T := by unfold nc; rw [k _ (by omega)]
  unfold VT
  rw [e1, e2, ec, k 28 (by omega)]
  refine ⟨⟨by omega, rfl⟩, h2, fun j hj => ?_, fun j hj => ?_, fun j hj => ?_, fun a b ha hb => ?_, fun j hj => ?_, fun j hj => ?_⟩
  · rw [k _ (by omega)]; exact h3 j hj
  · rw [k _ (by omega)]; exact h4 j hj
  · rw [(dropT_k hn hj).1]; exact h5 _ (by split <;> omega)
  · rw [(dropT_k hn ha).1, (dropT_k hn hb).1]
    intro z
    have := h6 _ _ (by split <;> omega) (by split <;> omega) z
    split at this <;> split at this <;> omega
  · rw [(dropT_k hn hj).2]; exact h7 _ (by split <;> omega)
  · rw [k _ (by omega), k _ (by omega), k _ (by omega), k _ (by omega)]; exact h8 j hj
theorem dfl_drop {T : TT} {q p : Nat} (h : VT T) (hq : q < 10) (hp : plc T (nI q) = some p) : dfl T (dropT T p) 31 = [20 + q] := by
  obtain ⟨-, p1, p2⟩ := fnd_some hp
  have p1 : p < np T := by omega
  have hv := h.drop p1
  have hn := h.1.1
  have hc := h.2.1.1
  obtain ⟨e1, e2⟩ := dropT_np (p := p) hn
  have k : ∀ j, (j < 11 ∨ 28 ≤ j) → dropT T p j = T j := fun j hj => dropT_o hn p1 hj
  have inj := h.2.2.2.2.2.1
  have pn : plc (dropT T p) (nI q) = none := plc_no (fun j hj => by
    rw [e1] at hj
    rw [(dropT_k hn hj).1]
    intro z
    have := inj _ _ (by split <;> omega) p1 (z.trans p2.symm)
    split at this <;> omega)
  rw [dfl_one (a := 20 + q) (fun t hb ht hne => ?_) (by unfold isTh; simp [show 20 + q < 31 by omega]) (by omega)]
  · have : othB T (dropT T p) (20 + q) = true := by
      unfold othB tell
      simp only [if_neg (show ¬ 20 + q < 6 by omega), if_neg (show ¬ 20 + q < 15 by omega), if_pos (show 20 + q < 30 by omega), show 20 + q - 20 = q by omega, hp, pn]
      have hz := num_1000 (h.2.2.2.2.2.2.1 p p1)
      simp [hz]
    rw [this, if_pos rfl]
  · refine oth_f ?_ (fun _ z hz => (k _ (by omega)).symm)
    rcases isTh_cases ht with z | z | z | z
    · exact tell_cell z (k _ (by omega)).symm
    · exact tell_var z.1 z.2 (k _ (by omega)).symm
    · refine tell_keyE z.1 z.2 ?_
      cases w : plc T (nI (t - 20)) with
      | none =>
        refine Or.inl ⟨rfl, plc_no (fun j hj => ?_)⟩
        rw [e1] at hj
        rw [(dropT_k hn hj).1]
        exact plc_none w (by split <;> omega)
      | some i =>
        obtain ⟨-, w2, w3⟩ := fnd_some w
        have hne2 : i ≠ p := by
          intro e
          rw [e] at w3
          have := (nI_eq (by omega) (by omega)).mp (p2.symm.trans w3)
          omega
        by_cases c : i < p
        · have q1 := dropT_k (p := p) (j := i) hn (by omega)
          rw [if_pos c] at q1
          refine Or.inr ⟨i, i, rfl, ?_, q1.2.symm⟩
          have := plc_of hv (j := i) (by omega)
          rw [q1.1] at this
          rw [← w3]; exact this
        · have q1 := dropT_k (p := p) (j := i - 1) hn (by omega)
          rw [if_neg (by omega), show i - 1 + 1 = i by omega] at q1
          refine Or.inr ⟨i, i - 1, rfl, ?_, q1.2.symm⟩
          have := plc_of hv (j := i - 1) (by omega)
          rw [q1.1] at this
          rw [← w3]; exact this
    · rw [z]; exact tell_con (k _ (by omega)).symm
theorem c_dropL {s p : Nat} {T : TT} {μ : jM} (h : RT (s + 1) T μ) (hv : VT T) (hp : p < np T) : ∃ w, jloop (fun (q : Int32 × jM) => f_X7_dropKey_L30 s q.1 q.2) jfu ((nI (p + 1), μ)) = some w ∧ RT (s + 1) (midT T p (np T - 1 - p)) w ∧ jFr (fun c => s + 4 ≤ c ∧ c ≤ s + 5) μ w := by
  have hn := hv.1.1
  obtain ⟨w, hw, hr⟩ := jlpN (step := fun (q : Int32 × jM) => f_X7_dropKey_L30 s q.1 q.2) (np T - 1 - p)
    (fun k q => q.1 = nI (p + 1 + k) ∧ RT (s + 1) (midT T p k) q.2 ∧ jFr (fun c => s + 4 ≤ c ∧ c ≤ s + 5) μ q.2)
    (fun m => RT (s + 1) (midT T p (np T - 1 - p)) m ∧ jFr (fun c => s + 4 ≤ c ∧ c ≤ s + 5) μ m)
    (fun k q hk hq => by
      obtain ⟨u, m⟩ := q
      obtain ⟨hu, hR, hf⟩ := hq
      have hu : u = nI (p + 1 + k) := hu
      subst hu
      have hR : RT (s + 1) (midT T p k) m := hR
      have e5 : m.1 (s + 1) 5 = nI (np T) := by rw [hR.2.2.1, midT_out (by omega) (by omega)]; exact hv.1.2
      have e1 : nI (p + 1 + k) - (1 : Int32) = nI (p + k) := by rw [jlit 1, pk_sub (by omega)]; congr 1; omega
      have k1 : m.1 (s + 4) (p + 1 + k) = T (12 + p + k + 1) := by
        rw [show s + 4 = s + 1 + 3 from rfl, hR.2.2.2.1 _ (by omega), midT_out (by omega) (by omega)]; congr 1; omega
      have k2 : m.1 (s + 5) (p + 1 + k) = T (20 + p + k + 1) := by
        rw [show s + 5 = s + 1 + 4 from rfl, hR.2.2.2.2.1 _ (by omega), midT_out (by omega) (by omega)]; congr 1; omega
      refine ⟨(nI (p + 1 + (k + 1)), jsi (jsi m (s + 4) (p + k) (T (12 + p + k + 1))) (s + 5) (p + k) (T (20 + p + k + 1))), ?_, rfl, ?_, (hf.tr (jFr.si _ _ _ ⟨by omega, by omega⟩)).tr (jFr.si _ _ _ ⟨by omega, by omega⟩)⟩
      · dsimp only
        unfold f_X7_dropKey_L30
        rw [e5, if_neg (nI_ge (by omega) (by omega)), jrd_n (n := 8) (by omega) (by decide), k1, e1, jin_n (n := 8) (by omega) (by decide), nI_clamp (by omega), jbd_e, jrd_n (n := 8) (by omega) (by decide), jsi_ne (by omega), k2, jin_n (n := 8) (by omega) (by decide), jbd_e, nI_1]
        rfl
      · show RT (s + 1) _ (jsi (jsi m (s + 1 + 3) (p + k) _) (s + 1 + 4) (p + k) _)
        have q1 := (hR.key (i := p + k) (v := T (12 + p + k + 1)) (by omega)).num (i := p + k) (v := T (20 + p + k + 1)) (by omega)
        rw [show 12 + (p + k) = 12 + p + k by omega, show 20 + (p + k) = 20 + p + k by omega, midT_s (by omega)] at q1
        exact q1)
    (fun q hq => by
      obtain ⟨u, m⟩ := q
      obtain ⟨hu, hR, hf⟩ := hq
      have hu : u = nI (p + 1 + (np T - 1 - p)) := hu
      subst hu
      have hR : RT (s + 1) (midT T p (np T - 1 - p)) m := hR
      have e5 : m.1 (s + 1) 5 = nI (np T) := by rw [hR.2.2.1, midT_out (by omega) (by omega)]; exact hv.1.2
      refine ⟨m, ?_, hR, hf⟩
      dsimp only
      unfold f_X7_dropKey_L30
      rw [e5, if_pos (nI_le (by omega) (by omega))])
    (i := 0) (n := jfu) (s := (nI (p + 1), μ)) (by omega) ⟨rfl, by rw [midT_0]; exact h, jFr.rf⟩ (jfu_lt (by omega))
  exact ⟨w, hw, hr⟩
theorem r_dropL {p : Nat} {σ : SS} {μ : jM} (hv : VS σ) (hp : p < np (σ.2.1 0)) (h : RM (nowT σ (upd (σ.2.1 0) 11 (nI (np (σ.2.1 0) - 1)))) μ) (h10 : RW 10 (σ.2.1 0) μ) : ∃ w, jloop (fun (q : Int32 × jM) => f_X12_dropsOne_L41 201 q.1 q.2) jfu ((nI p, μ)) = some w ∧ RM (nowT σ (dropT (σ.2.1 0) p)) w ∧ RW 10 (σ.2.1 0) w ∧ RF μ w := by
  have h0 := hv.2.1 0 (Nat.zero_le _)
  have hn := h0.1.1
  obtain ⟨w, hw, hr⟩ := jlpN (step := fun (q : Int32 × jM) => f_X12_dropsOne_L41 201 q.1 q.2) (np (σ.2.1 0) - 1 - p)
    (fun k q => q.1 = nI (p + k) ∧ RM (nowT σ (upd (midT (σ.2.1 0) p k) 11 (nI (np (σ.2.1 0) - 1)))) q.2 ∧ RW 10 (σ.2.1 0) q.2 ∧ RF μ q.2)
    (fun m => RM (nowT σ (dropT (σ.2.1 0) p)) m ∧ RW 10 (σ.2.1 0) m ∧ RF μ m)
    (fun k q hk hq => by
      obtain ⟨u, m⟩ := q
      obtain ⟨hu, hR, h1, hf⟩ := hq
      have hu : u = nI (p + k) := hu
      subst hu
      have hR : RM (nowT σ (upd (midT (σ.2.1 0) p k) 11 (nI (np (σ.2.1 0) - 1)))) m := hR
      have ra : ∀ j, j < 61 → m.1 204 j = upd (midT (σ.2.1 0) p k) 11 (nI (np (σ.2.1 0) - 1)) j := fun j hj => by
        have := hR.at hj
        rw [nowT_0] at this
        exact this
      have e5 : m.1 204 11 = nI (np (σ.2.1 0) - 1) := by rw [ra _ (by omega), pk_us]
      have k1 : m.1 204 (12 + (p + k) + 1) = (σ.2.1 0) (12 + p + k + 1) := by
        rw [ra _ (by omega), pk_un (by omega), midT_out (by omega) (by omega)]; rw [show 12 + (p + k) + 1 = 12 + p + k + 1 by omega]
      have k2 : m.1 204 (20 + (p + k) + 1) = (σ.2.1 0) (20 + p + k + 1) := by
        rw [ra _ (by omega), pk_un (by omega), midT_out (by omega) (by omega)]; rw [show 20 + (p + k) + 1 = 20 + p + k + 1 by omega]
      have q1 := hR.set2 (k := 12 + (p + k)) (v := (σ.2.1 0) (12 + p + k + 1)) hv.1 (by omega)
      have q2 := q1.1.set2 (k := 20 + (p + k)) (v := (σ.2.1 0) (20 + p + k + 1)) hv.1 (by omega)
      refine ⟨(nI (p + (k + 1)), jsi (jsi m 204 (12 + (p + k)) ((σ.2.1 0) (12 + p + k + 1))) 204 (20 + (p + k)) ((σ.2.1 0) (20 + p + k + 1))), ?_, rfl, ?_, (h1.set10 (by omega)).set10 (by omega), (RF.tr hf q1.2).tr q2.2⟩
      · dsimp only
        unfold f_X12_dropsOne_L41
        show jrd (m.1 204) _ _ _ = _
        rw [jlit 11, jrd_n (n := 2074) (by omega) (by decide), e5, if_neg (nI_ge (by omega) (by omega))]
        show jrd (m.1 204) _ _ _ = _
        rw [jlit 12, jlit 20, nI_add, nI_add, nI_1, nI_1, jrd_n (n := 2074) (by omega) (by decide), k1, jin_n (n := 2074) (by omega) (by decide), nI_clamp (by omega), jbd_e]
        show jrd ((jsi m 204 _ _).1 204) _ _ _ = _
        rw [jrd_n (n := 2074) (by omega) (by decide), jsi_pl (by omega), k2, jin_n (n := 2074) (by omega) (by decide), nI_clamp (by omega), jbd_e, nI_1]
        rfl
      · show RM (nowT σ (upd (midT (σ.2.1 0) p (k + 1)) 11 _)) _
        have ee : upd (upd (upd (midT (σ.2.1 0) p k) 11 (nI (np (σ.2.1 0) - 1))) (12 + (p + k)) ((σ.2.1 0) (12 + p + k + 1))) (20 + (p + k)) ((σ.2.1 0) (20 + p + k + 1)) = upd (midT (σ.2.1 0) p (k + 1)) 11 (nI (np (σ.2.1 0) - 1)) := by
          rw [← midT_s (by omega)]
          funext j
          rw [show 12 + (p + k) = 12 + p + k by omega, show 20 + (p + k) = 20 + p + k by omega]
          by_cases c1 : j = 11
          · rw [c1, pk_us, pk_un (by omega), pk_un (by omega), pk_us]
          · rw [pk_un c1]
            by_cases c2 : j = 20 + p + k
            · rw [c2, pk_us, pk_us]
            · rw [pk_un c2, pk_un c2]
              by_cases c3 : j = 12 + p + k
              · rw [c3, pk_us, pk_us]
              · rw [pk_un c3, pk_un c3, pk_un c1]
        rw [← ee]
        exact q2.1)
    (fun q hq => by
      obtain ⟨u, m⟩ := q
      obtain ⟨hu, hR, h1, hf⟩ := hq
      have hu : u = nI (p + (np (σ.2.1 0) - 1 - p)) := hu
      subst hu
      have hR : RM (nowT σ (upd (midT (σ.2.1 0) p (np (σ.2.1 0) - 1 - p)) 11 (nI (np (σ.2.1 0) - 1)))) m := hR
      have e5 : m.1 204 11 = nI (np (σ.2.1 0) - 1) := by
        have := hR.at (k := 11) (by omega)
        rw [nowT_0, pk_us] at this
        exact this
      refine ⟨m, ?_, hR, h1, hf⟩
      dsimp only
      unfold f_X12_dropsOne_L41
      show jrd (m.1 204) _ _ _ = _
      rw [jlit 11, jrd_n (n := 2074) (by omega) (by decide), e5, if_pos (nI_le (by omega) (by omega))])
    (i := 0) (n := jfu) (s := (nI p, μ)) (by omega) ⟨rfl, by rw [midT_0]; exact h, h10, RF.rf⟩ (jfu_lt (by omega))
  exact ⟨w, hw, hr⟩
theorem ok_drops {σ : SS} (hv : VS σ) (x : Int32) : ActOK σ (fun s => f_X7_dropKey s x) (f_X12_dropsOne 201 x) := by
  have e1 : (0 : Int64).toInt = 0 := by decide
  have e2 : (9 : Int64).toInt = 9 := by decide
  have h0 := hv.2.1 0 (Nat.zero_le _)
  have hn := h0.1.1
  by_cases c : 0 ≤ x.toInt ∧ x.toInt < 10
  · obtain ⟨q, hq, rfl⟩ := nI_iof (n := 10) c (by decide)
    have rp : ∀ m : jM, RM σ m → f_X12_placeOf 201 (0 : Int32) (nI q) m = some (fndI (plc (σ.2.1 0) (nI q))) := fun m hm => r_placeOf (w := 0) (hm.2.1 0 (Nat.zero_le _)) (by decide) h0 _
    cases hp : plc (σ.2.1 0) (nI q) with
    | none =>
      have ef : fndI (none : Option Nat) = -1 := rfl
      refine ok_none (r := -2) hv (fun s μ hS => ?_) (fun m hm => ?_)
      · unfold f_X7_dropKey
        rw [key_i, if_pos c, if_neg (by decide), jcl_e (c_placeOf hS.2.1 h0 _), hp, ef, if_pos rfl]
      · unfold f_X12_dropsOne
        rw [in_i, e1, e2, if_pos (show 0 ≤ (nI q).toInt ∧ (nI q).toInt ≤ 9 by omega), if_neg (by decide), jcl_e (rp m hm), hp, ef, if_neg (by decide)]
    | some p =>
      have ef : fndI (some p) = nI p := rfl
      obtain ⟨-, p1, p2⟩ := fnd_some hp
      have p1 : p < np (σ.2.1 0) := by omega
      have hd := dfl_drop h0 hq hp
      refine ⟨nI p, dropT (σ.2.1 0) p, h0.drop p1, fun s μ _ hS => ?_, fun m hm hw => ?_⟩
      · obtain ⟨w, w1, w2, w3⟩ := c_dropL hS.2.1 h0 p1
        have e5 : w.1 (s + 1) 5 - (1 : Int32) = nI (np (σ.2.1 0) - 1) := by
          rw [w2.2.2.1, midT_out (by omega) (by omega), h0.1.2, jlit 1, pk_sub (by omega)]
        have r1 : RT (s + 1) (dropT (σ.2.1 0) p) (jsi w (s + 1) 5 (nI (np (σ.2.1 0) - 1))) := w2.np
        have f1 : jFr (fun c => s + 1 ≤ c ∧ c ≤ s + 6) μ (jsi w (s + 1) 5 (nI (np (σ.2.1 0) - 1))) := (w3.mono (fun c hc => ⟨by omega, by omega⟩)).tr (jFr.si _ _ _ ⟨by omega, by omega⟩)
        have hS1 := hS.now hv.1 r1 f1
        obtain ⟨μ1, a1, a2, a3⟩ := c_changed hS1 (hv.nowT (h0.drop p1)) (t := 20 + q) (by unfold isTh; simp [show 20 + q < 31 by omega]) (by omega)
        dsimp only
        unfold f_X7_dropKey
        rw [key_i, if_pos c, if_neg (by decide), jcl_e (c_placeOf hS.2.1 h0 _), hp, ef, if_neg (nI_m1 (by omega)), nI_1, jcl_e w1, e5, jbd_e, jlit 20, nI_add, jcl_e a1]
        refine ⟨μ1, rfl, ?_, (f1.mono (fun c hc => Or.inl ⟨by omega, by omega⟩)).tr (a3.mono (fun c hc => Or.inl hc.1))⟩
        rw [chg_one hd]
        exact a2
      · have e5 : m.1 204 11 = nI (np (σ.2.1 0)) := by rw [hm.at (by omega), h0.1.2]
        have q1 := hm.set (k := 11) (v := nI (np (σ.2.1 0) - 1)) hv.1 (by omega)
        obtain ⟨w, w1, w2, w3, w4⟩ := r_dropL hv p1 q1.1 (hw.set10 (by omega))
        refine ⟨w, ?_, w2, w3, RA.of (q1.2.tr w4)⟩
        unfold f_X12_dropsOne
        rw [in_i, e1, e2, if_pos (show 0 ≤ (nI q).toInt ∧ (nI q).toInt ≤ 9 by omega), if_neg (by decide), jcl_e (rp m hm), hp, ef, if_pos (nI_pos' (by omega))]
        show jrd (m.1 204) _ _ _ = _
        have e6 : nI (np (σ.2.1 0)) - (1 : Int32) = nI (np (σ.2.1 0) - 1) := pk_sub (b := 1) (by omega)
        rw [jlit 11, jrd_n (n := 2074) (by omega) (by decide), e5, jin_n (n := 2074) (by omega) (by decide), nI_clamp (by omega), e6, jbd_e, jcl_e w1]
  · refine ok_none (r := -1) hv (fun s μ hS => ?_) (fun m hm => ?_)
    · unfold f_X7_dropKey
      rw [key_i, if_neg c, if_pos (by decide)]
    · unfold f_X12_dropsOne
      rw [in_i, e1, e2, if_neg (show ¬ (0 ≤ x.toInt ∧ x.toInt ≤ 9) from fun q => c ⟨q.1, by omega⟩), if_pos (by decide)]
theorem sim_drops {μ : jM} (h : Rel μ) (x : Int32) : ∃ r μ1 μ2, f_X11_drops 0 x μ = some (r, μ1) ∧ f_X12_drops 201 x μ1 = some (r, μ2) ∧ Rel μ2 :=
  sim_ok (fa := f_X11_drops 0 x) (fr := f_X12_drops 201 x) h (by unfold f_X11_drops; rw [jcl2_id]) (fun m => by unfold f_X12_drops; simp only [jcl2_id]) (fun σ hv => ok_drops hv x)
