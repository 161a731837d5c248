/-! acts on pairs and constraints -/
theorem c_changed2 {s : Nat} {σ : SS} {μ : jM} (h : RS s σ μ) (hd : σ.1 ≤ 9) (hO : ∀ j, j < σ.1 → TrOK (σ.2.2 (j + 1))) {t : Nat} (ht : isTh t = true) (hb : t < 31) : ∃ μ', f_X7_changed s (nI t) μ = some μ' ∧ RS s (chT σ t) μ' ∧ jFr (fun c => inS s c ∧ s + 8 ≤ c) μ μ' := by
  have hR := h
  obtain ⟨h1, h2, h3⟩ := h
  unfold f_X7_changed
  rw [h1]
  by_cases c : σ.1 = 0
  · rw [c, if_pos (by decide)]
    refine ⟨_, rfl, ?_, jFr.rf⟩
    unfold chT
    rw [if_pos c]
    exact hR
  · have e : nI σ.1 - (1 : Int32) = nI (σ.1 - 1) := pk_sub (b := 1) (by omega)
    rw [if_neg (nI_nle (by omega) (by omega)), e, jin_n (by omega) (by omega), nI_clamp (by omega)]
    have hL := h3 (σ.1 - 1) (by omega)
    have hO1 := hO (σ.1 - 1) (by omega)
    rw [show σ.1 - 1 + 1 = σ.1 by omega] at hL hO1
    obtain ⟨μ1, e1, r1, f1⟩ := c_put hL hO1 ht hb
    rw [jcl_e e1]
    refine ⟨_, rfl, ⟨?_, ?_, fun j hj => ?_⟩, f1.mono (fun c hc => ⟨⟨by omega, by omega⟩, by omega⟩)⟩
    · rw [(f1 s (by omega)).1]; exact h1
    · exact h2.fr (fun c q1 q2 => (f1 c (by omega)).1)
    · have hj : j < σ.1 := hj
      show RLv _ _ ((if σ.1 = 0 then σ.2.2 else va_up σ.2.2 σ.1 (tput (σ.2.2 σ.1) t)) (j + 1)) μ1
      rw [if_neg c]
      by_cases c2 : j + 1 = σ.1
      · rw [c2, va_up_self, show j = σ.1 - 1 by omega]
        exact r1
      · rw [va_up_ne _ _ c2]
        exact (h3 j hj).fr (fun c q1 q2 => (f1 c (by omega)).1)
theorem nowT_nowT (σ : SS) (T1 T2 : TT) : nowT (nowT σ T1) T2 = nowT σ T2 := by
  unfold nowT
  congr 2
  funext j
  by_cases c : j = 0
  · rw [c, va_up_self, va_up_self]
  · rw [va_up_ne _ _ c, va_up_ne _ _ c]
    exact va_up_ne _ _ c
theorem nowT_0 (σ : SS) (T : TT) : (nowT σ T).2.1 0 = T := va_up_self σ.2.1 0 T
theorem RM.set2 {σ : SS} {T : TT} {μ : jM} {k : Nat} {v : Int32} (h : RM (nowT σ T) μ) (hd : σ.1 ≤ 9) (hk : k < 61) : RM (nowT σ (upd T k v)) (jsi μ 204 k v) ∧ RF μ (jsi μ 204 k v) := by
  have q := RM.set (k := k) (v := v) h hd hk
  rw [nowT_0, nowT_nowT] at q
  exact q
theorem RT.key {t i : Nat} {T : TT} {v : Int32} {μ : jM} (h : RT t T μ) (hi : i < 8) : RT t (upd T (12 + i) v) (jsi μ (t + 3) i v) := by
  obtain ⟨h1, h2, h3, h4, h5, h6, h7⟩ := h
  have k : ∀ k, k ≠ 12 + i → (upd T (12 + i) v) k = T k := fun k h => pk_un h
  refine ⟨fun j hj => ?_, fun j hj => ?_, ?_, fun j hj => ?_, fun j hj => ?_, ?_, fun j hj => ?_⟩
  · rw [jsi_ne (by omega), k _ (by omega)]; exact h1 j hj
  · rw [jsi_ne (by omega), k _ (by omega)]; exact h2 j hj
  · rw [jsi_ne (by omega), k _ (by omega)]; exact h3
  · by_cases c : j = i
    · rw [c, jsi_at, pk_us]
    · rw [jsi_pl c, k _ (by omega)]; exact h4 j hj
  · rw [jsi_ne (by omega), k _ (by omega)]; exact h5 j hj
  · rw [jsi_ne (by omega), k _ (by omega)]; exact h6
  · rw [jsi_ne (by omega), k _ (by omega)]; exact h7 j hj
theorem RT.num {t i : Nat} {T : TT} {v : Int32} {μ : jM} (h : RT t T μ) (hi : i < 8) : RT t (upd T (20 + i) v) (jsi μ (t + 4) i v) := by
  obtain ⟨h1, h2, h3, h4, h5, h6, h7⟩ := h
  have k : ∀ k, k ≠ 20 + i → (upd T (20 + i) v) k = T k := fun k h => pk_un h
  refine ⟨fun j hj => ?_, fun j hj => ?_, ?_, fun j hj => ?_, fun j hj => ?_, ?_, fun j hj => ?_⟩
  · rw [jsi_ne (by omega), k _ (by omega)]; exact h1 j hj
  · rw [jsi_ne (by omega), k _ (by omega)]; exact h2 j hj
  · rw [jsi_ne (by omega), k _ (by omega)]; exact h3
  · rw [jsi_ne (by omega), k _ (by omega)]; exact h4 j hj
  · by_cases c : j = i
    · rw [c, jsi_at, pk_us]
    · rw [jsi_pl c, k _ (by omega)]; exact h5 j hj
  · rw [jsi_ne (by omega), k _ (by omega)]; exact h6
  · rw [jsi_ne (by omega), k _ (by omega)]; exact h7 j hj
theorem RT.par {t i : Nat} {T : TT} {v : Int32} {μ : jM} (h : RT t T μ) (hi : i < 32) : RT t (upd T (29 + i) v) (jsi μ (t + 5) i v) := by
  obtain ⟨h1, h2, h3, h4, h5, h6, h7⟩ := h
  have k : ∀ k, k ≠ 29 + i → (upd T (29 + i) v) k = T k := fun k h => pk_un h
  refine ⟨fun j hj => ?_, fun j hj => ?_, ?_, fun j hj => ?_, fun j hj => ?_, ?_, fun j hj => ?_⟩
  · rw [jsi_ne (by omega), k _ (by omega)]; exact h1 j hj
  · rw [jsi_ne (by omega), k _ (by omega)]; exact h2 j hj
  · rw [jsi_ne (by omega), k _ (by omega)]; exact h3
  · rw [jsi_ne (by omega), k _ (by omega)]; exact h4 j hj
  · rw [jsi_ne (by omega), k _ (by omega)]; exact h5 j hj
  · rw [jsi_ne (by omega), k _ (by omega)]; exact h6
  · by_cases c : j = i
    · rw [c, jsi_at, pk_us]
    · rw [jsi_pl c, k _ (by omega)]; exact h7 j hj
theorem RT.np {t : Nat} {T : TT} {v : Int32} {μ : jM} (h : RT t T μ) : RT t (upd T 11 v) (jsi μ t 5 v) := by
  obtain ⟨h1, h2, h3, h4, h5, h6, h7⟩ := h
  have k : ∀ k, k ≠ 11 → (upd T 11 v) k = T k := fun k h => pk_un h
  refine ⟨fun j hj => ?_, fun j hj => ?_, ?_, fun j hj => ?_, fun j hj => ?_, ?_, fun j hj => ?_⟩
  · rw [jsi_ne (by omega), k _ (by omega)]; exact h1 j hj
  · rw [jsi_ne (by omega), k _ (by omega)]; exact h2 j hj
  · rw [jsi_at, pk_us]
  · rw [jsi_ne (by omega), k _ (by omega)]; exact h4 j hj
  · rw [jsi_ne (by omega), k _ (by omega)]; exact h5 j hj
  · rw [jsi_pl (by omega), k _ (by omega)]; exact h6
  · rw [jsi_ne (by omega), k _ (by omega)]; exact h7 j hj
theorem RT.nc {t : Nat} {T : TT} {v : Int32} {μ : jM} (h : RT t T μ) : RT t (upd T 28 v) (jsi μ t 6 v) := by
  obtain ⟨h1, h2, h3, h4, h5, h6, h7⟩ := h
  have k : ∀ k, k ≠ 28 → (upd T 28 v) k = T k := fun k h => pk_un h
  refine ⟨fun j hj => ?_, fun j hj => ?_, ?_, fun j hj => ?_, fun j hj => ?_, ?_, fun j hj => ?_⟩
  · rw [jsi_ne (by omega), k _ (by omega)]; exact h1 j hj
  · rw [jsi_ne (by omega), k _ (by omega)]; exact h2 j hj
  · rw [jsi_pl (by omega), k _ (by omega)]; exact h3
  · rw [jsi_ne (by omega), k _ (by omega)]; exact h4 j hj
  · rw [jsi_ne (by omega), k _ (by omega)]; exact h5 j hj
  · rw [jsi_at, pk_us]
  · rw [jsi_ne (by omega), k _ (by omega)]; exact h7 j hj
theorem RT.eq {t : Nat} {T T' : TT} {μ : jM} (h : RT t T μ) (he : ∀ k, k < 61 → T k = T' k) : RT t T' μ := by
  obtain ⟨h1, h2, h3, h4, h5, h6, h7⟩ := h
  refine ⟨fun j hj => ?_, fun j hj => ?_, ?_, fun j hj => ?_, fun j hj => ?_, ?_, fun j hj => ?_⟩
  · rw [← he _ (by omega)]; exact h1 j hj
  · rw [← he _ (by omega)]; exact h2 j hj
  · rw [← he _ (by omega)]; exact h3
  · rw [← he _ (by omega)]; exact h4 j hj
  · rw [← he _ (by omega)]; exact h5 j hj
  · rw [← he _ (by omega)]; exact h6
  · rw [← he _ (by omega)]; exact h7 j hj
theorem plc_of {T : TT} (hv : VT T) {j : Nat} (hj : j < np T) : plc T (T (12 + j)) = some j := by
  cases q : plc T (T (12 + j)) with
  | none => exact absurd rfl (fnd_none q j (Nat.zero_le _) (by omega))
  | some i =>
    obtain ⟨-, h2, h3⟩ := fnd_some q
    rw [hv.2.2.2.2.2.1 i j (by omega) hj h3]
theorem plc_none {T : TT} {key : Int32} (h : plc T key = none) {j : Nat} (hj : j < np T) : ¬ T (12 + j) = key := fnd_none h j (Nat.zero_le _) (by omega)
theorem plc_no {T : TT} {key : Int32} (h : ∀ j, j < np T → ¬ T (12 + j) = key) : plc T key = none := by
  cases q : plc T key with
  | none => rfl
  | some i =>
    obtain ⟨-, h2, h3⟩ := fnd_some q
    exact absurd h3 (h i (by omega))
theorem tell_keyE {T T' : TT} {t : Nat} (ht : 20 ≤ t) (ht2 : t < 30) (h : (plc T (nI (t - 20)) = none ∧ plc T' (nI (t - 20)) = none) ∨ ∃ i j, plc T (nI (t - 20)) = some i ∧ plc T' (nI (t - 20)) = some j ∧ T (20 + i) = T' (20 + j)) : tell T t = tell T' t := by
  unfold tell
  simp only [if_neg (show ¬ t < 6 by omega), if_neg (show ¬ t < 15 by omega), if_pos ht2]
  rcases h with ⟨a, b⟩ | ⟨i, j, a, b, c⟩
  · rw [a, b]
  · rw [a, b]
    show _ + T (20 + i) = _ + T' (20 + j)
    rw [c]
/-- a new pair -/
def putN (T : TT) (key y : Int32) : TT := upd (upd (upd T (12 + np T) key) 11 (nI (np T + 1))) (20 + np T) y
theorem putN_np {T : TT} {key y : Int32} (h : np T < 8) : np (putN T key y) = np T + 1 ∧ putN T key y 11 = nI (np T + 1) := by
  have e : putN T key y 11 = nI (np T + 1) := by
    unfold putN
    rw [pk_un (by omega), pk_us]
  refine ⟨?_, e⟩
  show (putN T key y 11).toNatClampNeg = _
  rw [e, nI_clamp (by omega)]
theorem putN_at {T : TT} {key y : Int32} {k : Nat} (h1 : k ≠ 12 + np T) (h2 : k ≠ 11) (h3 : k ≠ 20 + np T) : putN T key y k = T k := by
  unfold putN
  rw [pk_un h3, pk_un h2, pk_un h1]
theorem putN_key {T : TT} {key y : Int32} (h : np T < 8) : putN T key y (12 + np T) = key := by
  unfold putN
  rw [pk_un (by omega), pk_un (by omega), pk_us]
theorem putN_num {T : TT} {key y : Int32} : putN T key y (20 + np T) = y := by
  unfold putN
  rw [pk_us]
theorem VT.put1 {T : TT} {q : Nat} {y : Int32} (h : VT T) (hn : np T < 8) (hq : q < 10) (hp : plc T (nI q) = none) (hy : numOK y) : VT (putN T (nI q) y) := by
  obtain ⟨e1, e2⟩ := putN_np (key := nI q) (y := y) hn
  obtain ⟨h1, h2, h3, h4, h5, h6, h7, h8⟩ := h
  have k := @putN_at T (nI q) y
  have ec : nc (putN T (nI q) y) = nc T := by unfold nc; rw [k (by omega) (by omega) (by omega)]
  have hc := h2.1
  unfold VT
  rw [e1, e2, ec, k (k := 28) (by omega) (by omega) (by omega)]
  refine ⟨⟨by omega, rfl⟩, h2, fun j hj => ?_, fun j hj => ?_, fun j hj => ?_, fun a b ha hb => ?_, fun j hj => ?_, fun j hj => ?_⟩
  · rw [k (by omega) (by omega) (by omega)]; exact h3 j hj
  · rw [k (by omega) (by omega) (by omega)]; exact h4 j hj
  · by_cases c : j = np T
    · rw [c, putN_key hn]; exact ⟨q, hq, rfl⟩
    · rw [k (by omega) (by omega) (by omega)]; exact h5 j (by omega)
  · by_cases ca : a = np T
    · by_cases cb : b = np T
      · omega
      · rw [ca, putN_key hn, k (by omega) (by omega) (by omega)]
        intro z
        exact absurd z.symm (plc_none hp (by omega))
    · by_cases cb : b = np T
      · rw [cb, putN_key hn, k (by omega) (by omega) (by omega)]
        intro z
        exact absurd z (plc_none hp (by omega))
      · rw [k (by omega) (by omega) (by omega), k (by omega) (by omega) (by omega)]
        exact h6 a b (by omega) (by omega)
  · by_cases c : j = np T
    · rw [c, putN_num]; exact hy
    · rw [k (by omega) (by omega) (by omega)]; exact h7 j (by omega)
  · rw [k (by omega) (by omega) (by omega), k (by omega) (by omega) (by omega), k (by omega) (by omega) (by omega), k (by omega) (by omega) (by omega)]; exact h8 j hj
theorem dfl_putN {T : TT} {q : Nat} {y : Int32} (h : VT T) (hn : np T < 8) (hq : q < 10) (hp : plc T (nI q) = none) (hy : numOK y) : dfl T (putN T (nI q) y) 31 = [20 + q] := by
  have hv := h.put1 hn hq hp hy
  obtain ⟨e1, e2⟩ := putN_np (key := nI q) (y := y) hn
  have k := @putN_at T (nI q) y
  have hc := h.2.1.1
  have pn : plc (putN T (nI q) y) (nI q) = some (np T) := by
    have := plc_of hv (j := np T) (by omega)
    rw [putN_key hn] at this
    exact this
  rw [dfl_one (a := 20 + q) (fun t hb ht hne => ?_) (by unfold isTh; simp [show 20 + q < 31 by omega]) (by omega)]
  · have : othB T (putN T (nI q) y) (20 + q) = true := by
      unfold othB tell
      simp only [if_neg (show ¬ 20 + q < 6 by omega), if_neg (show ¬ 20 + q < 15 by omega), if_pos (show 20 + q < 30 by omega), show 20 + q - 20 = q by omega, hp, pn, putN_num]
      have hz : ¬ (0 : Int32) = nI 1000 + y := fun z => num_1000 hy z.symm
      simp [hz]
    rw [this, if_pos rfl]
  · refine oth_f ?_ (fun _ z hz => (k (by omega) (by omega) (by omega)).symm)
    rcases isTh_cases ht with z | z | z | z
    · exact tell_cell z (k (by omega) (by omega) (by omega)).symm
    · exact tell_var z.1 z.2 (k (by omega) (by omega) (by omega)).symm
    · refine tell_keyE z.1 z.2 ?_
      cases w : plc T (nI (t - 20)) with
      | none =>
        refine Or.inl ⟨rfl, plc_no (fun j hj => ?_)⟩
        rw [e1] at hj
        by_cases c : j = np T
        · rw [c, putN_key hn]
          intro z2
          have := (nI_eq (by omega) (by omega)).mp z2
          omega
        · rw [k (by omega) (by omega) (by omega)]
          exact plc_none w (by omega)
      | some i =>
        obtain ⟨-, w2, w3⟩ := fnd_some w
        refine Or.inr ⟨i, i, rfl, ?_, (k (by omega) (by omega) (by omega)).symm⟩
        have := plc_of hv (j := i) (by omega)
        rw [k (by omega) (by omega) (by omega)] at this
        rw [← w3]
        exact this
    · rw [z]; exact tell_con (k (by omega) (by omega) (by omega)).symm
theorem VT.num {T : TT} {i : Nat} {y : Int32} (h : VT T) (hi : i < 8) (hy : numOK y) : VT (upd T (20 + i) y) := by
  obtain ⟨h1, h2, h3, h4, h5, h6, h7, h8⟩ := h
  have k : ∀ k, k ≠ 20 + i → (upd T (20 + i) y) k = T k := fun k h => pk_un h
  have en : np (upd T (20 + i) y) = np T := by unfold np; rw [k _ (by omega)]
  have ec : nc (upd T (20 + i) y) = nc T := by unfold nc; rw [k _ (by omega)]
  have hn := h1.1
  unfold VT
  rw [en, ec, k 11 (by omega), k 28 (by omega)]
  refine ⟨h1, h2, fun j hj => ?_, fun j hj => ?_, fun j hj => ?_, fun a b ha hb => ?_, fun j hj => ?_, fun j hj => ?_⟩
  · rw [k _ (by omega)]; exact h3 j hj
  · rw [k _ (by omega)]; exact h4 j hj
  · rw [k _ (by omega)]; exact h5 j hj
  · rw [k _ (by omega), k _ (by omega)]; exact h6 a b ha hb
  · by_cases c : j = i
    · rw [c, pk_us]; exact hy
    · rw [k _ (by omega)]; exact h7 j hj
  · rw [k _ (by omega), k _ (by omega), k _ (by omega), k _ (by omega)]; exact h8 j hj
theorem dfl_num {T : TT} {q i : Nat} {y : Int32} (h : VT T) (hq : q < 10) (hp : plc T (nI q) = some i) : dfl T (upd T (20 + i) y) 31 = if T (20 + i) = y then [] else [20 + q] := by
  obtain ⟨-, i1, i2⟩ := fnd_some hp
  have hn := h.1.1
  have hc := h.2.1.1
  have k : ∀ k, k ≠ 20 + i → (upd T (20 + i) y) k = T k := fun k h => pk_un h
  have en : np (upd T (20 + i) y) = np T := by unfold np; rw [k _ (by omega)]
  have pe : ∀ key, plc (upd T (20 + i) y) key = plc T key := fun key => plc_congr (k 11 (by omega)) (fun j hj => k _ (by omega)) key
  rw [dfl_one (a := 20 + q) (fun t hb ht hne => ?_) (by unfold isTh; simp [show 20 + q < 31 by omega]) (by omega)]
  · unfold othB tell
    simp only [if_neg (show ¬ 20 + q < 6 by omega), if_neg (show ¬ 20 + q < 15 by omega), if_pos (show 20 + q < 30 by omega), show 20 + q - 20 = q by omega, pe, hp, pk_us]
    by_cases c : T (20 + i) = y
    · rw [if_pos c, c]; simp [show ¬ 20 + q = 30 by omega]
    · have c' : ¬ nI 1000 + T (20 + i) = nI 1000 + y := fun q => c ((i32_add_inj _ _ _).mp q)
      rw [if_neg c]; simp [c']
  · refine oth_f ?_ (fun _ z hz => (k _ (by omega)).symm)
    rcases isTh_cases ht with z | z | z | z
    · exact tell_cell z (k _ (by omega)).symm
    · exact tell_var z.1 z.2 (k _ (by omega)).symm
    · refine tell_keyE z.1 z.2 ?_
      rw [pe]
      cases w : plc T (nI (t - 20)) with
      | none => exact Or.inl ⟨rfl, rfl⟩
      | some j =>
        obtain ⟨-, w2, w3⟩ := fnd_some w
        refine Or.inr ⟨j, j, rfl, rfl, (k _ (fun z2 => ?_)).symm⟩
        have : j = i := by omega
        rw [this] at w3
        have := (nI_eq (by omega) (by omega)).mp (i2.symm.trans w3)
        omega
    · rw [z]; exact tell_con (k _ (by omega)).symm
theorem ok_puts {σ : SS} (hv : VS σ) (x y : Int32) : ActOK σ (fun s => f_X7_putKey s x y) (f_X12_putsOne 201 x y) := by
  have e1 : (0 : Int64).toInt = 0 := by decide
  have e2 : (9 : Int64).toInt = 9 := by decide
  have e3 : (-999 : Int64).toInt = -999 := by decide
  have e4 : (999 : Int64).toInt = 999 := by decide
  have h0 := hv.2.1 0 (Nat.zero_le _)
  have hn8 := h0.1.1
  by_cases c : (0 ≤ x.toInt ∧ x.toInt < 10) ∧ (-999 ≤ y.toInt ∧ y.toInt ≤ 999)
  · have c0 := c
    obtain ⟨q, hq, rfl⟩ := nI_iof (n := 10) c.1 (by decide)
    have cl : ∀ (s : Nat) (μ : jM), RS s σ μ → f_X7_putKey s (nI q) y μ = _ := fun s μ hS => by
      unfold f_X7_putKey
      rw [key_i, if_pos c0.1, num_i, if_pos c0.2, if_neg (by decide), if_neg (by decide), jcl_e (c_placeOf hS.2.1 h0 _), jbd_e]
    have rp : ∀ m : jM, RM σ m → f_X12_placeOf 201 (0 : Int32) (nI q) m = some (fndI (plc (σ.2.1 0) (nI q))) := fun m hm => r_placeOf (w := 0) (hm.2.1 0 (Nat.zero_le _)) (by decide) h0 _
    have rl : ∀ (m : jM) (z : Option (Int32 × jM)), RM σ m → jcl (f_X12_placeOf 201 (0 : Int32) (nI q) m) (fun v3 => jbd (jbd (fun (t8 : Int32) (m9 : jM) => jin ((12 : Int32) + t8) 2074 (jbd (jsi m9 (201 + 3) ((12 : Int32) + t8).toNatClampNeg (nI q)) (fun m14 => jin ((20 : Int32) + t8) 2074 (jbd (jsi m14 (201 + 3) ((20 : Int32) + t8).toNatClampNeg y) (fun m17 => some ((t8, m17))))))) (fun k10 => (if (0 : Int32) ≤ v3 then k10 v3 m else jrd (m.1 (201 + 3)) (11 : Int32) 2074 (fun v21 => jrd (m.1 (201 + 3)) (11 : Int32) 2074 (fun v24 => jin (11 : Int32) 2074 (jbd (jsi m (201 + 3) (11 : Int32).toNatClampNeg (v24 + (1 : Int32))) (fun m27 => k10 v21 m27))))))) (fun k5 => (if (0 : Int32) ≤ v3 then k5 else jrd (m.1 (201 + 3)) (11 : Int32) 2074 (fun v31 => (if v31 = (8 : Int32) then some (((-2 : Int32), m)) else k5))))) = z → f_X12_putsOne 201 (nI q) y m = z := fun m z hm hz => by
      unfold f_X12_putsOne
      rw [in_i, e1, e2, if_pos (show 0 ≤ (nI q).toInt ∧ (nI q).toInt ≤ 9 by omega), in_i, e3, e4, if_pos c0.2, if_neg (by decide), if_neg (by decide)]
      exact hz
    cases hp : plc (σ.2.1 0) (nI q) with
    | some i =>
      obtain ⟨-, i1, i2⟩ := fnd_some hp
      have hd := dfl_num (y := y) h0 hq hp
      have ef : fndI (some i) = nI i := rfl
      refine ⟨nI i, upd (σ.2.1 0) (20 + i) y, h0.num (by omega) c0.2, fun s μ _ hS => ?_, fun m hm hw => ?_⟩
      · try dsimp only
        rw [cl s μ hS, hp, ef, if_neg (nI_m1 (by omega)), show s + 5 = s + 1 + 4 from rfl, jrd_n (by omega) (by decide), hS.2.1.2.2.2.2.1 i (by omega)]
        dsimp only
        by_cases cy : σ.2.1 0 (20 + i) = y
        · rw [if_pos cy] at hd
          rw [if_pos cy, jin_n (n := 8) (by omega) (by decide), nI_clamp (by omega), jbd_e]
          refine ⟨_, rfl, ?_, jFr.si _ _ _ (Or.inl ⟨by omega, by omega⟩)⟩
          rw [chg_none hd]
          exact hS.now hv.1 (hS.2.1.num (by omega)) (jFr.si _ _ _ ⟨by omega, by omega⟩)
        · rw [if_neg cy] at hd
          obtain ⟨μ1, a1, a2, a3⟩ := c_changed hS hv (t := 20 + q) (by unfold isTh; simp [show 20 + q < 31 by omega]) (by omega)
          rw [if_neg cy, jlit 20, nI_add, jcl_e a1, jin_n (n := 8) (by omega) (by decide), nI_clamp (by omega), jbd_e]
          refine ⟨_, rfl, ?_, (a3.mono (fun c hc => Or.inl hc.1)).tr (jFr.si _ _ _ (Or.inl ⟨by omega, by omega⟩))⟩
          rw [chg_one hd]
          exact a2.now hv.1 (a2.2.1.num (by omega)) (jFr.si _ _ _ ⟨by omega, by omega⟩)
      · have q1 := hm.set (k := 12 + i) (v := nI q) hv.1 (by omega)
        have q2 := q1.1.set2 (k := 20 + i) (v := y) hv.1 (by omega)
        have ee : upd (σ.2.1 0) (12 + i) (nI q) = σ.2.1 0 := by
          funext j
          by_cases z : j = 12 + i
          · rw [z, pk_us]; exact i2.symm
          · exact pk_un z
        rw [ee] at q2
        refine ⟨_, rl m _ hm ?_, q2.1, (hw.set10 (by omega)).set10 (by omega), RA.of (q1.2.tr q2.2)⟩
        rw [jcl_e (rp m hm), hp, ef]
        simp only [jbd_e]
        rw [if_pos (nI_pos' (by omega)), if_pos (nI_pos' (by omega)), jlit 12, jlit 20, nI_add, nI_add, jin_n (n := 2074) (by omega) (by decide), jin_n (n := 2074) (by omega) (by decide), nI_clamp (by omega), nI_clamp (by omega)]
    | none =>
      have ef : fndI (none : Option Nat) = -1 := rfl
      by_cases cn : np (σ.2.1 0) = 8
      · refine ok_none (r := -2) hv (fun s μ hS => ?_) (fun m hm => ?_)
        · try dsimp only
          have e5 : μ.1 (s + 1) 5 = nI 8 := by rw [hS.2.1.2.2.1, h0.1.2, cn]
          rw [cl s μ hS, hp, ef, if_pos rfl, e5, if_neg (by decide)]
        · have e5 : m.1 204 11 = nI 8 := by rw [hm.at (by omega), h0.1.2, cn]
          refine rl m _ hm ?_
          rw [jcl_e (rp m hm), hp, ef]
          simp only [jbd_e]
          rw [if_neg (by decide)]
          show jrd (m.1 204) _ _ _ = _
          rw [jlit 11, jrd_n (by omega) (by decide), e5, if_pos (by rfl)]
      · have hn : np (σ.2.1 0) < 8 := by omega
        have hd := dfl_putN h0 hn hq hp c0.2
        refine ⟨nI (np (σ.2.1 0)), putN (σ.2.1 0) (nI q) y, h0.put1 hn hq hp c0.2, fun s μ _ hS => ?_, fun m hm hw => ?_⟩
        · try dsimp only
          have e5 : μ.1 (s + 1) 5 = nI (np (σ.2.1 0)) := by rw [hS.2.1.2.2.1, h0.1.2]
          have e6 : (jsi μ (s + 4) (np (σ.2.1 0)) (nI q)).1 (s + 1) 5 + (1 : Int32) = nI (np (σ.2.1 0) + 1) := by rw [jsi_ne (by omega), e5, nI_1]
          rw [cl s μ hS, hp, ef, if_pos rfl, e5, jlit 8, if_pos (nI_lt (b := 8) hn (by decide)), jin_n hn (by decide), nI_clamp (by omega), jbd_e, e6, jbd_e]
          have r1 : RT (s + 1) (upd (upd (σ.2.1 0) (12 + np (σ.2.1 0)) (nI q)) 11 (nI (np (σ.2.1 0) + 1))) (jsi (jsi μ (s + 4) (np (σ.2.1 0)) (nI q)) (s + 1) 5 (nI (np (σ.2.1 0) + 1))) := (hS.2.1.key hn).np
          have f1 : jFr (fun c => s + 1 ≤ c ∧ c ≤ s + 6) μ (jsi (jsi μ (s + 4) (np (σ.2.1 0)) (nI q)) (s + 1) 5 (nI (np (σ.2.1 0) + 1))) := (jFr.si _ _ _ ⟨by omega, by omega⟩).tr (jFr.si _ _ _ ⟨by omega, by omega⟩)
          have hS1 := hS.now hv.1 r1 f1
          obtain ⟨μ1, a1, a2, a3⟩ := c_changed2 hS1 hv.1 hv.2.2 (t := 20 + q) (by unfold isTh; simp [show 20 + q < 31 by omega]) (by omega)
          rw [jlit 20, nI_add, jcl_e a1]
          dsimp only
          rw [jin_n hn (by decide), nI_clamp (by omega), jbd_e]
          refine ⟨_, rfl, ?_, ((f1.mono (fun c hc => Or.inl ⟨by omega, by omega⟩)).tr (a3.mono (fun c hc => Or.inl hc.1))).tr (jFr.si _ _ _ (Or.inl ⟨by omega, by omega⟩))⟩
          have r2 := a2.2.1.num (i := np (σ.2.1 0)) (v := y) hn
          have r2' : RT (s + 1) (putN (σ.2.1 0) (nI q) y) (jsi μ1 (s + 1 + 4) (np (σ.2.1 0)) y) := by
            have ez : (chT (nowT σ (upd (upd (σ.2.1 0) (12 + np (σ.2.1 0)) (nI q)) 11 (nI (np (σ.2.1 0) + 1)))) (20 + q)).2.1 0 = upd (upd (σ.2.1 0) (12 + np (σ.2.1 0)) (nI q)) 11 (nI (np (σ.2.1 0) + 1)) := nowT_0 σ _
            rw [ez] at r2
            exact r2
          have q3 := a2.now hv.1 r2' (jFr.si _ _ _ ⟨by omega, by omega⟩)
          have q4 : nowT (chT (nowT σ (upd (upd (σ.2.1 0) (12 + np (σ.2.1 0)) (nI q)) 11 (nI (np (σ.2.1 0) + 1)))) (20 + q)) (putN (σ.2.1 0) (nI q) y) = chT (nowT σ (putN (σ.2.1 0) (nI q) y)) (20 + q) := by
            have := nowT_nowT σ (upd (upd (σ.2.1 0) (12 + np (σ.2.1 0)) (nI q)) 11 (nI (np (σ.2.1 0) + 1))) (putN (σ.2.1 0) (nI q) y)
            rw [← this]
            rfl
          rw [chg_one hd, ← q4]
          exact q3
        · have e5 : m.1 204 11 = nI (np (σ.2.1 0)) := by rw [hm.at (by omega), h0.1.2]
          have q1 := hm.set (k := 11) (v := nI (np (σ.2.1 0) + 1)) hv.1 (by omega)
          have q2 := q1.1.set2 (k := 12 + np (σ.2.1 0)) (v := nI q) hv.1 (by omega)
          have q3 := q2.1.set2 (k := 20 + np (σ.2.1 0)) (v := y) hv.1 (by omega)
          have ee : upd (upd (upd (σ.2.1 0) 11 (nI (np (σ.2.1 0) + 1))) (12 + np (σ.2.1 0)) (nI q)) (20 + np (σ.2.1 0)) y = putN (σ.2.1 0) (nI q) y := by
            unfold putN
            congr 1
            funext j
            by_cases z : j = 12 + np (σ.2.1 0)
            · rw [z, pk_us, pk_un (by omega), pk_us]
            · rw [pk_un z]
              by_cases z2 : j = 11
              · rw [z2, pk_us, pk_us]
              · rw [pk_un z2, pk_un z2, pk_un z]
          rw [ee] at q3
          refine ⟨_, rl m _ hm ?_, q3.1, ((hw.set10 (by omega)).set10 (by omega)).set10 (by omega), RA.of ((q1.2.tr q2.2).tr q3.2)⟩
          rw [jcl_e (rp m hm), hp, ef]
          simp only [jbd_e]
          rw [if_neg (by decide), if_neg (by decide)]
          show jrd (m.1 204) _ _ _ = _
          rw [jlit 11, jrd_n (n := 2074) (by omega) (by decide), e5, jlit 8, if_neg (fun z => cn ((nI_eq (b := 8) (by omega) (by decide)).mp z))]
          show jrd (m.1 204) _ _ _ = _
          rw [jrd_n (n := 2074) (by omega) (by decide)]
          show jrd (m.1 204) _ _ _ = _
          rw [jrd_n (n := 2074) (by omega) (by decide), e5, jin_n (n := 2074) (by omega) (by decide), nI_clamp (by omega), nI_1, jlit 12, jlit 20, nI_add, nI_add, jin_n (n := 2074) (by omega) (by decide), jin_n (n := 2074) (by omega) (by decide), nI_clamp (by omega), nI_clamp (by omega)]
  · refine ok_none (r := -1) hv (fun s μ hS => ?_) (fun m hm => ?_)
    · try dsimp only
      unfold f_X7_putKey
      rw [key_i, num_i]
      by_cases c1 : 0 ≤ x.toInt ∧ x.toInt < 10
      · rw [if_pos c1, if_neg (fun q => c ⟨c1, q⟩), if_neg (by decide), if_pos (by decide)]
      · rw [if_neg c1, if_pos (by decide)]
    · unfold f_X12_putsOne
      rw [in_i, e1, e2, in_i, e3, e4]
      by_cases c1 : 0 ≤ x.toInt ∧ x.toInt ≤ 9
      · rw [if_pos c1, if_neg (fun q => c ⟨by omega, q⟩), if_neg (by decide), if_pos (by decide)]
      · rw [if_neg c1, if_pos (by decide)]
theorem sim_puts {μ : jM} (h : Rel μ) (x y : Int32) : ∃ r μ1 μ2, f_X11_puts 0 x y μ = some (r, μ1) ∧ f_X12_puts 201 x y μ1 = some (r, μ2) ∧ Rel μ2 :=
  sim_ok (fa := f_X11_puts 0 x y) (fr := f_X12_puts 201 x y) h (by unfold f_X11_puts; rw [jcl2_id]) (fun m => by unfold f_X12_puts; simp only [jcl2_id]) (fun σ hv => ok_puts hv x y)
