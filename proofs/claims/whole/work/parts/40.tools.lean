/-! numbers, checks, loops -/
theorem jlit (n : Nat) : (OfNat.ofNat n : Int32) = nI n := rfl
theorem jrd_n {α β : Type} {f : Nat → α} {j n : Nat} {k : α → Option β} (h : j < n) (hn : n < 2 ^ 31) : jrd f (nI j) n k = k (f j) := by
  unfold jrd
  rw [if_neg (nI_in h hn), nI_clamp (by omega)]
theorem jin_n {β : Type} {j n : Nat} {k : Option β} (h : j < n) (hn : n < 2 ^ 31) : jin (nI j) n k = k := by
  unfold jin
  rw [if_neg (nI_in h hn)]
theorem jcl_e {α β : Type} {o : Option α} {x : α} {k : α → Option β} (h : o = some x) : jcl o k = k x := by rw [h]; rfl
theorem jcl2_e {α β : Type} {o : Option (α × jM)} {x : α} {m : jM} {k : α → jM → Option β} (h : o = some (x, m)) : jcl2 o k = k x m := by rw [h]; rfl
theorem jbd_e {α β : Type} (x : α) (k : α → β) : jbd x k = k x := rfl
theorem jfu_lt {n : Nat} (h : n < 2000000) : n < jfu := h
theorem jlp {σ ε : Type} {step : σ → Option (σ ⊕ ε)} (I : σ → Prop) (m : σ → Nat) (R : ε → Prop) (hs : ∀ s, I s → ∃ o, step s = some o ∧ jok (fun s' => I s' ∧ m s' < m s) R o) : ∀ (n : Nat) (s : σ), I s → m s < n → ∃ e, jloop step n s = some e ∧ R e := by
  intro n
  induction n with
  | zero => intro s _ h; omega
  | succ n ih =>
    intro s hI hm
    obtain ⟨o, ho, hk⟩ := hs s hI
    unfold jloop
    rw [ho]
    cases o with
    | inl s2 => exact ih s2 hk.1 (Nat.lt_of_lt_of_le hk.2 (Nat.le_of_lt_succ hm))
    | inr e => exact ⟨e, rfl, hk⟩
/-- a loop over 0 .. N - 1 without another end: I k s -/
theorem jlpN {σ ε : Type} {step : σ → Option (σ ⊕ ε)} (N : Nat) (I : Nat → σ → Prop) (R : ε → Prop) (hs : ∀ k s, k < N → I k s → ∃ s', step s = some (.inl s') ∧ I (k + 1) s') (hx : ∀ s, I N s → ∃ e, step s = some (.inr e) ∧ R e) {i n : Nat} {s : σ} (hi : i ≤ N) (h : I i s) (hn : N < n) : ∃ e, jloop step n s = some e ∧ R e := by
  have key : ∀ (d i n : Nat) (s : σ), i + d = N → I i s → d < n → ∃ e, jloop step n s = some e ∧ R e := by
    intro d
    induction d with
    | zero =>
      intro i n s hd hI hn
      obtain ⟨n, rfl⟩ : ∃ q, n = q + 1 := ⟨n - 1, by omega⟩
      obtain ⟨e, h1, h2⟩ := hx s (by rw [← hd]; exact hI)
      exact ⟨e, by unfold jloop; rw [h1], h2⟩
    | succ d ih =>
      intro i n s hd hI hn
      obtain ⟨n, rfl⟩ : ∃ q, n = q + 1 := ⟨n - 1, by omega⟩
      obtain ⟨s', h1, h2⟩ := hs i s (by omega) hI
      obtain ⟨e, h3, h4⟩ := ih (i + 1) n s' (by omega) h2 (by omega)
      exact ⟨e, by unfold jloop; rw [h1]; exact h3, h4⟩
  exact key (N - i) i n s (by omega) h (by omega)
theorem jsi_at (μ : jM) (a k : Nat) (v : Int32) : (jsi μ a k v).1 a k = v := by simp [jsi, va_up, upd]
theorem jsi_pl {μ : jM} {a k j : Nat} {v : Int32} (h : j ≠ k) : (jsi μ a k v).1 a j = μ.1 a j := by simp [jsi, va_up, upd, h]
theorem jsi_ne {μ : jM} {a c k : Nat} {v : Int32} (h : c ≠ a) : (jsi μ a k v).1 c = μ.1 c := by simp [jsi, va_up, h]
theorem jsi_self (μ : jM) (a k : Nat) (v : Int32) : (jsi μ a k v).1 a = upd (μ.1 a) k v := by simp [jsi, va_up]
theorem jsi_2 (μ : jM) (a k : Nat) (v : Int32) : (jsi μ a k v).2 = μ.2 := rfl
theorem jsl_1 (μ : jM) (a k : Nat) (v : Int64) : (jsl μ a k v).1 = μ.1 := rfl
theorem jsl_self (μ : jM) (a k : Nat) (v : Int64) : (jsl μ a k v).2 a = vp_updL (μ.2 a) k v := by simp [jsl, va_up]
theorem jsl_ne {μ : jM} {a c k : Nat} {v : Int64} (h : c ≠ a) : (jsl μ a k v).2 c = μ.2 c := by simp [jsl, va_up, h]
/-- nothing changed but the cells of S -/
def jFr (S : Nat → Prop) (μ μ' : jM) : Prop := ∀ c, ¬ S c → μ'.1 c = μ.1 c ∧ μ'.2 c = μ.2 c
theorem jFr.rf {S : Nat → Prop} {μ : jM} : jFr S μ μ := fun _ _ => ⟨rfl, rfl⟩
theorem jFr.tr {S : Nat → Prop} {μ μ1 μ2 : jM} (h : jFr S μ μ1) (h2 : jFr S μ1 μ2) : jFr S μ μ2 := fun c hc => ⟨(h2 c hc).1.trans (h c hc).1, (h2 c hc).2.trans (h c hc).2⟩
theorem jFr.mono {S S' : Nat → Prop} {μ μ1 : jM} (h : jFr S μ μ1) (hs : ∀ c, S c → S' c) : jFr S' μ μ1 := fun c hc => h c (fun q => hc (hs c q))
theorem jFr.si {S : Nat → Prop} (μ : jM) {a : Nat} (k : Nat) (v : Int32) (h : S a) : jFr S μ (jsi μ a k v) := fun c hc => ⟨jsi_ne (fun q => hc (by rw [q]; exact h)), rfl⟩
theorem jFr.sl {S : Nat → Prop} (μ : jM) {a : Nat} (k : Nat) (v : Int64) (h : S a) : jFr S μ (jsl μ a k v) := fun c hc => ⟨rfl, jsl_ne (fun q => hc (by rw [q]; exact h))⟩
theorem jFr.cp {S : Nat → Prop} (μ : jM) {a : Nat} (b sp dp n : Nat) (h : S a) : jFr S μ (jcp μ b sp a dp n) := fun c hc => ⟨va_up_ne _ _ (fun q => hc (by rw [q]; exact h)), rfl⟩
/-- comparisons with what is not there -/
theorem nI_m1 {n : Nat} (h : n < 2 ^ 31) : ¬ nI n = (-1 : Int32) := by
  intro q
  have h1 := congrArg Int32.toInt q
  rw [nI_toInt h] at h1
  have h2 : (-1 : Int32).toInt = -1 := by decide
  omega
/-- the first place below m + i, from i on, at which g is key -/
def fnd (g : Nat → Int32) (key : Int32) : Nat → Nat → Option Nat
  | 0, _ => none
  | m + 1, i => if g i = key then some i else fnd g key m (i + 1)
def fndI (o : Option Nat) : Int32 := match o with
  | some i => nI i
  | none => -1
theorem fnd_some {g : Nat → Int32} {key : Int32} : ∀ {m i j : Nat}, fnd g key m i = some j → i ≤ j ∧ j < i + m ∧ g j = key
  | 0, i, j, h => by cases h
  | m + 1, i, j, h => by
    unfold fnd at h
    by_cases c : g i = key
    · rw [if_pos c] at h
      cases h
      exact ⟨Nat.le_refl _, by omega, c⟩
    · rw [if_neg c] at h
      obtain ⟨h1, h2, h3⟩ := fnd_some h
      exact ⟨by omega, by omega, h3⟩
theorem fnd_none {g : Nat → Int32} {key : Int32} : ∀ {m i : Nat}, fnd g key m i = none → ∀ j, i ≤ j → j < i + m → ¬ g j = key
  | 0, i, h, j, h1, h2 => by omega
  | m + 1, i, h, j, h1, h2 => by
    unfold fnd at h
    by_cases c : g i = key
    · rw [if_pos c] at h; cases h
    · rw [if_neg c] at h
      by_cases e : j = i
      · rw [e]; exact c
      · exact fnd_none h j (by omega) (by omega)
theorem fnd_congr {g g' : Nat → Int32} {key : Int32} : ∀ {m i : Nat}, (∀ j, i ≤ j → j < i + m → g j = g' j) → fnd g key m i = fnd g' key m i
  | 0, i, h => rfl
  | m + 1, i, h => by
    unfold fnd
    rw [h i (Nat.le_refl _) (by omega), fnd_congr (m := m) (i := i + 1) (fun j h1 h2 => h j (by omega) (by omega))]
theorem jloop_s {σ ε : Type} {step : σ → Option (σ ⊕ ε)} {n : Nat} {s s' : σ} (h : step s = some (.inl s')) : jloop step (n + 1) s = jloop step n s' := by
  rw [jloop, h]
theorem jloop_x {σ ε : Type} {step : σ → Option (σ ⊕ ε)} {n : Nat} {s : σ} {e : ε} (h : step s = some (.inr e)) : jloop step (n + 1) s = some e := by
  rw [jloop, h]
theorem i10 : ((1 : Int32) = 0) = False := by decide
theorem i00 : ((0 : Int32) = 0) = True := by decide
theorem jite {c : Prop} [Decidable c] : (if c then (1 : Int32) else 0) = 0 ↔ ¬ c := by by_cases h : c <;> simp [h]
