/-! cells that are made: the layout as a list -/
abbrev jc : Type := Nat × Nat × List (Option Nat)
def yC (c : jc) : Nat × Nat × (Nat → Option Nat) := (c.1, c.2.1, fun k => (c.2.2[k]?).getD none)
def yOf (Z : List jc) : jY := fun a => yC ((Z[a]?).getD (99, 0, []))
theorem jLay_eq : jLay = yOf jLayL := rfl
def jLf (Z : List jc) (ad : Nat → Nat) : jL := (Z.length, yOf Z, ad)
/-- ints 63 at the first five places of the cells cs, 0 elsewhere -/
def fl (cs : List Nat) : jM := (fun a k => if a ∈ cs ∧ k < 5 then 63 else 0, fun _ _ => 0)
/-- references stay inside; the filled cells are there -/
def zK (Z : List jc) (cs : List Nat) : Prop := (∀ (a : Nat) (c : jc), Z[a]? = some c → ∀ k r : Nat, (c.2.2[k]?).getD none = some r → r < Z.length) ∧ ∀ c ∈ cs, c < Z.length
theorem fl_1 {Z : List jc} {cs : List Nat} (hz : zK Z cs) {n : Nat} (h : Z.length ≤ n) : (fl cs).1 n = fun _ => 0 := by
  funext k
  show (if n ∈ cs ∧ k < 5 then (63 : Int32) else 0) = 0
  rw [if_neg (fun q => by have := hz.2 n q.1; omega)]
theorem fl_2 {cs : List Nat} {n : Nat} : (fl cs).2 n = fun _ => 0 := rfl
theorem yOf_lt {Z W : List jc} {a : Nat} (h : a < Z.length) : yOf (Z ++ W) a = yOf Z a := by
  unfold yOf
  rw [List.getElem?_append_left h]
theorem yOf_ge {Z W : List jc} {i n : Nat} (h : Z.length = n) : yOf (Z ++ W) (n + i) = yC ((W[i]?).getD (99, 0, [])) := by
  subst h
  unfold yOf
  rw [List.getElem?_append_right (Nat.le_add_right _ _), Nat.add_sub_cancel_left]
theorem zK.ref {Z : List jc} {cs : List Nat} (hz : zK Z cs) {a k r : Nat} (h : (yOf Z a).2.2 k = some r) : r < Z.length := by
  unfold yOf yC at h
  cases e : Z[a]? with
  | none => rw [e] at h; simp at h
  | some c => rw [e] at h; exact hz.1 a c e k r h
theorem jE_congr {G : jG} {L L' : jL} {μ μ' : jM} {a : Nat} (h1 : L'.2.1 a = L.2.1 a) (h2 : ∀ k, ((L.2.1 a).2.2 k).map L'.2.2 = ((L.2.1 a).2.2 k).map L.2.2) (h3 : μ'.1 a = μ.1 a) (h4 : μ'.2 a = μ.2 a) : jE G L' μ' a = jE G L μ a := by
  simp only [jE, jFs, jV, h1, h2, h3, h4]
theorem jW_congr {G : jG} {L L' : jL} {μ μ' : jM} (hn : L'.1 = L.1) (ha : ∀ a, a < L.1 → L'.2.2 a = L.2.2 a) (he : ∀ a, a < L.1 → jE G L' μ' a = jE G L μ a) : jW G L' μ' = jW G L μ := by
  unfold jW
  rw [hn]
  apply List.map_congr_left
  intro a h
  have h := List.mem_range.mp h
  rw [ha a h, he a h]
/-- the world with cells of W more, at the addresses that ad' has for them -/
theorem jW_app {G : jG} {Z W : List jc} {cs : List Nat} (hz : zK Z cs) {ad ad' : Nat → Nat} (hA : ∀ a, a < Z.length → ad' a = ad a) {μ : jM} : jW G (jLf (Z ++ W) ad') μ = jW G (jLf Z ad) μ ++ (List.range W.length).map (fun i => (ad' (Z.length + i), jE G (jLf (Z ++ W) ad') μ (Z.length + i))) := by
  unfold jW
  show (List.range (Z ++ W).length).map _ = _
  rw [List.length_append, List.range_add, List.map_append, List.map_map]
  congr 1
  apply List.map_congr_left
  intro a h
  have h : a < Z.length := List.mem_range.mp h
  have e1 : ad' a = ad a := hA a h
  have e2 : jE G (jLf (Z ++ W) ad') μ a = jE G (jLf Z ad) μ a := jE_congr (yOf_lt h) (fun k => by
    show ((yOf Z a).2.2 k).map ad' = ((yOf Z a).2.2 k).map ad
    cases e : (yOf Z a).2.2 k with
    | none => rfl
    | some r => show some (ad' r) = some (ad r); rw [hA r (hz.ref e)]) rfl rfl
  show (ad' a, jE G (jLf (Z ++ W) ad') μ a) = (ad a, jE G (jLf Z ad) μ a)
  rw [e1, e2]
theorem zK.new {Z0 T : List jc} {cs : List Nat} (hz : zK (Z0 ++ T) cs) {ci len n : Nat} : zK (Z0 ++ (T ++ [(ci, len, List.replicate n none)])) cs := by
  rw [← List.append_assoc]
  have e : ((Z0 ++ T) ++ [((ci, len, List.replicate n none) : jc)]).length = (Z0 ++ T).length + 1 := by rw [List.length_append]; rfl
  refine ⟨fun a c h k r hr => ?_, fun c hc => by rw [e]; exact Nat.lt_succ_of_lt (hz.2 c hc)⟩
  rw [e]
  by_cases ha : a < (Z0 ++ T).length
  · rw [List.getElem?_append_left ha] at h
    exact Nat.lt_succ_of_lt (hz.1 a c h k r hr)
  · rw [List.getElem?_append_right (by omega)] at h
    have h0 : a - (Z0 ++ T).length < 1 := (List.getElem?_eq_some_iff.mp h).1
    rw [show a - (Z0 ++ T).length = 0 by omega] at h
    cases h
    simp only [List.getElem?_replicate] at hr
    split at hr <;> cases hr
theorem zK.set {Z0 T : List jc} {cs : List Nat} (hz : zK (Z0 ++ T) cs) {i k r : Nat} {c : jc} (hc : T[i]? = some c) (hr : r < (Z0 ++ T).length) : zK (Z0 ++ T.set i (c.1, c.2.1, c.2.2.set k (some r))) cs := by
  have hl : (Z0 ++ T.set i (c.1, c.2.1, c.2.2.set k (some r))).length = (Z0 ++ T).length := by simp
  refine ⟨fun a c1 h j x hx => ?_, fun c1 hc1 => by rw [hl]; exact hz.2 c1 hc1⟩
  rw [hl]
  by_cases ha : a < Z0.length
  · rw [List.getElem?_append_left ha] at h
    exact hz.1 a c1 (by rw [List.getElem?_append_left ha]; exact h) j x hx
  · rw [List.getElem?_append_right (by omega), List.getElem?_set] at h
    by_cases hi : i = a - Z0.length
    · rw [if_pos hi] at h
      by_cases hlt : i < T.length
      · rw [if_pos (hi ▸ hlt)] at h
        cases h
        have hx : ((c.2.2.set k (some r))[j]?).getD none = some x := hx
        rw [List.getElem?_set] at hx
        by_cases hj : k = j
        · rw [if_pos hj] at hx
          split at hx
          · cases hx; exact hr
          · cases hx
        · rw [if_neg hj] at hx
          exact hz.1 (Z0.length + i) c (by rw [List.getElem?_append_right (by omega), Nat.add_sub_cancel_left]; exact hc) j x hx
      · rw [if_neg (hi ▸ hlt)] at h
        cases h
    · rw [if_neg hi] at h
      exact hz.1 a c1 (by rw [List.getElem?_append_right (by omega)]; exact h) j x hx
theorem zK.fill {Z : List jc} {cs : List Nat} (hz : zK Z cs) {c : Nat} (h : c < Z.length) : zK Z (cs ++ [c]) := ⟨hz.1, fun x hx => by
  rcases List.mem_append.mp hx with q | q
  · exact hz.2 x q
  · rw [List.mem_singleton.mp q]; exact h⟩
theorem jK_app {Z0 T : List jc} {ad : Nat → Nat} {m i k : Nat} (hm : Z0.length = m) {c : jc} (h : T[i]? = some c) (hk : c.1 = k) : jK (jLf (Z0 ++ T) ad) (m + i) k := by
  have hi : i < T.length := (List.getElem?_eq_some_iff.mp h).1
  refine ⟨by show m + i < (Z0 ++ T).length; rw [List.length_append, hm]; omega, ?_⟩
  show (yOf (Z0 ++ T) (m + i)).1 = k
  rw [yOf_ge hm, h]
  exact hk
theorem jR_app {Z0 T : List jc} {ad : Nat → Nat} {m i k b : Nat} (hm : Z0.length = m) {c : jc} (h : T[i]? = some c) (hk : c.2.2[k]? = some (some b)) : ((jLf (Z0 ++ T) ad).2.1 (m + i)).2.2 k = some b := by
  show (yOf (Z0 ++ T) (m + i)).2.2 k = some b
  rw [yOf_ge hm, h]
  show (c.2.2[k]?).getD none = some b
  rw [hk]
  rfl
theorem jN_app {Z0 T : List jc} {ad : Nat → Nat} {m i n : Nat} (hm : Z0.length = m) {c : jc} (h : T[i]? = some c) (hk : c.2.1 = n) : ((jLf (Z0 ++ T) ad).2.1 (m + i)).2.1 = n := by
  show (yOf (Z0 ++ T) (m + i)).2.1 = n
  rw [yOf_ge hm, h]
  exact hk
