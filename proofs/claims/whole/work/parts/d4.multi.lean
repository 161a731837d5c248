theorem zK.mul {Z0 T : List jc} {cs : List Nat} {n : Nat} (hz : zK (Z0 ++ T) cs) (hn : (Z0 ++ T).length = n) : zK (Z0 ++ (T ++ [(18, 5, [some (n + 1), some (n + 2), some (n + 3), some (n + 4), some (n + 5)]), (13, 5, []), (13, 5, []), (13, 5, []), (13, 5, []), (13, 5, [])])) cs := by
  have h1 := ((((((hz.new (ci := 18) (len := 5) (n := 5)).new (ci := 13) (len := 5) (n := 0)).new (ci := 13) (len := 5) (n := 0)).new (ci := 13) (len := 5) (n := 0)).new (ci := 13) (len := 5) (n := 0)).new (ci := 13) (len := 5) (n := 0))
  have e : ∀ r5 : List (Option Nat), T ++ [(18, 5, r5)] ++ [(13, 5, [])] ++ [(13, 5, [])] ++ [(13, 5, [])] ++ [(13, 5, [])] ++ [(13, 5, [])] = T ++ [((18, 5, r5) : jc), (13, 5, []), (13, 5, []), (13, 5, []), (13, 5, []), (13, 5, [])] := fun r5 => by simp
  have h1 : zK (Z0 ++ (T ++ [(18, 5, List.replicate 5 none), (13, 5, []), (13, 5, []), (13, 5, []), (13, 5, []), (13, 5, [])])) cs := by
    rw [← e]; exact h1
  have hL : ∀ r5 : List (Option Nat), (Z0 ++ (T ++ [((18, 5, r5) : jc), (13, 5, []), (13, 5, []), (13, 5, []), (13, 5, []), (13, 5, [])])).length = n + 6 := fun r5 => by
    rw [← List.append_assoc, List.length_append, hn]
    rfl
  refine ⟨fun a c h k r hr => ?_, fun c hc => by rw [hL]; have := h1.2 c hc; rw [hL] at this; exact this⟩
  rw [hL]
  by_cases ha : a = n
  · subst ha
    rw [← List.append_assoc, List.getElem?_append_right (by omega), hn, Nat.sub_self] at h
    cases h
    have hr : (([some (a + 1), some (a + 2), some (a + 3), some (a + 4), some (a + 5)] : List (Option Nat))[k]?).getD none = some r := hr
    rcases (show k = 0 ∨ k = 1 ∨ k = 2 ∨ k = 3 ∨ k = 4 ∨ 5 ≤ k by omega) with rfl | rfl | rfl | rfl | rfl | hk
    · cases hr; omega
    · cases hr; omega
    · cases hr; omega
    · cases hr; omega
    · cases hr; omega
    · rw [List.getElem?_eq_none (by exact hk)] at hr
      cases hr
  · have h2 : (Z0 ++ (T ++ [((18, 5, List.replicate 5 none) : jc), (13, 5, []), (13, 5, []), (13, 5, []), (13, 5, []), (13, 5, [])]))[a]? = some c := by
      rw [← List.append_assoc] at h ⊢
      by_cases hl : a < (Z0 ++ T).length
      · rw [List.getElem?_append_left hl] at h ⊢
        exact h
      · rw [List.getElem?_append_right (by omega)] at h ⊢
        obtain ⟨j, hj⟩ : ∃ j, a - (Z0 ++ T).length = j + 1 := ⟨a - (Z0 ++ T).length - 1, by omega⟩
        rw [hj] at h ⊢
        exact h
    have := h1.1 a c h2 k r hr
    rw [hL] at this
    exact this
section JMul
variable {X : jX} {G : jG} {nL : Nat} {kc ks : Nat} {Q : State → Prop} {pc : Nat} {lv : List (Nat × Value)} {st st0 : List Value} {μ : jM} {cc : ByteArray} {own : String} {rt : Option FieldType} {Z0 T : List jc} {ad : Nat → Nat} {cs : List Nat} {n : Nat}
theorem j_mul (hC : jC X G cc nL own rt) (hz : zK (Z0 ++ T) cs) (hn : (Z0 ++ T).length = n) {index : Nat} (h6 : va_AOA .int X.2.2.2.2.1) (hw : Cond.classLink own index "[[I" ∈ tblG) (hd : decode cc pc = .ok (.multianewarray index 2, 4)) (h1 : ∀ j, μ.1 (n + j) = fun _ => 0) (hcell : kc + 6 ≤ X.2.2.2.1.cells) (hslot : ks + 30 ≤ X.2.2.2.1.slots)
    (kk : ∀ ad' : Nat → Nat, (∀ a, a < n → ad' a = ad a) → zK (Z0 ++ (T ++ [(18, 5, [some (n + 1), some (n + 2), some (n + 3), some (n + 4), some (n + 5)]), (13, 5, []), (13, 5, []), (13, 5, []), (13, 5, []), (13, 5, [])])) cs → jJ X G nL (jLf (Z0 ++ (T ++ [(18, 5, [some (n + 1), some (n + 2), some (n + 3), some (n + 4), some (n + 5)]), (13, 5, []), (13, 5, []), (13, 5, []), (13, 5, []), (13, 5, [])])) ad') (kc + 6) (ks + 30) Q (pc + 4) lv (.ref (ad' n) :: st) μ) : jJ X G nL (jLf (Z0 ++ T) ad) kc ks Q pc lv (.int 5 :: .int 5 :: st) μ := by
  intro H locs ls hP hD hS hl
  have hK := hC.2.2.2.2.2.1
  have hcy : X.2.2.2.2.1.vm.findClass (FieldType.array .int).toString = some (G.2.2.1 13) := (hK.2 0 (G.2.2.1 13, .int) rfl).2
  refine va_mna (X := jW G (jLf (Z0 ++ T) ad) μ) (L := []) (f := fun _ => .inl (G.2.2.1 13, 5, .inl (fun _ => 0))) (cy := G.2.2.1 13) (z := (5, .inl (fun _ => 0))) (ty := .int) (N' := 5) (K' := 5) hC.1 hC.2.1 hC.2.2.2.1 (hC.2.2.2.2.1 _ hw) h6 (hC.2.2.2.2.1 _ ki_i) hcy hK (by show va_P _ _ (_ ++ []) _; rw [List.append_nil]; exact hP) (by show va_D _ (_ ++ []); rw [List.append_nil]; exact hD) hS hC.2.2.2.2.2.2.1 (by decide) (by decide) (by decide) (by decide) (by decide) (by decide) (by decide) rfl rfl hcell hslot (fun c => arrV_new c 5 (defaultValue .int)) hd (fun q r cA H1 hinj hnot hK1 hP1 hD1 hS1 => ?_)
  cases jT_uniq (k := 18) (t := 5) hK rfl hK1
  obtain ⟨ad', had⟩ : ∃ ad' : Nat → Nat, ad' = fun a => if a < n then ad a else if a = n then q else r (a - n - 1) := ⟨_, rfl⟩
  have hA : ∀ a, a < n → ad' a = ad a := fun a h => by rw [had]; exact if_pos h
  have hAq : ad' n = q := by rw [had]; show (if n < n then _ else if n = n then q else _) = q; rw [if_neg (Nat.lt_irrefl n), if_pos rfl]
  have hAr : ∀ j, ad' (n + (1 + j)) = r j := fun j => by
    rw [had]
    show (if n + (1 + j) < n then _ else if n + (1 + j) = n then q else r (n + (1 + j) - n - 1)) = r j
    rw [if_neg (by omega), if_neg (by omega)]
    congr 1
    omega
  have e : (jW G (jLf (Z0 ++ T) ad) μ ++ [(q, .inl (G.2.2.1 18, 5, .inr (.inr (.inr (.inr (fun i => if i < 5 then some (r i) else none))))))]) ++ va_pl ([] ++ (List.range 5).map r) (vr_up (fun _ => .inl (G.2.2.1 13, 5, .inl (fun _ => 0))) ((List.range 5).map r) (.inl (G.2.2.1 13, 5, .inl (fun _ => 0)))) = jW G (jLf (Z0 ++ (T ++ [(18, 5, [some (n + 1), some (n + 2), some (n + 3), some (n + 4), some (n + 5)]), (13, 5, []), (13, 5, []), (13, 5, []), (13, 5, []), (13, 5, [])])) ad') μ := by
    have hy : ∀ (i : Nat) (c : jc), ([(18, 5, [some (n + 1), some (n + 2), some (n + 3), some (n + 4), some (n + 5)]), (13, 5, []), (13, 5, []), (13, 5, []), (13, 5, []), (13, 5, [])] : List jc)[i]? = some c → (jLf ((Z0 ++ T) ++ [(18, 5, [some (n + 1), some (n + 2), some (n + 3), some (n + 4), some (n + 5)]), (13, 5, []), (13, 5, []), (13, 5, []), (13, 5, []), (13, 5, [])]) ad').2.1 (n + i) = yC c := fun i c h => by
      show yOf _ (n + i) = yC c
      rw [yOf_ge hn, h]
      rfl
    have er : ∀ j, ([(18, 5, [some (n + 1), some (n + 2), some (n + 3), some (n + 4), some (n + 5)]), (13, 5, []), (13, 5, []), (13, 5, []), (13, 5, []), (13, 5, [])] : List jc)[1 + j]? = some (13, 5, []) → jE G (jLf ((Z0 ++ T) ++ [(18, 5, [some (n + 1), some (n + 2), some (n + 3), some (n + 4), some (n + 5)]), (13, 5, []), (13, 5, []), (13, 5, []), (13, 5, []), (13, 5, [])]) ad') μ (n + (1 + j)) = .inl (G.2.2.1 13, 5, .inl (fun _ => 0)) := fun j h => by
      have h9 := hy (1 + j) _ h
      rw [jE_int (n := 5) (by rw [h9]; rfl) (by rw [h9]; rfl), h1]
    have eo : jE G (jLf ((Z0 ++ T) ++ [(18, 5, [some (n + 1), some (n + 2), some (n + 3), some (n + 4), some (n + 5)]), (13, 5, []), (13, 5, []), (13, 5, []), (13, 5, []), (13, 5, [])]) ad') μ n = .inl (G.2.2.1 18, 5, .inr (.inr (.inr (.inr (fun i => if i < 5 then some (r i) else none))))) := by
      have h9 : (jLf ((Z0 ++ T) ++ [(18, 5, [some (n + 1), some (n + 2), some (n + 3), some (n + 4), some (n + 5)]), (13, 5, []), (13, 5, []), (13, 5, []), (13, 5, []), (13, 5, [])]) ad').2.1 n = yC (18, 5, [some (n + 1), some (n + 2), some (n + 3), some (n + 4), some (n + 5)]) := hy 0 _ rfl
      rw [jE_ref (k := 18) (n := 5) (by rw [h9]; rfl) (by decide) (by rw [h9]; rfl), h9]
      congr 7
      funext i
      show ((([some (n + 1), some (n + 2), some (n + 3), some (n + 4), some (n + 5)] : List (Option Nat))[i]?).getD none).map ad' = _
      rcases (show i = 0 ∨ i = 1 ∨ i = 2 ∨ i = 3 ∨ i = 4 ∨ 5 ≤ i by omega) with rfl | rfl | rfl | rfl | rfl | hk
      · exact congrArg some (hAr 0)
      · exact congrArg some (hAr 1)
      · exact congrArg some (hAr 2)
      · exact congrArg some (hAr 3)
      · exact congrArg some (hAr 4)
      · rw [List.getElem?_eq_none (by exact hk), if_neg (by omega)]
        rfl
    subst hn
    rw [← List.append_assoc, jW_app hz (ad := ad) (ad' := ad') hA, List.append_assoc]
    congr 1
    have ev : ∀ j, j < 5 → vr_up (fun _ => (.inl (G.2.2.1 13, 5, .inl (fun _ => 0)) : va_E)) ((List.range 5).map r) (.inl (G.2.2.1 13, 5, .inl (fun _ => 0))) (r j) = .inl (G.2.2.1 13, 5, .inl (fun _ => 0)) := fun j _ => by unfold vr_up; split <;> rfl
    show (q, _) :: (r 0, _) :: (r 1, _) :: (r 2, _) :: (r 3, _) :: (r 4, _) :: [] = (ad' ((Z0 ++ T).length + 0), _) :: (ad' ((Z0 ++ T).length + 1), _) :: (ad' ((Z0 ++ T).length + 2), _) :: (ad' ((Z0 ++ T).length + 3), _) :: (ad' ((Z0 ++ T).length + 4), _) :: (ad' ((Z0 ++ T).length + 5), _) :: []
    rw [ev 0 (by decide), ev 1 (by decide), ev 2 (by decide), ev 3 (by decide), ev 4 (by decide)]
    rw [show (Z0 ++ T).length + 0 = (Z0 ++ T).length from rfl, hAq, eo]
    rw [show (Z0 ++ T).length + 1 = (Z0 ++ T).length + (1 + 0) from rfl, hAr 0, er 0 rfl]
    rw [show (Z0 ++ T).length + 2 = (Z0 ++ T).length + (1 + 1) from rfl, hAr 1, er 1 rfl]
    rw [show (Z0 ++ T).length + 3 = (Z0 ++ T).length + (1 + 2) from rfl, hAr 2, er 2 rfl]
    rw [show (Z0 ++ T).length + 4 = (Z0 ++ T).length + (1 + 3) from rfl, hAr 3, er 3 rfl]
    rw [show (Z0 ++ T).length + 5 = (Z0 ++ T).length + (1 + 4) from rfl, hAr 4, er 4 rfl]
  rw [e] at hP1 hD1
  have h := kk ad' hA (hz.mul hn) H1 locs ls hP1 hD1 hS1 hl
  rw [hAq] at h
  exact h
end JMul
