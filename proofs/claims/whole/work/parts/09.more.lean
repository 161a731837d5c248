theorem jlt {i : Int32} {n : Nat} (h : vp_in i n) : i.toNatClampNeg < n := Nat.not_le.mp fun q => h (Or.inr q)
theorem jpe {α β : Type} {p q : α × β} (h : p = q) : q = (p.1, p.2) := h.symm
def jbz {β : Type} (x : Int32) (k : Option β) : Option β := if x = 0 ∨ x = 1 then k else none
theorem jbz_some {β : Type} {x : Int32} {k : Option β} {r : β} (h : jbz x k = some r) : (x = 0 ∨ x = 1) ∧ k = some r := by
  unfold jbz at h
  by_cases c : x = 0 ∨ x = 1
  · rw [if_pos c] at h; exact ⟨c, h⟩
  · rw [if_neg c] at h; cases h
theorem j_nat1 {R : Room} {dp : Nat} (hR : R = jrm dp 0 0) (h : 2 + 1 ≤ dp) : 1 ≤ R.frames := by subst hR; exact Nat.le_trans (by decide) h
theorem j_nat2 {R : Room} {dp : Nat} {st : List Value} (hR : R = jrm dp 0 0) (h : 2 + 1 ≤ dp) (hs : (st.map fun v => v.category).sum ≤ 8) : (st.map fun v => v.category).sum + (nativeFrameWords "java/lang/System" "arraycopy" 5 + 11) ≤ R.locals := by
  subst hR
  have e : nativeFrameWords "java/lang/System" "arraycopy" 5 = 7 := by decide +kernel
  rw [e]
  show _ ≤ 128 * dp
  omega
section JMore
variable {X : jX} {G : jG} {nL : Nat} {L : jL} {kc ks : Nat} {Q : State → Prop} {pc : Nat} {lv : List (Nat × Value)} {st : List Value} {μ : jM} {cc : ByteArray} {own : String} {rt : Option FieldType}
theorem j_putz (hC : jC X G cc nL own rt) {C : String} {T : u_T} {N ci index a : Nat} {v : Int32} (k : Nat) (hin : ∀ w ∈ u_ws C T N, w ∈ tblG) (ty0 : Nat → FieldType) (hty : ∀ k, k < N → parseFieldDescriptor (T k).2.2.1 = some (ty0 k)) (hnm : ∀ a, a < N → ∀ b, b < N → a ≠ b → (T a).2.1 ≠ (T b).2.1) (hc : vwCl[ci]? = some (C, T, N)) (hk : k < N) (hr : (jRefs.getD ci [])[k]? = some false) (hlt : ci < 13)
    (hw : Cond.fieldLink own index (T k).1 (T k).2.1 (T k).2.2.1 ∈ tblG) (hd : decode cc pc = .ok (.putfield index, 3)) (hfin : (T k).2.2.2 = false) (hty1 : parseFieldDescriptor (T k).2.2.1 = some .boolean) (hv : v = 0 ∨ v = 1) (ha : jK L a ci)
    {μ1 : jM} (hμ : μ1 = jsi μ a k v) (kk : jJ X G nL L kc ks Q (pc + 3) lv st μ1) : jJ X G nL L kc ks Q pc lv (.int v :: .ref (L.2.2 a) :: st) μ := fun H locs ls hP hD hS hl => by
  subst hμ
  have hl0 : k < (jFs L μ a).length := (List.getElem?_eq_some_iff.mp (jFs_get (μ := μ) ha.2 hr)).1
  have e : (jW G L μ).set a (L.2.2 a, .inr (ci, (jFs L μ a).set k (.int v))) = jW G L (jsi μ a k v) := jW_set G L μ (jsi μ a k v) (by rw [jE_obj ha.2 hlt, jFs_set ha.2 hr]) (fun c h => jE_ne_i h)
  refine va_put hC.1 hC.2.1 hC.2.2.2.2.1 hin ty0 hty hnm hC.2.2.2.1 hC.2.2.2.2.2.1 hP hD hS a ((jW_get G L μ ha.1).trans (by rw [jE_obj ha.2 hlt])) hc k hk (hC.2.2.2.2.1 _ hw) (fun _ h => h) hfin hty1 (by rcases hv with rfl | rfl <;> rfl) (by rcases hv with rfl | rfl <;> rfl) hl0 hd (fun H1 locs1 hP1 hD1 hS1 => ?_)
  rw [e] at hP1 hD1
  exact kk H1 locs1 ls hP1 hD1 hS1 hl
theorem jpz_10 (hC : jC X G cc nL own rt) {index a : Nat} {v : Int32} (k : Nat) (hk : k < 5) (hr : (jRefs.getD 10 [])[k]? = some false) (hw : Cond.fieldLink own index (TX10 k).1 (TX10 k).2.1 (TX10 k).2.2.1 ∈ tblG) (hd : decode cc pc = .ok (.putfield index, 3)) (hfin : (TX10 k).2.2.2 = false) (hty1 : parseFieldDescriptor (TX10 k).2.2.1 = some .boolean) (hv : v = 0 ∨ v = 1) (ha : jK L a 10) {μ1 : jM} (hμ : μ1 = jsi μ a k v) (kk : jJ X G nL L kc ks Q (pc + 3) lv st μ1) : jJ X G nL L kc ks Q pc lv (.int v :: .ref (L.2.2 a) :: st) μ := j_putz hC (ci := 10) k tin10 tyX10 tyX10_ok nmX10 rfl hk hr (by decide) hw hd hfin hty1 hv ha hμ kk
theorem j_aaldI (hC : jC X G cc nL own rt) {a n b : Nat} {i : Int32} (hd : decode cc pc = .ok (.aaload, 1)) (ha : jK L a 18) (hn : (L.2.1 a).2.1 = n) (hin : vp_in i n) (hb : (L.2.1 a).2.2 i.toNatClampNeg = some b)
    (kk : jJ X G nL L kc ks Q (pc + 1) lv (.ref (L.2.2 b) :: st) μ) : jJ X G nL L kc ks Q pc lv (.int i :: .ref (L.2.2 a) :: st) μ := fun H locs ls hP hD hS hl => by
  have hlt : i.toNatClampNeg < n := jlt hin
  have he : (jW G L μ)[a]? = some (L.2.2 a, .inl (G.2.2.1 18, n, .inr (.inr (.inr (.inr (fun i => ((L.2.1 a).2.2 i).map L.2.2)))))) := (jW_get G L μ ha.1).trans (by rw [jE_ref ha.2 (by decide) hn])
  exact W.aald (v := .ref (L.2.2 b)) (ty := .array .int) hC.1 hC.2.1 (hP a _ he) ((hC.2.2.2.2.2.1.2 5 (G.2.2.1 18, .array .int) rfl).1 n (fun j => va_rf (((L.2.1 a).2.2 j).map L.2.2))) rfl (fun q => by cases q) (by show ¬ (i < 0 ∨ (arrV _ _ _).slots.size ≤ _); rw [arrV_size]; exact hin) (by show (arrV _ _ _).slots[_]? = _; rw [arrV_read _ _ hlt]; show some (va_rf (((L.2.1 a).2.2 i.toNatClampNeg).map L.2.2)) = _; rw [hb]; rfl) rfl rfl hd (kk H locs ls hP hD hS hl)
end JMore
theorem kx_X11_161 : Cond.methodLink RX11 161 Lib.Math.max.name ∈ tblG := tt_mem tt_2 (List.getElem_mem (l := tables_1_2) (n := 145) (by decide +kernel)) rfl
theorem kx_X4_85 : Cond.methodLink RX4 85 Lib.Math.max.name ∈ tblG := tt_mem tt_4 (List.getElem_mem (l := tables_1_4) (n := 70) (by decide +kernel)) rfl
theorem kx_X5_79 : Cond.methodLink RX5 79 Lib.Math.max.name ∈ tblG := tt_mem tt_5 (List.getElem_mem (l := tables_1_5) (n := 19) (by decide +kernel)) rfl
theorem kx_X10_63 : Cond.methodLink RX10 63 Lib.Math.max.name ∈ tblG := tt_mem tt_4 (List.getElem_mem (l := tables_1_4) (n := 199) (by decide +kernel)) rfl
theorem kx_X12_391 : Cond.methodLink RX12 391 Lib.Math.max.name ∈ tblG := tt_mem tt_8 (List.getElem_mem (l := tables_1_8) (n := 76) (by decide +kernel)) rfl
theorem kx_max_s : Cond.static Lib.Math.max.name ∈ tblG := tt_mem tt_2 (List.getElem_mem (l := tables_1_2) (n := 146) (by decide +kernel)) rfl
theorem kx_max_c : Cond.code Lib.Math.max.name Lib.Math.max.code 2 (some .int) ∈ tblG := tt_mem tt_2 (List.getElem_mem (l := tables_1_2) (n := 147) (by decide +kernel)) rfl
theorem kx_X11_156 : Cond.methodLink RX11 156 Lib.Math.min.name ∈ tblG := tt_mem tt_2 (List.getElem_mem (l := tables_1_2) (n := 142) (by decide +kernel)) rfl
theorem kx_X12_186 : Cond.methodLink RX12 186 Lib.Math.min.name ∈ tblG := tt_mem tt_7 (List.getElem_mem (l := tables_1_7) (n := 19) (by decide +kernel)) rfl
theorem kx_min_s : Cond.static Lib.Math.min.name ∈ tblG := tt_mem tt_2 (List.getElem_mem (l := tables_1_2) (n := 143) (by decide +kernel)) rfl
theorem kx_min_c : Cond.code Lib.Math.min.name Lib.Math.min.code 2 (some .int) ∈ tblG := tt_mem tt_2 (List.getElem_mem (l := tables_1_2) (n := 144) (by decide +kernel)) rfl
theorem kx_i : Cond.initialized "java/lang/Math" ∈ tblG := tt_mem tt_1 (List.getElem_mem (l := tables_1_1) (n := 19) (by decide +kernel)) rfl
def jmax (x y : Int32) : Int32 := if x < y then y else x
def jmin (x y : Int32) : Int32 := if y < x then y else x
section JMath
variable {X : jX} {G : jG} {nL : Nat} {L : jL} {kc ks : Nat} {Q : State → Prop} {pc : Nat} {lv : List (Nat × Value)} {st : List Value} {μ : jM} {cc : ByteArray} {own : String} {rt : Option FieldType}
theorem j_mmax (hC : jC X G cc nL own rt) {dp index : Nat} {x y : Int32} (hR : X.2.2.2.1 = jrm dp 0 0) (hw : Cond.methodLink own index Lib.Math.max.name ∈ tblG) (hd : decode cc pc = .ok (.invokestatic index, 3)) (hdp : 2 + 1 ≤ dp) (hs : (st.map fun v => v.category).sum ≤ 8)
    (kk : jJ X G nL L 0 0 Q (pc + 3) lv (.int (jmax x y) :: st) μ) : jJ X G nL L 0 0 Q pc lv (.int y :: .int x :: st) μ := fun H locs ls hP hD hS hl => by
  have h1 : 1 ≤ X.2.2.2.1.frames := by rw [hR]; exact Nat.le_trans (by decide) hdp
  have h2 : (st.map fun v => v.category).sum + 13 ≤ X.2.2.2.1.locals := by rw [hR]; show _ ≤ 128 * dp; omega
  exact va_mmax hC.1 hC.2.1 (hC.2.2.1.trans hl.1.symm) hC.2.2.2.1 (hC.2.2.2.2.1 _ hw) (hC.2.2.2.2.1 _ kx_max_s) (hC.2.2.2.2.1 _ kx_i) (hC.2.2.2.2.1 _ kx_max_c) h1 h2 (Nat.zero_le _) (Nat.zero_le _) hd (kk H locs ls hP hD hS hl)
theorem j_mmin (hC : jC X G cc nL own rt) {dp index : Nat} {x y : Int32} (hR : X.2.2.2.1 = jrm dp 0 0) (hw : Cond.methodLink own index Lib.Math.min.name ∈ tblG) (hd : decode cc pc = .ok (.invokestatic index, 3)) (hdp : 2 + 1 ≤ dp) (hs : (st.map fun v => v.category).sum ≤ 8)
    (kk : jJ X G nL L 0 0 Q (pc + 3) lv (.int (jmin x y) :: st) μ) : jJ X G nL L 0 0 Q pc lv (.int y :: .int x :: st) μ := fun H locs ls hP hD hS hl => by
  have h1 : 1 ≤ X.2.2.2.1.frames := by rw [hR]; exact Nat.le_trans (by decide) hdp
  have h2 : (st.map fun v => v.category).sum + 13 ≤ X.2.2.2.1.locals := by rw [hR]; show _ ≤ 128 * dp; omega
  exact va_mmin hC.1 hC.2.1 (hC.2.2.1.trans hl.1.symm) hC.2.2.2.1 (hC.2.2.2.2.1 _ hw) (hC.2.2.2.2.1 _ kx_min_s) (hC.2.2.2.2.1 _ kx_i) (hC.2.2.2.2.1 _ kx_min_c) h1 h2 (Nat.zero_le _) (Nat.zero_le _) hd (kk H locs ls hP hD hS hl)
end JMath
