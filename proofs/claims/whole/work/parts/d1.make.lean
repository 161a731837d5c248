theorem va_AOA.moved {ty : FieldType} {u U : State} (hvm : u.vm.Alike U.vm) (h : va_AOA ty u) : va_AOA ty U := by
  obtain ⟨comp, c, k, h1, h2, h3, h4, h5⟩ := arrayOverA_spec (o := none) (idx := []) h
  obtain ⟨k', hk', he⟩ := hvm.2.2 _ _ h3
  have hb : U.vm.bare = u.vm.bare := by first | exact hvm.bare_eq | exact hvm.bare_eq.symm
  have e1 := va_idx_bare U.vm comp
  have e2 := va_idx_bare u.vm comp
  rw [hb] at e1
  have hi := e1.symm.trans (e2.trans h2)
  have hkind : k'.kind = .array comp (.array ty) := by rw [he]; exact h4
  have f1 : U.vm.findClass (FieldType.array ty).toString = some comp := by rw [hvm.findClass]; exact h1
  have f2 : U.vm.findClass ("[" ++ (FieldType.array ty).toString) = some c := by rw [hvm.findClass]; exact h5
  unfold va_AOA Cond.before Cond.holds
  simp only [Cond.value]
  rw [f1, Option.bind_some]
  refine (congrArg (fun o : Option Nat => (o.bind (fun c => (U.vm.classes[c]?).map fun (k : Class) => match k.kind with | .array _ ty' => decide (ty' = FieldType.array ty) && decide (U.vm.findClass ("[" ++ (FieldType.array ty).toString) = some c) | _ => false) == some true)) hi).trans ?_
  simp [hk', hkind, f2]
def jT6 (U : State) : Prop := va_AO RX1 U ∧ va_AO RX9 U ∧ va_AOA .int U
theorem jT6.moved {u U : State} (hvm : u.vm.Alike U.vm) (h : jT6 u) : jT6 U := ⟨va_AO.moved hvm h.1, va_AO.moved hvm h.2.1, va_AOA.moved hvm h.2.2⟩
theorem va_RA_uniq {U : State} {a b : ClassId} {ty : FieldType} (ha : va_RA U a ty) (hb : va_RA U b ty) : a = b := by
  cases ty with
  | object C =>
    obtain ⟨k1, c1, -, -, -, h1⟩ := ha
    obtain ⟨k2, c2, -, -, -, h2⟩ := hb
    exact Option.some.inj (h1.symm.trans h2)
  | _ => exact Option.some.inj (ha.symm.trans hb)
theorem jT_uniq {G : jG} {s : State} (hK : va_K G.2.1 vwCl (jT G) s) {cA : ClassId} {ty : FieldType} {k t : Nat} (ht : (jT G)[t]? = some (G.2.2.1 k, ty)) (h2 : va_K G.2.1 vwCl (jT G ++ [(cA, ty)]) s) : cA = G.2.2.1 k :=
  va_RA_uniq (h2.2 (jT G).length (cA, ty) (by rw [List.getElem?_append_right (Nat.le_refl _), Nat.sub_self]; rfl)).2 (hK.2 t _ ht).2
def fs0 (ci : Nat) : List Value := (jRefs.getD ci []).map (fun r => if r then Value.null else .int 0)
theorem yOf_last {Z : List jc} {c : jc} {n : Nat} (hn : Z.length = n) : yOf (Z ++ [c]) n = yC c := by
  have h := yOf_ge (W := [c]) (i := 0) hn
  exact h
theorem jE_newC {G : jG} {Z : List jc} {ci len nr n : Nat} {ad : Nat → Nat} {μ : jM} (hn : Z.length = n) (hci : ci < 13) (h1 : μ.1 n = fun _ => 0) : jE G (jLf (Z ++ [(ci, len, List.replicate nr none)]) ad) μ n = .inr (ci, fs0 ci) := by
  have hy : (jLf (Z ++ [(ci, len, List.replicate nr none)]) ad).2.1 n = yC (ci, len, List.replicate nr none) := yOf_last hn
  rw [jE_obj (show ((jLf (Z ++ [(ci, len, List.replicate nr none)]) ad).2.1 n).1 = ci by rw [hy]; rfl) hci]
  congr 2
  unfold jFs fs0
  rw [hy]
  apply List.ext_getElem?
  intro i
  rw [List.getElem?_mapIdx, List.getElem?_map]
  show Option.map _ (jRefs.getD ci [])[i]? = _
  cases (jRefs.getD ci [])[i]? with
  | none => rfl
  | some r =>
    cases r with
    | false => show some (Value.int (μ.1 n i)) = some (Value.int 0); rw [h1]
    | true =>
      show some (va_rf ((((jLf (Z ++ [(ci, len, List.replicate nr none)]) ad).2.1 n).2.2 i).map ad)) = some Value.null
      rw [hy]
      show some (va_rf ((((List.replicate nr (none : Option Nat))[i]?).getD none).map ad)) = some Value.null
      rw [List.getElem?_replicate]
      split <;> rfl
theorem jW_one {G : jG} {Z0 T : List jc} {c : jc} {cs : List Nat} (hz : zK (Z0 ++ T) cs) {n q : Nat} (hn : (Z0 ++ T).length = n) {ad : Nat → Nat} {μ : jM} {e : va_E} (he : jE G (jLf ((Z0 ++ T) ++ [c]) (va_up ad n q)) μ n = e) : jW G (jLf (Z0 ++ T) ad) μ ++ [(q, e)] = jW G (jLf (Z0 ++ (T ++ [c])) (va_up ad n q)) μ := by
  subst hn
  rw [← List.append_assoc, jW_app (W := [c]) hz (ad := ad) (fun a h => va_up_ne _ _ (Nat.ne_of_lt h))]
  congr 1
  show [(q, e)] = [(va_up ad (Z0 ++ T).length q ((Z0 ++ T).length + 0), jE G (jLf ((Z0 ++ T) ++ [c]) (va_up ad (Z0 ++ T).length q)) μ ((Z0 ++ T).length + 0))]
  rw [Nat.add_zero, va_up_self, he]
section JMake
variable {X : jX} {G : jG} {nL : Nat} {kc ks : Nat} {Q : State → Prop} {pc : Nat} {lv : List (Nat × Value)} {st st0 : List Value} {μ : jM} {cc : ByteArray} {own : String} {rt : Option FieldType} {Z0 T : List jc} {ad : Nat → Nat} {cs : List Nat} {n : Nat}
theorem j_newC (hC : jC X G cc nL own rt) (hz : zK (Z0 ++ T) cs) (hn : (Z0 ++ T).length = n) {C : String} {TT : u_T} {N ci index : Nat} (nr : Nat) (hin : ∀ w ∈ u_ws C TT N, w ∈ tblG) (ty : Nat → FieldType) (hty : ∀ k, k < N → parseFieldDescriptor (TT k).2.2.1 = some (ty k)) (hc : vwCl[ci]? = some (C, TT, N)) (hlt : ci < 13) (hdf : ∀ j, j < N → defaultValue (ty j) = vp_V (fs0 ci) j)
    (hi : Cond.instantiable C N ∈ tblG) (hini : Cond.initialized C ∈ tblG) (hw : Cond.classLink own index C ∈ tblG) (hd : decode cc pc = .ok (.new index, 3)) (h1 : μ.1 n = fun _ => 0) (hcell : kc + 1 ≤ X.2.2.2.1.cells) (hslot : ks + N ≤ X.2.2.2.1.slots)
    (kk : ∀ ad' : Nat → Nat, (∀ a, a < n → ad' a = ad a) → zK (Z0 ++ (T ++ [(ci, 0, List.replicate nr none)])) cs → jJ X G nL (jLf (Z0 ++ (T ++ [(ci, 0, List.replicate nr none)])) ad') (kc + 1) (ks + N) Q (pc + 3) lv (.ref (ad' n) :: st) μ) : jJ X G nL (jLf (Z0 ++ T) ad) kc ks Q pc lv st μ := by
  intro H locs ls hP hD hS hl
  refine va_new (fs := fs0 ci) hC.1 hC.2.1 hC.2.2.2.2.1 hin ty hty hC.2.2.2.1 (hC.2.2.2.2.1 _ hw) (hC.2.2.2.2.1 _ hi) (hC.2.2.2.2.1 _ hini) hC.2.2.2.2.2.1 hP hD hS hC.2.2.2.2.2.2.1 hc hdf hcell hslot hd (fun q H1 hP1 hD1 hS1 => ?_)
  have e := jW_one (G := G) (c := (ci, 0, List.replicate nr none)) (q := q) hz hn (ad := ad) (μ := μ) (jE_newC hn hlt h1)
  rw [e] at hP1 hD1
  have h := kk (va_up ad n q) (fun a h => va_up_ne _ _ (Nat.ne_of_lt h)) hz.new H1 locs ls hP1 hD1 hS1 hl
  rw [va_up_self] at h
  exact h
theorem j_newA (hC : jC X G cc nL own rt) (hz : zK (Z0 ++ T) cs) (hn : (Z0 ++ T).length = n) {atype : ArrayType} {ty : FieldType} {k N' : Nat} (t : Nat) {a0 : vp_A} {nn : Int32} (harr : Cond.arrayClass (newarray.typeOf atype) ∈ tblG) (hty : newarray.typeOf atype = ty) (ht : (jT G)[t]? = some (G.2.2.1 k, ty)) (ha : ∀ cA : ClassId, vp_cell cA a0 = arrV cA N' (fun _ => defaultValue ty)) (he : ∀ ad' : Nat → Nat, jE G (jLf ((Z0 ++ T) ++ [(k, N', [])]) ad') μ n = .inl (G.2.2.1 k, a0))
    (hd : decode cc pc = .ok (.newarray atype, 2)) (h0 : ¬ nn < 0) (hN : nn.toNatClampNeg = N') (hbytes : N' * componentBytes ty ≤ 536870912) (hcell : kc + 1 ≤ X.2.2.2.1.cells) (hslot : ks + N' ≤ X.2.2.2.1.slots)
    (kk : ∀ ad' : Nat → Nat, (∀ a, a < n → ad' a = ad a) → zK (Z0 ++ (T ++ [(k, N', [])])) cs → jJ X G nL (jLf (Z0 ++ (T ++ [(k, N', [])])) ad') (kc + 1) (ks + N') Q (pc + 2) lv (.ref (ad' n) :: st) μ) : jJ X G nL (jLf (Z0 ++ T) ad) kc ks Q pc lv (.int nn :: st) μ := by
  intro H locs ls hP hD hS hl
  refine va_newa hC.1 hC.2.1 (hC.2.2.2.2.1 _ harr) hty hC.2.2.2.2.2.1 hP hD hS hC.2.2.2.2.2.2.1 ha h0 hN hbytes hcell hslot hd (fun q cA H1 hK1 hP1 hD1 hS1 => ?_)
  cases jT_uniq hC.2.2.2.2.2.1 ht hK1
  have e := jW_one (G := G) (c := (k, N', [])) (q := q) hz hn (ad := ad) (μ := μ) (he _)
  rw [e] at hP1 hD1
  have h := kk (va_up ad n q) (fun a h => va_up_ne _ _ (Nat.ne_of_lt h)) (hz.new (n := 0)) H1 locs ls hP1 hD1 hS1 hl
  rw [va_up_self] at h
  exact h
theorem jE_newI (hn : (Z0 ++ T).length = n) (h1 : μ.1 n = fun _ => 0) {N' : Nat} (ad' : Nat → Nat) : jE G (jLf ((Z0 ++ T) ++ [(13, N', [])]) ad') μ n = .inl (G.2.2.1 13, N', .inl (fun _ => 0)) := by
  have hy : (jLf ((Z0 ++ T) ++ [(13, N', [])]) ad').2.1 n = yC (13, N', []) := yOf_last hn
  rw [jE_int (n := N') (by rw [hy]; rfl) (by rw [hy]; rfl), h1]
theorem jE_newZ (hn : (Z0 ++ T).length = n) (h1 : μ.1 n = fun _ => 0) {N' : Nat} (ad' : Nat → Nat) : jE G (jLf ((Z0 ++ T) ++ [(15, N', [])]) ad') μ n = .inl (G.2.2.1 15, N', .inl (fun _ => 0)) := by
  have hy : (jLf ((Z0 ++ T) ++ [(15, N', [])]) ad').2.1 n = yC (15, N', []) := yOf_last hn
  rw [jE_bool (n := N') (by rw [hy]; rfl) (by rw [hy]; rfl), h1]
theorem jE_newL (hn : (Z0 ++ T).length = n) (h1 : μ.2 n = fun _ => 0) {N' : Nat} (ad' : Nat → Nat) : jE G (jLf ((Z0 ++ T) ++ [(14, N', [])]) ad') μ n = .inl (G.2.2.1 14, N', .inr (.inl (fun _ => 0))) := by
  have hy : (jLf ((Z0 ++ T) ++ [(14, N', [])]) ad').2.1 n = yC (14, N', []) := yOf_last hn
  rw [jE_long (n := N') (by rw [hy]; rfl) (by rw [hy]; rfl), h1]
theorem ki_i : Cond.arrayClass .int ∈ tblG := tb_mem (by decide +kernel)
theorem ki_l : Cond.arrayClass .long ∈ tblG := tb_mem (by decide +kernel)
theorem ki_z : Cond.arrayClass .boolean ∈ tblG := tb_mem (by decide +kernel)
theorem j_newI (hC : jC X G cc nL own rt) (hz : zK (Z0 ++ T) cs) (hn : (Z0 ++ T).length = n) {N' : Nat} {nn : Int32} (hd : decode cc pc = .ok (.newarray .int, 2)) (h1 : μ.1 n = fun _ => 0) (h0 : ¬ nn < 0) (hN : nn.toNatClampNeg = N') (hbytes : N' * 4 ≤ 536870912) (hcell : kc + 1 ≤ X.2.2.2.1.cells) (hslot : ks + N' ≤ X.2.2.2.1.slots)
    (kk : ∀ ad' : Nat → Nat, (∀ a, a < n → ad' a = ad a) → zK (Z0 ++ (T ++ [(13, N', [])])) cs → jJ X G nL (jLf (Z0 ++ (T ++ [(13, N', [])])) ad') (kc + 1) (ks + N') Q (pc + 2) lv (.ref (ad' n) :: st) μ) : jJ X G nL (jLf (Z0 ++ T) ad) kc ks Q pc lv (.int nn :: st) μ :=
  j_newA hC hz hn (atype := .int) (ty := .int) (k := 13) 0 (a0 := (N', .inl (fun _ => 0))) ki_i rfl rfl (fun _ => rfl) (fun ad' => jE_newI hn h1 ad') hd h0 hN hbytes hcell hslot kk
theorem j_newZ (hC : jC X G cc nL own rt) (hz : zK (Z0 ++ T) cs) (hn : (Z0 ++ T).length = n) {N' : Nat} {nn : Int32} (hd : decode cc pc = .ok (.newarray .boolean, 2)) (h1 : μ.1 n = fun _ => 0) (h0 : ¬ nn < 0) (hN : nn.toNatClampNeg = N') (hbytes : N' * 1 ≤ 536870912) (hcell : kc + 1 ≤ X.2.2.2.1.cells) (hslot : ks + N' ≤ X.2.2.2.1.slots)
    (kk : ∀ ad' : Nat → Nat, (∀ a, a < n → ad' a = ad a) → zK (Z0 ++ (T ++ [(15, N', [])])) cs → jJ X G nL (jLf (Z0 ++ (T ++ [(15, N', [])])) ad') (kc + 1) (ks + N') Q (pc + 2) lv (.ref (ad' n) :: st) μ) : jJ X G nL (jLf (Z0 ++ T) ad) kc ks Q pc lv (.int nn :: st) μ :=
  j_newA hC hz hn (atype := .boolean) (ty := .boolean) (k := 15) 2 (a0 := (N', .inl (fun _ => 0))) ki_z rfl rfl (fun _ => rfl) (fun ad' => jE_newZ hn h1 ad') hd h0 hN hbytes hcell hslot kk
theorem j_newL (hC : jC X G cc nL own rt) (hz : zK (Z0 ++ T) cs) (hn : (Z0 ++ T).length = n) {N' : Nat} {nn : Int32} (hd : decode cc pc = .ok (.newarray .long, 2)) (h1 : μ.2 n = fun _ => 0) (h0 : ¬ nn < 0) (hN : nn.toNatClampNeg = N') (hbytes : N' * 8 ≤ 536870912) (hcell : kc + 1 ≤ X.2.2.2.1.cells) (hslot : ks + N' ≤ X.2.2.2.1.slots)
    (kk : ∀ ad' : Nat → Nat, (∀ a, a < n → ad' a = ad a) → zK (Z0 ++ (T ++ [(14, N', [])])) cs → jJ X G nL (jLf (Z0 ++ (T ++ [(14, N', [])])) ad') (kc + 1) (ks + N') Q (pc + 2) lv (.ref (ad' n) :: st) μ) : jJ X G nL (jLf (Z0 ++ T) ad) kc ks Q pc lv (.int nn :: st) μ :=
  j_newA hC hz hn (atype := .long) (ty := .long) (k := 14) 1 (a0 := (N', .inr (.inl (fun _ => 0)))) ki_l rfl rfl (fun _ => rfl) (fun ad' => jE_newL hn h1 ad') hd h0 hN hbytes hcell hslot kk
theorem jE_newQ (hn : (Z0 ++ T).length = n) {k N' : Nat} (hk : 16 ≤ k) (ad' : Nat → Nat) : jE G (jLf ((Z0 ++ T) ++ [(k, N', List.replicate N' none)]) ad') μ n = .inl (G.2.2.1 k, N', .inr (.inr (.inr (.inr (fun _ => none))))) := by
  have hy : (jLf ((Z0 ++ T) ++ [(k, N', List.replicate N' none)]) ad').2.1 n = yC (k, N', List.replicate N' none) := yOf_last hn
  rw [jE_ref (n := N') (k := k) (by rw [hy]; rfl) hk (by rw [hy]; rfl), hy]
  have e : (fun i => ((yC (k, N', List.replicate N' none)).2.2 i).map (jLf ((Z0 ++ T) ++ [(k, N', List.replicate N' none)]) ad').2.2) = fun _ => none := by
    funext i
    show Option.map _ (((List.replicate N' (none : Option Nat))[i]?).getD none) = none
    rw [List.getElem?_replicate]
    split <;> rfl
  rw [e]
theorem j_newQ (hC : jC X G cc nL own rt) (hz : zK (Z0 ++ T) cs) (hn : (Z0 ++ T).length = n) {C : String} {index k N' : Nat} (t : Nat) {nn : Int32} (hk : 16 ≤ k) (hAO : va_AO C X.2.2.2.2.1) (ht : (jT G)[t]? = some (G.2.2.1 k, .object C)) (hw : Cond.classLink own index C ∈ tblG) (hd : decode cc pc = .ok (.anewarray index, 3)) (h0 : ¬ nn < 0) (hN : nn.toNatClampNeg = N') (hbytes : N' * 4 ≤ 536870912) (hcell : kc + 1 ≤ X.2.2.2.1.cells) (hslot : ks + N' ≤ X.2.2.2.1.slots)
    (kk : ∀ ad' : Nat → Nat, (∀ a, a < n → ad' a = ad a) → zK (Z0 ++ (T ++ [(k, N', List.replicate N' none)])) cs → jJ X G nL (jLf (Z0 ++ (T ++ [(k, N', List.replicate N' none)])) ad') (kc + 1) (ks + N') Q (pc + 3) lv (.ref (ad' n) :: st) μ) : jJ X G nL (jLf (Z0 ++ T) ad) kc ks Q pc lv (.int nn :: st) μ := by
  intro H locs ls hP hD hS hl
  refine va_newq hC.1 hC.2.1 hC.2.2.2.1 (hC.2.2.2.2.1 _ hw) hAO hC.2.2.2.2.2.1 hP hD hS hC.2.2.2.2.2.2.1 h0 hN hbytes hcell hslot hd (fun q cA H1 hK1 hP1 hD1 hS1 => ?_)
  cases jT_uniq hC.2.2.2.2.2.1 ht hK1
  have e := jW_one (G := G) (c := (k, N', List.replicate N' none)) (q := q) hz hn (ad := ad) (μ := μ) (jE_newQ hn hk _)
  rw [e] at hP1 hD1
  have h := kk (va_up ad n q) (fun a h => va_up_ne _ _ (Nat.ne_of_lt h)) hz.new H1 locs ls hP1 hD1 hS1 hl
  rw [va_up_self] at h
  exact h
end JMake
