/-- what the tables say of a method, called on its object / statically -/
def jMv (y : MethodName) (cc : ByteArray) (nL : Nat) (rt : Option FieldType) (n : Nat) : Prop := Cond.code y cc nL rt ∈ tblG ∧ Cond.initialized y.cls ∈ tblG ∧ (y.cls ≠ "java/lang/invoke/MethodHandle" ∧ y.cls ≠ "java/lang/invoke/VarHandle" ∧ (parseMethodDescriptor y.desc).map (fun d => d.parameters.length) = some n) ∧ Cond.instanceMethod y ∈ tblG ∧ Cond.selects y.cls y y ∈ tblG
def jMs (y : MethodName) (cc : ByteArray) (nL : Nat) (rt : Option FieldType) (n : Nat) : Prop := Cond.code y cc nL rt ∈ tblG ∧ Cond.initialized y.cls ∈ tblG ∧ (y.cls ≠ "java/lang/invoke/MethodHandle" ∧ y.cls ≠ "java/lang/invoke/VarHandle" ∧ (parseMethodDescriptor y.desc).map (fun d => d.parameters.length) = some n) ∧ Cond.static y ∈ tblG
theorem jws_good {y : MethodName} {cc : ByteArray} {nL : Nat} {rt : Option FieldType} (h : Cond.code y cc nL rt ∈ tblG) : GoodIn tblG (.code y cc nL rt :: tblG) := tg_in (fun w hw => (List.mem_cons.mp hw).elim (fun e => by rw [e]; exact h) id)
theorem jPc_blind {G : jG} {L : jL} {μ : jM} {av : List Value} : FrameBlind (va_Pc av (jWd G L μ)) := fun a U g mk h => ⟨h.1, h.2.1, h.2.2.1, va_K.moved (u := U) (U := U.calling g mk a) (Vm.Alike.refl U.vm) h.2.2.2.1, h.2.2.2.2.1, jS.same (u := U) (U := U.calling g mk a) rfl rfl h.2.2.2.2.2⟩
section JCalls
variable {X : jX} {G : jG} {nL : Nat} {L : jL} {kc ks : Nat} {Q : State → Prop} {pc : Nat} {lv : List (Nat × Value)} {st st0 : List Value} {μ μ2 : jM} {cc : ByteArray} {own : String} {rt : Option FieldType}
theorem j_run {r : Option Value} {a : Array Value}
    (hr : ∀ (H : Heap) (locs : List Loc) (ls : Array Slot), va_P G.2.1 vwCl (jW G L μ) H → va_D (jA G) (jW G L μ) → va_S (jA G) X.2.2.2.2.1.heap H locs → lv_has ls nL lv → va_Run X.1 X.2.1 X.2.2.1 X.2.2.2.1 X.2.2.2.2.1 X.2.2.2.2.2.1 X.2.2.2.2.2.2.1 X.2.2.2.2.2.2.2.1 X.2.2.2.2.2.2.2.2.1 X.2.2.2.2.2.2.2.2.2 H locs kc ks 0 0 (F0 X.2.2.2.2.2.1 pc ls st0) st (jQ G L r μ2 a) (jA G))
    (kk : jJ X G nL L kc ks Q (pc + 3) lv (r.toList ++ st) μ2) : jJ X G nL L kc ks Q pc lv st0 μ := by
  intro H locs ls hP hD hS hl T hT Xs
  obtain ⟨v, s0, t, T', L', h0, X', hL, e1, e2, ⟨hv, hw, hF⟩, stp⟩ := hr H locs ls hP hD hS hl T hT Xs
  cases hv
  have hz : H.size ≤ t.heap.size := by rw [← h0]; exact hF.1
  have hk : ∀ q : Nat, q < H.size → ¬ jA G q → t.heap[q]? = H[q]? := by rw [← h0]; exact hF.2
  have hS' : va_S (jA G) X.2.2.2.2.1.heap T'.heap (locs ++ L') := ⟨Nat.le_trans hS.1 (by rw [e1]; exact hz), fun q h1 h2 => by rw [e1, hk q (Nat.lt_of_lt_of_le h1 hS.1) h2]; exact hS.2.1 q h1 h2, fun q hq => by
    rcases List.mem_append.mp hq with h | h
    · exact hS.2.2 q h
    · exact hL q h⟩
  obtain ⟨t2, a1, b1⟩ := kk T'.heap (locs ++ L') ls (by rw [e1]; exact hw.1) hw.2.1 hS' hl T' rfl X'
  exact ⟨t2, stp t2 a1, b1⟩
theorem j_pre (hC : jC X G cc nL own rt) {av : List Value} {H : Heap} {locs : List Loc} (hP : va_P G.2.1 vwCl (jW G L μ) H) (hD : va_D (jA G) (jW G L μ)) (hS : va_S (jA G) X.2.2.2.2.1.heap H locs) : ∀ U : State, U.heap = H → X.2.2.2.2.1.WarmedH U.vm → va_Pc av (jWd G L μ) av.toArray U := fun U hU hW =>
  ⟨rfl, jWd_end hP hD hS hC.2.2.2.2.2.1 hC.2.2.2.2.2.2.1 hC.2.2.2.2.2.2.2.2.2 hU hW⟩
theorem j_callV (hC : jC X G cc nL own rt) {y : MethodName} {bytes : ByteArray} {maxL n index ci a dep : Nat} {ret2 : Option FieldType} {q : vw_C} {r : Option Value} (As : List Value) (hM : jCt X.2.1 G L dep y bytes maxL ret2 (.ref (L.2.2 a) :: As) μ r μ2) (hy : jMv y bytes maxL ret2 n) (hq : vwCl[ci]? = some q) (hcl : q.1 = y.cls) (hlt : ci < 13) (ha : jK L a ci)
    (hw : Cond.methodLink own index y ∈ tblG) (hd : decode cc pc = .ok (.invokevirtual index, 3)) (hn : As.length = n) (hrm : (st.map fun v => v.category).sum ≤ 8) (hR : dep + 1 ≤ X.2.2.2.1.frames ∧ 8 + (maxL + 11) + 128 * dep ≤ X.2.2.2.1.locals) (hR2 : kc ≤ X.2.2.2.1.cells ∧ ks ≤ X.2.2.2.1.slots) (hst : st0 = As.reverse ++ .ref (L.2.2 a) :: st)
    (kk : jJ X G nL L kc ks Q (pc + 3) lv (r.toList ++ st) μ2) : jJ X G nL L kc ks Q pc lv st0 μ := by
  refine j_run (a := (Value.ref (L.2.2 a) :: As).toArray) (fun H locs ls hP hD hS hl => ?_) kk
  exact va_runV (C := y.cls) (Ts := tblG) (rest := st) (As := As) ⟨hC.1, hC.2.1, hC.2.2.1, hC.2.2.2.1, hC.2.2.2.2.1⟩ hM ⟨callB_of n hC.2.2.2.2.1 (jws_good hy.1) rfl rfl rfl (hC.2.2.2.2.1 _ hy.2.1) (hC.2.2.2.2.1 _ hw) hy.2.2.1 hR, hC.2.2.2.2.1 _ hy.2.2.2.1, hC.2.2.2.2.1 _ hy.2.2.2.2⟩ ⟨jPc_blind, by
    have h := va_recv hC.2.2.2.2.2.1 hP hq ((jW_get G L μ ha.1).trans (by rw [jE_obj ha.2 hlt]))
    rw [hcl] at h
    exact h, j_pre hC hP hD hS⟩ rfl hn hl.1 hst (lv_room hrm) hd hR2
theorem j_callS (hC : jC X G cc nL own rt) {y : MethodName} {bytes : ByteArray} {maxL n index dep : Nat} {ret2 : Option FieldType} {r : Option Value} (As : List Value) (hM : jCt X.2.1 G L dep y bytes maxL ret2 As μ r μ2) (hy : jMs y bytes maxL ret2 n)
    (hw : Cond.methodLink own index y ∈ tblG) (hd : decode cc pc = .ok (.invokestatic index, 3)) (hn : As.length = n) (hrm : (st.map fun v => v.category).sum ≤ 8) (hR : dep + 1 ≤ X.2.2.2.1.frames ∧ 8 + (maxL + 11) + 128 * dep ≤ X.2.2.2.1.locals) (hR2 : kc ≤ X.2.2.2.1.cells ∧ ks ≤ X.2.2.2.1.slots) (hst : st0 = As.reverse ++ st)
    (kk : jJ X G nL L kc ks Q (pc + 3) lv (r.toList ++ st) μ2) : jJ X G nL L kc ks Q pc lv st0 μ := by
  refine j_run (a := As.toArray) (fun H locs ls hP hD hS hl => ?_) kk
  exact va_runS (Ts := tblG) (rest := st) (As := As) ⟨hC.1, hC.2.1, hC.2.2.1, hC.2.2.2.1, hC.2.2.2.2.1⟩ hM ⟨callB_of n hC.2.2.2.2.1 (jws_good hy.1) rfl rfl rfl (hC.2.2.2.2.1 _ hy.2.1) (hC.2.2.2.2.1 _ hw) hy.2.2.1 hR, hC.2.2.2.2.1 _ hy.2.2.2⟩ ⟨jPc_blind, j_pre hC hP hD hS⟩ rfl hn hl.1 hst (lv_room hrm) hd hR2
theorem j_callSN (hC : jC X G cc nL own rt) {y : MethodName} {bytes : ByteArray} {maxL n index dep : Nat} {host : String} {ret2 : Option FieldType} {r : Option Value} (As : List Value) (hM : jCt X.2.1 G L dep y bytes maxL ret2 As μ r μ2) (hy : jMs y bytes maxL ret2 n)
    (hw : (own, index, y, host) ∈ jnest) (hd : decode cc pc = .ok (.invokestatic index, 3)) (hn : As.length = n) (hrm : (st.map fun v => v.category).sum ≤ 8) (hR : dep + 1 ≤ X.2.2.2.1.frames ∧ 8 + (maxL + 11) + 128 * dep ≤ X.2.2.2.1.locals) (hR2 : kc ≤ X.2.2.2.1.cells ∧ ks ≤ X.2.2.2.1.slots) (hst : st0 = As.reverse ++ st)
    (kk : jJ X G nL L kc ks Q (pc + 3) lv (r.toList ++ st) μ2) : jJ X G nL L kc ks Q pc lv st0 μ := by
  refine j_run (a := As.toArray) (fun H locs ls hP hD hS hl => ?_) kk
  exact va_runSN (Ts := tblG) (rest := st) (As := As) ⟨hC.1, hC.2.1, hC.2.2.1, hC.2.2.2.1, hC.2.2.2.2.1⟩ hM ⟨va_cnB n hC.2.2.2.2.1 (jws_good hy.1) rfl rfl rfl (hC.2.2.2.2.2.2.2.2.2.1 _ hw) (hC.2.2.2.2.1 _ hy.2.1) hy.2.2.1 hR, hC.2.2.2.2.1 _ hy.2.2.2, trivial⟩ ⟨jPc_blind, j_pre hC hP hD hS⟩ rfl hn hl.1 hst (lv_room hrm) hd hR2
theorem j_callVN (hC : jC X G cc nL own rt) {y : MethodName} {bytes : ByteArray} {maxL n index ci a dep : Nat} {host : String} {ret2 : Option FieldType} {q : vw_C} {r : Option Value} (As : List Value) (hM : jCt X.2.1 G L dep y bytes maxL ret2 (.ref (L.2.2 a) :: As) μ r μ2) (hy : jMv y bytes maxL ret2 n) (hq : vwCl[ci]? = some q) (hcl : q.1 = y.cls) (hlt : ci < 13) (ha : jK L a ci)
    (hw : (own, index, y, host) ∈ jnest) (hd : decode cc pc = .ok (.invokevirtual index, 3)) (hn : As.length = n) (hrm : (st.map fun v => v.category).sum ≤ 8) (hR : dep + 1 ≤ X.2.2.2.1.frames ∧ 8 + (maxL + 11) + 128 * dep ≤ X.2.2.2.1.locals) (hR2 : kc ≤ X.2.2.2.1.cells ∧ ks ≤ X.2.2.2.1.slots) (hst : st0 = As.reverse ++ .ref (L.2.2 a) :: st)
    (kk : jJ X G nL L kc ks Q (pc + 3) lv (r.toList ++ st) μ2) : jJ X G nL L kc ks Q pc lv st0 μ := by
  refine j_run (a := (Value.ref (L.2.2 a) :: As).toArray) (fun H locs ls hP hD hS hl => ?_) kk
  exact va_runVN (C := y.cls) (Ts := tblG) (rest := st) (As := As) ⟨hC.1, hC.2.1, hC.2.2.1, hC.2.2.2.1, hC.2.2.2.2.1⟩ hM ⟨va_cnB n hC.2.2.2.2.1 (jws_good hy.1) rfl rfl rfl (hC.2.2.2.2.2.2.2.2.2.1 _ hw) (hC.2.2.2.2.1 _ hy.2.1) hy.2.2.1 hR, hC.2.2.2.2.1 _ hy.2.2.2.1, hC.2.2.2.2.1 _ hy.2.2.2.2⟩ ⟨jPc_blind, by
    have h := va_recv hC.2.2.2.2.2.1 hP hq ((jW_get G L μ ha.1).trans (by rw [jE_obj ha.2 hlt]))
    rw [hcl] at h
    exact h, j_pre hC hP hD hS⟩ rfl hn hl.1 hst (lv_room hrm) hd hR2
/-- Math.max, Math.min, System.arraycopy of int rows -/
theorem j_copyi (hC : jC X G cc nL own rt) {index a b na nb : Nat} {sp dp n : Int32} (hw : Cond.methodLink own index arraycopyName ∈ tblG) (hw1 : Cond.native arraycopyName ∈ tblG) (hw2 : Cond.static arraycopyName ∈ tblG) (hw3 : Cond.initialized "java/lang/System" ∈ tblG) (hd : decode cc pc = .ok (.invokestatic index, 3)) (hb : jK L b 13) (hnb : (L.2.1 b).2.1 = nb) (ha : jK L a 13) (hna : (L.2.1 a).2.1 = na)
    (h1 : ¬ sp < 0) (h2 : ¬ dp < 0) (h3 : ¬ n < 0) (h4 : sp.toNatClampNeg + n.toNatClampNeg ≤ nb) (h5 : dp.toNatClampNeg + n.toNatClampNeg ≤ na) (hf : 1 ≤ X.2.2.2.1.frames) (hlo : (st.map fun v => v.category).sum + (nativeFrameWords "java/lang/System" "arraycopy" 5 + 11) ≤ X.2.2.2.1.locals)
    {μ1 : jM} (hμ : μ1 = jcp μ b sp.toNatClampNeg a dp.toNatClampNeg n.toNatClampNeg) (kk : jJ X G nL L kc ks Q (pc + 3) lv st μ1) : jJ X G nL L kc ks Q pc lv (.int n :: .int dp :: .ref (L.2.2 a) :: .int sp :: .ref (L.2.2 b) :: st) μ := fun H locs ls hP hD hS hl => by
  subst hμ
  have e : (jW G L μ).set a (L.2.2 a, .inl (G.2.2.1 13, na, .inl (va_cpy (μ.1 b) (μ.1 a) sp.toNatClampNeg dp.toNatClampNeg n.toNatClampNeg))) = jW G L (jcp μ b sp.toNatClampNeg a dp.toNatClampNeg n.toNatClampNeg) := jW_set G L μ _ (by rw [jE_int ha.2 hna]; simp [jcp, va_up]) (fun c h => jE_ne_i h)
  refine va_copyi hC.1 hC.2.1 (hC.2.2.1.trans hl.1.symm) hC.2.2.2.1 (hC.2.2.2.2.1 _ hw) (hC.2.2.2.2.1 _ hw1) (hC.2.2.2.2.1 _ hw2) (hC.2.2.2.2.1 _ hw3) hC.2.2.2.2.2.1 hP hD hS b a 0 0 ((jW_get G L μ hb.1).trans (by rw [jE_int hb.2 hnb])) ((jW_get G L μ ha.1).trans (by rw [jE_int ha.2 hna])) rfl rfl rfl h1 h2 h3 h4 h5 (fun _ _ => rfl) hf hlo hd (fun H1 locs1 hP1 hD1 hS1 => ?_)
  rw [e] at hP1 hD1
  exact kk H1 locs1 ls hP1 hD1 hS1 hl
theorem j_room {dep dep2 maxL : Nat} {R : Room} (hR : R = jrm dep 0 0) (h : dep2 + 1 ≤ dep) (hm : maxL ≤ 100) : dep2 + 1 ≤ R.frames ∧ 8 + (maxL + 11) + 128 * dep2 ≤ R.locals := by subst hR; exact ⟨h, by show _ ≤ 128 * dep; omega⟩
theorem j_room0 {dep : Nat} {R : Room} (hR : R = jrm dep 0 0) : 0 ≤ R.cells ∧ 0 ≤ R.slots := ⟨Nat.zero_le _, Nat.zero_le _⟩
theorem j_vi (hC : jC X G cc nL own rt) {dp : Nat} (hR : X.2.2.2.1 = jrm dp 0 0) {y : MethodName} {bytes : ByteArray} {maxL n index ci a dep : Nat} {ret2 : Option FieldType} {q : vw_C} {v : Int32} (As : List Value) (hy : jMv y bytes maxL ret2 n) (hq : vwCl[ci]? = some q) (hcl : q.1 = y.cls) (hlt : ci < 13) (hw : Cond.methodLink own index y ∈ tblG) (hd : decode cc pc = .ok (.invokevirtual index, 3)) (hn : As.length = n) (hm : maxL ≤ 100) (ha : jK L a ci) (hM : jCt X.2.1 G L dep y bytes maxL ret2 (.ref (L.2.2 a) :: As) μ (some (.int v)) μ2) (hdp : dep + 1 ≤ dp) (hrm : (st.map fun v => v.category).sum ≤ 8) (hst : st0 = As.reverse ++ .ref (L.2.2 a) :: st)
    (kk : jJ X G nL L 0 0 Q (pc + 3) lv (.int v :: st) μ2) : jJ X G nL L 0 0 Q pc lv st0 μ := j_callV hC As hM hy hq hcl hlt ha hw hd hn hrm (j_room hR hdp hm) (j_room0 hR) hst kk
theorem j_si (hC : jC X G cc nL own rt) {dp : Nat} (hR : X.2.2.2.1 = jrm dp 0 0) {y : MethodName} {bytes : ByteArray} {maxL n index dep : Nat} {ret2 : Option FieldType} {v : Int32} (As : List Value) (hy : jMs y bytes maxL ret2 n) (hw : Cond.methodLink own index y ∈ tblG) (hd : decode cc pc = .ok (.invokestatic index, 3)) (hn : As.length = n) (hm : maxL ≤ 100) (hM : jCt X.2.1 G L dep y bytes maxL ret2 As μ (some (.int v)) μ2) (hdp : dep + 1 ≤ dp) (hrm : (st.map fun v => v.category).sum ≤ 8) (hst : st0 = As.reverse ++ st)
    (kk : jJ X G nL L 0 0 Q (pc + 3) lv (.int v :: st) μ2) : jJ X G nL L 0 0 Q pc lv st0 μ := j_callS hC As hM hy hw hd hn hrm (j_room hR hdp hm) (j_room0 hR) hst kk
theorem j_ni (hC : jC X G cc nL own rt) {dp : Nat} (hR : X.2.2.2.1 = jrm dp 0 0) {y : MethodName} {bytes : ByteArray} {maxL n index dep : Nat} {host : String} {ret2 : Option FieldType} {v : Int32} (As : List Value) (hy : jMs y bytes maxL ret2 n) (hw : (own, index, y, host) ∈ jnest) (hd : decode cc pc = .ok (.invokestatic index, 3)) (hn : As.length = n) (hm : maxL ≤ 100) (hM : jCt X.2.1 G L dep y bytes maxL ret2 As μ (some (.int v)) μ2) (hdp : dep + 1 ≤ dp) (hrm : (st.map fun v => v.category).sum ≤ 8) (hst : st0 = As.reverse ++ st)
    (kk : jJ X G nL L 0 0 Q (pc + 3) lv (.int v :: st) μ2) : jJ X G nL L 0 0 Q pc lv st0 μ := j_callSN hC As hM hy hw hd hn hrm (j_room hR hdp hm) (j_room0 hR) hst kk
theorem j_vl (hC : jC X G cc nL own rt) {dp : Nat} (hR : X.2.2.2.1 = jrm dp 0 0) {y : MethodName} {bytes : ByteArray} {maxL n index ci a dep : Nat} {ret2 : Option FieldType} {q : vw_C} {v : Int64} (As : List Value) (hy : jMv y bytes maxL ret2 n) (hq : vwCl[ci]? = some q) (hcl : q.1 = y.cls) (hlt : ci < 13) (hw : Cond.methodLink own index y ∈ tblG) (hd : decode cc pc = .ok (.invokevirtual index, 3)) (hn : As.length = n) (hm : maxL ≤ 100) (ha : jK L a ci) (hM : jCt X.2.1 G L dep y bytes maxL ret2 (.ref (L.2.2 a) :: As) μ (some (.long v)) μ2) (hdp : dep + 1 ≤ dp) (hrm : (st.map fun v => v.category).sum ≤ 8) (hst : st0 = As.reverse ++ .ref (L.2.2 a) :: st)
    (kk : jJ X G nL L 0 0 Q (pc + 3) lv (.long v :: st) μ2) : jJ X G nL L 0 0 Q pc lv st0 μ := j_callV hC As hM hy hq hcl hlt ha hw hd hn hrm (j_room hR hdp hm) (j_room0 hR) hst kk
theorem j_sl (hC : jC X G cc nL own rt) {dp : Nat} (hR : X.2.2.2.1 = jrm dp 0 0) {y : MethodName} {bytes : ByteArray} {maxL n index dep : Nat} {ret2 : Option FieldType} {v : Int64} (As : List Value) (hy : jMs y bytes maxL ret2 n) (hw : Cond.methodLink own index y ∈ tblG) (hd : decode cc pc = .ok (.invokestatic index, 3)) (hn : As.length = n) (hm : maxL ≤ 100) (hM : jCt X.2.1 G L dep y bytes maxL ret2 As μ (some (.long v)) μ2) (hdp : dep + 1 ≤ dp) (hrm : (st.map fun v => v.category).sum ≤ 8) (hst : st0 = As.reverse ++ st)
    (kk : jJ X G nL L 0 0 Q (pc + 3) lv (.long v :: st) μ2) : jJ X G nL L 0 0 Q pc lv st0 μ := j_callS hC As hM hy hw hd hn hrm (j_room hR hdp hm) (j_room0 hR) hst kk
theorem j_nl (hC : jC X G cc nL own rt) {dp : Nat} (hR : X.2.2.2.1 = jrm dp 0 0) {y : MethodName} {bytes : ByteArray} {maxL n index dep : Nat} {host : String} {ret2 : Option FieldType} {v : Int64} (As : List Value) (hy : jMs y bytes maxL ret2 n) (hw : (own, index, y, host) ∈ jnest) (hd : decode cc pc = .ok (.invokestatic index, 3)) (hn : As.length = n) (hm : maxL ≤ 100) (hM : jCt X.2.1 G L dep y bytes maxL ret2 As μ (some (.long v)) μ2) (hdp : dep + 1 ≤ dp) (hrm : (st.map fun v => v.category).sum ≤ 8) (hst : st0 = As.reverse ++ st)
    (kk : jJ X G nL L 0 0 Q (pc + 3) lv (.long v :: st) μ2) : jJ X G nL L 0 0 Q pc lv st0 μ := j_callSN hC As hM hy hw hd hn hrm (j_room hR hdp hm) (j_room0 hR) hst kk
theorem j_vr (hC : jC X G cc nL own rt) {dp : Nat} (hR : X.2.2.2.1 = jrm dp 0 0) {y : MethodName} {bytes : ByteArray} {maxL n index ci a dep : Nat} {ret2 : Option FieldType} {q : vw_C} {v : Nat} (As : List Value) (hy : jMv y bytes maxL ret2 n) (hq : vwCl[ci]? = some q) (hcl : q.1 = y.cls) (hlt : ci < 13) (hw : Cond.methodLink own index y ∈ tblG) (hd : decode cc pc = .ok (.invokevirtual index, 3)) (hn : As.length = n) (hm : maxL ≤ 100) (ha : jK L a ci) (hM : jCt X.2.1 G L dep y bytes maxL ret2 (.ref (L.2.2 a) :: As) μ (some (.ref v)) μ2) (hdp : dep + 1 ≤ dp) (hrm : (st.map fun v => v.category).sum ≤ 8) (hst : st0 = As.reverse ++ .ref (L.2.2 a) :: st)
    (kk : jJ X G nL L 0 0 Q (pc + 3) lv (.ref v :: st) μ2) : jJ X G nL L 0 0 Q pc lv st0 μ := j_callV hC As hM hy hq hcl hlt ha hw hd hn hrm (j_room hR hdp hm) (j_room0 hR) hst kk
theorem j_sr (hC : jC X G cc nL own rt) {dp : Nat} (hR : X.2.2.2.1 = jrm dp 0 0) {y : MethodName} {bytes : ByteArray} {maxL n index dep : Nat} {ret2 : Option FieldType} {v : Nat} (As : List Value) (hy : jMs y bytes maxL ret2 n) (hw : Cond.methodLink own index y ∈ tblG) (hd : decode cc pc = .ok (.invokestatic index, 3)) (hn : As.length = n) (hm : maxL ≤ 100) (hM : jCt X.2.1 G L dep y bytes maxL ret2 As μ (some (.ref v)) μ2) (hdp : dep + 1 ≤ dp) (hrm : (st.map fun v => v.category).sum ≤ 8) (hst : st0 = As.reverse ++ st)
    (kk : jJ X G nL L 0 0 Q (pc + 3) lv (.ref v :: st) μ2) : jJ X G nL L 0 0 Q pc lv st0 μ := j_callS hC As hM hy hw hd hn hrm (j_room hR hdp hm) (j_room0 hR) hst kk
theorem j_nr (hC : jC X G cc nL own rt) {dp : Nat} (hR : X.2.2.2.1 = jrm dp 0 0) {y : MethodName} {bytes : ByteArray} {maxL n index dep : Nat} {host : String} {ret2 : Option FieldType} {v : Nat} (As : List Value) (hy : jMs y bytes maxL ret2 n) (hw : (own, index, y, host) ∈ jnest) (hd : decode cc pc = .ok (.invokestatic index, 3)) (hn : As.length = n) (hm : maxL ≤ 100) (hM : jCt X.2.1 G L dep y bytes maxL ret2 As μ (some (.ref v)) μ2) (hdp : dep + 1 ≤ dp) (hrm : (st.map fun v => v.category).sum ≤ 8) (hst : st0 = As.reverse ++ st)
    (kk : jJ X G nL L 0 0 Q (pc + 3) lv (.ref v :: st) μ2) : jJ X G nL L 0 0 Q pc lv st0 μ := j_callSN hC As hM hy hw hd hn hrm (j_room hR hdp hm) (j_room0 hR) hst kk
theorem j_vv (hC : jC X G cc nL own rt) {dp : Nat} (hR : X.2.2.2.1 = jrm dp 0 0) {y : MethodName} {bytes : ByteArray} {maxL n index ci a dep : Nat} {ret2 : Option FieldType} {q : vw_C} (As : List Value) (hy : jMv y bytes maxL ret2 n) (hq : vwCl[ci]? = some q) (hcl : q.1 = y.cls) (hlt : ci < 13) (hw : Cond.methodLink own index y ∈ tblG) (hd : decode cc pc = .ok (.invokevirtual index, 3)) (hn : As.length = n) (hm : maxL ≤ 100) (ha : jK L a ci) (hM : jCt X.2.1 G L dep y bytes maxL ret2 (.ref (L.2.2 a) :: As) μ none μ2) (hdp : dep + 1 ≤ dp) (hrm : (st.map fun v => v.category).sum ≤ 8) (hst : st0 = As.reverse ++ .ref (L.2.2 a) :: st)
    (kk : jJ X G nL L 0 0 Q (pc + 3) lv (st) μ2) : jJ X G nL L 0 0 Q pc lv st0 μ := j_callV hC As hM hy hq hcl hlt ha hw hd hn hrm (j_room hR hdp hm) (j_room0 hR) hst kk
theorem j_sv (hC : jC X G cc nL own rt) {dp : Nat} (hR : X.2.2.2.1 = jrm dp 0 0) {y : MethodName} {bytes : ByteArray} {maxL n index dep : Nat} {ret2 : Option FieldType} (As : List Value) (hy : jMs y bytes maxL ret2 n) (hw : Cond.methodLink own index y ∈ tblG) (hd : decode cc pc = .ok (.invokestatic index, 3)) (hn : As.length = n) (hm : maxL ≤ 100) (hM : jCt X.2.1 G L dep y bytes maxL ret2 As μ none μ2) (hdp : dep + 1 ≤ dp) (hrm : (st.map fun v => v.category).sum ≤ 8) (hst : st0 = As.reverse ++ st)
    (kk : jJ X G nL L 0 0 Q (pc + 3) lv (st) μ2) : jJ X G nL L 0 0 Q pc lv st0 μ := j_callS hC As hM hy hw hd hn hrm (j_room hR hdp hm) (j_room0 hR) hst kk
theorem j_nv (hC : jC X G cc nL own rt) {dp : Nat} (hR : X.2.2.2.1 = jrm dp 0 0) {y : MethodName} {bytes : ByteArray} {maxL n index dep : Nat} {host : String} {ret2 : Option FieldType} (As : List Value) (hy : jMs y bytes maxL ret2 n) (hw : (own, index, y, host) ∈ jnest) (hd : decode cc pc = .ok (.invokestatic index, 3)) (hn : As.length = n) (hm : maxL ≤ 100) (hM : jCt X.2.1 G L dep y bytes maxL ret2 As μ none μ2) (hdp : dep + 1 ≤ dp) (hrm : (st.map fun v => v.category).sum ≤ 8) (hst : st0 = As.reverse ++ st)
    (kk : jJ X G nL L 0 0 Q (pc + 3) lv (st) μ2) : jJ X G nL L 0 0 Q pc lv st0 μ := j_callSN hC As hM hy hw hd hn hrm (j_room hR hdp hm) (j_room0 hR) hst kk
theorem j_wi (hC : jC X G cc nL own rt) {dp : Nat} (hR : X.2.2.2.1 = jrm dp 0 0) {y : MethodName} {bytes : ByteArray} {maxL n index ci a dep : Nat} {host : String} {ret2 : Option FieldType} {q : vw_C} {v : Int32} (As : List Value) (hy : jMv y bytes maxL ret2 n) (hq : vwCl[ci]? = some q) (hcl : q.1 = y.cls) (hlt : ci < 13) (hw : (own, index, y, host) ∈ jnest) (hd : decode cc pc = .ok (.invokevirtual index, 3)) (hn : As.length = n) (hm : maxL ≤ 100) (ha : jK L a ci) (hM : jCt X.2.1 G L dep y bytes maxL ret2 (.ref (L.2.2 a) :: As) μ (some (.int v)) μ2) (hdp : dep + 1 ≤ dp) (hrm : (st.map fun v => v.category).sum ≤ 8) (hst : st0 = As.reverse ++ .ref (L.2.2 a) :: st)
    (kk : jJ X G nL L 0 0 Q (pc + 3) lv (.int v :: st) μ2) : jJ X G nL L 0 0 Q pc lv st0 μ := j_callVN hC As hM hy hq hcl hlt ha hw hd hn hrm (j_room hR hdp hm) (j_room0 hR) hst kk
theorem j_wl (hC : jC X G cc nL own rt) {dp : Nat} (hR : X.2.2.2.1 = jrm dp 0 0) {y : MethodName} {bytes : ByteArray} {maxL n index ci a dep : Nat} {host : String} {ret2 : Option FieldType} {q : vw_C} {v : Int64} (As : List Value) (hy : jMv y bytes maxL ret2 n) (hq : vwCl[ci]? = some q) (hcl : q.1 = y.cls) (hlt : ci < 13) (hw : (own, index, y, host) ∈ jnest) (hd : decode cc pc = .ok (.invokevirtual index, 3)) (hn : As.length = n) (hm : maxL ≤ 100) (ha : jK L a ci) (hM : jCt X.2.1 G L dep y bytes maxL ret2 (.ref (L.2.2 a) :: As) μ (some (.long v)) μ2) (hdp : dep + 1 ≤ dp) (hrm : (st.map fun v => v.category).sum ≤ 8) (hst : st0 = As.reverse ++ .ref (L.2.2 a) :: st)
    (kk : jJ X G nL L 0 0 Q (pc + 3) lv (.long v :: st) μ2) : jJ X G nL L 0 0 Q pc lv st0 μ := j_callVN hC As hM hy hq hcl hlt ha hw hd hn hrm (j_room hR hdp hm) (j_room0 hR) hst kk
theorem j_wr (hC : jC X G cc nL own rt) {dp : Nat} (hR : X.2.2.2.1 = jrm dp 0 0) {y : MethodName} {bytes : ByteArray} {maxL n index ci a dep : Nat} {host : String} {ret2 : Option FieldType} {q : vw_C} {v : Nat} (As : List Value) (hy : jMv y bytes maxL ret2 n) (hq : vwCl[ci]? = some q) (hcl : q.1 = y.cls) (hlt : ci < 13) (hw : (own, index, y, host) ∈ jnest) (hd : decode cc pc = .ok (.invokevirtual index, 3)) (hn : As.length = n) (hm : maxL ≤ 100) (ha : jK L a ci) (hM : jCt X.2.1 G L dep y bytes maxL ret2 (.ref (L.2.2 a) :: As) μ (some (.ref v)) μ2) (hdp : dep + 1 ≤ dp) (hrm : (st.map fun v => v.category).sum ≤ 8) (hst : st0 = As.reverse ++ .ref (L.2.2 a) :: st)
    (kk : jJ X G nL L 0 0 Q (pc + 3) lv (.ref v :: st) μ2) : jJ X G nL L 0 0 Q pc lv st0 μ := j_callVN hC As hM hy hq hcl hlt ha hw hd hn hrm (j_room hR hdp hm) (j_room0 hR) hst kk
theorem j_wv (hC : jC X G cc nL own rt) {dp : Nat} (hR : X.2.2.2.1 = jrm dp 0 0) {y : MethodName} {bytes : ByteArray} {maxL n index ci a dep : Nat} {host : String} {ret2 : Option FieldType} {q : vw_C} (As : List Value) (hy : jMv y bytes maxL ret2 n) (hq : vwCl[ci]? = some q) (hcl : q.1 = y.cls) (hlt : ci < 13) (hw : (own, index, y, host) ∈ jnest) (hd : decode cc pc = .ok (.invokevirtual index, 3)) (hn : As.length = n) (hm : maxL ≤ 100) (ha : jK L a ci) (hM : jCt X.2.1 G L dep y bytes maxL ret2 (.ref (L.2.2 a) :: As) μ none μ2) (hdp : dep + 1 ≤ dp) (hrm : (st.map fun v => v.category).sum ≤ 8) (hst : st0 = As.reverse ++ .ref (L.2.2 a) :: st)
    (kk : jJ X G nL L 0 0 Q (pc + 3) lv (st) μ2) : jJ X G nL L 0 0 Q pc lv st0 μ := j_callVN hC As hM hy hq hcl hlt ha hw hd hn hrm (j_room hR hdp hm) (j_room0 hR) hst kk
end JCalls
/-! the words of the functions: a value named, a check, a call, a loop -/
def jbd {α β : Type} (x : α) (k : α → β) : β := k x
theorem jbd_ex {α β : Type} {x : α} {k : α → β} {r : β} (h : jbd x k = r) : ∃ y, y = x ∧ k y = r := ⟨x, rfl, h⟩
def jin {β : Type} (i : Int32) (n : Nat) (k : Option β) : Option β := if i < 0 ∨ n ≤ i.toNatClampNeg then none else k
theorem jin_some {β : Type} {i : Int32} {n : Nat} {k : Option β} {r : β} (h : jin i n k = some r) : vp_in i n ∧ k = some r := by
  unfold jin at h
  by_cases c : i < 0 ∨ n ≤ i.toNatClampNeg
  · rw [if_pos c] at h; cases h
  · rw [if_neg c] at h; exact ⟨c, h⟩
def jrd {α β : Type} (f : Nat → α) (i : Int32) (n : Nat) (k : α → Option β) : Option β := if i < 0 ∨ n ≤ i.toNatClampNeg then none else k (f i.toNatClampNeg)
theorem jrd_some {α β : Type} {f : Nat → α} {i : Int32} {n : Nat} {k : α → Option β} {r : β} (h : jrd f i n k = some r) : vp_in i n ∧ ∃ v, v = f i.toNatClampNeg ∧ k v = some r := by
  unfold jrd at h
  by_cases c : i < 0 ∨ n ≤ i.toNatClampNeg
  · rw [if_pos c] at h; cases h
  · rw [if_neg c] at h; exact ⟨c, _, rfl, h⟩
def jnz {β : Type} (y : Int32) (k : Option β) : Option β := if y = 0 then none else k
theorem jnz_some {β : Type} {y : Int32} {k : Option β} {r : β} (h : jnz y k = some r) : ¬ y = 0 ∧ k = some r := by
  unfold jnz at h
  by_cases c : y = 0
  · rw [if_pos c] at h; cases h
  · rw [if_neg c] at h; exact ⟨c, h⟩
def jcl {α β : Type} (o : Option α) (k : α → Option β) : Option β := match o with
  | none => none
  | some x => k x
theorem jcl_some {α β : Type} {o : Option α} {k : α → Option β} {r : β} (h : jcl o k = some r) : ∃ x, o = some x ∧ k x = some r := by
  cases o with
  | none => cases h
  | some x => exact ⟨x, rfl, h⟩
def jcl2 {α β : Type} (o : Option (α × jM)) (k : α → jM → Option β) : Option β := match o with
  | none => none
  | some x => k x.1 x.2
theorem jcl2_some {α β : Type} {o : Option (α × jM)} {k : α → jM → Option β} {r : β} (h : jcl2 o k = some r) : ∃ x μ, o = some (x, μ) ∧ k x μ = some r := by
  cases o with
  | none => cases h
  | some x => exact ⟨x.1, x.2, rfl, h⟩
def jcpq {β : Type} (sp dp n : Int32) (nb na : Nat) (k : Option β) : Option β := if sp < 0 ∨ dp < 0 ∨ n < 0 ∨ nb < sp.toNatClampNeg + n.toNatClampNeg ∨ na < dp.toNatClampNeg + n.toNatClampNeg then none else k
theorem jcpq_some {β : Type} {sp dp n : Int32} {nb na : Nat} {k : Option β} {r : β} (h : jcpq sp dp n nb na k = some r) : (¬ sp < 0 ∧ ¬ dp < 0 ∧ ¬ n < 0 ∧ sp.toNatClampNeg + n.toNatClampNeg ≤ nb ∧ dp.toNatClampNeg + n.toNatClampNeg ≤ na) ∧ k = some r := by
  unfold jcpq at h
  by_cases c : sp < 0 ∨ dp < 0 ∨ n < 0 ∨ nb < sp.toNatClampNeg + n.toNatClampNeg ∨ na < dp.toNatClampNeg + n.toNatClampNeg
  · rw [if_pos c] at h; cases h
  · rw [if_neg c] at h
    exact ⟨⟨fun q => c (Or.inl q), fun q => c (Or.inr (Or.inl q)), fun q => c (Or.inr (Or.inr (Or.inl q))), Nat.not_lt.mp fun q => c (Or.inr (Or.inr (Or.inr (Or.inl q)))), Nat.not_lt.mp fun q => c (Or.inr (Or.inr (Or.inr (Or.inr q))))⟩, h⟩
def jloop {σ ε : Type} (step : σ → Option (σ ⊕ ε)) : Nat → σ → Option ε
  | 0, _ => none
  | n + 1, s => match step s with
    | none => none
    | some (.inl s2) => jloop step n s2
    | some (.inr e) => some e
def jok {σ ε : Type} (P : σ → Prop) (R : ε → Prop) (o : σ ⊕ ε) : Prop := match o with
  | .inl s => P s
  | .inr e => R e
theorem j_loop {σ ε : Type} {step : σ → Option (σ ⊕ ε)} {P : σ → Prop} {R : ε → Prop} (hs : ∀ s o, step s = some o → jok P R o → P s) : ∀ (n : Nat) (s : σ) (e : ε), jloop step n s = some e → R e → P s := by
  intro n
  induction n with
  | zero => intro s e h _; cases h
  | succ n ih =>
    intro s e h hR
    unfold jloop at h
    cases ho : step s with
    | none => rw [ho] at h; cases h
    | some o =>
      rw [ho] at h
      cases o with
      | inl s2 => exact hs s _ ho (ih s2 e h hR)
      | inr e2 => cases h; exact hs s _ ho hR
/-- enough for every loop -/
def jfu : Nat := 2000000
theorem jmg {A B : Prop} (h : B → A) (k : B) : A := h k

