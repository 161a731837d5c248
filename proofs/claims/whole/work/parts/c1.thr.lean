/-! the throwing of NoSuchElementException: words -/
abbrev nse : String := "java/util/NoSuchElementException"
abbrev nsn : List String := ["java/lang/RuntimeException", "java/lang/Exception"]
abbrev vxl : List Cond := vx_at0 RX11 118 nse nsn
theorem vxl_all : (Cond.classLink RX11 116 nse :: Cond.initialized nse :: vxl).all (fun w => tables_1.any (fun v => decide (v = w))) = true := by decide +kernel
theorem vxl_ot : (Cond.classLink RX11 116 nse :: Cond.initialized nse :: vxl).all vx_ot = true := by decide +kernel
theorem vxl_g : goodWord (Cond.classLink RX11 116 nse) = true ∧ goodWord (Cond.initialized nse) = true := by decide +kernel
def vxw : List Cond := [.declares (Bundle.init0 "java/lang/RuntimeException"), .declares (Bundle.init0 "java/lang/Exception"), .declares (Bundle.init0 Bundle.tN), .castable nse nse]
theorem vxl_no : vxl.filter (fun w => !goodWord w) = vxw := by decide +kernel
theorem fit_nse : Bundle.fit nse = true ∧ ∀ n ∈ nsn, Bundle.fit n = true := by decide +kernel
theorem vxl_in {w : Cond} (h : w ∈ Cond.classLink RX11 116 nse :: Cond.initialized nse :: vxl) : w ∈ tables_1 := by
  have h1 := List.all_eq_true.mp vxl_all w h
  obtain ⟨v, hv, e⟩ := List.any_eq_true.mp h1
  rw [← of_decide_eq_true e]
  exact hv
theorem vxl_tb {w : Cond} (h : w ∈ Cond.classLink RX11 116 nse :: Cond.initialized nse :: vxl) (g : goodWord w = true) : w ∈ tblG := List.mem_filter.mpr ⟨List.mem_append_right _ (vxl_in h), g⟩
/-- what stands of the words and statics of a throw, at a state -/
def jT5 (G : jG) (U : State) : Prop := (∀ w ∈ vxw, va_Nw w U) ∧ vx_Zq Bundle.tN "UNASSIGNED_STACK" Bundle.steD (jA G) U U.heap ∧ vx_Zq Bundle.tN "SUPPRESSED_SENTINEL" Bundle.listD (jA G) U U.heap
theorem vxw_warm {u U : State} (hW : u.WarmedH U.vm) (h : ∀ w ∈ vxw, va_Nw w u) : ∀ w ∈ vxw, va_Nw w U := by
  intro w hw
  have h1 := h w hw
  simp only [vxw, List.mem_cons, List.not_mem_nil, or_false] at hw
  rcases hw with rfl | rfl | rfl | rfl
  · exact va_Nw.warmD hW h1
  · exact va_Nw.warmD hW h1
  · exact va_Nw.warmD hW h1
  · exact va_Nw.warmC hW h1
theorem vxw_ot : ∀ w ∈ vxw, w.onTables = true := by decide
theorem jT5.moved {G : jG} {u U : State} (hW : u.WarmedH U.vm) (hk : ∀ a : Nat, a < u.heap.size → ¬ jA G a → U.heap[a]? = u.heap[a]?) (h : jT5 G u) : jT5 G U :=
  ⟨vxw_warm hW h.1, (vx_Zq.moved hW.alike h.2.1).kept hk, (vx_Zq.moved hW.alike h.2.2).kept hk⟩
theorem jT5.same {G : jG} {u U : State} (hv : U.vm = u.vm) (hk : U.heap = u.heap) (h : jT5 G u) : jT5 G U := by
  have ha : u.vm.Alike U.vm := by rw [hv]; exact Vm.Alike.refl _
  unfold jT5
  rw [hk]
  exact ⟨fun w hw => va_Nw.same (vxw_ot w hw) hv.symm (h.1 w hw), vx_Zq.moved ha h.2.1, vx_Zq.moved ha h.2.2⟩
def jWx (G : jG) (L : jL) (μ : jM) (U : State) : Prop := jWd G L μ U ∧ jT5 G U
def jQ5 (G : jG) (L : jL) (w : Option Value) (μ : jM) : Array Value → State → Outcome → State → Prop := fun _ st o t => (∃ v, w = some v ∧ o = .returned (some v)) ∧ jWd G L μ t ∧ va_F (jA G) st t
def jX5 (G : jG) (L : jL) (w : Option Value) (μ : jM) : String → State → State → Prop := fun E st t => E = nse ∧ w = none ∧ va_P G.2.1 vwCl (jW G L μ) t.heap ∧ va_D (jA G) (jW G L μ) ∧ va_F (jA G) st t
def jC5 (l : Launch) (G : jG) (L : jL) (dep : Nat) (y : MethodName) (cc : ByteArray) (nL : Nat) (rt : Option FieldType) (av : List Value) (μ : jM) (w : Option Value) : Prop :=
  vx_Met l y (.code y cc nL rt :: tblG) (jrm dep 1 6) (va_Pc av (jWx G L μ)) (jQ5 G L w μ) (jX5 G L w μ) 1 6 (jA G)
def jM5 (X : jX) (G : jG) (L : jL) (w : Option Value) (μ : jM) : State → Prop := vx_MQ X.2.2.2.2.2.2.2.1 (jQ5 G L w μ) (jX5 G L w μ) X.2.2.2.2.2.2.1 X.2.2.2.2.1 1 6 (jA G)
theorem jC5_of {l : Launch} {G : jG} {L : jL} {dep : Nat} {y : MethodName} {cc : ByteArray} {nL : Nat} {rt : Option FieldType} {av : List Value} {μ : jM} {w : Option Value} (hy : plainName y.cls = true) (hlen : (lg_sl av).length ≤ nL)
    (body : ∀ X : jX, jC X G cc nL y.cls rt → X.2.1 = l → X.2.2.2.1 = jrm dep 1 6 → jT5 G X.2.2.2.2.1 → (∀ x ∈ X.2.2.2.2.2.2.2.2.2.exceptionTable.toList, False) → jJ X G nL L 0 0 (jM5 X G L w μ) 0 (lv_args 0 av) [] μ) : jC5 l G L dep y cc nL rt av μ w := by
  refine vx_ofW (cc := cc) (maxL := nL) (ret := rt) hy rfl ?_
  intro p e s m args below meth c s₁ B hml hx hv
  obtain ⟨rfl, ⟨hP, hD, hK, hsz, hz⟩, h5⟩ := hv
  have hl := lv_entry av (n := nL) hlen
  rw [lg_entry_eq]
  have hts := atoms_spec (ws := .code y cc nL rt :: tblG) B.pre
  exact body (p, l, e, jrm dep 1 6, s, m, av.toArray, below, meth, c) ⟨B.exec, B.bytes, hml, findClass_of_methodNamed B.named, fun w h => hts w (List.mem_cons_of_mem _ h), hK, fun q h => Nat.le_trans hsz h, B.returns, B.notSynchronized, hz⟩ rfl rfl h5 hx s.heap [] _ hP hD va_S.rf hl
section JFive
variable {X : jX} {G : jG} {nL : Nat} {L : jL} {Q : State → Prop} {pc : Nat} {lv : List (Nat × Value)} {st st0 : List Value} {μ μ2 : jM} {cc : ByteArray} {own : String} {rt : Option FieldType}
theorem j_iret5 (hC : jC X G cc nL own rt) {v : Int32} (hd : decode cc pc = .ok (.ireturn, 1)) (hr : rt = some .int) : jJ X G nL L 0 0 (jM5 X G L (some (.int v)) μ) pc lv [.int v] μ := fun H locs ls hP hD hS hl =>
  vx_ret (W.widen (k := 1) (n := 6) (by decide) (by decide) (W.iret hC.1 hC.2.1 (hC.2.2.2.2.2.2.2.1.trans hr) (fun t ht hW => ⟨⟨_, rfl, rfl⟩, jWd_end hP hD hS hC.2.2.2.2.2.1 hC.2.2.2.2.2.2.1 hC.2.2.2.2.2.2.2.2.2 ht hW, hS.F ht⟩) (fun q hq => hS.2.2 q hq) hd hC.2.2.2.2.2.2.2.2.1))
theorem j_lret5 (hC : jC X G cc nL own rt) {v : Int64} (hd : decode cc pc = .ok (.lreturn, 1)) (hr : rt = some .long) : jJ X G nL L 0 0 (jM5 X G L (some (.long v)) μ) pc lv [.long v] μ := fun H locs ls hP hD hS hl =>
  vx_ret (W.widen (k := 1) (n := 6) (by decide) (by decide) (W.lret hC.1 hC.2.1 (hC.2.2.2.2.2.2.2.1.trans hr) (fun t ht hW => ⟨⟨_, rfl, rfl⟩, jWd_end hP hD hS hC.2.2.2.2.2.1 hC.2.2.2.2.2.2.1 hC.2.2.2.2.2.2.2.2.2 ht hW, hS.F ht⟩) (fun q hq => hS.2.2 q hq) hd hC.2.2.2.2.2.2.2.2.1))
theorem j_throw5 (hC : jC X G cc nL RX11 rt) {dp : Nat} (hR : X.2.2.2.1 = jrm dp 1 6) (hdp : 6 ≤ dp) (hl : X.2.1.stackTraces = false) (h5 : jT5 G X.2.2.2.2.1) (hx : ∀ x ∈ X.2.2.2.2.2.2.2.2.2.exceptionTable.toList, False)
    (d0 : decode cc pc = .ok (.new 116, 3)) (d3 : decode cc (pc + 3) = .ok (.dup, 1)) (d4 : decode cc (pc + 4) = .ok (.invokespecial 118, 3)) (d7 : decode cc (pc + 7) = .ok (.athrow, 1)) : jJ X G nL L 0 0 (jM5 X G L none μ) pc lv [] μ := fun H locs ls hP hD hS hl0 => by
  refine vx_throw0 (own := RX11) (cls := nse) (names := nsn) (ik := 116) (ic := 118) (A := jA G) hC.1 hC.2.1 hl hC.2.2.2.1 fit_nse.1 fit_nse.2 (hC.2.2.2.2.1 _ (vxl_tb List.mem_cons_self vxl_g.1)) (hC.2.2.2.2.1 _ (vxl_tb (List.mem_cons_of_mem _ List.mem_cons_self) vxl_g.2)) ?_ (fun w hw => List.all_eq_true.mp vxl_ot w hw) h5.2.1 h5.2.2 hS (hl0.1.trans hC.2.2.1.symm) d0 d3 d4 d7 (fun x h => (hx x h).elim) ?_ ?_ ?_ ?_ hC.2.2.2.2.2.2.2.2.1 ?_ (fun q hq => hS.2.2 q hq) (by decide) (by decide)
  · refine vx_hat (B := vxw) (fun w hw => ?_) (fun w hw => ?_) (fun w hw => ?_)
    · have h1 := List.mem_filter.mp hw
      exact hC.2.2.2.2.1 _ (vxl_tb (List.mem_cons_of_mem _ (List.mem_cons_of_mem _ h1.1)) h1.2)
    · rw [← vxl_no]; exact hw
    · exact va_Nw.use (vxw_ot w hw) (h5.1 w hw)
  · rw [hR]; show 2 + 3 < dp; omega
  · rw [hR]; show 0 + (13 * (2 + 1) + 42) ≤ 128 * dp; omega
  · rw [hR]; exact Nat.le_refl _
  · rw [hR]; exact Nat.le_refl _
  · intro t hA hz hk
    exact ⟨rfl, rfl, hP.kept (fun k q hq => hk q.1 (vx_lt hP hq)), hD, Nat.le_trans hS.1 hz, fun q h1 h2 => (hk q (Nat.lt_of_lt_of_le h1 hS.1)).trans (hS.2.1 q h1 h2)⟩
theorem j_si5 (hC : jC X G cc nL own rt) {dp : Nat} (hR : X.2.2.2.1 = jrm dp 1 6) {y : MethodName} {bytes : ByteArray} {maxL n index dep : Nat} {ret2 : Option FieldType} {v : Int32} (As : List Value) (hy : jMs y bytes maxL ret2 n) (hw : Cond.methodLink own index y ∈ tblG) (hd : decode cc pc = .ok (.invokestatic index, 3)) (hn : As.length = n) (hm : maxL ≤ 100) (hM : jCt X.2.1 G L dep y bytes maxL ret2 As μ (some (.int v)) μ2) (hdp : dep + 1 ≤ dp) (hrm : (st.map fun v => v.category).sum ≤ 8) (hst : st0 = As.reverse ++ st)
    (kk : jJ X G nL L 0 0 Q (pc + 3) lv (.int v :: st) μ2) : jJ X G nL L 0 0 Q pc lv st0 μ := j_callS hC As hM hy hw hd hn hrm (by rw [hR]; exact ⟨hdp, by show _ ≤ 128 * dp; omega⟩) ⟨Nat.zero_le _, Nat.zero_le _⟩ hst kk
end JFive
