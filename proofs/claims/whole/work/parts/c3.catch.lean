theorem tb_mem {w : Cond} (h : (tables_1.any (fun v => decide (v = w)) && goodWord w) = true) : w ∈ tblG := by
  rw [Bool.and_eq_true] at h
  obtain ⟨v, hv, e⟩ := List.any_eq_true.mp h.1
  refine List.mem_filter.mpr ⟨List.mem_append_right _ ?_, h.2⟩
  rw [← of_decide_eq_true e]
  exact hv
theorem jPx_blind {G : jG} {L : jL} {μ : jM} {av : List Value} : FrameBlind (va_Pc av (jWx G L μ)) := fun a U g mk h => ⟨h.1, ⟨h.2.1.1, h.2.1.2.1, va_K.moved (u := U) (U := U.calling g mk a) (Vm.Alike.refl U.vm) h.2.1.2.2.1, h.2.1.2.2.2.1, jS.same (u := U) (U := U.calling g mk a) rfl rfl h.2.1.2.2.2.2⟩, jT5.same (u := U) (U := U.calling g mk a) rfl rfl h.2.2⟩
section JCatch
variable {X : jX} {G : jG} {nL : Nat} {L : jL} {kc ks : Nat} {Q : State → Prop} {pc : Nat} {lv : List (Nat × Value)} {st st0 : List Value} {μ μ2 : jM} {cc : ByteArray} {own : String} {rt : Option FieldType}
theorem j_prex (hC : jC X G cc nL own rt) (h5 : jT5 G X.2.2.2.2.1) {av : List Value} {H : Heap} {locs : List Loc} (hP : va_P G.2.1 vwCl (jW G L μ) H) (hD : va_D (jA G) (jW G L μ)) (hS : va_S (jA G) X.2.2.2.2.1.heap H locs) : ∀ U : State, U.heap = H → X.2.2.2.2.1.WarmedH U.vm → va_Pc av (jWx G L μ) av.toArray U := fun U hU hW =>
  ⟨rfl, jWd_end hP hD hS hC.2.2.2.2.2.1 hC.2.2.2.2.2.2.1 hC.2.2.2.2.2.2.2.2.2 hU hW, h5.moved hW (fun a h1 h2 => by rw [hU]; exact hS.2.1 a h1 h2)⟩
theorem j_call5 (hC : jC X G cc nL own rt) (h5 : jT5 G X.2.2.2.2.1) {y : MethodName} {bytes : ByteArray} {maxL n index ci a dep : Nat} {ret2 : Option FieldType} {q : vw_C} {w : Option Value} (As : List Value) (hM : jC5 X.2.1 G L dep y bytes maxL ret2 (.ref (L.2.2 a) :: As) μ w) (hy : jMv y bytes maxL ret2 n) (hq : vwCl[ci]? = some q) (hcl : q.1 = y.cls) (hlt : ci < 13) (ha : jK L a ci)
    (hw : Cond.methodLink own index y ∈ tblG) (hd : decode cc pc = .ok (.invokevirtual index, 3)) (hn : As.length = n) (hrm : (st.map fun v => v.category).sum ≤ 8) (hR : dep + 1 ≤ X.2.2.2.1.frames ∧ 8 + (maxL + 11) + 128 * dep ≤ X.2.2.2.1.locals) (hR2 : kc + 1 ≤ X.2.2.2.1.cells ∧ ks + 6 ≤ X.2.2.2.1.slots) (hst : st0 = As.reverse ++ .ref (L.2.2 a) :: st)
    {fr to hp ct : Nat} (htb : X.2.2.2.2.2.2.2.2.2.exceptionTable.toList = tableOf [(fr, to, hp, ct)]) (hcv : covers ⟨fr, to, hp, ct⟩ pc = true) (hct : ct ≠ 0) (hlk : Cond.classLink own ct nse ∈ tblG)
    (k1 : ∀ v, w = some v → jJ X G nL L (kc + 1) (ks + 6) Q (pc + 3) lv (v :: st) μ) (k2 : w = none → ∀ q : Nat, jJ X G nL L (kc + 1) (ks + 6) Q hp lv [.ref q] μ) : jJ X G nL L kc ks Q pc lv st0 μ := by
  intro H locs ls hP hD hS hl T hT Xs
  have hrun := vx_runV (C := y.cls) (Ts := tblG) (rest := st) (As := As) (b := L.2.2 a) (g := F0 X.2.2.2.2.2.1 pc ls st0) (p := X.1) (l := X.2.1) (e := X.2.2.1) (R := X.2.2.2.1) (s := X.2.2.2.2.1) (m := X.2.2.2.2.2.1) (args := X.2.2.2.2.2.2.1) (below := X.2.2.2.2.2.2.2.1) (meth := X.2.2.2.2.2.2.2.2.1) (c := X.2.2.2.2.2.2.2.2.2) (H := H) (locs := locs) (cells := kc) (slots := ks) ⟨hC.1, hC.2.1, hC.2.2.1, hC.2.2.2.1, hC.2.2.2.2.1⟩ hM ⟨callB_of n hC.2.2.2.2.1 (jws_good hy.1) rfl rfl rfl (hC.2.2.2.2.1 _ hy.2.1) (hC.2.2.2.2.1 _ hw) hy.2.2.1 hR, hC.2.2.2.2.1 _ hy.2.2.2.1, hC.2.2.2.2.1 _ hy.2.2.2.2⟩ ⟨jPx_blind, by
    have h := va_recv hC.2.2.2.2.2.1 hP hq ((jW_get G L μ ha.1).trans (by rw [jE_obj ha.2 hlt]))
    rw [hcl] at h
    exact h, j_prex hC h5 hP hD hS⟩ rfl hn hl.1 hst (lv_room hrm) hd hR2
  have hS2 : ∀ {t T' : State} {L' : List Loc} {s0 : State}, s0.heap = H → T'.heap = t.heap → va_F (jA G) s0 t → (∀ q ∈ L', jA G q.base) → va_S (jA G) X.2.2.2.2.1.heap T'.heap (locs ++ L') := fun {t T' L' s0} h0 e1 hF hL => by
    have hz : H.size ≤ t.heap.size := by rw [← h0]; exact hF.1
    have hk : ∀ q : Nat, q < H.size → ¬ jA G q → t.heap[q]? = H[q]? := by rw [← h0]; exact hF.2
    exact ⟨Nat.le_trans hS.1 (by rw [e1]; exact hz), fun q h1 h2 => by rw [e1, hk q (Nat.lt_of_lt_of_le h1 hS.1) h2]; exact hS.2.1 q h1 h2, fun q hq => by
      rcases List.mem_append.mp hq with h | h
      · exact hS.2.2 q h
      · exact hL q h⟩
  rcases hrun T hT Xs with ⟨v, s0, t, T', L', h0, X', hL, e1, e2, ⟨⟨v', hv, ho⟩, hwd, hF⟩, stp⟩ | ⟨q, s0, t, T', L', E, ce, h0, X', hL, e1, e2, ⟨rfl, hw0, hP1, hD1, hF⟩, hce, hcv1, hcl1, stp⟩
  · cases ho
    obtain ⟨t2, a1, b1⟩ := k1 v' hv T'.heap (locs ++ L') ls (by rw [e1]; exact hwd.1) hwd.2.1 (hS2 h0 e1 hF hL) hl T' rfl X'
    exact ⟨t2, stp t2 a1, b1⟩
  · have hc : (Cond.castable nse nse).before X.2.2.2.2.2.2.1 X.2.2.2.2.1 = true := va_Nw.use rfl (h5.1 _ (by unfold vxw; exact List.mem_cons_of_mem _ (List.mem_cons_of_mem _ (List.mem_cons_of_mem _ List.mem_cons_self))))
    have hkk := k2 hw0 q T'.heap (locs ++ L') ls (by rw [e1]; exact hP1) hD1 (hS2 h0 e1 hF hL) hl
    obtain ⟨t2, a1, b1⟩ := vx_catch (pc := pc) (rest := st) (own := own) (name := nse) (E := nse) (ce := ce) (q := q) hC.2.2.2.1 [] ⟨fr, to, hp, ct⟩ [] htb (fun z hz => nomatch hz) hcv hct (hC.2.2.2.2.1 _ hlk) hc (by rw [e1]; exact hce) hcv1 hcl1 hkk T' rfl X'
    exact ⟨t2, stp.trans a1, b1⟩
end JCatch
/-- the law's own helpers: they catch -/
def jCH (l : Launch) (G : jG) (L : jL) (dep : Nat) (y : MethodName) (cc : ByteArray) (nL : Nat) (rt : Option FieldType) (hh : List (Nat × Nat × Nat × Nat)) (av : List Value) (μ : jM) (r : Value) (μ' : jM) : Prop :=
  Met l y (.codeWith y cc nL rt hh :: tblG) (jrm dep 1 6) (va_Pc av (jWx G L μ)) (jQ G L (some r) μ') 1 6 (jA G)
theorem jCH_of {l : Launch} {G : jG} {L : jL} {dep : Nat} {y : MethodName} {cc : ByteArray} {nL : Nat} {rt : Option FieldType} {hh : List (Nat × Nat × Nat × Nat)} {av : List Value} {μ : jM} {r : Value} {μ' : jM} (hy : plainName y.cls = true) (hlen : (lg_sl av).length ≤ nL)
    (body : ∀ X : jX, jC X G cc nL y.cls rt → X.2.1 = l → X.2.2.2.1 = jrm dep 1 6 → jT5 G X.2.2.2.2.1 → X.2.2.2.2.2.2.2.2.2.exceptionTable.toList = tableOf hh → jJ X G nL L 0 0 (jQM X G L (some r) μ' 1 6) 0 (lv_args 0 av) [] μ) : jCH l G L dep y cc nL rt hh av μ r μ' := by
  unfold jCH Met
  refine MetFree.of_bodyS (code := cc) (maxLocals := nL) (ret := rt) hy ?_ ?_
  · intro args s m h hn
    obtain ⟨m9, meth, c, hn9, h1, h2, h3, h4, -, h5, h6, -⟩ := Cond.codeWith_spec (atoms_spec (ws := .codeWith y cc nL rt hh :: tblG) h _ List.mem_cons_self)
    cases hn.symm.trans hn9
    exact ⟨meth, c, h1, h2, h3, h4, h5, h6⟩
  · intro p e s m args below meth c s₁ B hml hv _
    have hh0 : s₁.heap = s.heap := by rw [B.state]; rfl
    obtain ⟨rfl, ⟨hP, hD, hK, hsz, hz⟩, h5⟩ := hv
    have hl := lv_entry av (n := nL) hlen
    have hts := atoms_spec (ws := .codeWith y cc nL rt hh :: tblG) B.pre
    have hb := body (p, l, e, jrm dep 1 6, s, m, av.toArray, below, meth, c) ⟨B.exec, B.bytes, hml, findClass_of_methodNamed B.named, fun w h => hts w (List.mem_cons_of_mem _ h), hK, fun q h => Nat.le_trans hsz h, B.returns, B.notSynchronized, hz⟩ rfl rfl h5 (vx_table (x := y) (l := l) B (hts _ List.mem_cons_self)) s.heap [] _ hP hD va_S.rf hl
    rw [← lg_entry_eq] at hb
    obtain ⟨t, a1, o, b1, b2, b3⟩ := hb s₁ hh0 (Stand.of_body B)
    exact ⟨t, o, a1, b1, b2, ⟨b3.1, b3.2⟩⟩
