def jWz (G : jG) (L : jL) (μ : jM) (U : State) : Prop := jWd G L μ U ∧ jT6 U
theorem jPz_blind {G : jG} {L : jL} {μ : jM} {av : List Value} : FrameBlind (va_Pc av (jWz G L μ)) := fun a U g mk h => ⟨h.1, ⟨h.2.1.1, h.2.1.2.1, va_K.moved (u := U) (U := U.calling g mk a) (Vm.Alike.refl U.vm) h.2.1.2.2.1, h.2.1.2.2.2.1, jS.same (u := U) (U := U.calling g mk a) rfl rfl h.2.1.2.2.2.2⟩, jT6.moved (u := U) (U := U.calling g mk a) (Vm.Alike.refl U.vm) h.2.2⟩
def jQI (G : jG) (ad : Nat → Nat) (n : Nat) (Z' : List jc) (μ' : jM) (cs' : List Nat) : Array Value → State → Outcome → State → Prop := fun _ st o t => o = .returned none ∧ (∃ ad' : Nat → Nat, (∀ a, a < n → ad' a = ad a) ∧ zK Z' cs' ∧ jWd G (jLf Z' ad') μ' t) ∧ va_F (jA G) st t
def jCI (l : Launch) (G : jG) (dep : Nat) (y : MethodName) (cc : ByteArray) (nL mc ms : Nat) (Z : List jc) (ad : Nat → Nat) (av : List Value) (μ : jM) (Z' : List jc) (μ' : jM) (cs' : List Nat) : Prop :=
  Met l y (.code y cc nL none :: tblG) (jrm dep mc ms) (va_Pc av (jWz G (jLf Z ad) μ)) (jQI G ad Z.length Z' μ' cs') mc ms (jA G)
def jMI (X : jX) (G : jG) (ad : Nat → Nat) (n : Nat) (Z' : List jc) (μ' : jM) (cs' : List Nat) (mc ms : Nat) : State → Prop := MQ X.2.2.2.2.2.2.2.1 (jQI G ad n Z' μ' cs') X.2.2.2.2.2.2.1 X.2.2.2.2.1 mc ms (jA G)
theorem jCI_of {l : Launch} {G : jG} {dep : Nat} {y : MethodName} {cc : ByteArray} {nL mc ms : Nat} {Z : List jc} {ad : Nat → Nat} {av : List Value} {μ : jM} {Z' : List jc} {μ' : jM} {cs' : List Nat} (hy : plainName y.cls = true) (hyn : y.name = "<init>") (hlen : (lg_sl av).length ≤ nL)
    (body : ∀ X : jX, jC X G cc nL y.cls none → X.2.1 = l → X.2.2.2.1 = jrm dep mc ms → jT6 X.2.2.2.2.1 → X.2.2.2.2.2.2.2.2.1.name = "<init>" → jJ X G nL (jLf Z ad) 0 0 (jMI X G ad Z.length Z' μ' cs' mc ms) 0 (lv_args 0 av) [] μ) : jCI l G dep y cc nL mc ms Z ad av μ Z' μ' cs' := by
  refine Met.ofW (cc := cc) (maxL := nL) (ret := none) hy rfl ?_
  intro p e s m args below meth c s₁ B hml hv
  obtain ⟨rfl, ⟨hP, hD, hK, hsz, hz⟩, h6⟩ := hv
  have hl := lv_entry av (n := nL) hlen
  rw [lg_entry_eq]
  have hts := atoms_spec (ws := .code y cc nL none :: tblG) B.pre
  exact body (p, l, e, jrm dep mc ms, s, m, av.toArray, below, meth, c) ⟨B.exec, B.bytes, hml, findClass_of_methodNamed B.named, fun w h => hts w (List.mem_cons_of_mem _ h), hK, fun q h => Nat.le_trans hsz h, B.returns, B.notSynchronized, hz⟩ rfl rfl h6 ((name_of_methodNamed B.named B.method).1.trans hyn) s.heap [] _ hP hD va_S.rf hl
def jMi (y : MethodName) (cc : ByteArray) (nL n : Nat) : Prop := Cond.code y cc nL none ∈ tblG ∧ Cond.initialized y.cls ∈ tblG ∧ (y.cls ≠ "java/lang/invoke/MethodHandle" ∧ y.cls ≠ "java/lang/invoke/VarHandle" ∧ (parseMethodDescriptor y.desc).map (fun d => d.parameters.length) = some n) ∧ Cond.instanceMethod y ∈ tblG ∧ y.name = "<init>"
section JCtor
variable {X : jX} {G : jG} {nL : Nat} {kc ks : Nat} {Q : State → Prop} {pc : Nat} {lv : List (Nat × Value)} {st st0 : List Value} {μ μ2 : jM} {cc : ByteArray} {own : String} {rt : Option FieldType} {Z Z' : List jc} {ad : Nat → Nat} {cs' : List Nat}
theorem j_vretI (hC : jC X G cc nL own rt) {ad0 : Nat → Nat} {n mc ms : Nat} {Zf : List jc} {μf : jM} (hd : decode cc pc = .ok (.return_, 1)) (hr : rt = none) (hA : ∀ a, a < n → ad a = ad0 a) (hz : zK Z cs') (hZ : Z = Zf) (hμ : μ = μf) : jJ X G nL (jLf Z ad) mc ms (jMI X G ad0 n Zf μf cs' mc ms) pc lv [] μ := fun H locs ls hP hD hS hl => by
  subst hZ
  subst hμ
  exact W.vret hC.1 hC.2.1 (hC.2.2.2.2.2.2.2.1.trans hr) (fun t ht hW => ⟨rfl, ⟨ad, hA, hz, jWd_end hP hD hS hC.2.2.2.2.2.1 hC.2.2.2.2.2.2.1 hC.2.2.2.2.2.2.2.2.2 ht hW⟩, hS.F ht⟩) (fun q hq => hS.2.2 q hq) hd hC.2.2.2.2.2.2.2.2.1
theorem j_prez (hC : jC X G cc nL own rt) (h6 : jT6 X.2.2.2.2.1) {L : jL} {av : List Value} {H : Heap} {locs : List Loc} (hP : va_P G.2.1 vwCl (jW G L μ) H) (hD : va_D (jA G) (jW G L μ)) (hS : va_S (jA G) X.2.2.2.2.1.heap H locs) : ∀ U : State, U.heap = H → X.2.2.2.2.1.WarmedH U.vm → va_Pc av (jWz G L μ) av.toArray U := fun U hU hW =>
  ⟨rfl, jWd_end hP hD hS hC.2.2.2.2.2.1 hC.2.2.2.2.2.2.1 hC.2.2.2.2.2.2.2.2.2 hU hW, h6.moved hW.alike⟩
theorem j_runI {a : Array Value} {mc ms n : Nat}
    (hr : ∀ (H : Heap) (locs : List Loc) (ls : Array Slot), va_P G.2.1 vwCl (jW G (jLf Z ad) μ) H → va_D (jA G) (jW G (jLf Z ad) μ) → va_S (jA G) X.2.2.2.2.1.heap H locs → lv_has ls nL lv → va_Run X.1 X.2.1 X.2.2.1 X.2.2.2.1 X.2.2.2.2.1 X.2.2.2.2.2.1 X.2.2.2.2.2.2.1 X.2.2.2.2.2.2.2.1 X.2.2.2.2.2.2.2.2.1 X.2.2.2.2.2.2.2.2.2 H locs kc ks mc ms (F0 X.2.2.2.2.2.1 pc ls st0) st (jQI G ad n Z' μ2 cs' a) (jA G))
    (kk : ∀ ad' : Nat → Nat, (∀ a, a < n → ad' a = ad a) → zK Z' cs' → jJ X G nL (jLf Z' ad') (kc + mc) (ks + ms) Q (pc + 3) lv st μ2) : jJ X G nL (jLf Z ad) kc ks Q pc lv st0 μ := by
  intro H locs ls hP hD hS hl T hT Xs
  obtain ⟨v, s0, t, T', L', h0, X', hL, e1, e2, ⟨hv, ⟨ad', hA, hz, hw⟩, hF⟩, stp⟩ := hr H locs ls hP hD hS hl T hT Xs
  cases hv
  have hz1 : H.size ≤ t.heap.size := by rw [← h0]; exact hF.1
  have hk : ∀ q : Nat, q < H.size → ¬ jA G q → t.heap[q]? = H[q]? := by rw [← h0]; exact hF.2
  have hS' : va_S (jA G) X.2.2.2.2.1.heap T'.heap (locs ++ L') := ⟨Nat.le_trans hS.1 (by rw [e1]; exact hz1), fun q h1 h2 => by rw [e1, hk q (Nat.lt_of_lt_of_le h1 hS.1) h2]; exact hS.2.1 q h1 h2, fun q hq => by
    rcases List.mem_append.mp hq with h | h
    · exact hS.2.2 q h
    · exact hL q h⟩
  obtain ⟨t2, a1, b1⟩ := kk ad' hA hz T'.heap (locs ++ L') ls (by rw [e1]; exact hw.1) hw.2.1 hS' hl T' rfl X'
  exact ⟨t2, stp t2 a1, b1⟩
theorem j_ctor (hC : jC X G cc nL own rt) (h6 : jT6 X.2.2.2.2.1) {y : MethodName} {bytes : ByteArray} {maxL n index q dep mc ms nz : Nat} (As : List Value) (hM : jCI X.2.1 G dep y bytes maxL mc ms Z ad (.ref q :: As) μ Z' μ2 cs') (hy : jMi y bytes maxL n) (hw : Cond.methodLink own index y ∈ tblG) (hd : decode cc pc = .ok (.invokespecial index, 3)) (hn : As.length = n) (hrm : (st.map fun v => v.category).sum ≤ 8) (hR : dep + 1 ≤ X.2.2.2.1.frames ∧ 8 + (maxL + 11) + 128 * dep ≤ X.2.2.2.1.locals) (hR2 : kc + mc ≤ X.2.2.2.1.cells ∧ ks + ms ≤ X.2.2.2.1.slots) (hst : st0 = As.reverse ++ .ref q :: st) (hnz : Z.length = nz)
    (kk : ∀ ad' : Nat → Nat, (∀ a, a < nz → ad' a = ad a) → zK Z' cs' → jJ X G nL (jLf Z' ad') (kc + mc) (ks + ms) Q (pc + 3) lv st μ2) : jJ X G nL (jLf Z ad) kc ks Q pc lv st0 μ := by
  subst hnz
  refine j_runI (a := (Value.ref q :: As).toArray) (fun H locs ls hP hD hS hl => ?_) kk
  exact va_runI (Ts := tblG) (rest := st) (As := As) ⟨hC.1, hC.2.1, hC.2.2.1, hC.2.2.2.1, hC.2.2.2.2.1⟩ hM ⟨callB_of n hC.2.2.2.2.1 (jws_good hy.1) rfl rfl rfl (hC.2.2.2.2.1 _ hy.2.1) (hC.2.2.2.2.1 _ hw) hy.2.2.1 hR, hy.2.2.2.2, hC.2.2.2.2.1 _ hy.2.2.2.1⟩ ⟨jPz_blind, j_prez hC h6 hP hD hS⟩ rfl hn hl.1 hst (lv_room hrm) hd hR2
theorem j_ctorN (hC : jC X G cc nL own rt) (h6 : jT6 X.2.2.2.2.1) {y : MethodName} {bytes : ByteArray} {maxL n index q dep mc ms nz : Nat} {host : String} (As : List Value) (hM : jCI X.2.1 G dep y bytes maxL mc ms Z ad (.ref q :: As) μ Z' μ2 cs') (hy : jMi y bytes maxL n) (hw : (own, index, y, host) ∈ jnest) (hd : decode cc pc = .ok (.invokespecial index, 3)) (hn : As.length = n) (hrm : (st.map fun v => v.category).sum ≤ 8) (hR : dep + 1 ≤ X.2.2.2.1.frames ∧ 8 + (maxL + 11) + 128 * dep ≤ X.2.2.2.1.locals) (hR2 : kc + mc ≤ X.2.2.2.1.cells ∧ ks + ms ≤ X.2.2.2.1.slots) (hst : st0 = As.reverse ++ .ref q :: st) (hnz : Z.length = nz)
    (kk : ∀ ad' : Nat → Nat, (∀ a, a < nz → ad' a = ad a) → zK Z' cs' → jJ X G nL (jLf Z' ad') (kc + mc) (ks + ms) Q (pc + 3) lv st μ2) : jJ X G nL (jLf Z ad) kc ks Q pc lv st0 μ := by
  subst hnz
  refine j_runI (a := (Value.ref q :: As).toArray) (fun H locs ls hP hD hS hl => ?_) kk
  exact va_runIN (Ts := tblG) (rest := st) (As := As) ⟨hC.1, hC.2.1, hC.2.2.1, hC.2.2.2.1, hC.2.2.2.2.1⟩ hM ⟨va_cnB n hC.2.2.2.2.1 (jws_good hy.1) rfl rfl rfl (hC.2.2.2.2.2.2.2.2.2.1 _ hw) (hC.2.2.2.2.1 _ hy.2.1) hy.2.2.1 hR, hy.2.2.2.2, hC.2.2.2.2.1 _ hy.2.2.2.1⟩ ⟨jPz_blind, j_prez hC h6 hP hD hS⟩ rfl hn hl.1 hst (lv_room hrm) hd hR2
end JCtor
/-! Arrays.fill of five ints with 63 -/
def f63 (μ : jM) (a : Nat) : jM := jsi (jsi (jsi (jsi (jsi μ a 0 63) a 1 63) a 2 63) a 3 63) a 4 63
theorem fl_fill {cs : List Nat} {a : Nat} : f63 (fl cs) a = fl (cs ++ [a]) := by
  have h : (f63 (fl cs) a).1 = (fl (cs ++ [a])).1 := by
    funext c k
    by_cases hc : c = a
    · subst hc
      have e : (fl (cs ++ [c])).1 c k = if k < 5 then 63 else 0 := by
        show (if c ∈ cs ++ [c] ∧ k < 5 then (63 : Int32) else 0) = _
        by_cases hk : k < 5
        · rw [if_pos ⟨List.mem_append_right _ List.mem_cons_self, hk⟩, if_pos hk]
        · rw [if_neg (fun q => hk q.2), if_neg hk]
      rw [e]
      have e5 : ¬ k < 5 → (fl cs).1 c k = 0 := fun hk => by
        show (if c ∈ cs ∧ k < 5 then (63 : Int32) else 0) = 0
        rw [if_neg (fun q => hk q.2)]
      unfold f63 jsi
      simp only [va_up, upd, if_true]
      by_cases hk : k < 5
      · rw [if_pos hk]
        rcases (show k = 0 ∨ k = 1 ∨ k = 2 ∨ k = 3 ∨ k = 4 by omega) with rfl | rfl | rfl | rfl | rfl <;> simp
      · rw [if_neg hk, if_neg (by omega), if_neg (by omega), if_neg (by omega), if_neg (by omega), if_neg (by omega)]
        exact e5 hk
    · have e : (f63 (fl cs) a).1 c k = (fl cs).1 c k := by
        unfold f63 jsi
        simp only [va_up, if_neg hc]
      rw [e]
      show (if c ∈ cs ∧ k < 5 then (63 : Int32) else 0) = (if c ∈ cs ++ [a] ∧ k < 5 then (63 : Int32) else 0)
      have e2 : (c ∈ cs ++ [a]) = (c ∈ cs) := by simp [hc]
      simp only [e2]
  exact Prod.ext h rfl
set_option maxHeartbeats 1000000 in
theorem c_fill5 {l : Launch} {G : jG} {L : jL} {a : Nat} (ka : jK L a 13) (hn : (L.2.1 a).2.1 = 5) {μ : jM} : jCt l G L 3 yJ7_fill_53178 cJ7_fill_53178 4 none [.ref (L.2.2 a), .int 63] μ none (f63 μ a) := by
  refine jCt_of (by decide) (Nat.le_of_ble_eq_true rfl) (fun X hC hX hR => ?_)
  subst hX
  have hC : jC X G cJ7_fill_53178 4 RJ7 none := hC
  refine j_iconst (pc := 0) hC (0 : Int32) dJ7_fill_53178_0 (by decide) ?_
  refine j_istore_n (pc := 1) hC 2 [(2, .int (0 : Int32)), (0, .ref (L.2.2 a)), (1, .int 63)] dJ7_fill_53178_1 rfl (by decide) rfl rfl ?_
  refine j_aload_n (pc := 2) hC 0 1 dJ7_fill_53178_2 rfl rfl ?_
  refine j_alen (pc := 3) hC 0 dJ7_fill_53178_3 ka rfl (by decide) hn ?_
  refine j_istore_n (pc := 4) hC 3 [(3, .int (nI 5)), (2, .int (0 : Int32)), (0, .ref (L.2.2 a)), (1, .int 63)] dJ7_fill_53178_4 rfl (by decide) rfl rfl ?_
  have step : ∀ (x : Int32) (i : Nat) (μ1 : jM), x.toNatClampNeg = i → x < nI 5 → vp_in x 5 → jJ X G 4 L 0 0 (jQM X G L none (f63 μ a) 0 0) 5 [(2, .int (x + 1)), (0, .ref (L.2.2 a)), (1, .int 63), (3, .int (nI 5))] [] (jsi μ1 a i 63) → jJ X G 4 L 0 0 (jQM X G L none (f63 μ a) 0 0) 5 [(2, .int x), (0, .ref (L.2.2 a)), (1, .int 63), (3, .int (nI 5))] [] μ1 := by
    intro x i μ1 hi hx hv kk
    refine j_iload_n (pc := 5) hC 2 0 dJ7_fill_53178_5 rfl rfl ?_
    refine j_iload_n (pc := 6) hC 3 3 dJ7_fill_53178_6 rfl rfl ?_
    refine j_icmp_ge (pc := 7) hC 20 dJ7_fill_53178_7 (by decide) (fun c => absurd hx (Int32.not_lt.mpr c)) (fun c => ?_)
    refine j_aload_n (pc := 10) hC 0 1 dJ7_fill_53178_10 rfl rfl ?_
    refine j_iload_n (pc := 11) hC 2 0 dJ7_fill_53178_11 rfl rfl ?_
    refine j_iload_n (pc := 12) hC 1 2 dJ7_fill_53178_12 rfl rfl ?_
    refine j_iast (pc := 13) hC dJ7_fill_53178_13 ka hn hv (μ1 := jsi μ1 a i 63) (by rw [hi]) ?_
    refine j_iinc (pc := 14) hC 0 (x + 1) [(2, .int (x + 1)), (0, .ref (L.2.2 a)), (1, .int 63), (3, .int (nI 5))] dJ7_fill_53178_14 rfl rfl (by decide) rfl ?_
    exact j_goto (pc := 17) hC 5 dJ7_fill_53178_17 (by decide) kk
  refine j_lv [1, 2, 3, 0] rfl ?_
  refine step 0 0 μ (by decide) (by decide) (by unfold vp_in; decide) ?_
  refine step 1 1 _ (by decide) (by decide) (by unfold vp_in; decide) ?_
  refine step 2 2 _ (by decide) (by decide) (by unfold vp_in; decide) ?_
  refine step 3 3 _ (by decide) (by decide) (by unfold vp_in; decide) ?_
  refine step 4 4 _ (by decide) (by decide) (by unfold vp_in; decide) ?_
  refine j_iload_n (pc := 5) hC 2 0 dJ7_fill_53178_5 rfl rfl ?_
  refine j_iload_n (pc := 6) hC 3 3 dJ7_fill_53178_6 rfl rfl ?_
  refine j_icmp_ge (pc := 7) hC 20 dJ7_fill_53178_7 (by decide) (fun c => ?_) (fun c => absurd (show nI 5 ≤ 4 + 1 by decide) c)
  exact j_vret (pc := 20) hC dJ7_fill_53178_20 rfl
