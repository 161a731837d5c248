section JHeap
variable {X : jX} {G : jG} {nL : Nat} {L : jL} {kc ks : Nat} {Q : State → Prop} {pc : Nat} {lv : List (Nat × Value)} {st : List Value} {μ : jM} {cc : ByteArray} {own : String} {rt : Option FieldType}
/-- getfield of an int -/
theorem j_geti (hC : jC X G cc nL own rt) {C : String} {T : u_T} {N ci index a : Nat} (k : Nat) (hin : ∀ w ∈ u_ws C T N, w ∈ tblG) (hc : vwCl[ci]? = some (C, T, N)) (hk : k < N) (hr : (jRefs.getD ci [])[k]? = some false) (hlt : ci < 13)
    (hw : Cond.fieldLink own index (T k).1 (T k).2.1 (T k).2.2.1 ∈ tblG) (hd : decode cc pc = .ok (.getfield index, 3)) (ha : jK L a ci)
    (kk : jJ X G nL L kc ks Q (pc + 3) lv (.int (μ.1 a k) :: st) μ) : jJ X G nL L kc ks Q pc lv (.ref (L.2.2 a) :: st) μ := fun H locs ls hP hD hS hl =>
  va_get hC.1 hC.2.1 hC.2.2.2.2.1 hin hC.2.2.2.1 hC.2.2.2.2.2.1 hP a ((jW_get G L μ ha.1).trans (by rw [jE_obj ha.2 hlt])) hc k hk (hC.2.2.2.2.1 _ hw) (fun _ h => h) ((jFs_get ha.2 hr).trans (by rfl)) hd (kk H locs ls hP hD hS hl)
/-- getfield of a reference -/
theorem j_getr (hC : jC X G cc nL own rt) {C : String} {T : u_T} {N ci index a b : Nat} (k : Nat) (hin : ∀ w ∈ u_ws C T N, w ∈ tblG) (hc : vwCl[ci]? = some (C, T, N)) (hk : k < N) (hr : (jRefs.getD ci [])[k]? = some true) (hlt : ci < 13)
    (hw : Cond.fieldLink own index (T k).1 (T k).2.1 (T k).2.2.1 ∈ tblG) (hd : decode cc pc = .ok (.getfield index, 3)) (ha : jK L a ci) (hb : (L.2.1 a).2.2 k = some b)
    (kk : jJ X G nL L kc ks Q (pc + 3) lv (.ref (L.2.2 b) :: st) μ) : jJ X G nL L kc ks Q pc lv (.ref (L.2.2 a) :: st) μ := fun H locs ls hP hD hS hl =>
  va_get hC.1 hC.2.1 hC.2.2.2.2.1 hin hC.2.2.2.1 hC.2.2.2.2.2.1 hP a ((jW_get G L μ ha.1).trans (by rw [jE_obj ha.2 hlt])) hc k hk (hC.2.2.2.2.1 _ hw) (fun _ h => h) ((jFs_get ha.2 hr).trans (by simp [jV, hb, va_rf])) hd (kk H locs ls hP hD hS hl)
/-- putfield of an int -/
theorem j_puti (hC : jC X G cc nL own rt) {C : String} {T : u_T} {N ci index a : Nat} {v : Int32} (k : Nat) (hin : ∀ w ∈ u_ws C T N, w ∈ tblG) (ty0 : Nat → FieldType) (hty : ∀ k, k < N → parseFieldDescriptor (T k).2.2.1 = some (ty0 k)) (hnm : ∀ a, a < N → ∀ b, b < N → a ≠ b → (T a).2.1 ≠ (T b).2.1) (hc : vwCl[ci]? = some (C, T, N)) (hk : k < N) (hr : (jRefs.getD ci [])[k]? = some false) (hlt : ci < 13)
    (hw : Cond.fieldLink own index (T k).1 (T k).2.1 (T k).2.2.1 ∈ tblG) (hd : decode cc pc = .ok (.putfield index, 3)) (hfin : (T k).2.2.2 = false) (hty1 : parseFieldDescriptor (T k).2.2.1 = some .int) (ha : jK L a ci)
    {μ1 : jM} (hμ : μ1 = jsi μ a k v) (kk : jJ X G nL L kc ks Q (pc + 3) lv st μ1) : jJ X G nL L kc ks Q pc lv (.int v :: .ref (L.2.2 a) :: st) μ := fun H locs ls hP hD hS hl => by
  subst hμ
  have hl0 : k < (jFs L μ a).length := (List.getElem?_eq_some_iff.mp (jFs_get (μ := μ) ha.2 hr)).1
  have e : (jW G L μ).set a (L.2.2 a, .inr (ci, (jFs L μ a).set k (.int v))) = jW G L (jsi μ a k v) := jW_set G L μ (jsi μ a k v) (by rw [jE_obj ha.2 hlt, jFs_set ha.2 hr]) (fun c h => jE_ne_i h)
  refine va_put hC.1 hC.2.1 hC.2.2.2.2.1 hin ty0 hty hnm hC.2.2.2.1 hC.2.2.2.2.2.1 hP hD hS a ((jW_get G L μ ha.1).trans (by rw [jE_obj ha.2 hlt])) hc k hk (hC.2.2.2.2.1 _ hw) (fun _ h => h) hfin hty1 rfl rfl hl0 hd (fun H1 locs1 hP1 hD1 hS1 => ?_)
  rw [e] at hP1 hD1
  exact kk H1 locs1 ls hP1 hD1 hS1 hl
theorem j_iald (hC : jC X G cc nL own rt) {a n : Nat} {i : Int32} {v : Int32} (hd : decode cc pc = .ok (.iaload, 1)) (ha : jK L a 13) (hn : (L.2.1 a).2.1 = n) (hin : vp_in i n) (hv : v = μ.1 a i.toNatClampNeg)
    (kk : jJ X G nL L kc ks Q (pc + 1) lv (.int v :: st) μ) : jJ X G nL L kc ks Q pc lv (.int i :: .ref (L.2.2 a) :: st) μ := by
  subst hv
  exact fun H locs ls hP hD hS hl =>
  va_iald hC.1 hC.2.1 hC.2.2.2.2.2.1 hP a 0 ((jW_get G L μ ha.1).trans (by rw [jE_int ha.2 hn])) rfl hin hd (kk H locs ls hP hD hS hl)
theorem j_zald (hC : jC X G cc nL own rt) {a n : Nat} {i : Int32} {v : Int32} (hd : decode cc pc = .ok (.baload, 1)) (ha : jK L a 15) (hn : (L.2.1 a).2.1 = n) (hin : vp_in i n) (hv : v = μ.1 a i.toNatClampNeg)
    (kk : jJ X G nL L kc ks Q (pc + 1) lv (.int v :: st) μ) : jJ X G nL L kc ks Q pc lv (.int i :: .ref (L.2.2 a) :: st) μ := by
  subst hv
  exact fun H locs ls hP hD hS hl =>
  va_zald hC.1 hC.2.1 hC.2.2.2.2.2.1 hP a 2 ((jW_get G L μ ha.1).trans (by rw [jE_bool ha.2 hn])) rfl hin hd (kk H locs ls hP hD hS hl)
theorem j_lald (hC : jC X G cc nL own rt) {a n : Nat} {i : Int32} {v : Int64} (hd : decode cc pc = .ok (.laload, 1)) (ha : jK L a 14) (hn : (L.2.1 a).2.1 = n) (hin : vp_in i n) (hv : v = μ.2 a i.toNatClampNeg)
    (kk : jJ X G nL L kc ks Q (pc + 1) lv (.long v :: st) μ) : jJ X G nL L kc ks Q pc lv (.int i :: .ref (L.2.2 a) :: st) μ := by
  subst hv
  exact fun H locs ls hP hD hS hl =>
  va_lald hC.1 hC.2.1 hC.2.2.2.2.2.1 hP a 1 ((jW_get G L μ ha.1).trans (by rw [jE_long ha.2 hn])) rfl hin hd (kk H locs ls hP hD hS hl)
/-- aaload of an array of objects: kind k 16 or 17, its place t in jT -/
theorem j_aald (hC : jC X G cc nL own rt) {a n b k : Nat} {i : Int32} (t : Nat) {D : String} (hd : decode cc pc = .ok (.aaload, 1)) (ht : (jT G)[t]? = some (G.2.2.1 k, .object D)) (hk : 16 ≤ k) (ha : jK L a k) (hn : (L.2.1 a).2.1 = n) (hin : vp_in i n) (hb : (L.2.1 a).2.2 i.toNatClampNeg = some b)
    (kk : jJ X G nL L kc ks Q (pc + 1) lv (.ref (L.2.2 b) :: st) μ) : jJ X G nL L kc ks Q pc lv (.int i :: .ref (L.2.2 a) :: st) μ := fun H locs ls hP hD hS hl =>
  va_aldq hC.1 hC.2.1 hC.2.2.2.2.2.1 hP a t ((jW_get G L μ ha.1).trans (by rw [jE_ref ha.2 hk hn])) ht hin hd (by simp only [hb, Option.map_some, va_rf]; exact kk H locs ls hP hD hS hl)
theorem j_iast (hC : jC X G cc nL own rt) {a n : Nat} {i x : Int32} (hd : decode cc pc = .ok (.iastore, 1)) (ha : jK L a 13) (hn : (L.2.1 a).2.1 = n) (hin : vp_in i n)
    {μ1 : jM} (hμ : μ1 = jsi μ a i.toNatClampNeg x) (kk : jJ X G nL L kc ks Q (pc + 1) lv st μ1) : jJ X G nL L kc ks Q pc lv (.int x :: .int i :: .ref (L.2.2 a) :: st) μ := fun H locs ls hP hD hS hl => by
  subst hμ
  have e : (jW G L μ).set a (L.2.2 a, .inl (G.2.2.1 13, n, .inl (upd (μ.1 a) i.toNatClampNeg x))) = jW G L (jsi μ a i.toNatClampNeg x) := jW_set G L μ (jsi μ a i.toNatClampNeg x) (by rw [jE_int ha.2 hn]; simp [jsi, va_up]) (fun c h => jE_ne_i h)
  refine va_iast hC.1 hC.2.1 hC.2.2.2.2.2.1 hP hD hS a 0 ((jW_get G L μ ha.1).trans (by rw [jE_int ha.2 hn])) rfl hin hd (fun H1 locs1 hP1 hD1 hS1 => ?_)
  rw [e] at hP1 hD1
  exact kk H1 locs1 ls hP1 hD1 hS1 hl
theorem j_zast (hC : jC X G cc nL own rt) {a n : Nat} {i x : Int32} (hd : decode cc pc = .ok (.bastore, 1)) (ha : jK L a 15) (hn : (L.2.1 a).2.1 = n) (hin : vp_in i n) (hx : vp_nar .boolean x = x)
    {μ1 : jM} (hμ : μ1 = jsi μ a i.toNatClampNeg x) (kk : jJ X G nL L kc ks Q (pc + 1) lv st μ1) : jJ X G nL L kc ks Q pc lv (.int x :: .int i :: .ref (L.2.2 a) :: st) μ := fun H locs ls hP hD hS hl => by
  subst hμ
  have e : (jW G L μ).set a (L.2.2 a, .inl (G.2.2.1 15, n, .inl (upd (μ.1 a) i.toNatClampNeg x))) = jW G L (jsi μ a i.toNatClampNeg x) := jW_set G L μ (jsi μ a i.toNatClampNeg x) (by rw [jE_bool ha.2 hn]; simp [jsi, va_up]) (fun c h => jE_ne_i h)
  refine va_zast hC.1 hC.2.1 hC.2.2.2.2.2.1 hP hD hS a 2 ((jW_get G L μ ha.1).trans (by rw [jE_bool ha.2 hn])) rfl hin hd (fun H1 locs1 hP1 hD1 hS1 => ?_)
  rw [hx, e] at hP1 hD1
  exact kk H1 locs1 ls hP1 hD1 hS1 hl
theorem j_last (hC : jC X G cc nL own rt) {a n : Nat} {i : Int32} {x : Int64} (hd : decode cc pc = .ok (.lastore, 1)) (ha : jK L a 14) (hn : (L.2.1 a).2.1 = n) (hin : vp_in i n)
    {μ1 : jM} (hμ : μ1 = jsl μ a i.toNatClampNeg x) (kk : jJ X G nL L kc ks Q (pc + 1) lv st μ1) : jJ X G nL L kc ks Q pc lv (.long x :: .int i :: .ref (L.2.2 a) :: st) μ := fun H locs ls hP hD hS hl => by
  subst hμ
  have e : (jW G L μ).set a (L.2.2 a, .inl (G.2.2.1 14, n, .inr (.inl (vp_updL (μ.2 a) i.toNatClampNeg x)))) = jW G L (jsl μ a i.toNatClampNeg x) := jW_set G L μ (jsl μ a i.toNatClampNeg x) (by rw [jE_long ha.2 hn]; simp [jsl, va_up]) (fun c h => jE_ne_l h)
  refine va_last hC.1 hC.2.1 hC.2.2.2.2.2.1 hP hD hS a 1 ((jW_get G L μ ha.1).trans (by rw [jE_long ha.2 hn])) rfl hin hd (fun H1 locs1 hP1 hD1 hS1 => ?_)
  rw [e] at hP1 hD1
  exact kk H1 locs1 ls hP1 hD1 hS1 hl
theorem j_alen (hC : jC X G cc nL own rt) {a n k : Nat} (t : Nat) {ty : FieldType} (hd : decode cc pc = .ok (.arraylength, 1)) (ha : jK L a k) (ht : (jT G)[t]? = some (G.2.2.1 k, ty)) (hk : 13 ≤ k) (hn : (L.2.1 a).2.1 = n)
    (kk : jJ X G nL L kc ks Q (pc + 1) lv (.int (nI n) :: st) μ) : jJ X G nL L kc ks Q pc lv (.ref (L.2.2 a) :: st) μ := fun H locs ls hP hD hS hl =>
  va_alen hC.1 hC.2.1 hC.2.2.2.2.2.1 hP a t ((jW_get G L μ ha.1).trans (by unfold jE; rw [if_neg (by rw [ha.2]; omega), ha.2])) ht (by rw [hn]; rfl) hd (kk H locs ls hP hD hS hl)
/-- ends -/
theorem j_iret (hC : jC X G cc nL own rt) {v : Int32} (hd : decode cc pc = .ok (.ireturn, 1)) (hr : rt = some .int) : jJ X G nL L kc ks (jQM X G L (some (.int v)) μ kc ks) pc lv [.int v] μ := fun H locs ls hP hD hS hl =>
  W.iret hC.1 hC.2.1 (hC.2.2.2.2.2.2.2.1.trans hr) (fun t ht hW => ⟨rfl, jWd_end hP hD hS hC.2.2.2.2.2.1 hC.2.2.2.2.2.2.1 hC.2.2.2.2.2.2.2.2.2 ht hW, hS.F ht⟩) (fun q hq => hS.2.2 q hq) hd hC.2.2.2.2.2.2.2.2.1
theorem j_zret (hC : jC X G cc nL own rt) {v : Int32} {ty : FieldType} (hd : decode cc pc = .ok (.ireturn, 1)) (hr : rt = some ty) (hn : narrow ty (.int v) = .int v) : jJ X G nL L kc ks (jQM X G L (some (.int v)) μ kc ks) pc lv [.int v] μ := fun H locs ls hP hD hS hl =>
  W.zret hC.1 hC.2.1 (hC.2.2.2.2.2.2.2.1.trans hr) hn (fun t ht hW => ⟨rfl, jWd_end hP hD hS hC.2.2.2.2.2.1 hC.2.2.2.2.2.2.1 hC.2.2.2.2.2.2.2.2.2 ht hW, hS.F ht⟩) (fun q hq => hS.2.2 q hq) hd hC.2.2.2.2.2.2.2.2.1
theorem W_bret {p : Program} {l : Launch} {e : Env} {R : Room} {s : State} {m : MethodId} {args : Array Value} {below : List Frame} {meth : Method} {c : Code} {H : Heap} {locs : List Loc} {cells slots : Nat} {cc : ByteArray} {Qc : Array Value → State → Outcome → State → Prop} {free : Addr → Prop} {v w : Int32} {ty : FieldType} (hexec : p.tables.exec = Jvm.exec) (hb : c.code = cc) (hr : meth.sig.returnType = some ty) (hn : narrow ty (.int v) = .int w)
    (hq : ∀ t : State, t.heap = H → s.WarmedH t.vm → Qc args s (.returned (some (.int w))) t) (hf : ∀ q ∈ locs, free q.base)
    {pc : Nat} {ls : Array Slot} (hdg : decode cc pc = .ok (.ireturn, 1)) (hlocks : meth.locks = false) : W p l e R s m args below meth c H locs cells slots (MQ below Qc args s cells slots free) (F0 m pc ls [.int v]) := by
  intro T hT X
  obtain ⟨fs, hret, hrun, hended, hW, hframe⟩ := X.leave (v := some (.int w)) (fun h => by rw [hr] at h; cases h)
  have hmeth' : T.vm.method? m = some meth := X.method'
  refine ⟨T.setFrames fs, ?_, .returned (some (.int w)), hrun, hended, hq _ hT hW, locs, ⟨⟨_, rfl⟩, hW, hframe⟩, hf⟩
  jvm_step X.here [X.here.top, hexec, hb, hdg, hmeth', hr, hn]
  (try refine ⟨rfl, ?_⟩); (try refine ⟨rfl, ?_⟩)
  first | (intro acts; rw [hret _ acts rfl rfl rfl]) | rw [hret _ _ rfl rfl rfl]
  exact Steps.refl _
theorem j_bret (hC : jC X G cc nL own rt) {v w : Int32} {ty : FieldType} (hd : decode cc pc = .ok (.ireturn, 1)) (hr : rt = some ty) (hn : narrow ty (.int v) = .int w) : jJ X G nL L kc ks (jQM X G L (some (.int w)) μ kc ks) pc lv [.int v] μ := fun H locs ls hP hD hS hl =>
  W_bret hC.1 hC.2.1 (hC.2.2.2.2.2.2.2.1.trans hr) hn (fun t ht hW => ⟨rfl, jWd_end hP hD hS hC.2.2.2.2.2.1 hC.2.2.2.2.2.2.1 hC.2.2.2.2.2.2.2.2.2 ht hW, hS.F ht⟩) (fun q hq => hS.2.2 q hq) hd hC.2.2.2.2.2.2.2.2.1
theorem j_nz (v : Int32) : narrow .boolean (.int v) = .int (v &&& 1) := by rfl
theorem j_vret (hC : jC X G cc nL own rt) (hd : decode cc pc = .ok (.return_, 1)) (hr : rt = none) : jJ X G nL L kc ks (jQM X G L none μ kc ks) pc lv [] μ := fun H locs ls hP hD hS hl =>
  W.vret hC.1 hC.2.1 (hC.2.2.2.2.2.2.2.1.trans hr) (fun t ht hW => ⟨rfl, jWd_end hP hD hS hC.2.2.2.2.2.1 hC.2.2.2.2.2.2.1 hC.2.2.2.2.2.2.2.2.2 ht hW, hS.F ht⟩) (fun q hq => hS.2.2 q hq) hd hC.2.2.2.2.2.2.2.2.1
theorem j_lret (hC : jC X G cc nL own rt) {v : Int64} (hd : decode cc pc = .ok (.lreturn, 1)) (hr : rt = some .long) : jJ X G nL L kc ks (jQM X G L (some (.long v)) μ kc ks) pc lv [.long v] μ := fun H locs ls hP hD hS hl =>
  W.lret hC.1 hC.2.1 (hC.2.2.2.2.2.2.2.1.trans hr) (fun t ht hW => ⟨rfl, jWd_end hP hD hS hC.2.2.2.2.2.1 hC.2.2.2.2.2.2.1 hC.2.2.2.2.2.2.2.2.2 ht hW, hS.F ht⟩) (fun q hq => hS.2.2 q hq) hd hC.2.2.2.2.2.2.2.2.1
end JHeap
/-- a contract out of its body's walk -/
theorem jCt_of {l : Launch} {G : jG} {L : jL} {dep : Nat} {y : MethodName} {cc : ByteArray} {nL : Nat} {rt : Option FieldType} {av : List Value} {μ : jM} {r : Option Value} {μ' : jM} (hy : plainName y.cls = true) (hlen : (lg_sl av).length ≤ nL)
    (body : ∀ X : jX, jC X G cc nL y.cls rt → X.2.1 = l → X.2.2.2.1 = jrm dep 0 0 → jJ X G nL L 0 0 (jQM X G L r μ' 0 0) 0 (lv_args 0 av) [] μ) : jCt l G L dep y cc nL rt av μ r μ' := by
  refine Met.ofW (cc := cc) (maxL := nL) (ret := rt) hy rfl ?_
  intro p e s m args below meth c s₁ B hml hv
  obtain ⟨rfl, hP, hD, hK, hsz, hz⟩ := hv
  have hl := lv_entry av (n := nL) hlen
  rw [lg_entry_eq]
  have hts := atoms_spec (ws := .code y cc nL rt :: tblG) B.pre
  exact body (p, l, e, jrm dep 0 0, s, m, av.toArray, below, meth, c) ⟨B.exec, B.bytes, hml, findClass_of_methodNamed B.named, fun w h => hts w (List.mem_cons_of_mem _ h), hK, fun q h => Nat.le_trans hsz h, B.returns, B.notSynchronized, hz⟩ rfl rfl s.heap [] _ hP hD va_S.rf hl
