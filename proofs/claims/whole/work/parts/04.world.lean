/-! the words that every method has: the tables' own, those that stay -/
def tblG : List Cond := lw_tbl.filter goodWord
theorem tg_mem {w : Cond} (i : Nat) (h : lw_tbl[i]? = some w) (g : goodWord w = true) : w ∈ tblG := List.mem_filter.mpr ⟨List.mem_of_getElem? h, g⟩
theorem tg_all (ws : List Cond) (ps : List Nat) (hp : ws = ps.filterMap (fun i => lw_tbl[i]?)) (h : ws.all goodWord = true) : ∀ w ∈ ws, w ∈ tblG := by
  intro w hw
  have h1 := List.all_eq_true.mp h w hw
  rw [hp] at hw
  obtain ⟨i, -, hi⟩ := List.mem_filterMap.mp hw
  exact tg_mem i hi h1
theorem tg_good {w : Cond} (h : w ∈ tblG) : (w.onTables && w.keeps) = true ∨ ∃ ty, w = .arrayClass ty := good_of_word (List.mem_filter.mp h).2
theorem tg_in {ws : List Cond} (h : ∀ w ∈ ws, w ∈ tblG) : GoodIn tblG ws := fun w hw => ⟨h w hw, tg_good (h w hw)⟩
theorem tg_tbl {w : Cond} (h : w ∈ tblG) : w ∈ lw_tbl := (List.mem_filter.mp h).1
/-- classes of the worlds -/
abbrev vwCl : List vw_C := [(RX0, TX0, 4), (RX1, TX1, 4), (RX2, TX2, 3), (RX3, TX3, 2), (RX4, TX4, 6), (RX5, TX5, 8), (RX6, TX6, 1), (RX7, TX7, 3), (RX8, TX8, 2), (RX9, TX9, 7), (RX10, TX10, 5), (RX11, TX11, 15), (RX12, TX12, 40)]
/-- memory: ints (fields and elements) by address and place, longs likewise -/
abbrev jM : Type := (Nat → Nat → Int32) × (Nat → Nat → Int64)
/-- by address: the kind (0 .. 12 objects of that class, 13 int[], 14 long[], 15 boolean[], 16 Level[], 17 Things[], 18 int[][]), the length, the references by place -/
abbrev jY : Type := Nat → Nat × Nat × (Nat → Option Nat)
/-- how many cells, their shapes, where they lie -/
abbrev jL : Type := Nat × jY × (Nat → Nat)
/-- the base, classes and slots, array classes, strings and their bytes -/
abbrev jG : Type := Nat × va_G × (Nat → ClassId) × (Nat → Nat) × (Nat → Nat)
abbrev jX : Type := Program × Launch × Env × Room × State × MethodId × Array Value × List Frame × Method × Code
def jA (G : jG) : Nat → Prop := fun q => G.1 ≤ q
def jRefs : List (List Bool) := [[true, true, true, false], [true, true, false, false], [true, false, true], [true, false], [true, true, true, true, false, false], [true, true, true, false, false, false, false, false], [true], [true, true, false], [true, false], [true, true, true, true, true, false, false], [true, true, true, false, false], [true, true, true, true, true, true, true, true, true, true, true, true, true, true, false], [false, false, true, true, false, false, false, false, true, false, true, true, true, true, false, false, true, false, true, true, true, true, true, true, false, false, true, true, false, false, false, false, true, true, true, true, true, false, false, true]]
def jV (L : jL) (μ : jM) (a k : Nat) (r : Bool) : Value := if r then va_rf (((L.2.1 a).2.2 k).map L.2.2) else .int (μ.1 a k)
def jFs (L : jL) (μ : jM) (a : Nat) : List Value := (jRefs.getD (L.2.1 a).1 []).mapIdx (fun k r => jV L μ a k r)
def jE (G : jG) (L : jL) (μ : jM) (a : Nat) : va_E :=
  if (L.2.1 a).1 < 13 then .inr ((L.2.1 a).1, jFs L μ a)
  else .inl (G.2.2.1 (L.2.1 a).1, (L.2.1 a).2.1, if (L.2.1 a).1 < 16 then (if (L.2.1 a).1 = 14 then .inr (.inl (μ.2 a)) else .inl (μ.1 a)) else .inr (.inr (.inr (.inr (fun k => ((L.2.1 a).2.2 k).map L.2.2)))))
def jW (G : jG) (L : jL) (μ : jM) : va_W := (List.range L.1).map (fun a => (L.2.2 a, jE G L μ a))
def jT (G : jG) : List (ClassId × FieldType) := [(G.2.2.1 13, .int), (G.2.2.1 14, .long), (G.2.2.1 15, .boolean), (G.2.2.1 16, .object RX1), (G.2.2.1 17, .object RX9), (G.2.2.1 18, .array .int)]
theorem jW_get (G : jG) (L : jL) (μ : jM) {a : Nat} (h : a < L.1) : (jW G L μ)[a]? = some (L.2.2 a, jE G L μ a) := by
  unfold jW
  rw [List.getElem?_map, List.getElem?_range h]
  rfl
theorem jW_set (G : jG) (L : jL) (μ μ' : jM) {a : Nat} {e : va_E} (h1 : jE G L μ' a = e) (h2 : ∀ c, c ≠ a → jE G L μ' c = jE G L μ c) : (jW G L μ).set a (L.2.2 a, e) = jW G L μ' := by
  apply List.ext_getElem?
  intro i
  by_cases hi : i < L.1
  · rw [jW_get G L μ' hi, List.getElem?_set]
    by_cases hc : a = i
    · subst hc
      have hl : a < (jW G L μ).length := by unfold jW; simpa using hi
      rw [if_pos rfl, if_pos hl, h1]
    · rw [if_neg hc, jW_get G L μ hi, h2 i (fun q => hc q.symm)]
  · have hl : (jW G L μ').length ≤ i := by unfold jW; simpa using hi
    have hl2 : ((jW G L μ).set a (L.2.2 a, e)).length ≤ i := by rw [List.length_set]; unfold jW; simpa using hi
    rw [List.getElem?_eq_none hl, List.getElem?_eq_none hl2]
/-- writing -/
def jsi (μ : jM) (a k : Nat) (v : Int32) : jM := (va_up μ.1 a (upd (μ.1 a) k v), μ.2)
def jsl (μ : jM) (a k : Nat) (v : Int64) : jM := (μ.1, va_up μ.2 a (vp_updL (μ.2 a) k v))
def jcp (μ : jM) (b sp a dp n : Nat) : jM := (va_up μ.1 a (va_cpy (μ.1 b) (μ.1 a) sp dp n), μ.2)
theorem jE_ne_i {G : jG} {L : jL} {μ : jM} {a c : Nat} {f : Nat → Int32} (h : c ≠ a) : jE G L (va_up μ.1 a f, μ.2) c = jE G L μ c := by
  have e : (va_up μ.1 a f) c = μ.1 c := va_up_ne _ _ h
  simp only [jE, jFs, jV, e]
theorem jE_ne_l {G : jG} {L : jL} {μ : jM} {a c : Nat} {f : Nat → Int64} (h : c ≠ a) : jE G L (μ.1, va_up μ.2 a f) c = jE G L μ c := by
  have e : (va_up μ.2 a f) c = μ.2 c := va_up_ne _ _ h
  simp only [jE, jFs, jV, e]
/-- a cell of a kind -/
def jK (L : jL) (a k : Nat) : Prop := a < L.1 ∧ (L.2.1 a).1 = k
theorem jE_obj {G : jG} {L : jL} {μ : jM} {a ci : Nat} (h : (L.2.1 a).1 = ci) (hc : ci < 13) : jE G L μ a = .inr (ci, jFs L μ a) := by
  unfold jE
  rw [if_pos (by rw [h]; exact hc), h]
theorem jE_int {G : jG} {L : jL} {μ : jM} {a n : Nat} (h : (L.2.1 a).1 = 13) (hn : (L.2.1 a).2.1 = n) : jE G L μ a = .inl (G.2.2.1 13, n, .inl (μ.1 a)) := by
  unfold jE
  rw [h, hn]
  rfl
theorem jE_bool {G : jG} {L : jL} {μ : jM} {a n : Nat} (h : (L.2.1 a).1 = 15) (hn : (L.2.1 a).2.1 = n) : jE G L μ a = .inl (G.2.2.1 15, n, .inl (μ.1 a)) := by
  unfold jE
  rw [h, hn]
  rfl
theorem jE_long {G : jG} {L : jL} {μ : jM} {a n : Nat} (h : (L.2.1 a).1 = 14) (hn : (L.2.1 a).2.1 = n) : jE G L μ a = .inl (G.2.2.1 14, n, .inr (.inl (μ.2 a))) := by
  unfold jE
  rw [h, hn]
  rfl
theorem jE_ref {G : jG} {L : jL} {μ : jM} {a n k : Nat} (h : (L.2.1 a).1 = k) (hk : 16 ≤ k) (hn : (L.2.1 a).2.1 = n) : jE G L μ a = .inl (G.2.2.1 k, n, .inr (.inr (.inr (.inr (fun i => ((L.2.1 a).2.2 i).map L.2.2))))) := by
  unfold jE
  rw [h, hn, if_neg (by omega), if_neg (by omega)]
theorem jFs_get {L : jL} {μ : jM} {a ci k : Nat} {r : Bool} (h : (L.2.1 a).1 = ci) (hk : (jRefs.getD ci [])[k]? = some r) : (jFs L μ a)[k]? = some (jV L μ a k r) := by
  unfold jFs
  rw [List.getElem?_mapIdx, h, hk]
  rfl
theorem jFs_set {L : jL} {μ : jM} {a ci k : Nat} {v : Int32} (h : (L.2.1 a).1 = ci) (hk : (jRefs.getD ci [])[k]? = some false) : (jFs L μ a).set k (.int v) = jFs L (jsi μ a k v) a := by
  have e : (jsi μ a k v).1 a = upd (μ.1 a) k v := va_up_self _ _ _
  apply List.ext_getElem?
  intro i
  unfold jFs
  rw [List.getElem?_set, List.getElem?_mapIdx, List.getElem?_mapIdx, h]
  have hlt : k < (jRefs.getD ci []).length := (List.getElem?_eq_some_iff.mp hk).1
  by_cases hi : k = i
  · subst hi
    rw [if_pos rfl, if_pos (by rw [List.length_mapIdx]; exact hlt), hk]
    simp [jV, e, upd]
  · rw [if_neg hi]
    cases (jRefs.getD ci [])[i]? with
    | none => rfl
    | some r =>
      have hi' : ¬ i = k := fun q => hi q.symm
      simp [jV, e, upd, hi']
def jnest : List (String × Nat × MethodName × String) := [(RX11, 11, yX8_init, "TrailStore"), (RX11, 18, yX3_init, "TrailStore"), (RX11, 35, yX6_init, "TrailStore"), (RX11, 82, yX0_init, "TrailStore"), (RX11, 259, yX4_doRun, "TrailStore"), (RX4, 186, yX11_isCell, "TrailStore"), (RX7, 24, yX1_init, "TrailStore"), (RX7, 47, yX11_isCell, "TrailStore"), (RX7, 51, yX11_isNumber, "TrailStore"), (RX7, 68, yX11_isVariable, "TrailStore"), (RX7, 71, yX11_isValue, "TrailStore"), (RX7, 87, yX11_isKey, "TrailStore"), (RX8, 23, yX11_isCell, "TrailStore"), (RX8, 27, yX11_isVariable, "TrailStore"), (RX9, 46, yX11_isVariable, "TrailStore"), (RX9, 50, yX11_isValue, "TrailStore"), (RX9, 53, yX11_isCell, "TrailStore"), (RX9, 56, yX11_isKey, "TrailStore"), (RX9, 70, yX11_isThing, "TrailStore")]
def jsLen : List Nat := [4, 4, 4, 3, 3, 3, 3, 5, 3, 1, 5, 5, 5, 3, 3, 10, 5, 3, 2, 3, 4, 6, 2, 6, 3, 3]
def jsByt : List (List Int32) := [[65, 61, 100, 100], [65, 43, 100, 100], [65, 45, 100, 100], [118, 45, 101], [118, 61, 101], [118, 60, 101], [118, 62, 101], [107, 100, 61, 100, 100], [107, 100, 45], [112], [63, 65, 60, 100, 100], [63, 65, 61, 100, 100], [63, 65, 62, 100, 100], [63, 118, 101], [63, 107, 100], [48, 49, 50, 51, 52, 53, 54, 55, 56, 57], [118, 119, 120, 121, 122], [60, 61, 35], [43, 45], [61, 43, 45], [45, 61, 60, 62], [48, 49, 50, 51, 52, 53], [61, 45], [65, 66, 67, 68, 69, 70], [60, 61, 62], [40, 91, 123]]
def jstr : List (String × Nat × String × Nat) := [(RX4, 27, "A=dd", 0), (RX4, 29, "A+dd", 1), (RX4, 31, "A-dd", 2), (RX4, 33, "v-e", 3), (RX4, 35, "v=e", 4), (RX4, 37, "v<e", 5), (RX4, 39, "v>e", 6), (RX4, 41, "kd=dd", 7), (RX4, 43, "kd-", 8), (RX4, 45, "p", 9), (RX4, 47, "?A<dd", 10), (RX4, 49, "?A=dd", 11), (RX4, 51, "?A>dd", 12), (RX4, 53, "?ve", 13), (RX4, 55, "?kd", 14), (RX12, 48, "0123456789", 15), (RX12, 241, "vwxyz", 16), (RX12, 254, "<=#", 17), (RX12, 256, "+-", 18), (RX12, 296, "=+-", 19), (RX12, 305, "-=<>", 20), (RX12, 307, "012345", 21), (RX12, 309, "=-", 22), (RX12, 311, "ABCDEF", 23), (RX12, 313, "<=>", 24), (RX12, 315, "([{", 25)]
/-- what stands of nest mates' links, of strings and statics at a state -/
def jS (G : jG) (U : State) : Prop := (∀ q ∈ jnest, va_Nw (.methodLinkNest q.1 q.2.1 q.2.2.1 q.2.2.2) U) ∧ vk_S 26 jsLen jsByt G.2.2.2.1 G.2.2.2.2 (jA G) U U.heap ∧ (∀ q ∈ jstr, vk_R q.1 q.2.1 q.2.2.1 (G.2.2.2.1 q.2.2.2) U) ∧ va_Z "java/lang/String" "COMPACT_STRINGS" "Z" (.int 1) (jA G) U U.heap ∧ va_Zq "jdk/internal/util/Preconditions" "SIOOBE_FORMATTER" "Ljava/util/function/BiFunction;" (jA G) U U.heap
/-- the world at a state -/
def jWd (G : jG) (L : jL) (μ : jM) (U : State) : Prop := va_P G.2.1 vwCl (jW G L μ) U.heap ∧ va_D (jA G) (jW G L μ) ∧ va_K G.2.1 vwCl (jT G) U ∧ G.1 ≤ U.heap.size ∧ jS G U
def jC (X : jX) (G : jG) (cc : ByteArray) (nL : Nat) (own : String) (rt : Option FieldType) : Prop :=
  X.1.tables.exec = Jvm.exec ∧ X.2.2.2.2.2.2.2.2.2.code = cc ∧ X.2.2.2.2.2.2.2.2.2.maxLocals = nL ∧ X.2.2.2.2.1.vm.findClass own = some X.2.2.2.2.2.1.cls ∧ (∀ w ∈ tblG, w.before X.2.2.2.2.2.2.1 X.2.2.2.2.1 = true) ∧ va_K G.2.1 vwCl (jT G) X.2.2.2.2.1 ∧ (∀ q, X.2.2.2.2.1.heap.size ≤ q → jA G q) ∧ X.2.2.2.2.2.2.2.2.1.sig.returnType = rt ∧ X.2.2.2.2.2.2.2.2.1.locks = false ∧ jS G X.2.2.2.2.1
def jJ (X : jX) (G : jG) (nL : Nat) (L : jL) (kc ks : Nat) (Q : State → Prop) (pc : Nat) (lv : List (Nat × Value)) (st : List Value) (μ : jM) : Prop :=
  ∀ (H : Heap) (locs : List Loc) (ls : Array Slot), va_P G.2.1 vwCl (jW G L μ) H → va_D (jA G) (jW G L μ) → va_S (jA G) X.2.2.2.2.1.heap H locs → lv_has ls nL lv →
    W X.1 X.2.1 X.2.2.1 X.2.2.2.1 X.2.2.2.2.1 X.2.2.2.2.2.1 X.2.2.2.2.2.2.1 X.2.2.2.2.2.2.2.1 X.2.2.2.2.2.2.2.2.1 X.2.2.2.2.2.2.2.2.2 H locs kc ks Q (F0 X.2.2.2.2.2.1 pc ls st)
/-- a contract: with these arguments and this memory it returns r, the memory is μ' -/
def jQ (G : jG) (L : jL) (r : Option Value) (μ : jM) : Array Value → State → Outcome → State → Prop := fun _ st o t => o = .returned r ∧ jWd G L μ t ∧ va_F (jA G) st t
def jrm (dep mc ms : Nat) : Room := { frames := dep, cells := mc, slots := ms, locals := 128 * dep }
def jCt (l : Launch) (G : jG) (L : jL) (dep : Nat) (y : MethodName) (cc : ByteArray) (nL : Nat) (rt : Option FieldType) (av : List Value) (μ : jM) (r : Option Value) (μ' : jM) : Prop :=
  Met l y (.code y cc nL rt :: tblG) (jrm dep 0 0) (va_Pc av (jWd G L μ)) (jQ G L r μ') 0 0 (jA G)
def jQM (X : jX) (G : jG) (L : jL) (r : Option Value) (μ : jM) (kc ks : Nat) : State → Prop := MQ X.2.2.2.2.2.2.2.1 (jQ G L r μ) X.2.2.2.2.2.2.1 X.2.2.2.2.1 kc ks (jA G)
theorem jS.moved {G : jG} {u U : State} (hW : u.WarmedH U.vm) (hk : ∀ a : Nat, a < u.heap.size → ¬ jA G a → U.heap[a]? = u.heap[a]?) (h : jS G u) : jS G U :=
  ⟨fun q hq => va_Nw.warmM hW (h.1 q hq), (vk_S.moved hW.alike h.2.1).kept hk, fun q hq => vk_R.warm hW (h.2.2.1 q hq), (va_Z.moved hW.alike h.2.2.2.1).kept hk, (va_Zq.moved hW.alike h.2.2.2.2).kept hk⟩
theorem jS.same {G : jG} {u U : State} (hv : U.vm = u.vm) (hk : U.heap = u.heap) (h : jS G u) : jS G U := by
  have ha : u.vm.Alike U.vm := by rw [hv]; exact Vm.Alike.refl _
  unfold jS
  rw [hk]
  exact ⟨fun q hq => va_Nw.same rfl hv.symm (h.1 q hq), vk_S.moved ha h.2.1, fun q hq => vk_R.same hv (h.2.2.1 q hq), va_Z.moved ha h.2.2.2.1, va_Zq.moved ha h.2.2.2.2⟩
theorem jWd_end {G : jG} {L : jL} {μ : jM} {s t : State} {H : Heap} {locs : List Loc} (hP : va_P G.2.1 vwCl (jW G L μ) H) (hD : va_D (jA G) (jW G L μ)) (hS : va_S (jA G) s.heap H locs) (hK : va_K G.2.1 vwCl (jT G) s) (hA : ∀ q, s.heap.size ≤ q → jA G q) (hz : jS G s) (ht : t.heap = H) (hW : s.WarmedH t.vm) : jWd G L μ t :=
  ⟨by rw [ht]; exact hP, hD, va_K.moved hW.alike hK, by rw [ht]; exact Nat.le_trans (hA _ (Nat.le_refl _)) hS.1, hz.moved hW (fun a h1 h2 => by rw [ht]; exact hS.2.1 a h1 h2)⟩
