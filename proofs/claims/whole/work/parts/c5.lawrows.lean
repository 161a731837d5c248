section JLaw
variable {X : jX} {G : jG} {nL : Nat} {L : jL} {kc ks : Nat} {Q : State → Prop} {pc : Nat} {lv : List (Nat × Value)} {st st0 : List Value} {μ μ2 : jM} {cc : ByteArray} {own : String} {rt : Option FieldType}
theorem j_qlen (hC : jC X G cc nL own rt) {b Ln : Nat} {xs : Nat → Int32} (hX : va_X b Ln xs X.2.2.2.2.1 X.2.2.2.2.1.heap) (hbl : b < X.2.2.2.2.1.heap.size) (hbA : ¬ jA G b) (hd : decode cc pc = .ok (.arraylength, 1))
    (kk : jJ X G nL L kc ks Q (pc + 1) lv (.int (nI Ln) :: st) μ) : jJ X G nL L kc ks Q pc lv (.ref b :: st) μ := fun H locs ls hP hD hS hl => va_slen hC.1 hC.2.1 hX hbl hbA hS hd (kk H locs ls hP hD hS hl)
theorem j_qld (hC : jC X G cc nL own rt) {b Ln : Nat} {xs : Nat → Int32} (hX : va_X b Ln xs X.2.2.2.2.1 X.2.2.2.2.1.heap) (hbl : b < X.2.2.2.2.1.heap.size) (hbA : ¬ jA G b) {i : Int32} (hin : vp_in i Ln) (hd : decode cc pc = .ok (.iaload, 1))
    (kk : jJ X G nL L kc ks Q (pc + 1) lv (.int (xs i.toNatClampNeg) :: st) μ) : jJ X G nL L kc ks Q pc lv (.int i :: .ref b :: st) μ := fun H locs ls hP hD hS hl => va_sld hC.1 hC.2.1 hX hbl hbA hS hin hd (kk H locs ls hP hD hS hl)
theorem j_widen {k n : Nat} (h1 : kc ≤ k) (h2 : ks ≤ n) (kk : jJ X G nL L k n Q pc lv st μ) : jJ X G nL L kc ks Q pc lv st μ := fun H locs ls hP hD hS hl => W.widen h1 h2 (kk H locs ls hP hD hS hl)
theorem j_runM {r : Option Value} {a : Array Value} {mc ms : Nat}
    (hr : ∀ (H : Heap) (locs : List Loc) (ls : Array Slot), va_P G.2.1 vwCl (jW G L μ) H → va_D (jA G) (jW G L μ) → va_S (jA G) X.2.2.2.2.1.heap H locs → lv_has ls nL lv → va_Run X.1 X.2.1 X.2.2.1 X.2.2.2.1 X.2.2.2.2.1 X.2.2.2.2.2.1 X.2.2.2.2.2.2.1 X.2.2.2.2.2.2.2.1 X.2.2.2.2.2.2.2.2.1 X.2.2.2.2.2.2.2.2.2 H locs kc ks mc ms (F0 X.2.2.2.2.2.1 pc ls st0) st (jQ G L r μ2 a) (jA G))
    (kk : jJ X G nL L (kc + mc) (ks + ms) Q (pc + 3) lv (r.toList ++ st) μ2) : jJ X G nL L kc ks Q pc lv st0 μ := by
  intro H locs ls hP hD hS hl T hT Xs
  obtain ⟨v, s0, t, T', L', h0, X', hL, e1, e2, ⟨hv, hw, hF⟩, stp⟩ := hr H locs ls hP hD hS hl T hT Xs
  cases hv
  have hz : H.size ≤ t.heap.size := by rw [← h0]; exact hF.1
  have hk : ∀ q : Nat, q < H.size → ¬ jA G q → t.heap[q]? = H[q]? := by rw [← h0]; exact hF.2
  have hS' : va_S (jA G) X.2.2.2.2.1.heap T'.heap (locs ++ L') := ⟨Nat.le_trans hS.1 (by rw [e1]; exact hz), fun q h1 h2 => by rw [e1, hk q (Nat.lt_of_lt_of_le h1 hS.1) h2]; exact hS.2.1 q h1 h2, fun q hq => by
    rcases List.mem_append.mp hq with h | h
    · exact hS.2.2 q h
    · exact hL q h⟩
  obtain ⟨t2, a1, b1⟩ := kk T'.heap (locs ++ L') ls (by rw [e1]; exact hw.1) hw.2.1 hS' hl T' rfl X'
  exact ⟨t2, stp t2 a1, b1⟩
theorem j_vL (hC : jC X G cc nL own rt) (hR : X.2.2.2.1 = room_1) {y : MethodName} {bytes : ByteArray} {maxL n index ci a dep : Nat} {ret2 : Option FieldType} {q : vw_C} {v : Value} (As : List Value) (hM : jCt X.2.1 G L dep y bytes maxL ret2 (.ref (L.2.2 a) :: As) μ (some v) μ2) (hy : jMv y bytes maxL ret2 n) (hq : vwCl[ci]? = some q) (hcl : q.1 = y.cls) (hlt : ci < 13) (ha : jK L a ci)
    (hw : Cond.methodLink own index y ∈ tblG) (hd : decode cc pc = .ok (.invokevirtual index, 3)) (hn : As.length = n) (hm : maxL ≤ 100) (hdp : dep ≤ 600) (hrm : (st.map fun v => v.category).sum ≤ 8) (hk : kc ≤ 601024 ∧ ks ≤ 7293034) (hst : st0 = As.reverse ++ .ref (L.2.2 a) :: st)
    (kk : jJ X G nL L kc ks Q (pc + 3) lv (v :: st) μ2) : jJ X G nL L kc ks Q pc lv st0 μ :=
  j_callV hC As hM hy hq hcl hlt ha hw hd hn hrm (by rw [hR]; exact ⟨by show dep + 1 ≤ 2048; omega, by show _ ≤ 84000; omega⟩) (by rw [hR]; exact hk) hst kk
theorem j_cH (hC : jC X G cc nL own rt) (h5 : jT5 G X.2.2.2.2.1) (hR : X.2.2.2.1 = room_1) {y : MethodName} {bytes : ByteArray} {maxL n index dep : Nat} {ret2 : Option FieldType} {hh : List (Nat × Nat × Nat × Nat)} {v : Value} (As : List Value) (hM : jCH X.2.1 G L dep y bytes maxL ret2 hh As μ v μ2) (hcw : Cond.codeWith y bytes maxL ret2 hh ∈ tblG) (hs : Cond.static y ∈ tblG) (hi : Cond.initialized y.cls ∈ tblG)
    (hds : y.cls ≠ "java/lang/invoke/MethodHandle" ∧ y.cls ≠ "java/lang/invoke/VarHandle" ∧ (parseMethodDescriptor y.desc).map (fun d => d.parameters.length) = some n)
    (hw : Cond.methodLink own index y ∈ tblG) (hd : decode cc pc = .ok (.invokestatic index, 3)) (hn : As.length = n) (hm : maxL ≤ 100) (hdp : dep ≤ 600) (hrm : (st.map fun v => v.category).sum ≤ 8) (hk : kc + 1 ≤ 601024 ∧ ks + 6 ≤ 7293034) (hst : st0 = As.reverse ++ st)
    (kk : jJ X G nL L (kc + 1) (ks + 6) Q (pc + 3) lv (v :: st) μ2) : jJ X G nL L kc ks Q pc lv st0 μ := by
  refine j_runM (mc := 1) (ms := 6) (a := As.toArray) (r := some v) (fun H locs ls hP hD hS hl => ?_) kk
  refine vx_runSW (Ts := tblG) (rest := st) (As := As) (hh := hh) ⟨hC.1, hC.2.1, hC.2.2.1, hC.2.2.2.1, hC.2.2.2.2.1⟩ hM (vx_cwSW n hC.2.2.2.2.1 (tg_in (fun w h => ?_)) rfl rfl rfl hds (by rw [hR]; exact ⟨by show dep + 1 ≤ 2048; omega, by show 8 + (maxL + 11) + 128 * dep ≤ 84000; omega⟩)) ⟨jPx_blind, j_prex hC h5 hP hD hS⟩ rfl hn hl.1 hst (lv_room hrm) hd (by rw [hR]; exact hk)
  unfold va_wsS at h
  rcases List.mem_append.mp h with h | h
  · simp only [List.mem_cons, List.not_mem_nil, or_false] at h
    rcases h with rfl | rfl | rfl
    · exact hw
    · exact hs
    · exact hi
  · rcases List.mem_cons.mp h with rfl | h
    · exact hcw
    · exact h
end JLaw
/-- what the law's walk stands on -/
def jLw (X : jX) (G : jG) (L : jL) (b Ln : Nat) (xs : Nat → Int32) : Prop := jC X G cL_law 8 RL (some .boolean) ∧ jT5 G X.2.2.2.2.1 ∧ X.2.2.2.1 = room_1 ∧ X.2.1.stackTraces = false ∧ va_X b Ln xs X.2.2.2.2.1 X.2.2.2.2.1.heap ∧ b < X.2.2.2.2.1.heap.size ∧ ¬ jA G b ∧ jOKL L
def lwlv (b : Nat) (L : jL) (i : Int32) : List (Nat × Value) := [(0, .ref b), (1, .ref (L.2.2 0)), (2, .ref (L.2.2 201)), (3, .ref (L.2.2 224)), (4, .int i)]
theorem lg_cmp_self (x : Int64) : lg_cmp x x = 0 := by
  unfold lg_cmp
  rw [if_neg (by show ¬ x < x; exact Int64.lt_irrefl), if_pos rfl]
theorem hO_ou {μ : jM} (h : Rel μ) (w : Option Int64) : Ou μ (hO μ w) := by
  cases w with
  | none => exact Ou.rf h
  | some v => exact Ou.out h v
theorem F5_thr {α : Type} {w : Option α} {b : α} {μ1 μ2 : jM} (h : F5 w b μ1 μ2) : f_X12_thrown 201 μ2 = hB w := by
  show μ2.1 201 0 = _
  rcases h.2.2 with ⟨rfl, e⟩ | ⟨rfl, e⟩
  · exact e
  · exact e
theorem F5_val {w : Option Int32} {b : Int32} {μ μ2 : jM} (h : F5 w b (hO μ (w.map Int32.toInt64)) μ2) (c : hB w = 0) : μ2.2 224 0 = b.toInt64 := by
  rw [h.2.1]
  rcases h.2.2 with ⟨rfl, e⟩ | ⟨rfl, e⟩
  · exact absurd c (by decide)
  · show (jsl μ 224 0 b.toInt64).2 224 0 = _
    simp [jsl, va_up, vp_updL]
theorem F5_vall {w : Option Int64} {b : Int64} {μ μ2 : jM} (h : F5 w b (hO μ w) μ2) (c : hB w = 0) : μ2.2 224 0 = b := by
  rw [h.2.1]
  rcases h.2.2 with ⟨rfl, e⟩ | ⟨rfl, e⟩
  · exact absurd c (by decide)
  · show (jsl μ 224 0 b).2 224 0 = _
    simp [jsl, va_up, vp_updL]
