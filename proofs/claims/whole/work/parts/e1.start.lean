theorem tw_mem {w : Cond} (h : tables_1.any (fun v => decide (v = w)) = true) : w ∈ lw_tbl := by
  obtain ⟨v, hv, e⟩ := List.any_eq_true.mp h
  refine List.mem_append_right _ ?_
  rw [← of_decide_eq_true e]
  exact hv
def gvL : List Cond := flatC (.and given_1 narrow_1)
theorem gv_mem {w : Cond} (h : gvL.any (fun v => decide (v = w)) = true) : w ∈ gvL := by
  obtain ⟨v, hv, e⟩ := List.any_eq_true.mp h
  rw [← of_decide_eq_true e]
  exact hv
def jtm (i : Nat) : Term := Term.string (jstr.getD i ("", 0, "", 0)).1 (jstr.getD i ("", 0, "", 0)).2.1
theorem ss_ex : ∀ i, i < 26 → gvL.any (fun v => decide (v = Cond.exactly (jtm i) "java/lang/String")) = true := by decide +kernel
theorem ss_co : ∀ i, i < 26 → gvL.any (fun v => decide (v = Cond.eq (.field (jtm i) "java/lang/String" "coder" "B") (.int 0))) = true := by decide +kernel
theorem ss_ar : ∀ i, i < 26 → gvL.any (fun v => decide (v = Cond.arrayOf (.field (jtm i) "java/lang/String" "value" "[B") .byte)) = true := by decide +kernel
theorem ss_le : ∀ i, i < 26 → gvL.any (fun v => decide (v = Cond.eq (.length (.field (jtm i) "java/lang/String" "value" "[B")) (.int (Int32.ofNat (jsLen.getD i 0))))) = true := by decide +kernel
theorem ss_el : ∀ i, i < 26 → ∀ j, j < jsLen.getD i 0 → gvL.any (fun v => decide (v = Cond.eq (.elem (.field (jtm i) "java/lang/String" "value" "[B") (.int (Int32.ofNat j))) (.int ((jsByt.getD i []).getD j 0)))) = true := by decide +kernel
theorem ss_31 : ∀ i, i < 26 → jsLen.getD i 0 < 2 ^ 31 := by decide +kernel
theorem ss_ne : ∀ i, i < 26 → ∀ j, j < 26 → Int32.ofNat (jsLen.getD i 0) = Int32.ofNat (jsLen.getD j 0) → (∀ k, k < jsLen.getD i 0 → (jsByt.getD i []).getD k 0 = (jsByt.getD j []).getD k 0) → i = j := by decide +kernel
theorem ss_le2 : ∀ i, i < 26 → ∀ j, j < 26 → Int32.ofNat (jsLen.getD i 0) = Int32.ofNat (jsLen.getD j 0) → jsLen.getD i 0 = jsLen.getD j 0 := by decide +kernel
theorem ss_rf : ∀ q ∈ jstr, tables_1.any (fun v => decide (v = Cond.stringRef q.1 q.2.1 q.2.2.1)) = true := by decide +kernel
theorem ss_tm : ∀ q ∈ jstr, q.2.2.2 < 26 ∧ jstr.getD q.2.2.2 ("", 0, "", 0) = q := by decide +kernel
theorem ss_nl : ∀ q ∈ jnest, tables_1.any (fun v => decide (v = Cond.methodLinkNest q.1 q.2.1 q.2.2.1 q.2.2.2)) = true := by decide +kernel
theorem va_OF_uniq {o n d : String} {v w : Value} {t : Nat} {A : Nat → Prop} {U : State} {H : Heap} (h : va_OF o n d v t A U H) (h2 : va_OF o n d w t A U H) : v = w := by
  obtain ⟨cf, k, i, f, cell, a1, -, a3, -, a5, -⟩ := h
  obtain ⟨cf', k', i', f', cell', b1, -, b3, -, b5, -⟩ := h2
  cases a1.symm.trans b1
  cases a3.symm.trans b3
  exact Option.some.inj (a5.symm.trans b5)
theorem st_str {args : Array Value} {s : State} {A : Nat → Prop} (hgv : ∀ w ∈ gvL, w.before args s = true) (hA : ∀ a : Nat, a < s.heap.size → ¬ A a) : ∃ adK adV : Nat → Nat, vk_S 26 jsLen jsByt adK adV A s s.heap ∧ ∀ i : Nat, i < 26 → (jtm i).eval args s none [] s = some (.ref (adK i)) := by
  have h0 : ∀ i : Nat, ∃ q : Nat × Nat, i < 26 → (jtm i).eval args s none [] s = some (.ref q.1) ∧ va_O "java/lang/String" q.1 A s s.heap ∧ va_OF "java/lang/String" "coder" "B" (.int 0) q.1 A s s.heap ∧ va_OF "java/lang/String" "value" "[B" (.ref q.2) q.1 A s s.heap ∧ va_T .byte q.2 (jsLen.getD i 0) (fun j => .int ((jsByt.getD i []).getD j 0)) A s s.heap := by
    intro i
    by_cases hi : i < 26
    · obtain ⟨aK, aV, hS, hE⟩ := vk_Sof (args := args) (s := s) (N := 1) (tm := fun _ => jtm i) (len := [jsLen.getD i 0]) (byt := [jsByt.getD i []]) (A := A) (fun k hk => by obtain rfl := Nat.lt_one_iff.mp hk; exact ss_31 i hi) (fun _ _ => hgv _ (gv_mem (ss_ex i hi))) (fun _ _ => hgv _ (gv_mem (ss_co i hi))) (fun _ _ => hgv _ (gv_mem (ss_ar i hi))) (fun k hk => by obtain rfl := Nat.lt_one_iff.mp hk; exact hgv _ (gv_mem (ss_le i hi))) (fun k hk j hj => by obtain rfl := Nat.lt_one_iff.mp hk; exact hgv _ (gv_mem (ss_el i hi j hj))) (fun a b ha hb hab => absurd (show a = b by omega) hab) hA
      have h := hS.1 0 (by decide)
      exact ⟨(aK 0, aV 0), fun _ => ⟨hE 0 (by decide), h.1, h.2.1, h.2.2.1, h.2.2.2⟩⟩
    · exact ⟨(0, 0), fun h => absurd h hi⟩
  obtain ⟨ad, had⟩ := Classical.axiomOfChoice h0
  refine ⟨fun i => (ad i).1, fun i => (ad i).2, ⟨fun i hi => (had i hi).2, fun i j hi hj e => ?_⟩, fun i hi => (had i hi).1⟩
  have e : (ad i).1 = (ad j).1 := e
  obtain ⟨-, -, -, vi, ti⟩ := had i hi
  obtain ⟨-, -, -, vj, tj⟩ := had j hj
  rw [e] at vi
  have e2 := va_OF_uniq vi vj
  have e2 : (ad i).2 = (ad j).2 := by injection e2
  rw [e2] at ti
  obtain ⟨c1, a1, -, -, -, a4, a5, -⟩ := ti
  obtain ⟨c2, b1, -, -, -, b4, b5, -⟩ := tj
  cases a1.symm.trans b1
  have en := a4.symm.trans b4
  refine ss_ne i hi j hj en (fun k hk => ?_)
  have x1 := a5 k hk
  have x2 := b5 k (by rw [← ss_le2 i hi j hj en]; exact hk)
  have x3 := Option.some.inj (x1.symm.trans x2)
  injection x3
theorem st_cls {args : Array Value} {s : State} (hts : ∀ w ∈ lw_tbl, w.before args s = true) : ∃ (dC : Nat → ClassId) (dI : Nat → Nat → Nat), ∀ (k : Nat) (q : vw_C), vwCl[k]? = some q → u_Kn s q.1 q.2.1 q.2.2 (dC k) (dI k) := by
  have hi : ∀ {w : Cond}, w ∈ tblG → w.before args s = true := fun h => hts _ (tg_tbl h)
  have hall : ∀ k : Nat, ∃ (c : ClassId) (i : Nat → Nat), ∀ q : vw_C, vwCl[k]? = some q → u_Kn s q.1 q.2.1 q.2.2 c i := by
    intro k
    have one : ∀ {C : String} {T : u_T} {N : Nat}, vwCl[k]? = some (C, T, N) → (∀ w ∈ u_ws C T N, w ∈ tblG) → Cond.instantiable C N ∈ tblG → ∃ (c : ClassId) (i : Nat → Nat), ∀ q : vw_C, vwCl[k]? = some q → u_Kn s q.1 q.2.1 q.2.2 c i := fun {C T N} h1 h2 h3 => by
      obtain ⟨c, i, hk⟩ := u_known (C := C) (T := T) (N := N) (n := N) hts (fun w h => tg_tbl (h2 w h)) (hi h3)
      exact ⟨c, i, fun q hq => by cases h1.symm.trans hq; exact hk⟩
    match k, @one with
    | 0, one => exact one rfl tin0 inX0
    | 1, one => exact one rfl tin1 inX1
    | 2, one => exact one rfl tin2 inX2
    | 3, one => exact one rfl tin3 inX3
    | 4, one => exact one rfl tin4 inX4
    | 5, one => exact one rfl tin5 inX5
    | 6, one => exact one rfl tin6 inX6
    | 7, one => exact one rfl tin7 inX7
    | 8, one => exact one rfl tin8 inX8
    | 9, one => exact one rfl tin9 inX9
    | 10, one => exact one rfl tin10 inX10
    | 11, one => exact one rfl tin11 inX11
    | 12, one => exact one rfl tin12 inX12
    | k + 13, _ => exact ⟨0, fun _ => 0, fun q h => by simp at h⟩
  exact ⟨fun k => (hall k).choose, fun k => (hall k).choose_spec.choose, fun k q h => (hall k).choose_spec.choose_spec q h⟩
theorem ao_1 : tables_1.any (fun v => decide (v = Cond.arrayOver (.object RX1))) = true := by decide +kernel
theorem ao_9 : tables_1.any (fun v => decide (v = Cond.arrayOver (.object RX9))) = true := by decide +kernel
theorem ao_i : tables_1.any (fun v => decide (v = Cond.arrayOver (.array .int))) = true := by decide +kernel
theorem st_6 {args : Array Value} {s : State} (hts : ∀ w ∈ lw_tbl, w.before args s = true) : jT6 s := ⟨va_AO.of (hts _ (tw_mem ao_1)), va_AO.of (hts _ (tw_mem ao_9)), va_AOA.of (hts _ (tw_mem ao_i))⟩
theorem st_arr {args : Array Value} {s : State} (hts : ∀ w ∈ lw_tbl, w.before args s = true) : ∃ ac : Nat → ClassId, ∀ (k : Nat) (q : ClassId × FieldType), ([(ac 13, .int), (ac 14, .long), (ac 15, .boolean), (ac 16, .object RX1), (ac 17, .object RX9), (ac 18, .array .int)] : List (ClassId × FieldType))[k]? = some q → ArrOfT s q.1 q.2 ∧ va_RA s q.1 q.2 := by
  have hi : ∀ {w : Cond}, w ∈ tblG → w.before args s = true := fun h => hts _ (tg_tbl h)
  obtain ⟨c13, k13, p13, a1, a2, a3⟩ := Cond.arrayClass_spec (hi ki_i)
  obtain ⟨c14, k14, p14, b1, b2, b3⟩ := Cond.arrayClass_spec (hi ki_l)
  obtain ⟨c15, k15, p15, z1, z2, z3⟩ := Cond.arrayClass_spec (hi ki_z)
  obtain ⟨p16, c16, k16, d1, -, d2, d3, d4⟩ := Cond.arrayOver_spec (hts _ (tw_mem ao_1))
  obtain ⟨p17, c17, k17, e1, -, e2, e3, e4⟩ := Cond.arrayOver_spec (hts _ (tw_mem ao_9))
  obtain ⟨p18, c18, k18, f1, -, f2, f3, f4⟩ := arrayOverA_spec (hts _ (tw_mem ao_i))
  refine ⟨fun k => if k = 13 then c13 else if k = 14 then c14 else if k = 15 then c15 else if k = 16 then c16 else if k = 17 then c17 else c18, fun k q hq => ?_⟩
  match k, hq with
  | 0, hq => cases hq; exact ⟨fun n z => ⟨fun k h => (by cases h), k13, a2, p13, a3⟩, a1⟩
  | 1, hq => cases hq; exact ⟨fun n z => ⟨fun k h => (by cases h), k14, b2, p14, b3⟩, b1⟩
  | 2, hq => cases hq; exact ⟨fun n z => ⟨fun k h => (by cases h), k15, z2, p15, z3⟩, z1⟩
  | 3, hq => cases hq; exact ⟨fun n z => ⟨fun k h => (by cases h), k16, d2, p16, d3⟩, k16, p16, d2, d3, d1, d4⟩
  | 4, hq => cases hq; exact ⟨fun n z => ⟨fun k h => (by cases h), k17, e2, p17, e3⟩, k17, p17, e2, e3, e1, e4⟩
  | 5, hq => cases hq; exact ⟨fun n z => ⟨fun k h => (by cases h), k18, f2, p18, f3⟩, f4⟩
  | k + 6, hq => simp at hq
theorem zs_1 : tables_1.any (fun v => decide (v = Cond.laysStatic "java/lang/String" "COMPACT_STRINGS" "Z")) = true := by decide +kernel
theorem zs_2 : tables_1.any (fun v => decide (v = Cond.laysStatic "jdk/internal/util/Preconditions" "SIOOBE_FORMATTER" "Ljava/util/function/BiFunction;")) = true := by decide +kernel
theorem zs_3 : tables_1.any (fun v => decide (v = Cond.laysStatic Bundle.tN "UNASSIGNED_STACK" Bundle.steD)) = true := by decide +kernel
theorem zs_4 : tables_1.any (fun v => decide (v = Cond.laysStatic Bundle.tN "SUPPRESSED_SENTINEL" Bundle.listD)) = true := by decide +kernel
theorem zi_1 : tables_1.any (fun v => decide (v = Cond.initialized "java/lang/String")) = true := by decide +kernel
theorem zi_2 : tables_1.any (fun v => decide (v = Cond.initialized "jdk/internal/util/Preconditions")) = true := by decide +kernel
theorem zi_3 : tables_1.any (fun v => decide (v = Cond.initialized Bundle.tN)) = true := by decide +kernel
theorem zg_1 : gvL.any (fun v => decide (v = Cond.eq (.static "java/lang/String" "COMPACT_STRINGS" "Z") (.int 1))) = true := by decide +kernel
theorem zg_2 : gvL.any (fun v => decide (v = Cond.isRef (.static "jdk/internal/util/Preconditions" "SIOOBE_FORMATTER" "Ljava/util/function/BiFunction;"))) = true := by decide +kernel
theorem zg_3 : gvL.any (fun v => decide (v = Cond.isRef (.static Bundle.tN "UNASSIGNED_STACK" Bundle.steD))) = true := by decide +kernel
theorem zg_4 : gvL.any (fun v => decide (v = Cond.isRef (.static Bundle.tN "SUPPRESSED_SENTINEL" Bundle.listD))) = true := by decide +kernel
theorem zw_4 : ∀ w ∈ vxw, tables_1.any (fun v => decide (v = w)) = true := by decide +kernel
theorem st_G {b : Nat} {s : State} (hts : ∀ w ∈ lw_tbl, w.before #[Value.ref b] s = true) (hg : (Cond.and given_1 narrow_1).before #[Value.ref b] s = true) : ∃ G : jG, G.1 = s.heap.size ∧ va_K G.2.1 vwCl (jT G) s ∧ jS G s ∧ jT5 G s := by
  have hgv : ∀ w ∈ gvL, w.before #[Value.ref b] s = true := flat_of_before _ hg
  obtain ⟨dC, dI, hc⟩ := st_cls hts
  obtain ⟨ac, ha⟩ := st_arr hts
  have hA : ∀ a : Nat, a < s.heap.size → ¬ (fun q : Nat => s.heap.size ≤ q) a := fun a h => Nat.not_le.mpr h
  obtain ⟨adK, adV, hS, hE⟩ := st_str (A := fun q : Nat => s.heap.size ≤ q) hgv hA
  refine ⟨(s.heap.size, (dC, dI), ac, adK, adV), rfl, ⟨hc, ha⟩, ⟨fun q hq => ?_, hS, fun q hq => ?_, ?_, ?_⟩, fun w hw => ?_, ?_, ?_⟩
  · exact va_Nw.of rfl (hts _ (tw_mem (ss_nl q hq)))
  · have h := ss_tm q hq
    have e := hE q.2.2.2 h.1
    unfold jtm at e
    rw [h.2] at e
    exact vk_R.of (A := #[Value.ref b]) (hts _ (tw_mem (ss_rf q hq))) e
  · exact va_Zof (hts _ (tw_mem zs_1)) (hts _ (tw_mem zi_1)) (va_eqt (hgv _ (gv_mem zg_1))) hA
  · exact va_Zqof (hts _ (tw_mem zs_2)) (hts _ (tw_mem zi_2)) (hgv _ (gv_mem zg_2)) hA
  · exact va_Nw.of (vxw_ot w hw) (hts _ (tw_mem (zw_4 w hw)))
  · exact vx_Zqof (hts _ (tw_mem zs_3)) (hts _ (tw_mem zi_3)) (hgv _ (gv_mem zg_3)) hA
  · exact vx_Zqof (hts _ (tw_mem zs_4)) (hts _ (tw_mem zi_3)) (hgv _ (gv_mem zg_4)) hA
