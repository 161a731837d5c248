theorem jW_setL {G : jG} {L L' : jL} {μ : jM} {a : Nat} {e : va_E} (hn : L'.1 = L.1) (ha : L'.2.2 = L.2.2) (h1 : jE G L' μ a = e) (h2 : ∀ c, c ≠ a → jE G L' μ c = jE G L μ c) : (jW G L μ).set a (L.2.2 a, e) = jW G L' μ := by
  apply List.ext_getElem?
  intro i
  by_cases hi : i < L.1
  · rw [jW_get G L' μ (by rw [hn]; exact hi), List.getElem?_set]
    by_cases hc : a = i
    · subst hc
      have hl : a < (jW G L μ).length := by unfold jW; simpa using hi
      rw [if_pos rfl, if_pos hl, h1, ha]
    · rw [if_neg hc, jW_get G L μ hi, h2 i (fun q => hc q.symm), ha]
  · have hl : (jW G L' μ).length ≤ i := by unfold jW; rw [hn]; simpa using hi
    have hl2 : ((jW G L μ).set a (L.2.2 a, e)).length ≤ i := by rw [List.length_set]; unfold jW; simpa using hi
    rw [List.getElem?_eq_none hl, List.getElem?_eq_none hl2]
section JPut
variable {X : jX} {G : jG} {nL : Nat} {kc ks : Nat} {Q : State → Prop} {pc : Nat} {lv : List (Nat × Value)} {st st0 : List Value} {μ : jM} {cc : ByteArray} {own : String} {rt : Option FieldType} {Z0 T : List jc} {ad : Nat → Nat} {cs : List Nat} {m : Nat}
theorem yOf_set {i k b : Nat} {c : jc} (hm : Z0.length = m) (hTi : T[i]? = some c) : yOf (Z0 ++ T.set i (c.1, c.2.1, c.2.2.set k (some b))) (m + i) = yC (c.1, c.2.1, c.2.2.set k (some b)) := by
  rw [yOf_ge hm, List.getElem?_set, if_pos rfl, if_pos (List.getElem?_eq_some_iff.mp hTi).1]
  rfl
theorem yOf_set_ne {i k b a : Nat} {c : jc} (hm : Z0.length = m) (h : a ≠ m + i) : yOf (Z0 ++ T.set i (c.1, c.2.1, c.2.2.set k (some b))) a = yOf (Z0 ++ T) a := by
  by_cases ha : a < Z0.length
  · rw [yOf_lt ha, yOf_lt ha]
  · obtain ⟨j, rfl⟩ : ∃ j, a = m + j := ⟨a - m, by omega⟩
    rw [yOf_ge hm, yOf_ge hm, List.getElem?_set, if_neg (by omega)]
theorem j_putR (hC : jC X G cc nL own rt) (hz : zK (Z0 ++ T) cs) (hm : Z0.length = m) {C : String} {TT : u_T} {N ci index i b : Nat} {c : jc} (k : Nat) (hin : ∀ w ∈ u_ws C TT N, w ∈ tblG) (ty0 : Nat → FieldType) (hty : ∀ k, k < N → parseFieldDescriptor (TT k).2.2.1 = some (ty0 k)) (hnm : ∀ a, a < N → ∀ b, b < N → a ≠ b → (TT a).2.1 ≠ (TT b).2.1) (hc : vwCl[ci]? = some (C, TT, N)) (hk : k < N) (hr : (jRefs.getD ci [])[k]? = some true) (hlt : ci < 13)
    (hfin : (TT k).2.2.2 = true) (hdecl : (TT k).1 = own) (hty2 : ∃ ty1, parseFieldDescriptor (TT k).2.2.1 = some ty1 ∧ ∀ q : Nat, narrow ty1 (.ref q) = .ref q ∧ fits ty1 (.ref q) = true) (hname : X.2.2.2.2.2.2.2.2.1.name = "<init>") (hw : Cond.fieldLink own index (TT k).1 (TT k).2.1 (TT k).2.2.1 ∈ tblG) (hd : decode cc pc = .ok (.putfield index, 3))
    (hTi : T[i]? = some c) (hci : c.1 = ci) (hkn : k < c.2.2.length) (hb : b < (Z0 ++ T).length) {T' : List jc} (hT' : T.set i (c.1, c.2.1, c.2.2.set k (some b)) = T')
    (kk : zK (Z0 ++ T') cs → jJ X G nL (jLf (Z0 ++ T') ad) kc ks Q (pc + 3) lv st μ) : jJ X G nL (jLf (Z0 ++ T) ad) kc ks Q pc lv (.ref (ad b) :: .ref (ad (m + i)) :: st) μ := by
  subst hT'
  intro H locs ls hP hD hS hl
  have ha : jK (jLf (Z0 ++ T) ad) (m + i) ci := jK_app hm hTi hci
  have hy' : (jLf (Z0 ++ T.set i (c.1, c.2.1, c.2.2.set k (some b))) ad).2.1 (m + i) = yC (c.1, c.2.1, c.2.2.set k (some b)) := yOf_set hm hTi
  have hy : (jLf (Z0 ++ T) ad).2.1 (m + i) = yC c := by show yOf (Z0 ++ T) (m + i) = _; rw [yOf_ge hm, hTi]; rfl
  have hl0 : k < (jFs (jLf (Z0 ++ T) ad) μ (m + i)).length := (List.getElem?_eq_some_iff.mp (jFs_get (μ := μ) ha.2 hr)).1
  have e : (jW G (jLf (Z0 ++ T) ad) μ).set (m + i) (ad (m + i), .inr (ci, (jFs (jLf (Z0 ++ T) ad) μ (m + i)).set k (.ref (ad b)))) = jW G (jLf (Z0 ++ T.set i (c.1, c.2.1, c.2.2.set k (some b))) ad) μ := by
    refine jW_setL (L := jLf (Z0 ++ T) ad) (by show (Z0 ++ T.set i _).length = (Z0 ++ T).length; simp) rfl ?_ (fun a h => ?_)
    · rw [jE_obj (show ((jLf (Z0 ++ T.set i (c.1, c.2.1, c.2.2.set k (some b))) ad).2.1 (m + i)).1 = ci by rw [hy']; exact hci) hlt]
      congr 2
      apply List.ext_getElem?
      intro j
      unfold jFs
      rw [List.getElem?_set, List.getElem?_mapIdx, List.getElem?_mapIdx]
      show Option.map _ (jRefs.getD (((jLf (Z0 ++ T.set i (c.1, c.2.1, c.2.2.set k (some b))) ad).2.1 (m + i)).1) [])[j]? = _
      rw [hy', show (yC (c.1, c.2.1, c.2.2.set k (some b))).1 = ci from hci]
      rw [hy, show (yC c).1 = ci from hci]
      by_cases hj : k = j
      · subst hj
        rw [if_pos rfl, if_pos (by rw [List.length_mapIdx]; exact (List.getElem?_eq_some_iff.mp hr).1), hr]
        show some (va_rf ((((jLf (Z0 ++ T.set i (c.1, c.2.1, c.2.2.set k (some b))) ad).2.1 (m + i)).2.2 k).map ad)) = _
        rw [hy']
        show some (va_rf ((((c.2.2.set k (some b))[k]?).getD none).map ad)) = _
        rw [List.getElem?_set, if_pos rfl, if_pos hkn]
        rfl
      · rw [if_neg hj]
        cases (jRefs.getD ci [])[j]? with
        | none => rfl
        | some r =>
          cases r with
          | false => rfl
          | true =>
            show some (va_rf ((((jLf (Z0 ++ T.set i (c.1, c.2.1, c.2.2.set k (some b))) ad).2.1 (m + i)).2.2 j).map ad)) = some (va_rf ((((jLf (Z0 ++ T) ad).2.1 (m + i)).2.2 j).map ad))
            rw [hy', hy]
            show some (va_rf ((((c.2.2.set k (some b))[j]?).getD none).map ad)) = some (va_rf (((c.2.2[j]?).getD none).map ad))
            rw [List.getElem?_set, if_neg hj]
    · exact jE_congr (yOf_set_ne hm h) (fun _ => rfl) rfl rfl
  obtain ⟨ty1, ht1, ht2⟩ := hty2
  refine va_putF hC.1 hC.2.1 hC.2.2.2.2.1 hin ty0 hty hnm hC.2.2.2.1 hC.2.2.2.2.2.1 hP hD hS (m + i) ((jW_get G (jLf (Z0 ++ T) ad) μ ha.1).trans (by rw [jE_obj ha.2 hlt]; rfl)) hc k hk (hC.2.2.2.2.1 _ hw) (fun _ h => h) hfin hname hdecl ht1 (ht2 _).1 (ht2 _).2 hl0 hd (fun H1 locs1 hP1 hD1 hS1 => ?_)
  have e' : (jW G (jLf (Z0 ++ T) ad) μ).set (m + i) ((jLf (Z0 ++ T) ad).2.2 (m + i), .inr (ci, (jFs (jLf (Z0 ++ T) ad) μ (m + i)).set k (.ref (ad b)))) = jW G (jLf (Z0 ++ T.set i (c.1, c.2.1, c.2.2.set k (some b))) ad) μ := e
  first | rw [e] at hP1 hD1 | rw [e'] at hP1 hD1
  exact kk (hz.set hTi hb) H1 locs1 ls hP1 hD1 hS1 hl
theorem j_aast (hC : jC X G cc nL own rt) (hz : zK (Z0 ++ T) cs) (hm : Z0.length = m) {kA ci i j N' b : Nat} {c cb : jc} {r : vw_C} (t : Nat) {x : Int32} (hd : decode cc pc = .ok (.aastore, 1)) (hk : 16 ≤ kA) (hTi : T[i]? = some c) (hcA : c.1 = kA) (hcN : c.2.1 = N') (hTj : T[j]? = some cb) (hcb : cb.1 = ci) (hlt : ci < 13) (hc : vwCl[ci]? = some r) (ht : (jT G)[t]? = some (G.2.2.1 kA, .object r.1)) (hin : vp_in x N') (hx : x.toNatClampNeg = b) (hbn : b < c.2.2.length) {T' : List jc} (hT' : T.set i (c.1, c.2.1, c.2.2.set b (some (m + j))) = T')
    (kk : zK (Z0 ++ T') cs → jJ X G nL (jLf (Z0 ++ T') ad) kc ks Q (pc + 1) lv st μ) : jJ X G nL (jLf (Z0 ++ T) ad) kc ks Q pc lv (.ref (ad (m + j)) :: .int x :: .ref (ad (m + i)) :: st) μ := by
  subst hT'
  intro H locs ls hP hD hS hl
  have ha : jK (jLf (Z0 ++ T) ad) (m + i) kA := jK_app hm hTi hcA
  have hv : jK (jLf (Z0 ++ T) ad) (m + j) ci := jK_app hm hTj hcb
  have hy' : (jLf (Z0 ++ T.set i (c.1, c.2.1, c.2.2.set b (some (m + j)))) ad).2.1 (m + i) = yC (c.1, c.2.1, c.2.2.set b (some (m + j))) := yOf_set hm hTi
  have hy : (jLf (Z0 ++ T) ad).2.1 (m + i) = yC c := by show yOf (Z0 ++ T) (m + i) = _; rw [yOf_ge hm, hTi]; rfl
  have e : (jW G (jLf (Z0 ++ T) ad) μ).set (m + i) (ad (m + i), .inl (G.2.2.1 kA, N', .inr (.inr (.inr (.inr (va_up (fun q => ((yC c).2.2 q).map ad) x.toNatClampNeg (some (ad (m + j))))))))) = jW G (jLf (Z0 ++ T.set i (c.1, c.2.1, c.2.2.set b (some (m + j)))) ad) μ := by
    refine jW_setL (L := jLf (Z0 ++ T) ad) (by show (Z0 ++ T.set i _).length = (Z0 ++ T).length; simp) rfl ?_ (fun a h => jE_congr (yOf_set_ne hm h) (fun _ => rfl) rfl rfl)
    rw [jE_ref (k := kA) (n := N') (by rw [hy']; exact hcA) hk (by rw [hy']; exact hcN), hy']
    congr 7
    funext q
    show (((c.2.2.set b (some (m + j)))[q]?).getD none).map ad = va_up (fun q => ((c.2.2[q]?).getD none).map ad) x.toNatClampNeg (some (ad (m + j))) q
    rw [hx, List.getElem?_set]
    by_cases hq : b = q
    · subst hq
      rw [if_pos rfl, if_pos hbn, va_up_self]
      rfl
    · rw [if_neg hq, va_up_ne _ _ (fun h => hq h.symm)]
  refine va_astq hC.1 hC.2.1 hC.2.2.2.2.2.1 hP hD hS (m + i) t (m + j) ci (r := r) ((jW_get G (jLf (Z0 ++ T) ad) μ ha.1).trans (by rw [jE_ref (k := kA) (n := N') ha.2 hk (by rw [hy]; exact hcN), hy]; rfl)) ht ((jW_get G (jLf (Z0 ++ T) ad) μ hv.1).trans (by rw [jE_obj hv.2 hlt]; rfl)) hc hin hd (fun H1 locs1 hP1 hD1 hS1 => ?_)
  have hP2 : va_P G.2.1 vwCl (jW G (jLf (Z0 ++ T.set i (c.1, c.2.1, c.2.2.set b (some (m + j)))) ad) μ) H1 := by rw [← e]; exact hP1
  have hD2 : va_D (jA G) (jW G (jLf (Z0 ++ T.set i (c.1, c.2.1, c.2.2.set b (some (m + j)))) ad) μ) := by rw [← e]; exact hD1
  exact kk (hz.set hTi (by have := hv.1; exact this)) H1 locs1 ls hP2 hD2 hS1 hl
theorem ko_i : Cond.instanceMethod Lib.objectInit ∈ tblG := tb_mem (by decide +kernel)
theorem ko_c : Cond.code Lib.objectInit ⟨#[0xb1]⟩ 1 none ∈ tblG := tb_mem (by decide +kernel)
theorem j_obj {L : jL} (hC : jC X G cc nL own rt) {index q : Nat} (hw : Cond.methodLink own index Lib.objectInit ∈ tblG) (hd : decode cc pc = .ok (.invokespecial index, 3)) (hf : 1 ≤ X.2.2.2.1.frames) (hlo : (st.map fun v => v.category).sum + 12 ≤ X.2.2.2.1.locals)
    (kk : jJ X G nL L kc ks Q (pc + 3) lv st μ) : jJ X G nL L kc ks Q pc lv (.ref q :: st) μ := fun H locs ls hP hD hS hl =>
  W.objInit (g := F0 X.2.2.2.2.2.1 pc ls (.ref q :: st)) hC.1 hC.2.1 hC.2.2.2.1 (hC.2.2.2.2.1 _ hw) (hC.2.2.2.2.1 _ ko_i) (hC.2.2.2.2.1 _ ko_c) rfl (hl.1.trans hC.2.2.1.symm) rfl hd hf (by show 2 * 0 + _ + 12 ≤ _; omega) (kk H locs ls hP hD hS hl)
end JPut
