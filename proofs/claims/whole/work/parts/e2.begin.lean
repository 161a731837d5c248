theorem cl_L_8 : Cond.classLink RL 8 RX11 ∈ tblG := tb_mem (by decide +kernel)
theorem cl_L_30 : Cond.classLink RL 30 RX12 ∈ tblG := tb_mem (by decide +kernel)
theorem zK_nil : zK ([] ++ []) [] := ⟨fun a c h => by simp at h, fun c h => nomatch h⟩
set_option maxHeartbeats 8000000 in
set_option maxRecDepth 100000 in
theorem law_begin {X : jX} {G : jG} {b Ln : Nat} {xs : Nat → Int32} (hC : jC X G cL_law 8 RL (some .boolean)) (h5 : jT5 G X.2.2.2.2.1) (h6 : jT6 X.2.2.2.2.1) (hR : X.2.2.2.1 = room_1) (hs : X.2.1.stackTraces = false) (hX : va_X b Ln xs X.2.2.2.2.1 X.2.2.2.2.1.heap) (hbl : b < X.2.2.2.2.1.heap.size) (hbA : ¬ jA G b) (hLn : Ln ≤ 2560) {Q : State → Prop} (kend : ∀ (L : jL) (kc ks : Nat) (lv : List (Nat × Value)) (μ : jM), kc ≤ 601024 → ks ≤ 7293034 → jJ X G 8 L kc ks Q 1681 lv [] μ) : jJ X G 8 (jLf ([] ++ []) (fun _ => 0)) 0 0 Q 0 [(0, .ref b)] [] (fl []) := by
  have hz := zK_nil
  refine j_newC (pc := 0) hC hz (n := 0) rfl 14 tin11 tyX11 tyX11_ok (ci := 11) rfl (by decide) dfX11 inX11 iiX11 cl_L_8 dL_law_0 (fl_1 hz (Nat.le_refl 0)) (by rw [hR]; exact Nat.le_of_ble_eq_true rfl) (by rw [hR]; exact Nat.le_of_ble_eq_true rfl) (fun ad1 h1 hz => ?_)
  show jJ X G 8 (jLf ([] ++ [(11, 0, [none, none, none, none, none, none, none, none, none, none, none, none, none, none])]) ad1) 1 15 _ 3 [(0, .ref b)] [.ref (ad1 0)] (fl [])
  refine j_dup (pc := 3) hC dL_law_3 rfl ?_
  refine j_ctor (pc := 4) hC h6 [] (ci_X11 (Z0 := []) (m := 0) rfl hz) yi_X11 km_L_29 dL_law_4 rfl (Nat.le_of_ble_eq_true rfl) (by rw [hR]; exact ⟨Nat.le_of_ble_eq_true rfl, Nat.le_of_ble_eq_true rfl⟩) (by rw [hR]; exact ⟨Nat.le_of_ble_eq_true rfl, Nat.le_of_ble_eq_true rfl⟩) rfl (nz := 1) rfl (fun ad2 h2 hz => ?_)
  have hz : zK ([] ++ LX11 0) CS0 := hz
  show jJ X G 8 (jLf ([] ++ LX11 0) ad2) 201 2468 _ 7 [(0, .ref b)] [.ref (ad1 0)] (fl CS0)
  rw [← h2 0 (by decide)]
  refine j_astore_n (pc := 7) hC 1 [(1, .ref (ad2 0)), (0, .ref b)] dL_law_7 rfl (by decide) rfl rfl ?_
  refine j_newC (pc := 8) (Z0 := []) (T := LX11 0) hC hz (n := 201) Z11_len 40 tin12 tyX12 tyX12_ok (ci := 12) rfl (by decide) dfX12 inX12 iiX12 cl_L_30 dL_law_8 (fl_1 hz (Nat.le_of_eq Z11_len)) (by rw [hR]; exact Nat.le_of_ble_eq_true rfl) (by rw [hR]; exact Nat.le_of_ble_eq_true rfl) (fun ad3 h3 hz => ?_)
  have hz : zK (LX11 0 ++ [(12, 0, [none, none, none, none, none, none, none, none, none, none, none, none, none, none, none, none, none, none, none, none, none, none, none, none, none, none, none, none, none, none, none, none, none, none, none, none, none, none, none, none])]) CS0 := hz
  show jJ X G 8 (jLf (LX11 0 ++ [(12, 0, [none, none, none, none, none, none, none, none, none, none, none, none, none, none, none, none, none, none, none, none, none, none, none, none, none, none, none, none, none, none, none, none, none, none, none, none, none, none, none, none])]) ad3) 202 2508 _ 11 [(1, .ref (ad2 0)), (0, .ref b)] [.ref (ad3 201)] (fl CS0)
  rw [← h3 0 (by decide)]
  refine j_dup (pc := 11) hC dL_law_11 rfl ?_
  refine j_ctor (pc := 12) hC h6 [] (ci_X12 (Z0 := LX11 0) (m := 201) Z11_len hz) yi_X12 km_L_32 dL_law_12 rfl (Nat.le_of_ble_eq_true rfl) (by rw [hR]; exact ⟨Nat.le_of_ble_eq_true rfl, Nat.le_of_ble_eq_true rfl⟩) (by rw [hR]; exact ⟨Nat.le_of_ble_eq_true rfl, Nat.le_of_ble_eq_true rfl⟩) rfl (nz := 201 + 1) (hlen (k := 1) Z11_len rfl) (fun ad4 h4 hz => ?_)
  have hz : zK (LX11 0 ++ LX12 201) CS0 := hz
  show jJ X G 8 (jLf (LX11 0 ++ LX12 201) ad4) 224 14762 _ 15 [(1, .ref (ad3 0)), (0, .ref b)] [.ref (ad3 201)] mem0
  rw [← h4 0 (by decide), ← h4 201 (by decide)]
  refine j_astore_n (pc := 15) hC 2 [(2, .ref (ad4 201)), (1, .ref (ad4 0)), (0, .ref b)] dL_law_15 rfl (by decide) rfl rfl ?_
  refine j_iconst (pc := 16) hC (1 : Int32) dL_law_16 (by decide) ?_
  refine j_newL (pc := 17) (Z0 := LX11 0) (T := LX12 201) hC hz (n := 224) (N' := 1) (by rw [List.length_append, Z11_len, Z12_len]) dL_law_17 rfl (by decide) (by decide) (by decide) (by rw [hR]; exact Nat.le_of_ble_eq_true rfl) (by rw [hR]; exact Nat.le_of_ble_eq_true rfl) (fun ad5 h7 hz => ?_)
  show jJ X G 8 (jLf Zf ad5) 225 14763 _ 19 [(2, .ref (ad4 201)), (1, .ref (ad4 0)), (0, .ref b)] [.ref (ad5 224)] mem0
  rw [← h7 0 (by decide), ← h7 201 (by decide)]
  refine j_astore_n (pc := 19) hC 3 [(3, .ref (ad5 224)), (2, .ref (ad5 201)), (1, .ref (ad5 0)), (0, .ref b)] dL_law_19 rfl (by decide) rfl rfl ?_
  refine j_iconst (pc := 20) hC (0 : Int32) dL_law_20 (by decide) ?_
  refine j_istore (pc := 21) hC [(4, .int (0 : Int32)), (3, .ref (ad5 224)), (2, .ref (ad5 201)), (1, .ref (ad5 0)), (0, .ref b)] dL_law_21 (by decide) rfl rfl ?_
  have h := law_loop (X := X) (G := G) (L := jLf Zf ad5) (b := b) (Ln := Ln) (xs := xs) ⟨hC, h5, hR, hs, hX, hbl, hbA, Zf_ok ad5⟩ hLn (c0 := 225) (s0 := 14763) (by decide) (by decide) (Q := Q) (kend _) 513 0 (Nat.zero_le _) (by omega) mem0 rel_0
  exact j_lv [4, 3, 2, 1, 0] rfl h
