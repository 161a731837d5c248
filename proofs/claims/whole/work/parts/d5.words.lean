theorem hlen {Z0 T : List jc} {m k : Nat} (hm : Z0.length = m) (h : T.length = k) : (Z0 ++ T).length = m + k := by rw [List.length_append, hm, h]
theorem c_cast {l : Launch} {G : jG} {dep : Nat} {y : MethodName} {cc : ByteArray} {nL mc ms : Nat} {Z0 A B B' : List jc} {ad : Nat → Nat} {av : List Value} {μ μ' : jM} {cs' : List Nat} (h : jCI l G dep y cc nL mc ms ((Z0 ++ A) ++ B) ad av μ ((Z0 ++ A) ++ B') μ' cs') : jCI l G dep y cc nL mc ms (Z0 ++ (A ++ B)) ad av μ (Z0 ++ (A ++ B')) μ' cs' := by
  rw [List.append_assoc, List.append_assoc] at h
  exact h
theorem inX0 : Cond.instantiable RX0 4 ∈ tblG := tb_mem (by decide +kernel)
theorem iiX0 : Cond.initialized RX0 ∈ tblG := tb_mem (by decide +kernel)
theorem dfX0 : ∀ j, j < 4 → defaultValue (tyX0 j) = vp_V (fs0 0) j := by decide +kernel
theorem inX1 : Cond.instantiable RX1 4 ∈ tblG := tb_mem (by decide +kernel)
theorem iiX1 : Cond.initialized RX1 ∈ tblG := tb_mem (by decide +kernel)
theorem dfX1 : ∀ j, j < 4 → defaultValue (tyX1 j) = vp_V (fs0 1) j := by decide +kernel
theorem inX2 : Cond.instantiable RX2 3 ∈ tblG := tb_mem (by decide +kernel)
theorem iiX2 : Cond.initialized RX2 ∈ tblG := tb_mem (by decide +kernel)
theorem dfX2 : ∀ j, j < 3 → defaultValue (tyX2 j) = vp_V (fs0 2) j := by decide +kernel
theorem inX3 : Cond.instantiable RX3 2 ∈ tblG := tb_mem (by decide +kernel)
theorem iiX3 : Cond.initialized RX3 ∈ tblG := tb_mem (by decide +kernel)
theorem dfX3 : ∀ j, j < 2 → defaultValue (tyX3 j) = vp_V (fs0 3) j := by decide +kernel
theorem inX4 : Cond.instantiable RX4 6 ∈ tblG := tb_mem (by decide +kernel)
theorem iiX4 : Cond.initialized RX4 ∈ tblG := tb_mem (by decide +kernel)
theorem dfX4 : ∀ j, j < 6 → defaultValue (tyX4 j) = vp_V (fs0 4) j := by decide +kernel
theorem inX5 : Cond.instantiable RX5 8 ∈ tblG := tb_mem (by decide +kernel)
theorem iiX5 : Cond.initialized RX5 ∈ tblG := tb_mem (by decide +kernel)
theorem dfX5 : ∀ j, j < 8 → defaultValue (tyX5 j) = vp_V (fs0 5) j := by decide +kernel
theorem inX6 : Cond.instantiable RX6 1 ∈ tblG := tb_mem (by decide +kernel)
theorem iiX6 : Cond.initialized RX6 ∈ tblG := tb_mem (by decide +kernel)
theorem dfX6 : ∀ j, j < 1 → defaultValue (tyX6 j) = vp_V (fs0 6) j := by decide +kernel
theorem inX7 : Cond.instantiable RX7 3 ∈ tblG := tb_mem (by decide +kernel)
theorem iiX7 : Cond.initialized RX7 ∈ tblG := tb_mem (by decide +kernel)
theorem dfX7 : ∀ j, j < 3 → defaultValue (tyX7 j) = vp_V (fs0 7) j := by decide +kernel
theorem inX8 : Cond.instantiable RX8 2 ∈ tblG := tb_mem (by decide +kernel)
theorem iiX8 : Cond.initialized RX8 ∈ tblG := tb_mem (by decide +kernel)
theorem dfX8 : ∀ j, j < 2 → defaultValue (tyX8 j) = vp_V (fs0 8) j := by decide +kernel
theorem inX9 : Cond.instantiable RX9 7 ∈ tblG := tb_mem (by decide +kernel)
theorem iiX9 : Cond.initialized RX9 ∈ tblG := tb_mem (by decide +kernel)
theorem dfX9 : ∀ j, j < 7 → defaultValue (tyX9 j) = vp_V (fs0 9) j := by decide +kernel
theorem inX10 : Cond.instantiable RX10 5 ∈ tblG := tb_mem (by decide +kernel)
theorem iiX10 : Cond.initialized RX10 ∈ tblG := tb_mem (by decide +kernel)
theorem dfX10 : ∀ j, j < 5 → defaultValue (tyX10 j) = vp_V (fs0 10) j := by decide +kernel
theorem inX11 : Cond.instantiable RX11 15 ∈ tblG := tb_mem (by decide +kernel)
theorem iiX11 : Cond.initialized RX11 ∈ tblG := tb_mem (by decide +kernel)
theorem dfX11 : ∀ j, j < 15 → defaultValue (tyX11 j) = vp_V (fs0 11) j := by decide +kernel
theorem inX12 : Cond.instantiable RX12 40 ∈ tblG := tb_mem (by decide +kernel)
theorem iiX12 : Cond.initialized RX12 ∈ tblG := tb_mem (by decide +kernel)
theorem dfX12 : ∀ j, j < 40 → defaultValue (tyX12 j) = vp_V (fs0 12) j := by decide +kernel
