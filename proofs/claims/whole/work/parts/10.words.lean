theorem gw_acn : (Jvm.Cond.native ({ cls := "java/lang/System", name := "arraycopy", desc := "(Ljava/lang/Object;ILjava/lang/Object;II)V" } : Jvm.MethodName)) ∈ gtb := List.mem_filter.mpr ⟨List.mem_of_getElem? (i := 311) (by decide +kernel), by decide +kernel⟩
theorem gw_acs : (Jvm.Cond.static ({ cls := "java/lang/System", name := "arraycopy", desc := "(Ljava/lang/Object;ILjava/lang/Object;II)V" } : Jvm.MethodName)) ∈ gtb := List.mem_filter.mpr ⟨List.mem_of_getElem? (i := 310) (by decide +kernel), by decide +kernel⟩
theorem gw_aci : (Jvm.Cond.initialized "java/lang/System") ∈ gtb := List.mem_filter.mpr ⟨List.mem_of_getElem? (i := 80) (by decide +kernel), by decide +kernel⟩
theorem gw_mi : (Jvm.Cond.initialized "java/lang/Math") ∈ gtb := List.mem_filter.mpr ⟨List.mem_of_getElem? (i := 87) (by decide +kernel), by decide +kernel⟩
theorem gw_maxs : (Jvm.Cond.static ({ cls := "java/lang/Math", name := "max", desc := "(II)I" } : Jvm.MethodName)) ∈ gtb := List.mem_filter.mpr ⟨List.mem_of_getElem? (i := 317) (by decide +kernel), by decide +kernel⟩
theorem gw_maxc : Cond.code Lib.Math.max.name Lib.Math.max.code 2 (some .int) ∈ gtb := List.mem_filter.mpr ⟨List.mem_of_getElem? (i := 318) (by decide +kernel), by decide +kernel⟩
theorem gw_mins : (Jvm.Cond.static ({ cls := "java/lang/Math", name := "min", desc := "(II)I" } : Jvm.MethodName)) ∈ gtb := List.mem_filter.mpr ⟨List.mem_of_getElem? (i := 323) (by decide +kernel), by decide +kernel⟩
theorem gw_minc : Cond.code Lib.Math.min.name Lib.Math.min.code 2 (some .int) ∈ gtb := List.mem_filter.mpr ⟨List.mem_of_getElem? (i := 324) (by decide +kernel), by decide +kernel⟩
theorem gw_abss : (Jvm.Cond.static ({ cls := "java/lang/Math", name := "abs", desc := "(I)I" } : Jvm.MethodName)) ∈ gtb := List.mem_filter.mpr ⟨List.mem_of_getElem? (i := 472) (by decide +kernel), by decide +kernel⟩
theorem gw_absc : Cond.code Lib.Math.abs.name Lib.Math.abs.code 1 (some .int) ∈ gtb := List.mem_filter.mpr ⟨List.mem_of_getElem? (i := 473) (by decide +kernel), by decide +kernel⟩
theorem inG0 : ∀ w ∈ u_ws RX0 TX0 3, w ∈ gtb := by decide +kernel
theorem inG1 : ∀ w ∈ u_ws RX1 TX1 2, w ∈ gtb := by decide +kernel
theorem inG2 : ∀ w ∈ u_ws RX2 TX2 7, w ∈ gtb := by decide +kernel
theorem inG3 : ∀ w ∈ u_ws RX3 TX3 4, w ∈ gtb := by decide +kernel
theorem inG4 : ∀ w ∈ u_ws RX4 TX4 18, w ∈ gtb := by decide +kernel
theorem inG5 : ∀ w ∈ u_ws RX5 TX5 10, w ∈ gtb := by decide +kernel
theorem inG6 : ∀ w ∈ u_ws RX6 TX6 21, w ∈ gtb := by decide +kernel
