/-! facts of the constructors -/
def M_X4_init : MI := (yX4_init, cX4_init, 1, none, 2, 0, 10, 230, [])
theorem w_34 : (Jvm.Cond.code ({ cls := "ErrataPress$State", name := "<init>", desc := "()V" } : Jvm.MethodName) prog_6_method_1_code (1 : Nat) (Option.none : Option Jvm.ClassFile.FieldType)) ∈ gtb := List.mem_filter.mpr ⟨List.mem_of_getElem? (i := 106) (by decide +kernel), by decide +kernel⟩
theorem w_33 : (Jvm.Cond.instanceMethod ({ cls := "ErrataPress$State", name := "<init>", desc := "()V" } : Jvm.MethodName)) ∈ gtb := List.mem_filter.mpr ⟨List.mem_of_getElem? (i := 105) (by decide +kernel), by decide +kernel⟩
theorem ci_X4 : CFI0 M_X4_init := ⟨rfl, w_34, w_2, ⟨by decide +kernel, by decide +kernel, by decide +kernel⟩, by decide +kernel, by decide +kernel, rfl, w_33, rfl⟩
def M_X3_init : MI := (yX3_init, cX3_init, 1, none, 2, 0, 0, 0, [])
theorem w_128 : (Jvm.Cond.code ({ cls := "ErrataPress$Refusal", name := "<init>", desc := "()V" } : Jvm.MethodName) prog_5_method_1_code (1 : Nat) (Option.none : Option Jvm.ClassFile.FieldType)) ∈ gtb := List.mem_filter.mpr ⟨List.mem_of_getElem? (i := 200) (by decide +kernel), by decide +kernel⟩
theorem w_127 : (Jvm.Cond.instanceMethod ({ cls := "ErrataPress$Refusal", name := "<init>", desc := "()V" } : Jvm.MethodName)) ∈ gtb := List.mem_filter.mpr ⟨List.mem_of_getElem? (i := 199) (by decide +kernel), by decide +kernel⟩
theorem ci_X3 : CFI0 M_X3_init := ⟨rfl, w_128, w_4, ⟨by decide +kernel, by decide +kernel, by decide +kernel⟩, by decide +kernel, by decide +kernel, rfl, w_127, rfl⟩
def M_X2_init : MI := (yX2_init, cX2_init, 1, none, 2, 0, 1, 60, [])
theorem w_151 : (Jvm.Cond.code ({ cls := "ErrataPress$OrderText", name := "<init>", desc := "()V" } : Jvm.MethodName) prog_4_method_1_code (1 : Nat) (Option.none : Option Jvm.ClassFile.FieldType)) ∈ gtb := List.mem_filter.mpr ⟨List.mem_of_getElem? (i := 223) (by decide +kernel), by decide +kernel⟩
theorem w_150 : (Jvm.Cond.instanceMethod ({ cls := "ErrataPress$OrderText", name := "<init>", desc := "()V" } : Jvm.MethodName)) ∈ gtb := List.mem_filter.mpr ⟨List.mem_of_getElem? (i := 222) (by decide +kernel), by decide +kernel⟩
theorem ci_X2 : CFI0 M_X2_init := ⟨rfl, w_151, w_5, ⟨by decide +kernel, by decide +kernel, by decide +kernel⟩, by decide +kernel, by decide +kernel, rfl, w_150, rfl⟩
def M_X1_init : MI := (yX1_init, cX1_init, 1, none, 2, 0, 1, 18, [])
theorem w_187 : (Jvm.Cond.code ({ cls := "ErrataPress$LineText", name := "<init>", desc := "()V" } : Jvm.MethodName) prog_3_method_1_code (1 : Nat) (Option.none : Option Jvm.ClassFile.FieldType)) ∈ gtb := List.mem_filter.mpr ⟨List.mem_of_getElem? (i := 259) (by decide +kernel), by decide +kernel⟩
theorem w_186 : (Jvm.Cond.instanceMethod ({ cls := "ErrataPress$LineText", name := "<init>", desc := "()V" } : Jvm.MethodName)) ∈ gtb := List.mem_filter.mpr ⟨List.mem_of_getElem? (i := 258) (by decide +kernel), by decide +kernel⟩
theorem ci_X1 : CFI0 M_X1_init := ⟨rfl, w_187, w_6, ⟨by decide +kernel, by decide +kernel, by decide +kernel⟩, by decide +kernel, by decide +kernel, rfl, w_186, rfl⟩
def M_X0_init : MI := (yX0_init, cX0_init, 2, none, 3, 0, 89, 1992, [])
theorem w_108 : (Jvm.Cond.code ({ cls := "ErrataPress$History", name := "<init>", desc := "()V" } : Jvm.MethodName) prog_2_method_1_code (2 : Nat) (Option.none : Option Jvm.ClassFile.FieldType)) ∈ gtb := List.mem_filter.mpr ⟨List.mem_of_getElem? (i := 180) (by decide +kernel), by decide +kernel⟩
theorem w_107 : (Jvm.Cond.instanceMethod ({ cls := "ErrataPress$History", name := "<init>", desc := "()V" } : Jvm.MethodName)) ∈ gtb := List.mem_filter.mpr ⟨List.mem_of_getElem? (i := 179) (by decide +kernel), by decide +kernel⟩
theorem ci_X0 : CFI0 M_X0_init := ⟨rfl, w_108, w_3, ⟨by decide +kernel, by decide +kernel, by decide +kernel⟩, by decide +kernel, by decide +kernel, rfl, w_107, rfl⟩
def M_X5_init : MI := (yX5_init, cX5_init, 1, none, 4, 0, 139, 3078, [])
theorem w_26 : (Jvm.Cond.code ({ cls := "ErrataPress", name := "<init>", desc := "()V" } : Jvm.MethodName) prog_1_method_1_code (1 : Nat) (Option.none : Option Jvm.ClassFile.FieldType)) ∈ gtb := List.mem_filter.mpr ⟨List.mem_of_getElem? (i := 98) (by decide +kernel), by decide +kernel⟩
theorem w_25 : (Jvm.Cond.instanceMethod ({ cls := "ErrataPress", name := "<init>", desc := "()V" } : Jvm.MethodName)) ∈ gtb := List.mem_filter.mpr ⟨List.mem_of_getElem? (i := 97) (by decide +kernel), by decide +kernel⟩
theorem ci_X5 : CFI0 M_X5_init := ⟨rfl, w_26, w_1, ⟨by decide +kernel, by decide +kernel, by decide +kernel⟩, by decide +kernel, by decide +kernel, rfl, w_25, rfl⟩
def M_X6_init : MI := (yX6_init, cX6_init, 1, none, 2, 0, 7, 2864, [])
theorem w_1025 : (Jvm.Cond.code ({ cls := "ErrataPressModel", name := "<init>", desc := "()V" } : Jvm.MethodName) prog_8_method_1_code (1 : Nat) (Option.none : Option Jvm.ClassFile.FieldType)) ∈ gtb := List.mem_filter.mpr ⟨List.mem_of_getElem? (i := 1097) (by decide +kernel), by decide +kernel⟩
theorem w_1024 : (Jvm.Cond.instanceMethod ({ cls := "ErrataPressModel", name := "<init>", desc := "()V" } : Jvm.MethodName)) ∈ gtb := List.mem_filter.mpr ⟨List.mem_of_getElem? (i := 1096) (by decide +kernel), by decide +kernel⟩
theorem ci_X6 : CFI0 M_X6_init := ⟨rfl, w_1025, w_7, ⟨by decide +kernel, by decide +kernel, by decide +kernel⟩, by decide +kernel, by decide +kernel, rfl, w_1024, rfl⟩
theorem w_35 : (Jvm.Cond.methodLink "ErrataPress$State" (3 : Nat) ({ cls := "java/lang/Object", name := "<init>", desc := "()V" } : Jvm.MethodName)) ∈ gtb := List.mem_filter.mpr ⟨List.mem_of_getElem? (i := 107) (by decide +kernel), by decide +kernel⟩
theorem fpf_X4_9 : FPF RX4 9 0 8 := ⟨RX4, TX4, 18, tyX4, rfl, inG4, by decide, rfl, w_50, tyX4_ok, nmX4, rfl, rfl, rfl, fun _ => rfl, fun _ => rfl⟩
theorem fpf_X4_15 : FPF RX4 15 0 9 := ⟨RX4, TX4, 18, tyX4, rfl, inG4, by decide, rfl, w_52, tyX4_ok, nmX4, rfl, rfl, rfl, fun _ => rfl, fun _ => rfl⟩
theorem fpf_X4_18 : FPF RX4 18 0 10 := ⟨RX4, TX4, 18, tyX4, rfl, inG4, by decide, rfl, w_54, tyX4_ok, nmX4, rfl, rfl, rfl, fun _ => rfl, fun _ => rfl⟩
theorem fpf_X4_21 : FPF RX4 21 0 11 := ⟨RX4, TX4, 18, tyX4, rfl, inG4, by decide, rfl, w_56, tyX4_ok, nmX4, rfl, rfl, rfl, fun _ => rfl, fun _ => rfl⟩
theorem fpf_X4_24 : FPF RX4 24 0 12 := ⟨RX4, TX4, 18, tyX4, rfl, inG4, by decide, rfl, w_58, tyX4_ok, nmX4, rfl, rfl, rfl, fun _ => rfl, fun _ => rfl⟩
theorem fpf_X4_27 : FPF RX4 27 0 13 := ⟨RX4, TX4, 18, tyX4, rfl, inG4, by decide, rfl, w_60, tyX4_ok, nmX4, rfl, rfl, rfl, fun _ => rfl, fun _ => rfl⟩
theorem fpf_X4_30 : FPF RX4 30 0 14 := ⟨RX4, TX4, 18, tyX4, rfl, inG4, by decide, rfl, w_61, tyX4_ok, nmX4, rfl, rfl, rfl, fun _ => rfl, fun _ => rfl⟩
theorem fpf_X4_33 : FPF RX4 33 0 15 := ⟨RX4, TX4, 18, tyX4, rfl, inG4, by decide, rfl, w_62, tyX4_ok, nmX4, rfl, rfl, rfl, fun _ => rfl, fun _ => rfl⟩
theorem fpf_X4_36 : FPF RX4 36 0 16 := ⟨RX4, TX4, 18, tyX4, rfl, inG4, by decide, rfl, w_64, tyX4_ok, nmX4, rfl, rfl, rfl, fun _ => rfl, fun _ => rfl⟩
theorem fpf_X4_39 : FPF RX4 39 0 17 := ⟨RX4, TX4, 18, tyX4, rfl, inG4, by decide, rfl, w_65, tyX4_ok, nmX4, rfl, rfl, rfl, fun _ => rfl, fun _ => rfl⟩
theorem w_129 : (Jvm.Cond.methodLink "ErrataPress$Refusal" (3 : Nat) ({ cls := "java/lang/Object", name := "<init>", desc := "()V" } : Jvm.MethodName)) ∈ gtb := List.mem_filter.mpr ⟨List.mem_of_getElem? (i := 201) (by decide +kernel), by decide +kernel⟩
theorem w_152 : (Jvm.Cond.methodLink "ErrataPress$OrderText" (3 : Nat) ({ cls := "java/lang/Object", name := "<init>", desc := "()V" } : Jvm.MethodName)) ∈ gtb := List.mem_filter.mpr ⟨List.mem_of_getElem? (i := 224) (by decide +kernel), by decide +kernel⟩
theorem fpf_X2_9 : FPF RX2 9 15 0 := ⟨RX2, TX2, 7, tyX2, rfl, inG2, by decide, rfl, w_153, tyX2_ok, nmX2, rfl, rfl, rfl, fun _ => rfl, fun _ => rfl⟩
theorem w_188 : (Jvm.Cond.methodLink "ErrataPress$LineText" (3 : Nat) ({ cls := "java/lang/Object", name := "<init>", desc := "()V" } : Jvm.MethodName)) ∈ gtb := List.mem_filter.mpr ⟨List.mem_of_getElem? (i := 260) (by decide +kernel), by decide +kernel⟩
theorem fpf_X1_9 : FPF RX1 9 17 0 := ⟨RX1, TX1, 2, tyX1, rfl, inG1, by decide, rfl, w_189, tyX1_ok, nmX1, rfl, rfl, rfl, fun _ => rfl, fun _ => rfl⟩
theorem w_1026 : (Jvm.Cond.methodLink "ErrataPressModel" (1 : Nat) ({ cls := "java/lang/Object", name := "<init>", desc := "()V" } : Jvm.MethodName)) ∈ gtb := List.mem_filter.mpr ⟨List.mem_of_getElem? (i := 1098) (by decide +kernel), by decide +kernel⟩
theorem fpf_X6_7 : FPF RX6 7 19 0 := ⟨RX6, TX6, 21, tyX6, rfl, inG6, by decide, rfl, w_1027, tyX6_ok, nmX6, rfl, rfl, rfl, fun _ => rfl, fun _ => rfl⟩
theorem fpf_X6_13 : FPF RX6 13 19 1 := ⟨RX6, TX6, 21, tyX6, rfl, inG6, by decide, rfl, w_1028, tyX6_ok, nmX6, rfl, rfl, rfl, fun _ => rfl, fun _ => rfl⟩
theorem fpf_X6_16 : FPF RX6 16 19 2 := ⟨RX6, TX6, 21, tyX6, rfl, inG6, by decide, rfl, w_1029, tyX6_ok, nmX6, rfl, rfl, rfl, fun _ => rfl, fun _ => rfl⟩
theorem fpf_X6_19 : FPF RX6 19 19 3 := ⟨RX6, TX6, 21, tyX6, rfl, inG6, by decide, rfl, w_1030, tyX6_ok, nmX6, rfl, rfl, rfl, fun _ => rfl, fun _ => rfl⟩
theorem fpf_X6_22 : FPF RX6 22 19 13 := ⟨RX6, TX6, 21, tyX6, rfl, inG6, by decide, rfl, w_1040, tyX6_ok, nmX6, rfl, rfl, rfl, fun _ => rfl, fun _ => rfl⟩
theorem fpf_X6_29 : FPF RX6 29 19 16 := ⟨RX6, TX6, 21, tyX6, rfl, inG6, by decide, rfl, w_1043, tyX6_ok, nmX6, rfl, rfl, rfl, fun _ => rfl, fun _ => rfl⟩
theorem fpf_X6_33 : FPF RX6 33 19 19 := ⟨RX6, TX6, 21, tyX6, rfl, inG6, by decide, rfl, w_1046, tyX6_ok, nmX6, rfl, rfl, rfl, fun _ => rfl, fun _ => rfl⟩
theorem fpf_X0_11 : FPF RX0 11 12 0 := ⟨RX0, TX0, 3, tyX0, rfl, inG0, by decide, rfl, w_113, tyX0_ok, nmX0, rfl, rfl, rfl, fun _ => rfl, fun _ => rfl⟩
theorem w_110 : (Jvm.Cond.classLink "ErrataPress$History" (9 : Nat) "ErrataPress$State") ∈ gtb := List.mem_filter.mpr ⟨List.mem_of_getElem? (i := 182) (by decide +kernel), by decide +kernel⟩
theorem w_31 : (Jvm.Cond.instantiable "ErrataPress$State" (18 : Nat)) ∈ gtb := List.mem_filter.mpr ⟨List.mem_of_getElem? (i := 103) (by decide +kernel), by decide +kernel⟩
theorem fn_X0_9 : FN RX0 9 0 18 := ⟨RX4, TX4, tyX4, rfl, inG4, tyX4_ok, w_110, w_31, w_2, rfl, by decide +kernel⟩
theorem w_112 : (Jvm.Cond.methodLinkNest "ErrataPress$History" (17 : Nat) ({ cls := "ErrataPress$State", name := "<init>", desc := "()V" } : Jvm.MethodName) "ErrataPress") ∈ ntb := List.mem_filter.mpr ⟨List.mem_of_getElem? (i := 184) (by decide +kernel), by decide +kernel⟩
theorem cfn_X0_17 : CFIN RX0 17 M_X4_init "ErrataPress" := ⟨ci_X4, w_112⟩
theorem w_109 : (Jvm.Cond.methodLink "ErrataPress$History" (3 : Nat) ({ cls := "java/lang/Object", name := "<init>", desc := "()V" } : Jvm.MethodName)) ∈ gtb := List.mem_filter.mpr ⟨List.mem_of_getElem? (i := 181) (by decide +kernel), by decide +kernel⟩
theorem w_27 : (Jvm.Cond.methodLink "ErrataPress" (3 : Nat) ({ cls := "java/lang/Object", name := "<init>", desc := "()V" } : Jvm.MethodName)) ∈ gtb := List.mem_filter.mpr ⟨List.mem_of_getElem? (i := 99) (by decide +kernel), by decide +kernel⟩
theorem w_30 : (Jvm.Cond.classLink "ErrataPress" (9 : Nat) "ErrataPress$State") ∈ gtb := List.mem_filter.mpr ⟨List.mem_of_getElem? (i := 102) (by decide +kernel), by decide +kernel⟩
theorem fn_X5_9 : FN RX5 9 0 18 := ⟨RX4, TX4, tyX4, rfl, inG4, tyX4_ok, w_30, w_31, w_2, rfl, by decide +kernel⟩
theorem w_32 : (Jvm.Cond.methodLinkNest "ErrataPress" (11 : Nat) ({ cls := "ErrataPress$State", name := "<init>", desc := "()V" } : Jvm.MethodName) "ErrataPress") ∈ ntb := List.mem_filter.mpr ⟨List.mem_of_getElem? (i := 104) (by decide +kernel), by decide +kernel⟩
theorem cfn_X5_11 : CFIN RX5 11 M_X4_init "ErrataPress" := ⟨ci_X4, w_32⟩
theorem fpf_X5_12 : FPF RX5 12 11 0 := ⟨RX5, TX5, 10, tyX5, rfl, inG5, by decide, rfl, w_198, tyX5_ok, nmX5, rfl, rfl, rfl, fun _ => rfl, fun _ => rfl⟩
theorem fpf_X5_16 : FPF RX5 16 11 1 := ⟨RX5, TX5, 10, tyX5, rfl, inG5, by decide, rfl, w_199, tyX5_ok, nmX5, rfl, rfl, rfl, fun _ => rfl, fun _ => rfl⟩
theorem fpf_X5_19 : FPF RX5 19 11 2 := ⟨RX5, TX5, 10, tyX5, rfl, inG5, by decide, rfl, w_200, tyX5_ok, nmX5, rfl, rfl, rfl, fun _ => rfl, fun _ => rfl⟩
theorem fpf_X5_22 : FPF RX5 22 11 3 := ⟨RX5, TX5, 10, tyX5, rfl, inG5, by decide, rfl, w_201, tyX5_ok, nmX5, rfl, rfl, rfl, fun _ => rfl, fun _ => rfl⟩
theorem w_104 : (Jvm.Cond.classLink "ErrataPress" (25 : Nat) "ErrataPress$History") ∈ gtb := List.mem_filter.mpr ⟨List.mem_of_getElem? (i := 176) (by decide +kernel), by decide +kernel⟩
theorem w_105 : (Jvm.Cond.instantiable "ErrataPress$History" (3 : Nat)) ∈ gtb := List.mem_filter.mpr ⟨List.mem_of_getElem? (i := 177) (by decide +kernel), by decide +kernel⟩
theorem fn_X5_25 : FN RX5 25 12 3 := ⟨RX0, TX0, tyX0, rfl, inG0, tyX0_ok, w_104, w_105, w_3, rfl, by decide +kernel⟩
theorem w_106 : (Jvm.Cond.methodLink "ErrataPress" (27 : Nat) ({ cls := "ErrataPress$History", name := "<init>", desc := "()V" } : Jvm.MethodName)) ∈ gtb := List.mem_filter.mpr ⟨List.mem_of_getElem? (i := 178) (by decide +kernel), by decide +kernel⟩
theorem cfi_X5_27 : CFI RX5 27 M_X0_init := ⟨ci_X0, w_106⟩
theorem fpf_X5_28 : FPF RX5 28 11 4 := ⟨RX5, TX5, 10, tyX5, rfl, inG5, by decide, rfl, w_202, tyX5_ok, nmX5, rfl, rfl, rfl, fun _ => rfl, fun _ => rfl⟩
theorem w_124 : (Jvm.Cond.classLink "ErrataPress" (32 : Nat) "ErrataPress$Refusal") ∈ gtb := List.mem_filter.mpr ⟨List.mem_of_getElem? (i := 196) (by decide +kernel), by decide +kernel⟩
theorem w_125 : (Jvm.Cond.instantiable "ErrataPress$Refusal" (4 : Nat)) ∈ gtb := List.mem_filter.mpr ⟨List.mem_of_getElem? (i := 197) (by decide +kernel), by decide +kernel⟩
theorem fn_X5_32 : FN RX5 32 14 4 := ⟨RX3, TX3, tyX3, rfl, inG3, tyX3_ok, w_124, w_125, w_4, rfl, by decide +kernel⟩
theorem w_126 : (Jvm.Cond.methodLinkNest "ErrataPress" (34 : Nat) ({ cls := "ErrataPress$Refusal", name := "<init>", desc := "()V" } : Jvm.MethodName) "ErrataPress") ∈ ntb := List.mem_filter.mpr ⟨List.mem_of_getElem? (i := 198) (by decide +kernel), by decide +kernel⟩
theorem cfn_X5_34 : CFIN RX5 34 M_X3_init "ErrataPress" := ⟨ci_X3, w_126⟩
theorem fpf_X5_35 : FPF RX5 35 11 5 := ⟨RX5, TX5, 10, tyX5, rfl, inG5, by decide, rfl, w_203, tyX5_ok, nmX5, rfl, rfl, rfl, fun _ => rfl, fun _ => rfl⟩
theorem w_147 : (Jvm.Cond.classLink "ErrataPress" (39 : Nat) "ErrataPress$OrderText") ∈ gtb := List.mem_filter.mpr ⟨List.mem_of_getElem? (i := 219) (by decide +kernel), by decide +kernel⟩
theorem w_148 : (Jvm.Cond.instantiable "ErrataPress$OrderText" (7 : Nat)) ∈ gtb := List.mem_filter.mpr ⟨List.mem_of_getElem? (i := 220) (by decide +kernel), by decide +kernel⟩
theorem fn_X5_39 : FN RX5 39 15 7 := ⟨RX2, TX2, tyX2, rfl, inG2, tyX2_ok, w_147, w_148, w_5, rfl, by decide +kernel⟩
theorem w_149 : (Jvm.Cond.methodLinkNest "ErrataPress" (41 : Nat) ({ cls := "ErrataPress$OrderText", name := "<init>", desc := "()V" } : Jvm.MethodName) "ErrataPress") ∈ ntb := List.mem_filter.mpr ⟨List.mem_of_getElem? (i := 221) (by decide +kernel), by decide +kernel⟩
theorem cfn_X5_41 : CFIN RX5 41 M_X2_init "ErrataPress" := ⟨ci_X2, w_149⟩
theorem fpf_X5_42 : FPF RX5 42 11 6 := ⟨RX5, TX5, 10, tyX5, rfl, inG5, by decide, rfl, w_204, tyX5_ok, nmX5, rfl, rfl, rfl, fun _ => rfl, fun _ => rfl⟩
theorem w_183 : (Jvm.Cond.classLink "ErrataPress" (46 : Nat) "ErrataPress$LineText") ∈ gtb := List.mem_filter.mpr ⟨List.mem_of_getElem? (i := 255) (by decide +kernel), by decide +kernel⟩
theorem w_184 : (Jvm.Cond.instantiable "ErrataPress$LineText" (2 : Nat)) ∈ gtb := List.mem_filter.mpr ⟨List.mem_of_getElem? (i := 256) (by decide +kernel), by decide +kernel⟩
theorem fn_X5_46 : FN RX5 46 17 2 := ⟨RX1, TX1, tyX1, rfl, inG1, tyX1_ok, w_183, w_184, w_6, rfl, by decide +kernel⟩
theorem w_185 : (Jvm.Cond.methodLinkNest "ErrataPress" (48 : Nat) ({ cls := "ErrataPress$LineText", name := "<init>", desc := "()V" } : Jvm.MethodName) "ErrataPress") ∈ ntb := List.mem_filter.mpr ⟨List.mem_of_getElem? (i := 257) (by decide +kernel), by decide +kernel⟩
theorem cfn_X5_48 : CFIN RX5 48 M_X1_init "ErrataPress" := ⟨ci_X1, w_185⟩
theorem fpf_X5_49 : FPF RX5 49 11 7 := ⟨RX5, TX5, 10, tyX5, rfl, inG5, by decide, rfl, w_205, tyX5_ok, nmX5, rfl, rfl, rfl, fun _ => rfl, fun _ => rfl⟩
theorem w_22 : (Jvm.Cond.classLink "ErrataPressLaw" (8 : Nat) "ErrataPress") ∈ gtb := List.mem_filter.mpr ⟨List.mem_of_getElem? (i := 94) (by decide +kernel), by decide +kernel⟩
theorem w_23 : (Jvm.Cond.instantiable "ErrataPress" (10 : Nat)) ∈ gtb := List.mem_filter.mpr ⟨List.mem_of_getElem? (i := 95) (by decide +kernel), by decide +kernel⟩
theorem fn_L_8 : FN RL 8 11 10 := ⟨RX5, TX5, tyX5, rfl, inG5, tyX5_ok, w_22, w_23, w_1, rfl, by decide +kernel⟩
theorem w_1021 : (Jvm.Cond.classLink "ErrataPressLaw" (135 : Nat) "ErrataPressModel") ∈ gtb := List.mem_filter.mpr ⟨List.mem_of_getElem? (i := 1093) (by decide +kernel), by decide +kernel⟩
theorem w_1022 : (Jvm.Cond.instantiable "ErrataPressModel" (21 : Nat)) ∈ gtb := List.mem_filter.mpr ⟨List.mem_of_getElem? (i := 1094) (by decide +kernel), by decide +kernel⟩
theorem fn_L_135 : FN RL 135 19 21 := ⟨RX6, TX6, tyX6, rfl, inG6, tyX6_ok, w_1021, w_1022, w_7, rfl, by decide +kernel⟩
theorem w_24 : (Jvm.Cond.methodLink "ErrataPressLaw" (134 : Nat) ({ cls := "ErrataPress", name := "<init>", desc := "()V" } : Jvm.MethodName)) ∈ gtb := List.mem_filter.mpr ⟨List.mem_of_getElem? (i := 96) (by decide +kernel), by decide +kernel⟩
theorem cfi_L_134 : CFI RL 134 M_X5_init := ⟨ci_X5, w_24⟩
theorem w_1023 : (Jvm.Cond.methodLink "ErrataPressLaw" (137 : Nat) ({ cls := "ErrataPressModel", name := "<init>", desc := "()V" } : Jvm.MethodName)) ∈ gtb := List.mem_filter.mpr ⟨List.mem_of_getElem? (i := 1095) (by decide +kernel), by decide +kernel⟩
theorem cfi_L_137 : CFI RL 137 M_X6_init := ⟨ci_X6, w_1023⟩
