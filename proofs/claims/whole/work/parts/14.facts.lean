theorem w_113 : (Jvm.Cond.fieldLink "ErrataPress$History" (11 : Nat) "ErrataPress$History" "rows" "[LErrataPress$State;") ∈ gtb := List.mem_filter.mpr ⟨List.mem_of_getElem? (i := 185) (by decide +kernel), by decide +kernel⟩
theorem ff_X0_11 : FF RX0 11 12 0 := ⟨RX0, TX0, 3, rfl, inG0, by decide, rfl, w_113⟩
theorem w_114 : (Jvm.Cond.fieldLink "ErrataPress$History" (18 : Nat) "ErrataPress$History" "next" "I") ∈ gtb := List.mem_filter.mpr ⟨List.mem_of_getElem? (i := 186) (by decide +kernel), by decide +kernel⟩
theorem ff_X0_18 : FF RX0 18 12 1 := ⟨RX0, TX0, 3, rfl, inG0, by decide, rfl, w_114⟩
def M_X4_copyFrom : MI := (yX4_copyFrom, cX4_copyFrom, 2, none, 2, 0, 0, 0, [])
theorem w_236 : (Jvm.Cond.code ({ cls := "ErrataPress$State", name := "copyFrom", desc := "(LErrataPress$State;)V" } : Jvm.MethodName) prog_6_method_2_code (2 : Nat) (Option.none : Option Jvm.ClassFile.FieldType)) ∈ gtb := List.mem_filter.mpr ⟨List.mem_of_getElem? (i := 308) (by decide +kernel), by decide +kernel⟩
theorem w_2 : (Jvm.Cond.initialized "ErrataPress$State") ∈ gtb := List.mem_filter.mpr ⟨List.mem_of_getElem? (i := 74) (by decide +kernel), by decide +kernel⟩
theorem k_X4_copyFrom : CF0 M_X4_copyFrom 1 := ⟨rfl, w_236, w_2, ⟨by decide +kernel, by decide +kernel, by decide +kernel⟩, by decide +kernel, by decide +kernel, rfl, rfl, rfl⟩
theorem w_373 : (Jvm.Cond.methodLink "ErrataPress$History" (22 : Nat) ({ cls := "ErrataPress$State", name := "copyFrom", desc := "(LErrataPress$State;)V" } : Jvm.MethodName)) ∈ gtb := List.mem_filter.mpr ⟨List.mem_of_getElem? (i := 445) (by decide +kernel), by decide +kernel⟩
theorem w_234 : (Jvm.Cond.instanceMethod ({ cls := "ErrataPress$State", name := "copyFrom", desc := "(LErrataPress$State;)V" } : Jvm.MethodName)) ∈ gtb := List.mem_filter.mpr ⟨List.mem_of_getElem? (i := 306) (by decide +kernel), by decide +kernel⟩
theorem sel_X4_copyFrom : (Jvm.Cond.selects "ErrataPress$State" ({ cls := "ErrataPress$State", name := "copyFrom", desc := "(LErrataPress$State;)V" } : Jvm.MethodName) ({ cls := "ErrataPress$State", name := "copyFrom", desc := "(LErrataPress$State;)V" } : Jvm.MethodName)) ∈ gtb := List.mem_filter.mpr ⟨List.mem_of_getElem? (i := 307) (by decide +kernel), by decide +kernel⟩
theorem cv_X0_22 : CFV RX0 22 0 M_X4_copyFrom 1 := ⟨k_X4_copyFrom, w_373, w_234, sel_X4_copyFrom, rfl, _, rfl, rfl⟩
theorem fp_X0_18 : FP2 RX0 18 12 1 .int := ⟨RX0, TX0, 3, tyX0, rfl, inG0, by decide, rfl, w_114, tyX0_ok, nmX0, rfl, rfl, rfl⟩
theorem w_115 : (Jvm.Cond.fieldLink "ErrataPress$History" (26 : Nat) "ErrataPress$History" "count" "I") ∈ gtb := List.mem_filter.mpr ⟨List.mem_of_getElem? (i := 187) (by decide +kernel), by decide +kernel⟩
theorem ff_X0_26 : FF RX0 26 12 2 := ⟨RX0, TX0, 3, rfl, inG0, by decide, rfl, w_115⟩
theorem w_374 : (Jvm.Cond.methodLink "ErrataPress$History" (29 : Nat) ({ cls := "java/lang/Math", name := "min", desc := "(II)I" } : Jvm.MethodName)) ∈ gtb := List.mem_filter.mpr ⟨List.mem_of_getElem? (i := 446) (by decide +kernel), by decide +kernel⟩
theorem fp_X0_26 : FP2 RX0 26 12 2 .int := ⟨RX0, TX0, 3, tyX0, rfl, inG0, by decide, rfl, w_115, tyX0_ok, nmX0, rfl, rfl, rfl⟩
def M_X0_keep : MI := (yX0_keep, cX0_keep, 2, none, 3, 0, 0, 0, [])
def M_X0_takeBack : MI := (yX0_takeBack, cX0_takeBack, 2, none, 3, 0, 0, 0, [])
theorem w_191 : (Jvm.Cond.fieldLink "ErrataPress$LineText" (15 : Nat) "ErrataPress$LineText" "length" "I") ∈ gtb := List.mem_filter.mpr ⟨List.mem_of_getElem? (i := 263) (by decide +kernel), by decide +kernel⟩
theorem ff_X1_15 : FF RX1 15 17 1 := ⟨RX1, TX1, 2, rfl, inG1, by decide, rfl, w_191⟩
theorem w_189 : (Jvm.Cond.fieldLink "ErrataPress$LineText" (9 : Nat) "ErrataPress$LineText" "signs" "[C") ∈ gtb := List.mem_filter.mpr ⟨List.mem_of_getElem? (i := 261) (by decide +kernel), by decide +kernel⟩
theorem ff_X1_9 : FF RX1 9 17 0 := ⟨RX1, TX1, 2, rfl, inG1, by decide, rfl, w_189⟩
theorem fp_X1_15 : FP2 RX1 15 17 1 .int := ⟨RX1, TX1, 2, tyX1, rfl, inG1, by decide, rfl, w_191, tyX1_ok, nmX1, rfl, rfl, rfl⟩
def M_X1_put : MI := (yX1_put, cX1_put, 2, none, 2, 0, 0, 0, [])
theorem w_833 : (Jvm.Cond.code ({ cls := "ErrataPress$LineText", name := "put", desc := "(C)V" } : Jvm.MethodName) prog_3_method_2_code (2 : Nat) (Option.none : Option Jvm.ClassFile.FieldType)) ∈ gtb := List.mem_filter.mpr ⟨List.mem_of_getElem? (i := 905) (by decide +kernel), by decide +kernel⟩
theorem w_6 : (Jvm.Cond.initialized "ErrataPress$LineText") ∈ gtb := List.mem_filter.mpr ⟨List.mem_of_getElem? (i := 78) (by decide +kernel), by decide +kernel⟩
theorem k_X1_put : CF0 M_X1_put 1 := ⟨rfl, w_833, w_6, ⟨by decide +kernel, by decide +kernel, by decide +kernel⟩, by decide +kernel, by decide +kernel, rfl, rfl, rfl⟩
theorem w_830 : (Jvm.Cond.methodLink "ErrataPress$LineText" (19 : Nat) ({ cls := "ErrataPress$LineText", name := "put", desc := "(C)V" } : Jvm.MethodName)) ∈ gtb := List.mem_filter.mpr ⟨List.mem_of_getElem? (i := 902) (by decide +kernel), by decide +kernel⟩
theorem w_831 : (Jvm.Cond.instanceMethod ({ cls := "ErrataPress$LineText", name := "put", desc := "(C)V" } : Jvm.MethodName)) ∈ gtb := List.mem_filter.mpr ⟨List.mem_of_getElem? (i := 903) (by decide +kernel), by decide +kernel⟩
theorem sel_X1_put : (Jvm.Cond.selects "ErrataPress$LineText" ({ cls := "ErrataPress$LineText", name := "put", desc := "(C)V" } : Jvm.MethodName) ({ cls := "ErrataPress$LineText", name := "put", desc := "(C)V" } : Jvm.MethodName)) ∈ gtb := List.mem_filter.mpr ⟨List.mem_of_getElem? (i := 904) (by decide +kernel), by decide +kernel⟩
theorem cv_X1_19 : CFV RX1 19 17 M_X1_put 1 := ⟨k_X1_put, w_830, w_831, sel_X1_put, rfl, _, rfl, rfl⟩
def M_X1_putNumber : MI := (yX1_putNumber, cX1_putNumber, 2, none, 3, 0, 0, 0, [])
theorem w_157 : (Jvm.Cond.fieldLink "ErrataPress$OrderText" (15 : Nat) "ErrataPress$OrderText" "at" "I") ∈ gtb := List.mem_filter.mpr ⟨List.mem_of_getElem? (i := 229) (by decide +kernel), by decide +kernel⟩
theorem ff_X2_15 : FF RX2 15 15 2 := ⟨RX2, TX2, 7, rfl, inG2, by decide, rfl, w_157⟩
theorem fp_X2_15 : FP2 RX2 15 15 2 .int := ⟨RX2, TX2, 7, tyX2, rfl, inG2, by decide, rfl, w_157, tyX2_ok, nmX2, rfl, rfl, rfl⟩
def M_X2_readNext : MI := (yX2_readNext, cX2_readNext, 1, some .boolean, 6, 0, 0, 0, [])
theorem w_892 : (Jvm.Cond.code ({ cls := "ErrataPress$OrderText", name := "readNext", desc := "()Z" } : Jvm.MethodName) prog_4_method_3_code (1 : Nat) (Option.some Jvm.ClassFile.FieldType.boolean)) ∈ gtb := List.mem_filter.mpr ⟨List.mem_of_getElem? (i := 964) (by decide +kernel), by decide +kernel⟩
theorem w_5 : (Jvm.Cond.initialized "ErrataPress$OrderText") ∈ gtb := List.mem_filter.mpr ⟨List.mem_of_getElem? (i := 77) (by decide +kernel), by decide +kernel⟩
theorem k_X2_readNext : CF0 M_X2_readNext 0 := ⟨rfl, w_892, w_5, ⟨by decide +kernel, by decide +kernel, by decide +kernel⟩, by decide +kernel, by decide +kernel, rfl, rfl, rfl⟩
theorem w_889 : (Jvm.Cond.methodLink "ErrataPress$OrderText" (19 : Nat) ({ cls := "ErrataPress$OrderText", name := "readNext", desc := "()Z" } : Jvm.MethodName)) ∈ gtb := List.mem_filter.mpr ⟨List.mem_of_getElem? (i := 961) (by decide +kernel), by decide +kernel⟩
theorem w_890 : (Jvm.Cond.instanceMethod ({ cls := "ErrataPress$OrderText", name := "readNext", desc := "()Z" } : Jvm.MethodName)) ∈ gtb := List.mem_filter.mpr ⟨List.mem_of_getElem? (i := 962) (by decide +kernel), by decide +kernel⟩
theorem sel_X2_readNext : (Jvm.Cond.selects "ErrataPress$OrderText" ({ cls := "ErrataPress$OrderText", name := "readNext", desc := "()Z" } : Jvm.MethodName) ({ cls := "ErrataPress$OrderText", name := "readNext", desc := "()Z" } : Jvm.MethodName)) ∈ gtb := List.mem_filter.mpr ⟨List.mem_of_getElem? (i := 963) (by decide +kernel), by decide +kernel⟩
theorem cv_X2_19 : CFV RX2 19 15 M_X2_readNext 0 := ⟨k_X2_readNext, w_889, w_890, sel_X2_readNext, rfl, _, rfl, rfl⟩
theorem w_155 : (Jvm.Cond.fieldLink "ErrataPress$OrderText" (23 : Nat) "ErrataPress$OrderText" "length" "I") ∈ gtb := List.mem_filter.mpr ⟨List.mem_of_getElem? (i := 227) (by decide +kernel), by decide +kernel⟩
theorem ff_X2_23 : FF RX2 23 15 1 := ⟨RX2, TX2, 7, rfl, inG2, by decide, rfl, w_155⟩
def M_X2_findError : MI := (yX2_findError, cX2_findError, 2, some .int, 7, 0, 0, 0, [])
theorem w_153 : (Jvm.Cond.fieldLink "ErrataPress$OrderText" (9 : Nat) "ErrataPress$OrderText" "signs" "[C") ∈ gtb := List.mem_filter.mpr ⟨List.mem_of_getElem? (i := 225) (by decide +kernel), by decide +kernel⟩
theorem ff_X2_9 : FF RX2 9 15 0 := ⟨RX2, TX2, 7, rfl, inG2, by decide, rfl, w_153⟩
theorem w_159 : (Jvm.Cond.fieldLink "ErrataPress$OrderText" (30 : Nat) "ErrataPress$OrderText" "order" "C") ∈ gtb := List.mem_filter.mpr ⟨List.mem_of_getElem? (i := 231) (by decide +kernel), by decide +kernel⟩
theorem ff_X2_30 : FF RX2 30 15 3 := ⟨RX2, TX2, 7, rfl, inG2, by decide, rfl, w_159⟩
theorem fp_X2_30 : FP2 RX2 30 15 3 .char := ⟨RX2, TX2, 7, tyX2, rfl, inG2, by decide, rfl, w_159, tyX2_ok, nmX2, rfl, rfl, rfl⟩
def M_X2_readOrder : MI := (yX2_readOrder, cX2_readOrder, 1, some .boolean, 5, 0, 0, 0, [])
theorem w_904 : (Jvm.Cond.code ({ cls := "ErrataPress$OrderText", name := "readOrder", desc := "()Z" } : Jvm.MethodName) prog_4_method_4_code (1 : Nat) (Option.some Jvm.ClassFile.FieldType.boolean)) ∈ gtb := List.mem_filter.mpr ⟨List.mem_of_getElem? (i := 976) (by decide +kernel), by decide +kernel⟩
theorem k_X2_readOrder : CF0 M_X2_readOrder 0 := ⟨rfl, w_904, w_5, ⟨by decide +kernel, by decide +kernel, by decide +kernel⟩, by decide +kernel, by decide +kernel, rfl, rfl, rfl⟩
theorem w_901 : (Jvm.Cond.methodLink "ErrataPress$OrderText" (34 : Nat) ({ cls := "ErrataPress$OrderText", name := "readOrder", desc := "()Z" } : Jvm.MethodName)) ∈ gtb := List.mem_filter.mpr ⟨List.mem_of_getElem? (i := 973) (by decide +kernel), by decide +kernel⟩
theorem w_903 : (Jvm.Cond.instanceMethod ({ cls := "ErrataPress$OrderText", name := "readOrder", desc := "()Z" } : Jvm.MethodName)) ∈ gtb := List.mem_filter.mpr ⟨List.mem_of_getElem? (i := 975) (by decide +kernel), by decide +kernel⟩
theorem sel_X2_readOrder : Cond.selects "ErrataPress$OrderText" ({ cls := "ErrataPress$OrderText", name := "readOrder", desc := "()Z" } : Jvm.MethodName) ({ cls := "ErrataPress$OrderText", name := "readOrder", desc := "()Z" } : Jvm.MethodName) ∈ gtb := List.mem_filter.mpr ⟨List.mem_of_getElem? (i := 21) (by decide +kernel), by decide +kernel⟩
theorem cv_X2_34 : CFV RX2 34 15 M_X2_readOrder 0 := ⟨k_X2_readOrder, w_901, w_903, sel_X2_readOrder, rfl, _, rfl, rfl⟩
def M_X2_readSign : MI := (yX2_readSign, cX2_readSign, 2, some .boolean, 3, 0, 0, 0, [])
theorem w_896 : (Jvm.Cond.code ({ cls := "ErrataPress$OrderText", name := "readSign", desc := "(C)Z" } : Jvm.MethodName) prog_4_method_6_code (2 : Nat) (Option.some Jvm.ClassFile.FieldType.boolean)) ∈ gtb := List.mem_filter.mpr ⟨List.mem_of_getElem? (i := 968) (by decide +kernel), by decide +kernel⟩
theorem k_X2_readSign : CF0 M_X2_readSign 1 := ⟨rfl, w_896, w_5, ⟨by decide +kernel, by decide +kernel, by decide +kernel⟩, by decide +kernel, by decide +kernel, rfl, rfl, rfl⟩
theorem w_893 : (Jvm.Cond.methodLink "ErrataPress$OrderText" (26 : Nat) ({ cls := "ErrataPress$OrderText", name := "readSign", desc := "(C)Z" } : Jvm.MethodName)) ∈ gtb := List.mem_filter.mpr ⟨List.mem_of_getElem? (i := 965) (by decide +kernel), by decide +kernel⟩
theorem w_895 : (Jvm.Cond.instanceMethod ({ cls := "ErrataPress$OrderText", name := "readSign", desc := "(C)Z" } : Jvm.MethodName)) ∈ gtb := List.mem_filter.mpr ⟨List.mem_of_getElem? (i := 967) (by decide +kernel), by decide +kernel⟩
theorem sel_X2_readSign : Cond.selects "ErrataPress$OrderText" ({ cls := "ErrataPress$OrderText", name := "readSign", desc := "(C)Z" } : Jvm.MethodName) ({ cls := "ErrataPress$OrderText", name := "readSign", desc := "(C)Z" } : Jvm.MethodName) ∈ gtb := List.mem_filter.mpr ⟨List.mem_of_getElem? (i := 19) (by decide +kernel), by decide +kernel⟩
theorem cv_X2_26 : CFV RX2 26 15 M_X2_readSign 1 := ⟨k_X2_readSign, w_893, w_895, sel_X2_readSign, rfl, _, rfl, rfl⟩
def M_X2_readFirst : MI := (yX2_readFirst, cX2_readFirst, 1, some .boolean, 4, 0, 0, 0, [])
theorem w_916 : (Jvm.Cond.code ({ cls := "ErrataPress$OrderText", name := "readFirst", desc := "()Z" } : Jvm.MethodName) prog_4_method_7_code (1 : Nat) (Option.some Jvm.ClassFile.FieldType.boolean)) ∈ gtb := List.mem_filter.mpr ⟨List.mem_of_getElem? (i := 988) (by decide +kernel), by decide +kernel⟩
theorem k_X2_readFirst : CF0 M_X2_readFirst 0 := ⟨rfl, w_916, w_5, ⟨by decide +kernel, by decide +kernel, by decide +kernel⟩, by decide +kernel, by decide +kernel, rfl, rfl, rfl⟩
theorem w_913 : (Jvm.Cond.methodLink "ErrataPress$OrderText" (40 : Nat) ({ cls := "ErrataPress$OrderText", name := "readFirst", desc := "()Z" } : Jvm.MethodName)) ∈ gtb := List.mem_filter.mpr ⟨List.mem_of_getElem? (i := 985) (by decide +kernel), by decide +kernel⟩
theorem w_915 : (Jvm.Cond.instanceMethod ({ cls := "ErrataPress$OrderText", name := "readFirst", desc := "()Z" } : Jvm.MethodName)) ∈ gtb := List.mem_filter.mpr ⟨List.mem_of_getElem? (i := 987) (by decide +kernel), by decide +kernel⟩
theorem sel_X2_readFirst : Cond.selects "ErrataPress$OrderText" ({ cls := "ErrataPress$OrderText", name := "readFirst", desc := "()Z" } : Jvm.MethodName) ({ cls := "ErrataPress$OrderText", name := "readFirst", desc := "()Z" } : Jvm.MethodName) ∈ gtb := List.mem_filter.mpr ⟨List.mem_of_getElem? (i := 24) (by decide +kernel), by decide +kernel⟩
theorem cv_X2_40 : CFV RX2 40 15 M_X2_readFirst 0 := ⟨k_X2_readFirst, w_913, w_915, sel_X2_readFirst, rfl, _, rfl, rfl⟩
def M_X2_readSecond : MI := (yX2_readSecond, cX2_readSecond, 1, some .boolean, 4, 0, 0, 0, [])
theorem w_928 : (Jvm.Cond.code ({ cls := "ErrataPress$OrderText", name := "readSecond", desc := "()Z" } : Jvm.MethodName) prog_4_method_8_code (1 : Nat) (Option.some Jvm.ClassFile.FieldType.boolean)) ∈ gtb := List.mem_filter.mpr ⟨List.mem_of_getElem? (i := 1000) (by decide +kernel), by decide +kernel⟩
theorem k_X2_readSecond : CF0 M_X2_readSecond 0 := ⟨rfl, w_928, w_5, ⟨by decide +kernel, by decide +kernel, by decide +kernel⟩, by decide +kernel, by decide +kernel, rfl, rfl, rfl⟩
theorem w_925 : (Jvm.Cond.methodLink "ErrataPress$OrderText" (46 : Nat) ({ cls := "ErrataPress$OrderText", name := "readSecond", desc := "()Z" } : Jvm.MethodName)) ∈ gtb := List.mem_filter.mpr ⟨List.mem_of_getElem? (i := 997) (by decide +kernel), by decide +kernel⟩
theorem w_927 : (Jvm.Cond.instanceMethod ({ cls := "ErrataPress$OrderText", name := "readSecond", desc := "()Z" } : Jvm.MethodName)) ∈ gtb := List.mem_filter.mpr ⟨List.mem_of_getElem? (i := 999) (by decide +kernel), by decide +kernel⟩
theorem sel_X2_readSecond : Cond.selects "ErrataPress$OrderText" ({ cls := "ErrataPress$OrderText", name := "readSecond", desc := "()Z" } : Jvm.MethodName) ({ cls := "ErrataPress$OrderText", name := "readSecond", desc := "()Z" } : Jvm.MethodName) ∈ gtb := List.mem_filter.mpr ⟨List.mem_of_getElem? (i := 27) (by decide +kernel), by decide +kernel⟩
theorem cv_X2_46 : CFV RX2 46 15 M_X2_readSecond 0 := ⟨k_X2_readSecond, w_925, w_927, sel_X2_readSecond, rfl, _, rfl, rfl⟩
def M_X2_readCoins : MI := (yX2_readCoins, cX2_readCoins, 1, some .boolean, 4, 0, 0, 0, [])
theorem w_908 : (Jvm.Cond.code ({ cls := "ErrataPress$OrderText", name := "readCoins", desc := "()Z" } : Jvm.MethodName) prog_4_method_10_code (1 : Nat) (Option.some Jvm.ClassFile.FieldType.boolean)) ∈ gtb := List.mem_filter.mpr ⟨List.mem_of_getElem? (i := 980) (by decide +kernel), by decide +kernel⟩
theorem k_X2_readCoins : CF0 M_X2_readCoins 0 := ⟨rfl, w_908, w_5, ⟨by decide +kernel, by decide +kernel, by decide +kernel⟩, by decide +kernel, by decide +kernel, rfl, rfl, rfl⟩
theorem w_905 : (Jvm.Cond.methodLink "ErrataPress$OrderText" (37 : Nat) ({ cls := "ErrataPress$OrderText", name := "readCoins", desc := "()Z" } : Jvm.MethodName)) ∈ gtb := List.mem_filter.mpr ⟨List.mem_of_getElem? (i := 977) (by decide +kernel), by decide +kernel⟩
theorem w_907 : (Jvm.Cond.instanceMethod ({ cls := "ErrataPress$OrderText", name := "readCoins", desc := "()Z" } : Jvm.MethodName)) ∈ gtb := List.mem_filter.mpr ⟨List.mem_of_getElem? (i := 979) (by decide +kernel), by decide +kernel⟩
theorem sel_X2_readCoins : Cond.selects "ErrataPress$OrderText" ({ cls := "ErrataPress$OrderText", name := "readCoins", desc := "()Z" } : Jvm.MethodName) ({ cls := "ErrataPress$OrderText", name := "readCoins", desc := "()Z" } : Jvm.MethodName) ∈ gtb := List.mem_filter.mpr ⟨List.mem_of_getElem? (i := 22) (by decide +kernel), by decide +kernel⟩
theorem cv_X2_37 : CFV RX2 37 15 M_X2_readCoins 0 := ⟨k_X2_readCoins, w_905, w_907, sel_X2_readCoins, rfl, _, rfl, rfl⟩
def M_X2_readLetter : MI := (yX2_readLetter, cX2_readLetter, 1, some .boolean, 3, 0, 0, 0, [])
theorem w_924 : (Jvm.Cond.code ({ cls := "ErrataPress$OrderText", name := "readLetter", desc := "()Z" } : Jvm.MethodName) prog_4_method_11_code (1 : Nat) (Option.some Jvm.ClassFile.FieldType.boolean)) ∈ gtb := List.mem_filter.mpr ⟨List.mem_of_getElem? (i := 996) (by decide +kernel), by decide +kernel⟩
theorem k_X2_readLetter : CF0 M_X2_readLetter 0 := ⟨rfl, w_924, w_5, ⟨by decide +kernel, by decide +kernel, by decide +kernel⟩, by decide +kernel, by decide +kernel, rfl, rfl, rfl⟩
theorem w_921 : (Jvm.Cond.methodLink "ErrataPress$OrderText" (49 : Nat) ({ cls := "ErrataPress$OrderText", name := "readLetter", desc := "()Z" } : Jvm.MethodName)) ∈ gtb := List.mem_filter.mpr ⟨List.mem_of_getElem? (i := 993) (by decide +kernel), by decide +kernel⟩
theorem w_923 : (Jvm.Cond.instanceMethod ({ cls := "ErrataPress$OrderText", name := "readLetter", desc := "()Z" } : Jvm.MethodName)) ∈ gtb := List.mem_filter.mpr ⟨List.mem_of_getElem? (i := 995) (by decide +kernel), by decide +kernel⟩
theorem sel_X2_readLetter : Cond.selects "ErrataPress$OrderText" ({ cls := "ErrataPress$OrderText", name := "readLetter", desc := "()Z" } : Jvm.MethodName) ({ cls := "ErrataPress$OrderText", name := "readLetter", desc := "()Z" } : Jvm.MethodName) ∈ gtb := List.mem_filter.mpr ⟨List.mem_of_getElem? (i := 26) (by decide +kernel), by decide +kernel⟩
theorem cv_X2_49 : CFV RX2 49 15 M_X2_readLetter 0 := ⟨k_X2_readLetter, w_921, w_923, sel_X2_readLetter, rfl, _, rfl, rfl⟩
def M_X2_readWord : MI := (yX2_readWord, cX2_readWord, 2, some .boolean, 4, 0, 0, 0, [])
theorem w_920 : (Jvm.Cond.code ({ cls := "ErrataPress$OrderText", name := "readWord", desc := "()Z" } : Jvm.MethodName) prog_4_method_12_code (2 : Nat) (Option.some Jvm.ClassFile.FieldType.boolean)) ∈ gtb := List.mem_filter.mpr ⟨List.mem_of_getElem? (i := 992) (by decide +kernel), by decide +kernel⟩
theorem k_X2_readWord : CF0 M_X2_readWord 0 := ⟨rfl, w_920, w_5, ⟨by decide +kernel, by decide +kernel, by decide +kernel⟩, by decide +kernel, by decide +kernel, rfl, rfl, rfl⟩
theorem w_917 : (Jvm.Cond.methodLink "ErrataPress$OrderText" (43 : Nat) ({ cls := "ErrataPress$OrderText", name := "readWord", desc := "()Z" } : Jvm.MethodName)) ∈ gtb := List.mem_filter.mpr ⟨List.mem_of_getElem? (i := 989) (by decide +kernel), by decide +kernel⟩
theorem w_919 : (Jvm.Cond.instanceMethod ({ cls := "ErrataPress$OrderText", name := "readWord", desc := "()Z" } : Jvm.MethodName)) ∈ gtb := List.mem_filter.mpr ⟨List.mem_of_getElem? (i := 991) (by decide +kernel), by decide +kernel⟩
theorem sel_X2_readWord : Cond.selects "ErrataPress$OrderText" ({ cls := "ErrataPress$OrderText", name := "readWord", desc := "()Z" } : Jvm.MethodName) ({ cls := "ErrataPress$OrderText", name := "readWord", desc := "()Z" } : Jvm.MethodName) ∈ gtb := List.mem_filter.mpr ⟨List.mem_of_getElem? (i := 25) (by decide +kernel), by decide +kernel⟩
theorem cv_X2_43 : CFV RX2 43 15 M_X2_readWord 0 := ⟨k_X2_readWord, w_917, w_919, sel_X2_readWord, rfl, _, rfl, rfl⟩
def M_X2_isAhead : MI := (yX2_isAhead, cX2_isAhead, 3, some .boolean, 2, 0, 0, 0, [])
theorem w_900 : (Jvm.Cond.code ({ cls := "ErrataPress$OrderText", name := "isAhead", desc := "(CC)Z" } : Jvm.MethodName) prog_4_method_5_code (3 : Nat) (Option.some Jvm.ClassFile.FieldType.boolean)) ∈ gtb := List.mem_filter.mpr ⟨List.mem_of_getElem? (i := 972) (by decide +kernel), by decide +kernel⟩
theorem k_X2_isAhead : CF0 M_X2_isAhead 2 := ⟨rfl, w_900, w_5, ⟨by decide +kernel, by decide +kernel, by decide +kernel⟩, by decide +kernel, by decide +kernel, rfl, rfl, rfl⟩
theorem w_897 : (Jvm.Cond.methodLink "ErrataPress$OrderText" (52 : Nat) ({ cls := "ErrataPress$OrderText", name := "isAhead", desc := "(CC)Z" } : Jvm.MethodName)) ∈ gtb := List.mem_filter.mpr ⟨List.mem_of_getElem? (i := 969) (by decide +kernel), by decide +kernel⟩
theorem w_899 : (Jvm.Cond.instanceMethod ({ cls := "ErrataPress$OrderText", name := "isAhead", desc := "(CC)Z" } : Jvm.MethodName)) ∈ gtb := List.mem_filter.mpr ⟨List.mem_of_getElem? (i := 971) (by decide +kernel), by decide +kernel⟩
theorem sel_X2_isAhead : Cond.selects "ErrataPress$OrderText" ({ cls := "ErrataPress$OrderText", name := "isAhead", desc := "(CC)Z" } : Jvm.MethodName) ({ cls := "ErrataPress$OrderText", name := "isAhead", desc := "(CC)Z" } : Jvm.MethodName) ∈ gtb := List.mem_filter.mpr ⟨List.mem_of_getElem? (i := 20) (by decide +kernel), by decide +kernel⟩
theorem cv_X2_52 : CFV RX2 52 15 M_X2_isAhead 2 := ⟨k_X2_isAhead, w_897, w_899, sel_X2_isAhead, rfl, _, rfl, rfl⟩
def M_X2_readDigit : MI := (yX2_readDigit, cX2_readDigit, 2, some .int, 3, 0, 0, 0, [])
theorem w_912 : (Jvm.Cond.code ({ cls := "ErrataPress$OrderText", name := "readDigit", desc := "()I" } : Jvm.MethodName) prog_4_method_9_code (2 : Nat) (Option.some Jvm.ClassFile.FieldType.int)) ∈ gtb := List.mem_filter.mpr ⟨List.mem_of_getElem? (i := 984) (by decide +kernel), by decide +kernel⟩
theorem k_X2_readDigit : CF0 M_X2_readDigit 0 := ⟨rfl, w_912, w_5, ⟨by decide +kernel, by decide +kernel, by decide +kernel⟩, by decide +kernel, by decide +kernel, rfl, rfl, rfl⟩
theorem w_909 : (Jvm.Cond.methodLink "ErrataPress$OrderText" (56 : Nat) ({ cls := "ErrataPress$OrderText", name := "readDigit", desc := "()I" } : Jvm.MethodName)) ∈ gtb := List.mem_filter.mpr ⟨List.mem_of_getElem? (i := 981) (by decide +kernel), by decide +kernel⟩
theorem w_911 : (Jvm.Cond.instanceMethod ({ cls := "ErrataPress$OrderText", name := "readDigit", desc := "()I" } : Jvm.MethodName)) ∈ gtb := List.mem_filter.mpr ⟨List.mem_of_getElem? (i := 983) (by decide +kernel), by decide +kernel⟩
theorem sel_X2_readDigit : Cond.selects "ErrataPress$OrderText" ({ cls := "ErrataPress$OrderText", name := "readDigit", desc := "()I" } : Jvm.MethodName) ({ cls := "ErrataPress$OrderText", name := "readDigit", desc := "()I" } : Jvm.MethodName) ∈ gtb := List.mem_filter.mpr ⟨List.mem_of_getElem? (i := 23) (by decide +kernel), by decide +kernel⟩
theorem cv_X2_56 : CFV RX2 56 15 M_X2_readDigit 0 := ⟨k_X2_readDigit, w_909, w_911, sel_X2_readDigit, rfl, _, rfl, rfl⟩
theorem w_161 : (Jvm.Cond.fieldLink "ErrataPress$OrderText" (60 : Nat) "ErrataPress$OrderText" "first" "I") ∈ gtb := List.mem_filter.mpr ⟨List.mem_of_getElem? (i := 233) (by decide +kernel), by decide +kernel⟩
theorem ff_X2_60 : FF RX2 60 15 4 := ⟨RX2, TX2, 7, rfl, inG2, by decide, rfl, w_161⟩
theorem fp_X2_60 : FP2 RX2 60 15 4 .int := ⟨RX2, TX2, 7, tyX2, rfl, inG2, by decide, rfl, w_161, tyX2_ok, nmX2, rfl, rfl, rfl⟩
theorem w_163 : (Jvm.Cond.fieldLink "ErrataPress$OrderText" (63 : Nat) "ErrataPress$OrderText" "second" "I") ∈ gtb := List.mem_filter.mpr ⟨List.mem_of_getElem? (i := 235) (by decide +kernel), by decide +kernel⟩
theorem ff_X2_63 : FF RX2 63 15 5 := ⟨RX2, TX2, 7, rfl, inG2, by decide, rfl, w_163⟩
theorem fp_X2_63 : FP2 RX2 63 15 5 .int := ⟨RX2, TX2, 7, tyX2, rfl, inG2, by decide, rfl, w_163, tyX2_ok, nmX2, rfl, rfl, rfl⟩
theorem w_165 : (Jvm.Cond.fieldLink "ErrataPress$OrderText" (66 : Nat) "ErrataPress$OrderText" "letter" "C") ∈ gtb := List.mem_filter.mpr ⟨List.mem_of_getElem? (i := 237) (by decide +kernel), by decide +kernel⟩
theorem ff_X2_66 : FF RX2 66 15 6 := ⟨RX2, TX2, 7, rfl, inG2, by decide, rfl, w_165⟩
theorem fp_X2_66 : FP2 RX2 66 15 6 .char := ⟨RX2, TX2, 7, tyX2, rfl, inG2, by decide, rfl, w_165, tyX2_ok, nmX2, rfl, rfl, rfl⟩
theorem w_130 : (Jvm.Cond.fieldLink "ErrataPress$Refusal" (9 : Nat) "ErrataPress$Refusal" "reason" "I") ∈ gtb := List.mem_filter.mpr ⟨List.mem_of_getElem? (i := 202) (by decide +kernel), by decide +kernel⟩
theorem ff_X3_9 : FF RX3 9 14 0 := ⟨RX3, TX3, 4, rfl, inG3, by decide, rfl, w_130⟩
theorem fp_X3_9 : FP2 RX3 9 14 0 .int := ⟨RX3, TX3, 4, tyX3, rfl, inG3, by decide, rfl, w_130, tyX3_ok, nmX3, rfl, rfl, rfl⟩
theorem w_132 : (Jvm.Cond.fieldLink "ErrataPress$Refusal" (18 : Nat) "ErrataPress$Refusal" "detail" "I") ∈ gtb := List.mem_filter.mpr ⟨List.mem_of_getElem? (i := 204) (by decide +kernel), by decide +kernel⟩
theorem ff_X3_18 : FF RX3 18 14 1 := ⟨RX3, TX3, 4, rfl, inG3, by decide, rfl, w_132⟩
theorem fp_X3_18 : FP2 RX3 18 14 1 .int := ⟨RX3, TX3, 4, tyX3, rfl, inG3, by decide, rfl, w_132, tyX3_ok, nmX3, rfl, rfl, rfl⟩
theorem w_134 : (Jvm.Cond.fieldLink "ErrataPress$Refusal" (15 : Nat) "ErrataPress$Refusal" "reasonBehind" "I") ∈ gtb := List.mem_filter.mpr ⟨List.mem_of_getElem? (i := 206) (by decide +kernel), by decide +kernel⟩
theorem ff_X3_15 : FF RX3 15 14 2 := ⟨RX3, TX3, 4, rfl, inG3, by decide, rfl, w_134⟩
theorem fp_X3_15 : FP2 RX3 15 14 2 .int := ⟨RX3, TX3, 4, tyX3, rfl, inG3, by decide, rfl, w_134, tyX3_ok, nmX3, rfl, rfl, rfl⟩
theorem w_136 : (Jvm.Cond.fieldLink "ErrataPress$Refusal" (21 : Nat) "ErrataPress$Refusal" "detailBehind" "I") ∈ gtb := List.mem_filter.mpr ⟨List.mem_of_getElem? (i := 208) (by decide +kernel), by decide +kernel⟩
theorem ff_X3_21 : FF RX3 21 14 3 := ⟨RX3, TX3, 4, rfl, inG3, by decide, rfl, w_136⟩
theorem fp_X3_21 : FP2 RX3 21 14 3 .int := ⟨RX3, TX3, 4, tyX3, rfl, inG3, by decide, rfl, w_136, tyX3_ok, nmX3, rfl, rfl, rfl⟩
def M_X3_become : MI := (yX3_become, cX3_become, 3, none, 2, 0, 0, 0, [])
def M_X3_standBehind : MI := (yX3_standBehind, cX3_standBehind, 3, none, 2, 0, 0, 0, [])
theorem w_36 : (Jvm.Cond.fieldLink "ErrataPress$State" (42 : Nat) "ErrataPress$State" "houses" "I") ∈ gtb := List.mem_filter.mpr ⟨List.mem_of_getElem? (i := 108) (by decide +kernel), by decide +kernel⟩
theorem ff_X4_42 : FF RX4 42 0 0 := ⟨RX4, TX4, 18, rfl, inG4, by decide, rfl, w_36⟩
theorem fp_X4_42 : FP2 RX4 42 0 0 .int := ⟨RX4, TX4, 18, tyX4, rfl, inG4, by decide, rfl, w_36, tyX4_ok, nmX4, rfl, rfl, rfl⟩
theorem w_38 : (Jvm.Cond.fieldLink "ErrataPress$State" (46 : Nat) "ErrataPress$State" "sheets" "I") ∈ gtb := List.mem_filter.mpr ⟨List.mem_of_getElem? (i := 110) (by decide +kernel), by decide +kernel⟩
theorem ff_X4_46 : FF RX4 46 0 1 := ⟨RX4, TX4, 18, rfl, inG4, by decide, rfl, w_38⟩
theorem fp_X4_46 : FP2 RX4 46 0 1 .int := ⟨RX4, TX4, 18, tyX4, rfl, inG4, by decide, rfl, w_38, tyX4_ok, nmX4, rfl, rfl, rfl⟩
theorem w_40 : (Jvm.Cond.fieldLink "ErrataPress$State" (49 : Nat) "ErrataPress$State" "readers" "I") ∈ gtb := List.mem_filter.mpr ⟨List.mem_of_getElem? (i := 112) (by decide +kernel), by decide +kernel⟩
theorem ff_X4_49 : FF RX4 49 0 2 := ⟨RX4, TX4, 18, rfl, inG4, by decide, rfl, w_40⟩
theorem fp_X4_49 : FP2 RX4 49 0 2 .int := ⟨RX4, TX4, 18, tyX4, rfl, inG4, by decide, rfl, w_40, tyX4_ok, nmX4, rfl, rfl, rfl⟩
theorem w_42 : (Jvm.Cond.fieldLink "ErrataPress$State" (52 : Nat) "ErrataPress$State" "days" "I") ∈ gtb := List.mem_filter.mpr ⟨List.mem_of_getElem? (i := 114) (by decide +kernel), by decide +kernel⟩
theorem ff_X4_52 : FF RX4 52 0 3 := ⟨RX4, TX4, 18, rfl, inG4, by decide, rfl, w_42⟩
theorem fp_X4_52 : FP2 RX4 52 0 3 .int := ⟨RX4, TX4, 18, tyX4, rfl, inG4, by decide, rfl, w_42, tyX4_ok, nmX4, rfl, rfl, rfl⟩
theorem w_43 : (Jvm.Cond.fieldLink "ErrataPress$State" (55 : Nat) "ErrataPress$State" "editions" "I") ∈ gtb := List.mem_filter.mpr ⟨List.mem_of_getElem? (i := 115) (by decide +kernel), by decide +kernel⟩
theorem ff_X4_55 : FF RX4 55 0 4 := ⟨RX4, TX4, 18, rfl, inG4, by decide, rfl, w_43⟩
theorem fp_X4_55 : FP2 RX4 55 0 4 .int := ⟨RX4, TX4, 18, tyX4, rfl, inG4, by decide, rfl, w_43, tyX4_ok, nmX4, rfl, rfl, rfl⟩
theorem w_45 : (Jvm.Cond.fieldLink "ErrataPress$State" (58 : Nat) "ErrataPress$State" "printed" "I") ∈ gtb := List.mem_filter.mpr ⟨List.mem_of_getElem? (i := 117) (by decide +kernel), by decide +kernel⟩
theorem ff_X4_58 : FF RX4 58 0 5 := ⟨RX4, TX4, 18, rfl, inG4, by decide, rfl, w_45⟩
theorem fp_X4_58 : FP2 RX4 58 0 5 .int := ⟨RX4, TX4, 18, tyX4, rfl, inG4, by decide, rfl, w_45, tyX4_ok, nmX4, rfl, rfl, rfl⟩
theorem w_46 : (Jvm.Cond.fieldLink "ErrataPress$State" (61 : Nat) "ErrataPress$State" "laughs" "I") ∈ gtb := List.mem_filter.mpr ⟨List.mem_of_getElem? (i := 118) (by decide +kernel), by decide +kernel⟩
theorem ff_X4_61 : FF RX4 61 0 6 := ⟨RX4, TX4, 18, rfl, inG4, by decide, rfl, w_46⟩
theorem fp_X4_61 : FP2 RX4 61 0 6 .int := ⟨RX4, TX4, 18, tyX4, rfl, inG4, by decide, rfl, w_46, tyX4_ok, nmX4, rfl, rfl, rfl⟩
theorem w_48 : (Jvm.Cond.fieldLink "ErrataPress$State" (64 : Nat) "ErrataPress$State" "licencesPaid" "I") ∈ gtb := List.mem_filter.mpr ⟨List.mem_of_getElem? (i := 120) (by decide +kernel), by decide +kernel⟩
theorem ff_X4_64 : FF RX4 64 0 7 := ⟨RX4, TX4, 18, rfl, inG4, by decide, rfl, w_48⟩
theorem fp_X4_64 : FP2 RX4 64 0 7 .int := ⟨RX4, TX4, 18, tyX4, rfl, inG4, by decide, rfl, w_48, tyX4_ok, nmX4, rfl, rfl, rfl⟩
theorem w_50 : (Jvm.Cond.fieldLink "ErrataPress$State" (9 : Nat) "ErrataPress$State" "coins" "[I") ∈ gtb := List.mem_filter.mpr ⟨List.mem_of_getElem? (i := 122) (by decide +kernel), by decide +kernel⟩
theorem ff_X4_9 : FF RX4 9 0 8 := ⟨RX4, TX4, 18, rfl, inG4, by decide, rfl, w_50⟩
theorem w_237 : (Jvm.Cond.methodLink "ErrataPress$State" (67 : Nat) ({ cls := "java/lang/System", name := "arraycopy", desc := "(Ljava/lang/Object;ILjava/lang/Object;II)V" } : Jvm.MethodName)) ∈ gtb := List.mem_filter.mpr ⟨List.mem_of_getElem? (i := 309) (by decide +kernel), by decide +kernel⟩
theorem w_52 : (Jvm.Cond.fieldLink "ErrataPress$State" (15 : Nat) "ErrataPress$State" "shame" "[I") ∈ gtb := List.mem_filter.mpr ⟨List.mem_of_getElem? (i := 124) (by decide +kernel), by decide +kernel⟩
theorem ff_X4_15 : FF RX4 15 0 9 := ⟨RX4, TX4, 18, rfl, inG4, by decide, rfl, w_52⟩
theorem w_54 : (Jvm.Cond.fieldLink "ErrataPress$State" (18 : Nat) "ErrataPress$State" "finesPaid" "[I") ∈ gtb := List.mem_filter.mpr ⟨List.mem_of_getElem? (i := 126) (by decide +kernel), by decide +kernel⟩
theorem ff_X4_18 : FF RX4 18 0 10 := ⟨RX4, TX4, 18, rfl, inG4, by decide, rfl, w_54⟩
theorem w_56 : (Jvm.Cond.fieldLink "ErrataPress$State" (21 : Nat) "ErrataPress$State" "owners" "[I") ∈ gtb := List.mem_filter.mpr ⟨List.mem_of_getElem? (i := 128) (by decide +kernel), by decide +kernel⟩
theorem ff_X4_21 : FF RX4 21 0 11 := ⟨RX4, TX4, 18, rfl, inG4, by decide, rfl, w_56⟩
theorem w_58 : (Jvm.Cond.fieldLink "ErrataPress$State" (24 : Nat) "ErrataPress$State" "lengths" "[I") ∈ gtb := List.mem_filter.mpr ⟨List.mem_of_getElem? (i := 130) (by decide +kernel), by decide +kernel⟩
theorem ff_X4_24 : FF RX4 24 0 12 := ⟨RX4, TX4, 18, rfl, inG4, by decide, rfl, w_58⟩
theorem w_60 : (Jvm.Cond.fieldLink "ErrataPress$State" (27 : Nat) "ErrataPress$State" "rights" "[I") ∈ gtb := List.mem_filter.mpr ⟨List.mem_of_getElem? (i := 132) (by decide +kernel), by decide +kernel⟩
theorem ff_X4_27 : FF RX4 27 0 13 := ⟨RX4, TX4, 18, rfl, inG4, by decide, rfl, w_60⟩
theorem w_61 : (Jvm.Cond.fieldLink "ErrataPress$State" (30 : Nat) "ErrataPress$State" "placed" "[I") ∈ gtb := List.mem_filter.mpr ⟨List.mem_of_getElem? (i := 133) (by decide +kernel), by decide +kernel⟩
theorem ff_X4_30 : FF RX4 30 0 14 := ⟨RX4, TX4, 18, rfl, inG4, by decide, rfl, w_61⟩
theorem w_62 : (Jvm.Cond.fieldLink "ErrataPress$State" (33 : Nat) "ErrataPress$State" "levels" "[I") ∈ gtb := List.mem_filter.mpr ⟨List.mem_of_getElem? (i := 134) (by decide +kernel), by decide +kernel⟩
theorem ff_X4_33 : FF RX4 33 0 15 := ⟨RX4, TX4, 18, rfl, inG4, by decide, rfl, w_62⟩
theorem w_64 : (Jvm.Cond.fieldLink "ErrataPress$State" (36 : Nat) "ErrataPress$State" "kinds" "[I") ∈ gtb := List.mem_filter.mpr ⟨List.mem_of_getElem? (i := 136) (by decide +kernel), by decide +kernel⟩
theorem ff_X4_36 : FF RX4 36 0 16 := ⟨RX4, TX4, 18, rfl, inG4, by decide, rfl, w_64⟩
theorem w_65 : (Jvm.Cond.fieldLink "ErrataPress$State" (39 : Nat) "ErrataPress$State" "tastes" "[I") ∈ gtb := List.mem_filter.mpr ⟨List.mem_of_getElem? (i := 137) (by decide +kernel), by decide +kernel⟩
theorem ff_X4_39 : FF RX4 39 0 17 := ⟨RX4, TX4, 18, rfl, inG4, by decide, rfl, w_65⟩
def M_X4_hasHouse : MI := (yX4_hasHouse, cX4_hasHouse, 2, some .boolean, 2, 0, 0, 0, [])
def M_X4_hasSheet : MI := (yX4_hasSheet, cX4_hasSheet, 2, some .boolean, 2, 0, 0, 0, [])
theorem w_550 : (Jvm.Cond.code ({ cls := "ErrataPress$State", name := "hasSheet", desc := "(I)Z" } : Jvm.MethodName) prog_6_method_4_code (2 : Nat) (Option.some Jvm.ClassFile.FieldType.boolean)) ∈ gtb := List.mem_filter.mpr ⟨List.mem_of_getElem? (i := 622) (by decide +kernel), by decide +kernel⟩
theorem k_X4_hasSheet : CF0 M_X4_hasSheet 1 := ⟨rfl, w_550, w_2, ⟨by decide +kernel, by decide +kernel, by decide +kernel⟩, by decide +kernel, by decide +kernel, rfl, rfl, rfl⟩
theorem w_570 : (Jvm.Cond.methodLink "ErrataPress$State" (73 : Nat) ({ cls := "ErrataPress$State", name := "hasSheet", desc := "(I)Z" } : Jvm.MethodName)) ∈ gtb := List.mem_filter.mpr ⟨List.mem_of_getElem? (i := 642) (by decide +kernel), by decide +kernel⟩
theorem w_548 : (Jvm.Cond.instanceMethod ({ cls := "ErrataPress$State", name := "hasSheet", desc := "(I)Z" } : Jvm.MethodName)) ∈ gtb := List.mem_filter.mpr ⟨List.mem_of_getElem? (i := 620) (by decide +kernel), by decide +kernel⟩
theorem sel_X4_hasSheet : (Jvm.Cond.selects "ErrataPress$State" ({ cls := "ErrataPress$State", name := "hasSheet", desc := "(I)Z" } : Jvm.MethodName) ({ cls := "ErrataPress$State", name := "hasSheet", desc := "(I)Z" } : Jvm.MethodName)) ∈ gtb := List.mem_filter.mpr ⟨List.mem_of_getElem? (i := 621) (by decide +kernel), by decide +kernel⟩
theorem cv_X4_73 : CFV RX4 73 0 M_X4_hasSheet 1 := ⟨k_X4_hasSheet, w_570, w_548, sel_X4_hasSheet, rfl, _, rfl, rfl⟩
def M_X4_hasPlace : MI := (yX4_hasPlace, cX4_hasPlace, 3, some .boolean, 3, 0, 0, 0, [])
def M_X4_rightAt : MI := (yX4_rightAt, cX4_rightAt, 3, some .int, 2, 0, 0, 0, [])
def M_X4_placedAt : MI := (yX4_placedAt, cX4_placedAt, 3, some .int, 2, 0, 0, 0, [])
theorem w_394 : (Jvm.Cond.code ({ cls := "ErrataPress$State", name := "placedAt", desc := "(II)I" } : Jvm.MethodName) prog_6_method_7_code (3 : Nat) (Option.some Jvm.ClassFile.FieldType.int)) ∈ gtb := List.mem_filter.mpr ⟨List.mem_of_getElem? (i := 466) (by decide +kernel), by decide +kernel⟩
theorem k_X4_placedAt : CF0 M_X4_placedAt 2 := ⟨rfl, w_394, w_2, ⟨by decide +kernel, by decide +kernel, by decide +kernel⟩, by decide +kernel, by decide +kernel, rfl, rfl, rfl⟩
theorem w_391 : (Jvm.Cond.methodLink "ErrataPress$State" (77 : Nat) ({ cls := "ErrataPress$State", name := "placedAt", desc := "(II)I" } : Jvm.MethodName)) ∈ gtb := List.mem_filter.mpr ⟨List.mem_of_getElem? (i := 463) (by decide +kernel), by decide +kernel⟩
theorem w_392 : (Jvm.Cond.instanceMethod ({ cls := "ErrataPress$State", name := "placedAt", desc := "(II)I" } : Jvm.MethodName)) ∈ gtb := List.mem_filter.mpr ⟨List.mem_of_getElem? (i := 464) (by decide +kernel), by decide +kernel⟩
theorem sel_X4_placedAt : (Jvm.Cond.selects "ErrataPress$State" ({ cls := "ErrataPress$State", name := "placedAt", desc := "(II)I" } : Jvm.MethodName) ({ cls := "ErrataPress$State", name := "placedAt", desc := "(II)I" } : Jvm.MethodName)) ∈ gtb := List.mem_filter.mpr ⟨List.mem_of_getElem? (i := 465) (by decide +kernel), by decide +kernel⟩
theorem cv_X4_77 : CFV RX4 77 0 M_X4_placedAt 2 := ⟨k_X4_placedAt, w_391, w_392, sel_X4_placedAt, rfl, _, rfl, rfl⟩
theorem w_444 : (Jvm.Cond.code ({ cls := "ErrataPress$State", name := "rightAt", desc := "(II)I" } : Jvm.MethodName) prog_6_method_6_code (3 : Nat) (Option.some Jvm.ClassFile.FieldType.int)) ∈ gtb := List.mem_filter.mpr ⟨List.mem_of_getElem? (i := 516) (by decide +kernel), by decide +kernel⟩
theorem k_X4_rightAt : CF0 M_X4_rightAt 2 := ⟨rfl, w_444, w_2, ⟨by decide +kernel, by decide +kernel, by decide +kernel⟩, by decide +kernel, by decide +kernel, rfl, rfl, rfl⟩
theorem w_462 : (Jvm.Cond.methodLink "ErrataPress$State" (81 : Nat) ({ cls := "ErrataPress$State", name := "rightAt", desc := "(II)I" } : Jvm.MethodName)) ∈ gtb := List.mem_filter.mpr ⟨List.mem_of_getElem? (i := 534) (by decide +kernel), by decide +kernel⟩
theorem w_442 : (Jvm.Cond.instanceMethod ({ cls := "ErrataPress$State", name := "rightAt", desc := "(II)I" } : Jvm.MethodName)) ∈ gtb := List.mem_filter.mpr ⟨List.mem_of_getElem? (i := 514) (by decide +kernel), by decide +kernel⟩
theorem sel_X4_rightAt : (Jvm.Cond.selects "ErrataPress$State" ({ cls := "ErrataPress$State", name := "rightAt", desc := "(II)I" } : Jvm.MethodName) ({ cls := "ErrataPress$State", name := "rightAt", desc := "(II)I" } : Jvm.MethodName)) ∈ gtb := List.mem_filter.mpr ⟨List.mem_of_getElem? (i := 515) (by decide +kernel), by decide +kernel⟩
theorem cv_X4_81 : CFV RX4 81 0 M_X4_rightAt 2 := ⟨k_X4_rightAt, w_462, w_442, sel_X4_rightAt, rfl, _, rfl, rfl⟩
def M_X4_isMisprint : MI := (yX4_isMisprint, cX4_isMisprint, 3, some .boolean, 3, 0, 0, 0, [])
def M_X4_levelAt : MI := (yX4_levelAt, cX4_levelAt, 3, some .int, 2, 0, 0, 0, [])
theorem w_399 : (Jvm.Cond.methodLink "ErrataPress$State" (84 : Nat) ({ cls := "java/lang/Math", name := "abs", desc := "(I)I" } : Jvm.MethodName)) ∈ gtb := List.mem_filter.mpr ⟨List.mem_of_getElem? (i := 471) (by decide +kernel), by decide +kernel⟩
def M_X4_howBad : MI := (yX4_howBad, cX4_howBad, 4, some .int, 2, 0, 0, 0, [])
def M_X4_isAshamed : MI := (yX4_isAshamed, cX4_isAshamed, 2, some .boolean, 2, 0, 0, 0, [])
def M_X4_countOnSheet : MI := (yX4_countOnSheet, cX4_countOnSheet, 5, some .int, 2, 0, 0, 0, [])
theorem w_575 : (Jvm.Cond.code ({ cls := "ErrataPress$State", name := "countOnSheet", desc := "(II)I" } : Jvm.MethodName) prog_6_method_12_code (5 : Nat) (Option.some Jvm.ClassFile.FieldType.int)) ∈ gtb := List.mem_filter.mpr ⟨List.mem_of_getElem? (i := 647) (by decide +kernel), by decide +kernel⟩
theorem k_X4_countOnSheet : CF0 M_X4_countOnSheet 2 := ⟨rfl, w_575, w_2, ⟨by decide +kernel, by decide +kernel, by decide +kernel⟩, by decide +kernel, by decide +kernel, rfl, rfl, rfl⟩
theorem w_595 : (Jvm.Cond.methodLink "ErrataPress$State" (90 : Nat) ({ cls := "ErrataPress$State", name := "countOnSheet", desc := "(II)I" } : Jvm.MethodName)) ∈ gtb := List.mem_filter.mpr ⟨List.mem_of_getElem? (i := 667) (by decide +kernel), by decide +kernel⟩
theorem w_573 : (Jvm.Cond.instanceMethod ({ cls := "ErrataPress$State", name := "countOnSheet", desc := "(II)I" } : Jvm.MethodName)) ∈ gtb := List.mem_filter.mpr ⟨List.mem_of_getElem? (i := 645) (by decide +kernel), by decide +kernel⟩
theorem sel_X4_countOnSheet : (Jvm.Cond.selects "ErrataPress$State" ({ cls := "ErrataPress$State", name := "countOnSheet", desc := "(II)I" } : Jvm.MethodName) ({ cls := "ErrataPress$State", name := "countOnSheet", desc := "(II)I" } : Jvm.MethodName)) ∈ gtb := List.mem_filter.mpr ⟨List.mem_of_getElem? (i := 646) (by decide +kernel), by decide +kernel⟩
theorem cv_X4_90 : CFV RX4 90 0 M_X4_countOnSheet 2 := ⟨k_X4_countOnSheet, w_595, w_573, sel_X4_countOnSheet, rfl, _, rfl, rfl⟩
def M_X4_countOfHouse : MI := (yX4_countOfHouse, cX4_countOfHouse, 5, some .int, 3, 0, 0, 0, [])
def M_X4_countInAll : MI := (yX4_countInAll, cX4_countInAll, 4, some .int, 3, 0, 0, 0, [])
theorem w_398 : (Jvm.Cond.code ({ cls := "ErrataPress$State", name := "howBad", desc := "(II)I" } : Jvm.MethodName) prog_6_method_10_code (4 : Nat) (Option.some Jvm.ClassFile.FieldType.int)) ∈ gtb := List.mem_filter.mpr ⟨List.mem_of_getElem? (i := 470) (by decide +kernel), by decide +kernel⟩
theorem k_X4_howBad : CF0 M_X4_howBad 2 := ⟨rfl, w_398, w_2, ⟨by decide +kernel, by decide +kernel, by decide +kernel⟩, by decide +kernel, by decide +kernel, rfl, rfl, rfl⟩
theorem w_395 : (Jvm.Cond.methodLink "ErrataPress$State" (93 : Nat) ({ cls := "ErrataPress$State", name := "howBad", desc := "(II)I" } : Jvm.MethodName)) ∈ gtb := List.mem_filter.mpr ⟨List.mem_of_getElem? (i := 467) (by decide +kernel), by decide +kernel⟩
theorem w_396 : (Jvm.Cond.instanceMethod ({ cls := "ErrataPress$State", name := "howBad", desc := "(II)I" } : Jvm.MethodName)) ∈ gtb := List.mem_filter.mpr ⟨List.mem_of_getElem? (i := 468) (by decide +kernel), by decide +kernel⟩
theorem sel_X4_howBad : (Jvm.Cond.selects "ErrataPress$State" ({ cls := "ErrataPress$State", name := "howBad", desc := "(II)I" } : Jvm.MethodName) ({ cls := "ErrataPress$State", name := "howBad", desc := "(II)I" } : Jvm.MethodName)) ∈ gtb := List.mem_filter.mpr ⟨List.mem_of_getElem? (i := 469) (by decide +kernel), by decide +kernel⟩
theorem cv_X4_93 : CFV RX4 93 0 M_X4_howBad 2 := ⟨k_X4_howBad, w_395, w_396, sel_X4_howBad, rfl, _, rfl, rfl⟩
def M_X4_badness : MI := (yX4_badness, cX4_badness, 4, some .int, 3, 0, 0, 0, [])
def M_X4_sheetsOf : MI := (yX4_sheetsOf, cX4_sheetsOf, 4, some .int, 2, 0, 0, 0, [])
theorem w_260 : (Jvm.Cond.code ({ cls := "ErrataPress$State", name := "isAshamed", desc := "(I)Z" } : Jvm.MethodName) prog_6_method_11_code (2 : Nat) (Option.some Jvm.ClassFile.FieldType.boolean)) ∈ gtb := List.mem_filter.mpr ⟨List.mem_of_getElem? (i := 332) (by decide +kernel), by decide +kernel⟩
theorem k_X4_isAshamed : CF0 M_X4_isAshamed 1 := ⟨rfl, w_260, w_2, ⟨by decide +kernel, by decide +kernel, by decide +kernel⟩, by decide +kernel, by decide +kernel, rfl, rfl, rfl⟩
theorem w_257 : (Jvm.Cond.methodLink "ErrataPress$State" (96 : Nat) ({ cls := "ErrataPress$State", name := "isAshamed", desc := "(I)Z" } : Jvm.MethodName)) ∈ gtb := List.mem_filter.mpr ⟨List.mem_of_getElem? (i := 329) (by decide +kernel), by decide +kernel⟩
theorem w_258 : (Jvm.Cond.instanceMethod ({ cls := "ErrataPress$State", name := "isAshamed", desc := "(I)Z" } : Jvm.MethodName)) ∈ gtb := List.mem_filter.mpr ⟨List.mem_of_getElem? (i := 330) (by decide +kernel), by decide +kernel⟩
theorem sel_X4_isAshamed : (Jvm.Cond.selects "ErrataPress$State" ({ cls := "ErrataPress$State", name := "isAshamed", desc := "(I)Z" } : Jvm.MethodName) ({ cls := "ErrataPress$State", name := "isAshamed", desc := "(I)Z" } : Jvm.MethodName)) ∈ gtb := List.mem_filter.mpr ⟨List.mem_of_getElem? (i := 331) (by decide +kernel), by decide +kernel⟩
theorem cv_X4_96 : CFV RX4 96 0 M_X4_isAshamed 1 := ⟨k_X4_isAshamed, w_257, w_258, sel_X4_isAshamed, rfl, _, rfl, rfl⟩
def M_X4_ashamedHouses : MI := (yX4_ashamedHouses, cX4_ashamedHouses, 3, some .int, 3, 0, 0, 0, [])
theorem w_658 : (Jvm.Cond.code ({ cls := "ErrataPress$State", name := "sheetsOf", desc := "(I)I" } : Jvm.MethodName) prog_6_method_16_code (4 : Nat) (Option.some Jvm.ClassFile.FieldType.int)) ∈ gtb := List.mem_filter.mpr ⟨List.mem_of_getElem? (i := 730) (by decide +kernel), by decide +kernel⟩
theorem k_X4_sheetsOf : CF0 M_X4_sheetsOf 1 := ⟨rfl, w_658, w_2, ⟨by decide +kernel, by decide +kernel, by decide +kernel⟩, by decide +kernel, by decide +kernel, rfl, rfl, rfl⟩
theorem w_655 : (Jvm.Cond.methodLink "ErrataPress$State" (99 : Nat) ({ cls := "ErrataPress$State", name := "sheetsOf", desc := "(I)I" } : Jvm.MethodName)) ∈ gtb := List.mem_filter.mpr ⟨List.mem_of_getElem? (i := 727) (by decide +kernel), by decide +kernel⟩
theorem w_656 : (Jvm.Cond.instanceMethod ({ cls := "ErrataPress$State", name := "sheetsOf", desc := "(I)I" } : Jvm.MethodName)) ∈ gtb := List.mem_filter.mpr ⟨List.mem_of_getElem? (i := 728) (by decide +kernel), by decide +kernel⟩
theorem sel_X4_sheetsOf : (Jvm.Cond.selects "ErrataPress$State" ({ cls := "ErrataPress$State", name := "sheetsOf", desc := "(I)I" } : Jvm.MethodName) ({ cls := "ErrataPress$State", name := "sheetsOf", desc := "(I)I" } : Jvm.MethodName)) ∈ gtb := List.mem_filter.mpr ⟨List.mem_of_getElem? (i := 729) (by decide +kernel), by decide +kernel⟩
theorem cv_X4_99 : CFV RX4 99 0 M_X4_sheetsOf 1 := ⟨k_X4_sheetsOf, w_655, w_656, sel_X4_sheetsOf, rfl, _, rfl, rfl⟩
theorem w_594 : (Jvm.Cond.code ({ cls := "ErrataPress$State", name := "countOfHouse", desc := "(II)I" } : Jvm.MethodName) prog_6_method_13_code (5 : Nat) (Option.some Jvm.ClassFile.FieldType.int)) ∈ gtb := List.mem_filter.mpr ⟨List.mem_of_getElem? (i := 666) (by decide +kernel), by decide +kernel⟩
theorem k_X4_countOfHouse : CF0 M_X4_countOfHouse 2 := ⟨rfl, w_594, w_2, ⟨by decide +kernel, by decide +kernel, by decide +kernel⟩, by decide +kernel, by decide +kernel, rfl, rfl, rfl⟩
theorem w_591 : (Jvm.Cond.methodLink "ErrataPress$State" (102 : Nat) ({ cls := "ErrataPress$State", name := "countOfHouse", desc := "(II)I" } : Jvm.MethodName)) ∈ gtb := List.mem_filter.mpr ⟨List.mem_of_getElem? (i := 663) (by decide +kernel), by decide +kernel⟩
theorem w_592 : (Jvm.Cond.instanceMethod ({ cls := "ErrataPress$State", name := "countOfHouse", desc := "(II)I" } : Jvm.MethodName)) ∈ gtb := List.mem_filter.mpr ⟨List.mem_of_getElem? (i := 664) (by decide +kernel), by decide +kernel⟩
theorem sel_X4_countOfHouse : (Jvm.Cond.selects "ErrataPress$State" ({ cls := "ErrataPress$State", name := "countOfHouse", desc := "(II)I" } : Jvm.MethodName) ({ cls := "ErrataPress$State", name := "countOfHouse", desc := "(II)I" } : Jvm.MethodName)) ∈ gtb := List.mem_filter.mpr ⟨List.mem_of_getElem? (i := 665) (by decide +kernel), by decide +kernel⟩
theorem cv_X4_102 : CFV RX4 102 0 M_X4_countOfHouse 2 := ⟨k_X4_countOfHouse, w_591, w_592, sel_X4_countOfHouse, rfl, _, rfl, rfl⟩
def M_X4_licenceCost : MI := (yX4_licenceCost, cX4_licenceCost, 2, some .int, 4, 0, 0, 0, [])
theorem w_590 : (Jvm.Cond.code ({ cls := "ErrataPress$State", name := "licenceCost", desc := "(I)I" } : Jvm.MethodName) prog_6_method_22_code (2 : Nat) (Option.some Jvm.ClassFile.FieldType.int)) ∈ gtb := List.mem_filter.mpr ⟨List.mem_of_getElem? (i := 662) (by decide +kernel), by decide +kernel⟩
theorem k_X4_licenceCost : CF0 M_X4_licenceCost 1 := ⟨rfl, w_590, w_2, ⟨by decide +kernel, by decide +kernel, by decide +kernel⟩, by decide +kernel, by decide +kernel, rfl, rfl, rfl⟩
theorem w_659 : (Jvm.Cond.methodLink "ErrataPress$State" (105 : Nat) ({ cls := "ErrataPress$State", name := "licenceCost", desc := "(I)I" } : Jvm.MethodName)) ∈ gtb := List.mem_filter.mpr ⟨List.mem_of_getElem? (i := 731) (by decide +kernel), by decide +kernel⟩
theorem w_588 : (Jvm.Cond.instanceMethod ({ cls := "ErrataPress$State", name := "licenceCost", desc := "(I)I" } : Jvm.MethodName)) ∈ gtb := List.mem_filter.mpr ⟨List.mem_of_getElem? (i := 660) (by decide +kernel), by decide +kernel⟩
theorem sel_X4_licenceCost : (Jvm.Cond.selects "ErrataPress$State" ({ cls := "ErrataPress$State", name := "licenceCost", desc := "(I)I" } : Jvm.MethodName) ({ cls := "ErrataPress$State", name := "licenceCost", desc := "(I)I" } : Jvm.MethodName)) ∈ gtb := List.mem_filter.mpr ⟨List.mem_of_getElem? (i := 661) (by decide +kernel), by decide +kernel⟩
theorem cv_X4_105 : CFV RX4 105 0 M_X4_licenceCost 1 := ⟨k_X4_licenceCost, w_659, w_588, sel_X4_licenceCost, rfl, _, rfl, rfl⟩
def M_X4_numberOfHouse : MI := (yX4_numberOfHouse, cX4_numberOfHouse, 3, some .int, 5, 0, 0, 0, [])
theorem w_676 : (Jvm.Cond.code ({ cls := "ErrataPress$State", name := "badness", desc := "(I)I" } : Jvm.MethodName) prog_6_method_15_code (4 : Nat) (Option.some Jvm.ClassFile.FieldType.int)) ∈ gtb := List.mem_filter.mpr ⟨List.mem_of_getElem? (i := 748) (by decide +kernel), by decide +kernel⟩
theorem k_X4_badness : CF0 M_X4_badness 1 := ⟨rfl, w_676, w_2, ⟨by decide +kernel, by decide +kernel, by decide +kernel⟩, by decide +kernel, by decide +kernel, rfl, rfl, rfl⟩
theorem w_673 : (Jvm.Cond.methodLink "ErrataPress$State" (108 : Nat) ({ cls := "ErrataPress$State", name := "badness", desc := "(I)I" } : Jvm.MethodName)) ∈ gtb := List.mem_filter.mpr ⟨List.mem_of_getElem? (i := 745) (by decide +kernel), by decide +kernel⟩
theorem w_674 : (Jvm.Cond.instanceMethod ({ cls := "ErrataPress$State", name := "badness", desc := "(I)I" } : Jvm.MethodName)) ∈ gtb := List.mem_filter.mpr ⟨List.mem_of_getElem? (i := 746) (by decide +kernel), by decide +kernel⟩
theorem sel_X4_badness : (Jvm.Cond.selects "ErrataPress$State" ({ cls := "ErrataPress$State", name := "badness", desc := "(I)I" } : Jvm.MethodName) ({ cls := "ErrataPress$State", name := "badness", desc := "(I)I" } : Jvm.MethodName)) ∈ gtb := List.mem_filter.mpr ⟨List.mem_of_getElem? (i := 747) (by decide +kernel), by decide +kernel⟩
theorem cv_X4_108 : CFV RX4 108 0 M_X4_badness 1 := ⟨k_X4_badness, w_673, w_674, sel_X4_badness, rfl, _, rfl, rfl⟩
def M_X4_numberOfSheet : MI := (yX4_numberOfSheet, cX4_numberOfSheet, 3, some .int, 4, 0, 0, 0, [])
theorem w_637 : (Jvm.Cond.code ({ cls := "ErrataPress$State", name := "countInAll", desc := "(I)I" } : Jvm.MethodName) prog_6_method_14_code (4 : Nat) (Option.some Jvm.ClassFile.FieldType.int)) ∈ gtb := List.mem_filter.mpr ⟨List.mem_of_getElem? (i := 709) (by decide +kernel), by decide +kernel⟩
theorem k_X4_countInAll : CF0 M_X4_countInAll 1 := ⟨rfl, w_637, w_2, ⟨by decide +kernel, by decide +kernel, by decide +kernel⟩, by decide +kernel, by decide +kernel, rfl, rfl, rfl⟩
theorem w_964 : (Jvm.Cond.methodLink "ErrataPress$State" (111 : Nat) ({ cls := "ErrataPress$State", name := "countInAll", desc := "(I)I" } : Jvm.MethodName)) ∈ gtb := List.mem_filter.mpr ⟨List.mem_of_getElem? (i := 1036) (by decide +kernel), by decide +kernel⟩
theorem w_635 : (Jvm.Cond.instanceMethod ({ cls := "ErrataPress$State", name := "countInAll", desc := "(I)I" } : Jvm.MethodName)) ∈ gtb := List.mem_filter.mpr ⟨List.mem_of_getElem? (i := 707) (by decide +kernel), by decide +kernel⟩
theorem sel_X4_countInAll : (Jvm.Cond.selects "ErrataPress$State" ({ cls := "ErrataPress$State", name := "countInAll", desc := "(I)I" } : Jvm.MethodName) ({ cls := "ErrataPress$State", name := "countInAll", desc := "(I)I" } : Jvm.MethodName)) ∈ gtb := List.mem_filter.mpr ⟨List.mem_of_getElem? (i := 708) (by decide +kernel), by decide +kernel⟩
theorem cv_X4_111 : CFV RX4 111 0 M_X4_countInAll 1 := ⟨k_X4_countInAll, w_964, w_635, sel_X4_countInAll, rfl, _, rfl, rfl⟩
def M_X4_sumOfHouses : MI := (yX4_sumOfHouses, cX4_sumOfHouses, 4, some .int, 2, 0, 0, 0, [])
theorem w_968 : (Jvm.Cond.code ({ cls := "ErrataPress$State", name := "sumOfHouses", desc := "([I)I" } : Jvm.MethodName) prog_6_method_21_code (4 : Nat) (Option.some Jvm.ClassFile.FieldType.int)) ∈ gtb := List.mem_filter.mpr ⟨List.mem_of_getElem? (i := 1040) (by decide +kernel), by decide +kernel⟩
theorem k_X4_sumOfHouses : CF0 M_X4_sumOfHouses 1 := ⟨rfl, w_968, w_2, ⟨by decide +kernel, by decide +kernel, by decide +kernel⟩, by decide +kernel, by decide +kernel, rfl, rfl, rfl⟩
theorem w_965 : (Jvm.Cond.methodLink "ErrataPress$State" (114 : Nat) ({ cls := "ErrataPress$State", name := "sumOfHouses", desc := "([I)I" } : Jvm.MethodName)) ∈ gtb := List.mem_filter.mpr ⟨List.mem_of_getElem? (i := 1037) (by decide +kernel), by decide +kernel⟩
theorem w_967 : (Jvm.Cond.instanceMethod ({ cls := "ErrataPress$State", name := "sumOfHouses", desc := "([I)I" } : Jvm.MethodName)) ∈ gtb := List.mem_filter.mpr ⟨List.mem_of_getElem? (i := 1039) (by decide +kernel), by decide +kernel⟩
theorem sel_X4_sumOfHouses : Cond.selects "ErrataPress$State" ({ cls := "ErrataPress$State", name := "sumOfHouses", desc := "([I)I" } : Jvm.MethodName) ({ cls := "ErrataPress$State", name := "sumOfHouses", desc := "([I)I" } : Jvm.MethodName) ∈ gtb := List.mem_filter.mpr ⟨List.mem_of_getElem? (i := 30) (by decide +kernel), by decide +kernel⟩
theorem cv_X4_114 : CFV RX4 114 0 M_X4_sumOfHouses 1 := ⟨k_X4_sumOfHouses, w_965, w_967, sel_X4_sumOfHouses, rfl, _, rfl, rfl⟩
def M_X4_sumUp : MI := (yX4_sumUp, cX4_sumUp, 2, some .int, 4, 0, 0, 0, [])
def M_X4_canPayLicence : MI := (yX4_canPayLicence, cX4_canPayLicence, 2, some .boolean, 5, 0, 0, 0, [])
theorem w_390 : (Jvm.Cond.code ({ cls := "ErrataPress$State", name := "levelAt", desc := "(II)I" } : Jvm.MethodName) prog_6_method_9_code (3 : Nat) (Option.some Jvm.ClassFile.FieldType.int)) ∈ gtb := List.mem_filter.mpr ⟨List.mem_of_getElem? (i := 462) (by decide +kernel), by decide +kernel⟩
theorem k_X4_levelAt : CF0 M_X4_levelAt 2 := ⟨rfl, w_390, w_2, ⟨by decide +kernel, by decide +kernel, by decide +kernel⟩, by decide +kernel, by decide +kernel, rfl, rfl, rfl⟩
theorem w_387 : (Jvm.Cond.methodLink "ErrataPress$State" (118 : Nat) ({ cls := "ErrataPress$State", name := "levelAt", desc := "(II)I" } : Jvm.MethodName)) ∈ gtb := List.mem_filter.mpr ⟨List.mem_of_getElem? (i := 459) (by decide +kernel), by decide +kernel⟩
theorem w_388 : (Jvm.Cond.instanceMethod ({ cls := "ErrataPress$State", name := "levelAt", desc := "(II)I" } : Jvm.MethodName)) ∈ gtb := List.mem_filter.mpr ⟨List.mem_of_getElem? (i := 460) (by decide +kernel), by decide +kernel⟩
theorem sel_X4_levelAt : (Jvm.Cond.selects "ErrataPress$State" ({ cls := "ErrataPress$State", name := "levelAt", desc := "(II)I" } : Jvm.MethodName) ({ cls := "ErrataPress$State", name := "levelAt", desc := "(II)I" } : Jvm.MethodName)) ∈ gtb := List.mem_filter.mpr ⟨List.mem_of_getElem? (i := 461) (by decide +kernel), by decide +kernel⟩
theorem cv_X4_118 : CFV RX4 118 0 M_X4_levelAt 2 := ⟨k_X4_levelAt, w_387, w_388, sel_X4_levelAt, rfl, _, rfl, rfl⟩
def M_X4_fineByRules : MI := (yX4_fineByRules, cX4_fineByRules, 5, some .int, 3, 0, 0, 0, [])
def M_X4_fineAtOnce : MI := (yX4_fineAtOnce, cX4_fineAtOnce, 3, some .int, 3, 0, 0, 0, [])
theorem w_435 : (Jvm.Cond.code ({ cls := "ErrataPress$State", name := "fineByRules", desc := "(II)I" } : Jvm.MethodName) prog_6_method_24_code (5 : Nat) (Option.some Jvm.ClassFile.FieldType.int)) ∈ gtb := List.mem_filter.mpr ⟨List.mem_of_getElem? (i := 507) (by decide +kernel), by decide +kernel⟩
theorem k_X4_fineByRules : CF0 M_X4_fineByRules 2 := ⟨rfl, w_435, w_2, ⟨by decide +kernel, by decide +kernel, by decide +kernel⟩, by decide +kernel, by decide +kernel, rfl, rfl, rfl⟩
theorem w_432 : (Jvm.Cond.methodLink "ErrataPress$State" (121 : Nat) ({ cls := "ErrataPress$State", name := "fineByRules", desc := "(II)I" } : Jvm.MethodName)) ∈ gtb := List.mem_filter.mpr ⟨List.mem_of_getElem? (i := 504) (by decide +kernel), by decide +kernel⟩
theorem w_433 : (Jvm.Cond.instanceMethod ({ cls := "ErrataPress$State", name := "fineByRules", desc := "(II)I" } : Jvm.MethodName)) ∈ gtb := List.mem_filter.mpr ⟨List.mem_of_getElem? (i := 505) (by decide +kernel), by decide +kernel⟩
theorem sel_X4_fineByRules : (Jvm.Cond.selects "ErrataPress$State" ({ cls := "ErrataPress$State", name := "fineByRules", desc := "(II)I" } : Jvm.MethodName) ({ cls := "ErrataPress$State", name := "fineByRules", desc := "(II)I" } : Jvm.MethodName)) ∈ gtb := List.mem_filter.mpr ⟨List.mem_of_getElem? (i := 506) (by decide +kernel), by decide +kernel⟩
theorem cv_X4_121 : CFV RX4 121 0 M_X4_fineByRules 2 := ⟨k_X4_fineByRules, w_432, w_433, sel_X4_fineByRules, rfl, _, rfl, rfl⟩
def M_X4_finesByPlace : MI := (yX4_finesByPlace, cX4_finesByPlace, 4, some .int, 4, 0, 0, 0, [])
def M_X4_isLaughing : MI := (yX4_isLaughing, cX4_isLaughing, 4, some .boolean, 2, 0, 0, 0, [])
theorem w_405 : (Jvm.Cond.code ({ cls := "ErrataPress$State", name := "isLaughing", desc := "(III)Z" } : Jvm.MethodName) prog_6_method_27_code (4 : Nat) (Option.some Jvm.ClassFile.FieldType.boolean)) ∈ gtb := List.mem_filter.mpr ⟨List.mem_of_getElem? (i := 477) (by decide +kernel), by decide +kernel⟩
theorem k_X4_isLaughing : CF0 M_X4_isLaughing 3 := ⟨rfl, w_405, w_2, ⟨by decide +kernel, by decide +kernel, by decide +kernel⟩, by decide +kernel, by decide +kernel, rfl, rfl, rfl⟩
theorem w_402 : (Jvm.Cond.methodLink "ErrataPress$State" (124 : Nat) ({ cls := "ErrataPress$State", name := "isLaughing", desc := "(III)Z" } : Jvm.MethodName)) ∈ gtb := List.mem_filter.mpr ⟨List.mem_of_getElem? (i := 474) (by decide +kernel), by decide +kernel⟩
theorem w_404 : (Jvm.Cond.instanceMethod ({ cls := "ErrataPress$State", name := "isLaughing", desc := "(III)Z" } : Jvm.MethodName)) ∈ gtb := List.mem_filter.mpr ⟨List.mem_of_getElem? (i := 476) (by decide +kernel), by decide +kernel⟩
theorem sel_X4_isLaughing : Cond.selects "ErrataPress$State" ({ cls := "ErrataPress$State", name := "isLaughing", desc := "(III)Z" } : Jvm.MethodName) ({ cls := "ErrataPress$State", name := "isLaughing", desc := "(III)Z" } : Jvm.MethodName) ∈ gtb := List.mem_filter.mpr ⟨List.mem_of_getElem? (i := 3) (by decide +kernel), by decide +kernel⟩
theorem cv_X4_124 : CFV RX4 124 0 M_X4_isLaughing 3 := ⟨k_X4_isLaughing, w_402, w_404, sel_X4_isLaughing, rfl, _, rfl, rfl⟩
def M_X4_laughersAt : MI := (yX4_laughersAt, cX4_laughersAt, 7, some .int, 3, 0, 0, 0, [])
theorem w_413 : (Jvm.Cond.code ({ cls := "ErrataPress$State", name := "laughersAt", desc := "(II)I" } : Jvm.MethodName) prog_6_method_28_code (7 : Nat) (Option.some Jvm.ClassFile.FieldType.int)) ∈ gtb := List.mem_filter.mpr ⟨List.mem_of_getElem? (i := 485) (by decide +kernel), by decide +kernel⟩
theorem k_X4_laughersAt : CF0 M_X4_laughersAt 2 := ⟨rfl, w_413, w_2, ⟨by decide +kernel, by decide +kernel, by decide +kernel⟩, by decide +kernel, by decide +kernel, rfl, rfl, rfl⟩
theorem w_410 : (Jvm.Cond.methodLink "ErrataPress$State" (128 : Nat) ({ cls := "ErrataPress$State", name := "laughersAt", desc := "(II)I" } : Jvm.MethodName)) ∈ gtb := List.mem_filter.mpr ⟨List.mem_of_getElem? (i := 482) (by decide +kernel), by decide +kernel⟩
theorem w_411 : (Jvm.Cond.instanceMethod ({ cls := "ErrataPress$State", name := "laughersAt", desc := "(II)I" } : Jvm.MethodName)) ∈ gtb := List.mem_filter.mpr ⟨List.mem_of_getElem? (i := 483) (by decide +kernel), by decide +kernel⟩
theorem sel_X4_laughersAt : (Jvm.Cond.selects "ErrataPress$State" ({ cls := "ErrataPress$State", name := "laughersAt", desc := "(II)I" } : Jvm.MethodName) ({ cls := "ErrataPress$State", name := "laughersAt", desc := "(II)I" } : Jvm.MethodName)) ∈ gtb := List.mem_filter.mpr ⟨List.mem_of_getElem? (i := 484) (by decide +kernel), by decide +kernel⟩
theorem cv_X4_128 : CFV RX4 128 0 M_X4_laughersAt 2 := ⟨k_X4_laughersAt, w_410, w_411, sel_X4_laughersAt, rfl, _, rfl, rfl⟩
def M_J6_bitCount_0f7a4 : MI := (yJ6_bitCount_0f7a4, cJ6_bitCount_0f7a4, 1, some .int, 2, 0, 0, 0, [])
theorem w_416 : (Jvm.Cond.code ({ cls := "java/lang/Integer", name := "bitCount", desc := "(I)I" } : Jvm.MethodName) prog_16_method_49_code (1 : Nat) (Option.some Jvm.ClassFile.FieldType.int)) ∈ gtb := List.mem_filter.mpr ⟨List.mem_of_getElem? (i := 488) (by decide +kernel), by decide +kernel⟩
theorem w_18 : (Jvm.Cond.initialized "java/lang/Integer") ∈ gtb := List.mem_filter.mpr ⟨List.mem_of_getElem? (i := 90) (by decide +kernel), by decide +kernel⟩
theorem k_J6_bitCount_0f7a4 : CF0 M_J6_bitCount_0f7a4 1 := ⟨rfl, w_416, w_18, ⟨by decide +kernel, by decide +kernel, by decide +kernel⟩, by decide +kernel, by decide +kernel, rfl, rfl, rfl⟩
theorem w_414 : (Jvm.Cond.methodLink "ErrataPress$State" (131 : Nat) ({ cls := "java/lang/Integer", name := "bitCount", desc := "(I)I" } : Jvm.MethodName)) ∈ gtb := List.mem_filter.mpr ⟨List.mem_of_getElem? (i := 486) (by decide +kernel), by decide +kernel⟩
theorem w_415 : (Jvm.Cond.static ({ cls := "java/lang/Integer", name := "bitCount", desc := "(I)I" } : Jvm.MethodName)) ∈ gtb := List.mem_filter.mpr ⟨List.mem_of_getElem? (i := 487) (by decide +kernel), by decide +kernel⟩
theorem cs_X4_131 : CFS RX4 131 M_J6_bitCount_0f7a4 1 := ⟨k_J6_bitCount_0f7a4, w_414, w_415⟩
def M_X4_laughsByMisprint : MI := (yX4_laughsByMisprint, cX4_laughsByMisprint, 4, some .int, 4, 0, 0, 0, [])
def M_X4_laughsOf : MI := (yX4_laughsOf, cX4_laughsOf, 6, some .int, 3, 0, 0, 0, [])
theorem w_386 : (Jvm.Cond.code ({ cls := "ErrataPress$State", name := "laughsOf", desc := "(I)I" } : Jvm.MethodName) prog_6_method_31_code (6 : Nat) (Option.some Jvm.ClassFile.FieldType.int)) ∈ gtb := List.mem_filter.mpr ⟨List.mem_of_getElem? (i := 458) (by decide +kernel), by decide +kernel⟩
theorem k_X4_laughsOf : CF0 M_X4_laughsOf 1 := ⟨rfl, w_386, w_2, ⟨by decide +kernel, by decide +kernel, by decide +kernel⟩, by decide +kernel, by decide +kernel, rfl, rfl, rfl⟩
theorem w_383 : (Jvm.Cond.methodLink "ErrataPress$State" (136 : Nat) ({ cls := "ErrataPress$State", name := "laughsOf", desc := "(I)I" } : Jvm.MethodName)) ∈ gtb := List.mem_filter.mpr ⟨List.mem_of_getElem? (i := 455) (by decide +kernel), by decide +kernel⟩
theorem w_385 : (Jvm.Cond.instanceMethod ({ cls := "ErrataPress$State", name := "laughsOf", desc := "(I)I" } : Jvm.MethodName)) ∈ gtb := List.mem_filter.mpr ⟨List.mem_of_getElem? (i := 457) (by decide +kernel), by decide +kernel⟩
theorem sel_X4_laughsOf : Cond.selects "ErrataPress$State" ({ cls := "ErrataPress$State", name := "laughsOf", desc := "(I)I" } : Jvm.MethodName) ({ cls := "ErrataPress$State", name := "laughsOf", desc := "(I)I" } : Jvm.MethodName) ∈ gtb := List.mem_filter.mpr ⟨List.mem_of_getElem? (i := 2) (by decide +kernel), by decide +kernel⟩
theorem cv_X4_136 : CFV RX4 136 0 M_X4_laughsOf 1 := ⟨k_X4_laughsOf, w_383, w_385, sel_X4_laughsOf, rfl, _, rfl, rfl⟩
def M_X4_laughsByReader : MI := (yX4_laughsByReader, cX4_laughsByReader, 3, some .int, 4, 0, 0, 0, [])
def M_X4_shameToCome : MI := (yX4_shameToCome, cX4_shameToCome, 5, some .int, 3, 0, 0, 0, [])
theorem w_780 : (Jvm.Cond.methodLink "ErrataPress$State" (139 : Nat) ({ cls := "java/lang/Math", name := "min", desc := "(II)I" } : Jvm.MethodName)) ∈ gtb := List.mem_filter.mpr ⟨List.mem_of_getElem? (i := 852) (by decide +kernel), by decide +kernel⟩
theorem w_244 : (Jvm.Cond.methodLink "ErrataPress$State" (142 : Nat) ({ cls := "java/lang/Math", name := "max", desc := "(II)I" } : Jvm.MethodName)) ∈ gtb := List.mem_filter.mpr ⟨List.mem_of_getElem? (i := 316) (by decide +kernel), by decide +kernel⟩
def M_X4_unlike : MI := (yX4_unlike, cX4_unlike, 6, some .int, 3, 0, 0, 0, [])
def M_X4_isMoreAshamed : MI := (yX4_isMoreAshamed, cX4_isMoreAshamed, 3, some .boolean, 2, 0, 0, 0, [])
theorem w_803 : (Jvm.Cond.code ({ cls := "ErrataPress$State", name := "isMoreAshamed", desc := "(II)Z" } : Jvm.MethodName) prog_6_method_35_code (3 : Nat) (Option.some Jvm.ClassFile.FieldType.boolean)) ∈ gtb := List.mem_filter.mpr ⟨List.mem_of_getElem? (i := 875) (by decide +kernel), by decide +kernel⟩
theorem k_X4_isMoreAshamed : CF0 M_X4_isMoreAshamed 2 := ⟨rfl, w_803, w_2, ⟨by decide +kernel, by decide +kernel, by decide +kernel⟩, by decide +kernel, by decide +kernel, rfl, rfl, rfl⟩
theorem w_800 : (Jvm.Cond.methodLink "ErrataPress$State" (145 : Nat) ({ cls := "ErrataPress$State", name := "isMoreAshamed", desc := "(II)Z" } : Jvm.MethodName)) ∈ gtb := List.mem_filter.mpr ⟨List.mem_of_getElem? (i := 872) (by decide +kernel), by decide +kernel⟩
theorem w_802 : (Jvm.Cond.instanceMethod ({ cls := "ErrataPress$State", name := "isMoreAshamed", desc := "(II)Z" } : Jvm.MethodName)) ∈ gtb := List.mem_filter.mpr ⟨List.mem_of_getElem? (i := 874) (by decide +kernel), by decide +kernel⟩
theorem sel_X4_isMoreAshamed : Cond.selects "ErrataPress$State" ({ cls := "ErrataPress$State", name := "isMoreAshamed", desc := "(II)Z" } : Jvm.MethodName) ({ cls := "ErrataPress$State", name := "isMoreAshamed", desc := "(II)Z" } : Jvm.MethodName) ∈ gtb := List.mem_filter.mpr ⟨List.mem_of_getElem? (i := 16) (by decide +kernel), by decide +kernel⟩
theorem cv_X4_145 : CFV RX4 145 0 M_X4_isMoreAshamed 2 := ⟨k_X4_isMoreAshamed, w_800, w_802, sel_X4_isMoreAshamed, rfl, _, rfl, rfl⟩
def M_X4_rankOfHouse : MI := (yX4_rankOfHouse, cX4_rankOfHouse, 4, some .int, 3, 0, 0, 0, [])
def M_X4_isWorse : MI := (yX4_isWorse, cX4_isWorse, 4, some .boolean, 4, 0, 0, 0, [])
theorem w_818 : (Jvm.Cond.code ({ cls := "ErrataPress$State", name := "isWorse", desc := "(II)Z" } : Jvm.MethodName) prog_6_method_37_code (4 : Nat) (Option.some Jvm.ClassFile.FieldType.boolean)) ∈ gtb := List.mem_filter.mpr ⟨List.mem_of_getElem? (i := 890) (by decide +kernel), by decide +kernel⟩
theorem k_X4_isWorse : CF0 M_X4_isWorse 2 := ⟨rfl, w_818, w_2, ⟨by decide +kernel, by decide +kernel, by decide +kernel⟩, by decide +kernel, by decide +kernel, rfl, rfl, rfl⟩
theorem w_815 : (Jvm.Cond.methodLink "ErrataPress$State" (149 : Nat) ({ cls := "ErrataPress$State", name := "isWorse", desc := "(II)Z" } : Jvm.MethodName)) ∈ gtb := List.mem_filter.mpr ⟨List.mem_of_getElem? (i := 887) (by decide +kernel), by decide +kernel⟩
theorem w_817 : (Jvm.Cond.instanceMethod ({ cls := "ErrataPress$State", name := "isWorse", desc := "(II)Z" } : Jvm.MethodName)) ∈ gtb := List.mem_filter.mpr ⟨List.mem_of_getElem? (i := 889) (by decide +kernel), by decide +kernel⟩
theorem sel_X4_isWorse : Cond.selects "ErrataPress$State" ({ cls := "ErrataPress$State", name := "isWorse", desc := "(II)Z" } : Jvm.MethodName) ({ cls := "ErrataPress$State", name := "isWorse", desc := "(II)Z" } : Jvm.MethodName) ∈ gtb := List.mem_filter.mpr ⟨List.mem_of_getElem? (i := 17) (by decide +kernel), by decide +kernel⟩
theorem cv_X4_149 : CFV RX4 149 0 M_X4_isWorse 2 := ⟨k_X4_isWorse, w_815, w_817, sel_X4_isWorse, rfl, _, rfl, rfl⟩
def M_X4_rankOfSheet : MI := (yX4_rankOfSheet, cX4_rankOfSheet, 4, some .int, 5, 0, 0, 0, [])
def M_X4_appendHouse : MI := (yX4_appendHouse, cX4_appendHouse, 2, some .int, 2, 0, 0, 0, [])
def M_X4_putLetter : MI := (yX4_putLetter, cX4_putLetter, 5, none, 2, 0, 0, 0, [])
theorem w_448 : (Jvm.Cond.code ({ cls := "ErrataPress$State", name := "putLetter", desc := "(III)V" } : Jvm.MethodName) prog_6_method_42_code (5 : Nat) (Option.none : Option Jvm.ClassFile.FieldType)) ∈ gtb := List.mem_filter.mpr ⟨List.mem_of_getElem? (i := 520) (by decide +kernel), by decide +kernel⟩
theorem k_X4_putLetter : CF0 M_X4_putLetter 3 := ⟨rfl, w_448, w_2, ⟨by decide +kernel, by decide +kernel, by decide +kernel⟩, by decide +kernel, by decide +kernel, rfl, rfl, rfl⟩
theorem w_535 : (Jvm.Cond.methodLink "ErrataPress$State" (152 : Nat) ({ cls := "ErrataPress$State", name := "putLetter", desc := "(III)V" } : Jvm.MethodName)) ∈ gtb := List.mem_filter.mpr ⟨List.mem_of_getElem? (i := 607) (by decide +kernel), by decide +kernel⟩
theorem w_446 : (Jvm.Cond.instanceMethod ({ cls := "ErrataPress$State", name := "putLetter", desc := "(III)V" } : Jvm.MethodName)) ∈ gtb := List.mem_filter.mpr ⟨List.mem_of_getElem? (i := 518) (by decide +kernel), by decide +kernel⟩
theorem sel_X4_putLetter : (Jvm.Cond.selects "ErrataPress$State" ({ cls := "ErrataPress$State", name := "putLetter", desc := "(III)V" } : Jvm.MethodName) ({ cls := "ErrataPress$State", name := "putLetter", desc := "(III)V" } : Jvm.MethodName)) ∈ gtb := List.mem_filter.mpr ⟨List.mem_of_getElem? (i := 519) (by decide +kernel), by decide +kernel⟩
theorem cv_X4_152 : CFV RX4 152 0 M_X4_putLetter 3 := ⟨k_X4_putLetter, w_535, w_446, sel_X4_putLetter, rfl, _, rfl, rfl⟩
def M_X4_appendSheet : MI := (yX4_appendSheet, cX4_appendSheet, 6, some .int, 3, 0, 0, 0, [])
def M_X4_appendReader : MI := (yX4_appendReader, cX4_appendReader, 3, some .int, 2, 0, 0, 0, [])
def M_X4_removeSheet : MI := (yX4_removeSheet, cX4_removeSheet, 5, none, 2, 0, 0, 0, [])
def M_X5_atMostKept : MI := (yX5_atMostKept, cX5_atMostKept, 1, some .int, 2, 0, 0, 0, [])
theorem w_249 : (Jvm.Cond.code ({ cls := "ErrataPress", name := "atMostKept", desc := "(I)I" } : Jvm.MethodName) prog_1_method_58_code (1 : Nat) (Option.some Jvm.ClassFile.FieldType.int)) ∈ gtb := List.mem_filter.mpr ⟨List.mem_of_getElem? (i := 321) (by decide +kernel), by decide +kernel⟩
theorem w_1 : (Jvm.Cond.initialized "ErrataPress") ∈ gtb := List.mem_filter.mpr ⟨List.mem_of_getElem? (i := 73) (by decide +kernel), by decide +kernel⟩
theorem k_X5_atMostKept : CF0 M_X5_atMostKept 1 := ⟨rfl, w_249, w_1, ⟨by decide +kernel, by decide +kernel, by decide +kernel⟩, by decide +kernel, by decide +kernel, rfl, rfl, rfl⟩
theorem w_247 : (Jvm.Cond.methodLinkNest "ErrataPress$State" (156 : Nat) ({ cls := "ErrataPress", name := "atMostKept", desc := "(I)I" } : Jvm.MethodName) "ErrataPress") ∈ ntb := List.mem_filter.mpr ⟨List.mem_of_getElem? (i := 319) (by decide +kernel), by decide +kernel⟩
theorem w_248 : (Jvm.Cond.static ({ cls := "ErrataPress", name := "atMostKept", desc := "(I)I" } : Jvm.MethodName)) ∈ gtb := List.mem_filter.mpr ⟨List.mem_of_getElem? (i := 320) (by decide +kernel), by decide +kernel⟩
theorem cn_X4_156 : CFN RX4 156 M_X5_atMostKept 1 "ErrataPress" := ⟨k_X5_atMostKept, w_247, w_248⟩
def M_X4_printOne : MI := (yX4_printOne, cX4_printOne, 5, some .int, 4, 0, 0, 0, [])
theorem w_256 : (Jvm.Cond.code ({ cls := "ErrataPress$State", name := "ashamedHouses", desc := "()I" } : Jvm.MethodName) prog_6_method_17_code (3 : Nat) (Option.some Jvm.ClassFile.FieldType.int)) ∈ gtb := List.mem_filter.mpr ⟨List.mem_of_getElem? (i := 328) (by decide +kernel), by decide +kernel⟩
theorem k_X4_ashamedHouses : CF0 M_X4_ashamedHouses 0 := ⟨rfl, w_256, w_2, ⟨by decide +kernel, by decide +kernel, by decide +kernel⟩, by decide +kernel, by decide +kernel, rfl, rfl, rfl⟩
theorem w_253 : (Jvm.Cond.methodLink "ErrataPress$State" (159 : Nat) ({ cls := "ErrataPress$State", name := "ashamedHouses", desc := "()I" } : Jvm.MethodName)) ∈ gtb := List.mem_filter.mpr ⟨List.mem_of_getElem? (i := 325) (by decide +kernel), by decide +kernel⟩
theorem w_254 : (Jvm.Cond.instanceMethod ({ cls := "ErrataPress$State", name := "ashamedHouses", desc := "()I" } : Jvm.MethodName)) ∈ gtb := List.mem_filter.mpr ⟨List.mem_of_getElem? (i := 326) (by decide +kernel), by decide +kernel⟩
theorem sel_X4_ashamedHouses : (Jvm.Cond.selects "ErrataPress$State" ({ cls := "ErrataPress$State", name := "ashamedHouses", desc := "()I" } : Jvm.MethodName) ({ cls := "ErrataPress$State", name := "ashamedHouses", desc := "()I" } : Jvm.MethodName)) ∈ gtb := List.mem_filter.mpr ⟨List.mem_of_getElem? (i := 327) (by decide +kernel), by decide +kernel⟩
theorem cv_X4_159 : CFV RX4 159 0 M_X4_ashamedHouses 0 := ⟨k_X4_ashamedHouses, w_253, w_254, sel_X4_ashamedHouses, rfl, _, rfl, rfl⟩
def M_X4_passDay : MI := (yX4_passDay, cX4_passDay, 2, some .int, 4, 0, 0, 0, [])
theorem w_199 : (Jvm.Cond.fieldLink "ErrataPress" (16 : Nat) "ErrataPress" "before" "LErrataPress$State;") ∈ gtb := List.mem_filter.mpr ⟨List.mem_of_getElem? (i := 271) (by decide +kernel), by decide +kernel⟩
theorem ff_X5_16 : FF RX5 16 11 1 := ⟨RX5, TX5, 10, rfl, inG5, by decide, rfl, w_199⟩
theorem w_198 : (Jvm.Cond.fieldLink "ErrataPress" (12 : Nat) "ErrataPress" "state" "LErrataPress$State;") ∈ gtb := List.mem_filter.mpr ⟨List.mem_of_getElem? (i := 270) (by decide +kernel), by decide +kernel⟩
theorem ff_X5_12 : FF RX5 12 11 0 := ⟨RX5, TX5, 10, rfl, inG5, by decide, rfl, w_198⟩
theorem w_233 : (Jvm.Cond.methodLink "ErrataPress" (57 : Nat) ({ cls := "ErrataPress$State", name := "copyFrom", desc := "(LErrataPress$State;)V" } : Jvm.MethodName)) ∈ gtb := List.mem_filter.mpr ⟨List.mem_of_getElem? (i := 305) (by decide +kernel), by decide +kernel⟩
theorem cv_X5_57 : CFV RX5 57 0 M_X4_copyFrom 1 := ⟨k_X4_copyFrom, w_233, w_234, sel_X4_copyFrom, rfl, _, rfl, rfl⟩
def M_X5_addHouse : MI := (yX5_addHouse, cX5_addHouse, 2, some .int, 4, 0, 0, 0, [])
theorem w_479 : (Jvm.Cond.code ({ cls := "ErrataPress", name := "addHouse", desc := "(I)I" } : Jvm.MethodName) prog_1_method_42_code (2 : Nat) (Option.some Jvm.ClassFile.FieldType.int)) ∈ gtb := List.mem_filter.mpr ⟨List.mem_of_getElem? (i := 551) (by decide +kernel), by decide +kernel⟩
theorem k_X5_addHouse : CF0 M_X5_addHouse 1 := ⟨rfl, w_479, w_1, ⟨by decide +kernel, by decide +kernel, by decide +kernel⟩, by decide +kernel, by decide +kernel, rfl, rfl, rfl⟩
theorem w_476 : (Jvm.Cond.methodLink "ErrataPress" (61 : Nat) ({ cls := "ErrataPress", name := "addHouse", desc := "(I)I" } : Jvm.MethodName)) ∈ gtb := List.mem_filter.mpr ⟨List.mem_of_getElem? (i := 548) (by decide +kernel), by decide +kernel⟩
theorem w_478 : (Jvm.Cond.instanceMethod ({ cls := "ErrataPress", name := "addHouse", desc := "(I)I" } : Jvm.MethodName)) ∈ gtb := List.mem_filter.mpr ⟨List.mem_of_getElem? (i := 550) (by decide +kernel), by decide +kernel⟩
theorem sel_X5_addHouse : Cond.selects "ErrataPress" ({ cls := "ErrataPress", name := "addHouse", desc := "(I)I" } : Jvm.MethodName) ({ cls := "ErrataPress", name := "addHouse", desc := "(I)I" } : Jvm.MethodName) ∈ gtb := List.mem_filter.mpr ⟨List.mem_of_getElem? (i := 6) (by decide +kernel), by decide +kernel⟩
theorem cv_X5_61 : CFV RX5 61 11 M_X5_addHouse 1 := ⟨k_X5_addHouse, w_476, w_478, sel_X5_addHouse, rfl, _, rfl, rfl⟩
def M_X5_settle : MI := (yX5_settle, cX5_settle, 2, some .int, 8, 1, 0, 0, [])
theorem w_264 : (Jvm.Cond.code ({ cls := "ErrataPress", name := "settle", desc := "(I)I" } : Jvm.MethodName) prog_1_method_40_code (2 : Nat) (Option.some Jvm.ClassFile.FieldType.int)) ∈ gtb := List.mem_filter.mpr ⟨List.mem_of_getElem? (i := 336) (by decide +kernel), by decide +kernel⟩
theorem k_X5_settle : CF0 M_X5_settle 1 := ⟨rfl, w_264, w_1, ⟨by decide +kernel, by decide +kernel, by decide +kernel⟩, by decide +kernel, by decide +kernel, rfl, rfl, rfl⟩
theorem w_261 : (Jvm.Cond.methodLink "ErrataPress" (65 : Nat) ({ cls := "ErrataPress", name := "settle", desc := "(I)I" } : Jvm.MethodName)) ∈ gtb := List.mem_filter.mpr ⟨List.mem_of_getElem? (i := 333) (by decide +kernel), by decide +kernel⟩
theorem w_263 : (Jvm.Cond.instanceMethod ({ cls := "ErrataPress", name := "settle", desc := "(I)I" } : Jvm.MethodName)) ∈ gtb := List.mem_filter.mpr ⟨List.mem_of_getElem? (i := 335) (by decide +kernel), by decide +kernel⟩
theorem sel_X5_settle : Cond.selects "ErrataPress" ({ cls := "ErrataPress", name := "settle", desc := "(I)I" } : Jvm.MethodName) ({ cls := "ErrataPress", name := "settle", desc := "(I)I" } : Jvm.MethodName) ∈ gtb := List.mem_filter.mpr ⟨List.mem_of_getElem? (i := 0) (by decide +kernel), by decide +kernel⟩
theorem cv_X5_65 : CFV RX5 65 11 M_X5_settle 1 := ⟨k_X5_settle, w_261, w_263, sel_X5_settle, rfl, _, rfl, rfl⟩
def M_X5_house : MI := (yX5_house, cX5_house, 2, some .int, 9, 1, 0, 0, [])
def M_X5_addSheet : MI := (yX5_addSheet, cX5_addSheet, 4, some .int, 4, 0, 0, 0, [])
theorem w_523 : (Jvm.Cond.code ({ cls := "ErrataPress", name := "addSheet", desc := "(II)I" } : Jvm.MethodName) prog_1_method_43_code (4 : Nat) (Option.some Jvm.ClassFile.FieldType.int)) ∈ gtb := List.mem_filter.mpr ⟨List.mem_of_getElem? (i := 595) (by decide +kernel), by decide +kernel⟩
theorem k_X5_addSheet : CF0 M_X5_addSheet 2 := ⟨rfl, w_523, w_1, ⟨by decide +kernel, by decide +kernel, by decide +kernel⟩, by decide +kernel, by decide +kernel, rfl, rfl, rfl⟩
theorem w_520 : (Jvm.Cond.methodLink "ErrataPress" (68 : Nat) ({ cls := "ErrataPress", name := "addSheet", desc := "(II)I" } : Jvm.MethodName)) ∈ gtb := List.mem_filter.mpr ⟨List.mem_of_getElem? (i := 592) (by decide +kernel), by decide +kernel⟩
theorem w_522 : (Jvm.Cond.instanceMethod ({ cls := "ErrataPress", name := "addSheet", desc := "(II)I" } : Jvm.MethodName)) ∈ gtb := List.mem_filter.mpr ⟨List.mem_of_getElem? (i := 594) (by decide +kernel), by decide +kernel⟩
theorem sel_X5_addSheet : Cond.selects "ErrataPress" ({ cls := "ErrataPress", name := "addSheet", desc := "(II)I" } : Jvm.MethodName) ({ cls := "ErrataPress", name := "addSheet", desc := "(II)I" } : Jvm.MethodName) ∈ gtb := List.mem_filter.mpr ⟨List.mem_of_getElem? (i := 8) (by decide +kernel), by decide +kernel⟩
theorem cv_X5_68 : CFV RX5 68 11 M_X5_addSheet 2 := ⟨k_X5_addSheet, w_520, w_522, sel_X5_addSheet, rfl, _, rfl, rfl⟩
def M_X5_sheet : MI := (yX5_sheet, cX5_sheet, 3, some .int, 9, 1, 0, 0, [])
def M_X5_takeSheet : MI := (yX5_takeSheet, cX5_takeSheet, 2, some .int, 3, 0, 0, 0, [])
theorem w_546 : (Jvm.Cond.code ({ cls := "ErrataPress", name := "takeSheet", desc := "(I)I" } : Jvm.MethodName) prog_1_method_44_code (2 : Nat) (Option.some Jvm.ClassFile.FieldType.int)) ∈ gtb := List.mem_filter.mpr ⟨List.mem_of_getElem? (i := 618) (by decide +kernel), by decide +kernel⟩
theorem k_X5_takeSheet : CF0 M_X5_takeSheet 1 := ⟨rfl, w_546, w_1, ⟨by decide +kernel, by decide +kernel, by decide +kernel⟩, by decide +kernel, by decide +kernel, rfl, rfl, rfl⟩
theorem w_543 : (Jvm.Cond.methodLink "ErrataPress" (72 : Nat) ({ cls := "ErrataPress", name := "takeSheet", desc := "(I)I" } : Jvm.MethodName)) ∈ gtb := List.mem_filter.mpr ⟨List.mem_of_getElem? (i := 615) (by decide +kernel), by decide +kernel⟩
theorem w_545 : (Jvm.Cond.instanceMethod ({ cls := "ErrataPress", name := "takeSheet", desc := "(I)I" } : Jvm.MethodName)) ∈ gtb := List.mem_filter.mpr ⟨List.mem_of_getElem? (i := 617) (by decide +kernel), by decide +kernel⟩
theorem sel_X5_takeSheet : Cond.selects "ErrataPress" ({ cls := "ErrataPress", name := "takeSheet", desc := "(I)I" } : Jvm.MethodName) ({ cls := "ErrataPress", name := "takeSheet", desc := "(I)I" } : Jvm.MethodName) ∈ gtb := List.mem_filter.mpr ⟨List.mem_of_getElem? (i := 9) (by decide +kernel), by decide +kernel⟩
theorem cv_X5_72 : CFV RX5 72 11 M_X5_takeSheet 1 := ⟨k_X5_takeSheet, w_543, w_545, sel_X5_takeSheet, rfl, _, rfl, rfl⟩
def M_X5_take : MI := (yX5_take, cX5_take, 2, some .int, 9, 1, 0, 0, [])
def M_X5_setLetter : MI := (yX5_setLetter, cX5_setLetter, 5, some .int, 4, 0, 0, 0, [])
theorem w_565 : (Jvm.Cond.code ({ cls := "ErrataPress", name := "setLetter", desc := "(IIC)I" } : Jvm.MethodName) prog_1_method_45_code (5 : Nat) (Option.some Jvm.ClassFile.FieldType.int)) ∈ gtb := List.mem_filter.mpr ⟨List.mem_of_getElem? (i := 637) (by decide +kernel), by decide +kernel⟩
theorem k_X5_setLetter : CF0 M_X5_setLetter 3 := ⟨rfl, w_565, w_1, ⟨by decide +kernel, by decide +kernel, by decide +kernel⟩, by decide +kernel, by decide +kernel, rfl, rfl, rfl⟩
theorem w_562 : (Jvm.Cond.methodLink "ErrataPress" (75 : Nat) ({ cls := "ErrataPress", name := "setLetter", desc := "(IIC)I" } : Jvm.MethodName)) ∈ gtb := List.mem_filter.mpr ⟨List.mem_of_getElem? (i := 634) (by decide +kernel), by decide +kernel⟩
theorem w_564 : (Jvm.Cond.instanceMethod ({ cls := "ErrataPress", name := "setLetter", desc := "(IIC)I" } : Jvm.MethodName)) ∈ gtb := List.mem_filter.mpr ⟨List.mem_of_getElem? (i := 636) (by decide +kernel), by decide +kernel⟩
theorem sel_X5_setLetter : Cond.selects "ErrataPress" ({ cls := "ErrataPress", name := "setLetter", desc := "(IIC)I" } : Jvm.MethodName) ({ cls := "ErrataPress", name := "setLetter", desc := "(IIC)I" } : Jvm.MethodName) ∈ gtb := List.mem_filter.mpr ⟨List.mem_of_getElem? (i := 10) (by decide +kernel), by decide +kernel⟩
theorem cv_X5_75 : CFV RX5 75 11 M_X5_setLetter 3 := ⟨k_X5_setLetter, w_562, w_564, sel_X5_setLetter, rfl, _, rfl, rfl⟩
def M_X5_set : MI := (yX5_set, cX5_set, 4, some .int, 9, 1, 0, 0, [])
def M_X5_sellLicence : MI := (yX5_sellLicence, cX5_sellLicence, 6, some .int, 5, 0, 0, 0, [])
theorem w_586 : (Jvm.Cond.code ({ cls := "ErrataPress", name := "sellLicence", desc := "(II)I" } : Jvm.MethodName) prog_1_method_46_code (6 : Nat) (Option.some Jvm.ClassFile.FieldType.int)) ∈ gtb := List.mem_filter.mpr ⟨List.mem_of_getElem? (i := 658) (by decide +kernel), by decide +kernel⟩
theorem k_X5_sellLicence : CF0 M_X5_sellLicence 2 := ⟨rfl, w_586, w_1, ⟨by decide +kernel, by decide +kernel, by decide +kernel⟩, by decide +kernel, by decide +kernel, rfl, rfl, rfl⟩
theorem w_583 : (Jvm.Cond.methodLink "ErrataPress" (79 : Nat) ({ cls := "ErrataPress", name := "sellLicence", desc := "(II)I" } : Jvm.MethodName)) ∈ gtb := List.mem_filter.mpr ⟨List.mem_of_getElem? (i := 655) (by decide +kernel), by decide +kernel⟩
theorem w_585 : (Jvm.Cond.instanceMethod ({ cls := "ErrataPress", name := "sellLicence", desc := "(II)I" } : Jvm.MethodName)) ∈ gtb := List.mem_filter.mpr ⟨List.mem_of_getElem? (i := 657) (by decide +kernel), by decide +kernel⟩
theorem sel_X5_sellLicence : Cond.selects "ErrataPress" ({ cls := "ErrataPress", name := "sellLicence", desc := "(II)I" } : Jvm.MethodName) ({ cls := "ErrataPress", name := "sellLicence", desc := "(II)I" } : Jvm.MethodName) ∈ gtb := List.mem_filter.mpr ⟨List.mem_of_getElem? (i := 11) (by decide +kernel), by decide +kernel⟩
theorem cv_X5_79 : CFV RX5 79 11 M_X5_sellLicence 2 := ⟨k_X5_sellLicence, w_583, w_585, sel_X5_sellLicence, rfl, _, rfl, rfl⟩
def M_X5_license : MI := (yX5_license, cX5_license, 3, some .int, 9, 1, 0, 0, [])
def M_X5_takeFine : MI := (yX5_takeFine, cX5_takeFine, 5, some .int, 4, 0, 0, 0, [])
theorem w_607 : (Jvm.Cond.code ({ cls := "ErrataPress", name := "takeFine", desc := "(II)I" } : Jvm.MethodName) prog_1_method_47_code (5 : Nat) (Option.some Jvm.ClassFile.FieldType.int)) ∈ gtb := List.mem_filter.mpr ⟨List.mem_of_getElem? (i := 679) (by decide +kernel), by decide +kernel⟩
theorem k_X5_takeFine : CF0 M_X5_takeFine 2 := ⟨rfl, w_607, w_1, ⟨by decide +kernel, by decide +kernel, by decide +kernel⟩, by decide +kernel, by decide +kernel, rfl, rfl, rfl⟩
theorem w_604 : (Jvm.Cond.methodLink "ErrataPress" (82 : Nat) ({ cls := "ErrataPress", name := "takeFine", desc := "(II)I" } : Jvm.MethodName)) ∈ gtb := List.mem_filter.mpr ⟨List.mem_of_getElem? (i := 676) (by decide +kernel), by decide +kernel⟩
theorem w_606 : (Jvm.Cond.instanceMethod ({ cls := "ErrataPress", name := "takeFine", desc := "(II)I" } : Jvm.MethodName)) ∈ gtb := List.mem_filter.mpr ⟨List.mem_of_getElem? (i := 678) (by decide +kernel), by decide +kernel⟩
theorem sel_X5_takeFine : Cond.selects "ErrataPress" ({ cls := "ErrataPress", name := "takeFine", desc := "(II)I" } : Jvm.MethodName) ({ cls := "ErrataPress", name := "takeFine", desc := "(II)I" } : Jvm.MethodName) ∈ gtb := List.mem_filter.mpr ⟨List.mem_of_getElem? (i := 12) (by decide +kernel), by decide +kernel⟩
theorem cv_X5_82 : CFV RX5 82 11 M_X5_takeFine 2 := ⟨k_X5_takeFine, w_604, w_606, sel_X5_takeFine, rfl, _, rfl, rfl⟩
def M_X5_correct : MI := (yX5_correct, cX5_correct, 3, some .int, 9, 1, 0, 0, [])
def M_X5_addReader : MI := (yX5_addReader, cX5_addReader, 3, some .int, 4, 0, 0, 0, [])
theorem w_618 : (Jvm.Cond.code ({ cls := "ErrataPress", name := "addReader", desc := "(II)I" } : Jvm.MethodName) prog_1_method_48_code (3 : Nat) (Option.some Jvm.ClassFile.FieldType.int)) ∈ gtb := List.mem_filter.mpr ⟨List.mem_of_getElem? (i := 690) (by decide +kernel), by decide +kernel⟩
theorem k_X5_addReader : CF0 M_X5_addReader 2 := ⟨rfl, w_618, w_1, ⟨by decide +kernel, by decide +kernel, by decide +kernel⟩, by decide +kernel, by decide +kernel, rfl, rfl, rfl⟩
theorem w_615 : (Jvm.Cond.methodLink "ErrataPress" (85 : Nat) ({ cls := "ErrataPress", name := "addReader", desc := "(II)I" } : Jvm.MethodName)) ∈ gtb := List.mem_filter.mpr ⟨List.mem_of_getElem? (i := 687) (by decide +kernel), by decide +kernel⟩
theorem w_617 : (Jvm.Cond.instanceMethod ({ cls := "ErrataPress", name := "addReader", desc := "(II)I" } : Jvm.MethodName)) ∈ gtb := List.mem_filter.mpr ⟨List.mem_of_getElem? (i := 689) (by decide +kernel), by decide +kernel⟩
theorem sel_X5_addReader : Cond.selects "ErrataPress" ({ cls := "ErrataPress", name := "addReader", desc := "(II)I" } : Jvm.MethodName) ({ cls := "ErrataPress", name := "addReader", desc := "(II)I" } : Jvm.MethodName) ∈ gtb := List.mem_filter.mpr ⟨List.mem_of_getElem? (i := 13) (by decide +kernel), by decide +kernel⟩
theorem cv_X5_85 : CFV RX5 85 11 M_X5_addReader 2 := ⟨k_X5_addReader, w_615, w_617, sel_X5_addReader, rfl, _, rfl, rfl⟩
def M_X5_reader : MI := (yX5_reader, cX5_reader, 3, some .int, 9, 1, 0, 0, [])
def M_X5_printEdition : MI := (yX5_printEdition, cX5_printEdition, 4, some .int, 5, 0, 0, 0, [])
theorem w_633 : (Jvm.Cond.code ({ cls := "ErrataPress", name := "printEdition", desc := "()I" } : Jvm.MethodName) prog_1_method_49_code (4 : Nat) (Option.some Jvm.ClassFile.FieldType.int)) ∈ gtb := List.mem_filter.mpr ⟨List.mem_of_getElem? (i := 705) (by decide +kernel), by decide +kernel⟩
theorem k_X5_printEdition : CF0 M_X5_printEdition 0 := ⟨rfl, w_633, w_1, ⟨by decide +kernel, by decide +kernel, by decide +kernel⟩, by decide +kernel, by decide +kernel, rfl, rfl, rfl⟩
theorem w_630 : (Jvm.Cond.methodLink "ErrataPress" (88 : Nat) ({ cls := "ErrataPress", name := "printEdition", desc := "()I" } : Jvm.MethodName)) ∈ gtb := List.mem_filter.mpr ⟨List.mem_of_getElem? (i := 702) (by decide +kernel), by decide +kernel⟩
theorem w_632 : (Jvm.Cond.instanceMethod ({ cls := "ErrataPress", name := "printEdition", desc := "()I" } : Jvm.MethodName)) ∈ gtb := List.mem_filter.mpr ⟨List.mem_of_getElem? (i := 704) (by decide +kernel), by decide +kernel⟩
theorem sel_X5_printEdition : Cond.selects "ErrataPress" ({ cls := "ErrataPress", name := "printEdition", desc := "()I" } : Jvm.MethodName) ({ cls := "ErrataPress", name := "printEdition", desc := "()I" } : Jvm.MethodName) ∈ gtb := List.mem_filter.mpr ⟨List.mem_of_getElem? (i := 14) (by decide +kernel), by decide +kernel⟩
theorem cv_X5_88 : CFV RX5 88 11 M_X5_printEdition 0 := ⟨k_X5_printEdition, w_630, w_632, sel_X5_printEdition, rfl, _, rfl, rfl⟩
def M_X5_edition : MI := (yX5_edition, cX5_edition, 1, some .int, 9, 1, 0, 0, [])
theorem w_243 : (Jvm.Cond.code ({ cls := "ErrataPress$State", name := "passDay", desc := "()I" } : Jvm.MethodName) prog_6_method_44_code (2 : Nat) (Option.some Jvm.ClassFile.FieldType.int)) ∈ gtb := List.mem_filter.mpr ⟨List.mem_of_getElem? (i := 315) (by decide +kernel), by decide +kernel⟩
theorem k_X4_passDay : CF0 M_X4_passDay 0 := ⟨rfl, w_243, w_2, ⟨by decide +kernel, by decide +kernel, by decide +kernel⟩, by decide +kernel, by decide +kernel, rfl, rfl, rfl⟩
theorem w_240 : (Jvm.Cond.methodLink "ErrataPress" (92 : Nat) ({ cls := "ErrataPress$State", name := "passDay", desc := "()I" } : Jvm.MethodName)) ∈ gtb := List.mem_filter.mpr ⟨List.mem_of_getElem? (i := 312) (by decide +kernel), by decide +kernel⟩
theorem w_241 : (Jvm.Cond.instanceMethod ({ cls := "ErrataPress$State", name := "passDay", desc := "()I" } : Jvm.MethodName)) ∈ gtb := List.mem_filter.mpr ⟨List.mem_of_getElem? (i := 313) (by decide +kernel), by decide +kernel⟩
theorem sel_X4_passDay : (Jvm.Cond.selects "ErrataPress$State" ({ cls := "ErrataPress$State", name := "passDay", desc := "()I" } : Jvm.MethodName) ({ cls := "ErrataPress$State", name := "passDay", desc := "()I" } : Jvm.MethodName)) ∈ gtb := List.mem_filter.mpr ⟨List.mem_of_getElem? (i := 314) (by decide +kernel), by decide +kernel⟩
theorem cv_X5_92 : CFV RX5 92 0 M_X4_passDay 0 := ⟨k_X4_passDay, w_240, w_241, sel_X4_passDay, rfl, _, rfl, rfl⟩
def M_X5_day : MI := (yX5_day, cX5_day, 1, some .int, 9, 1, 0, 0, [])
theorem w_527 : (Jvm.Cond.code ({ cls := "ErrataPress$State", name := "hasHouse", desc := "(I)Z" } : Jvm.MethodName) prog_6_method_3_code (2 : Nat) (Option.some Jvm.ClassFile.FieldType.boolean)) ∈ gtb := List.mem_filter.mpr ⟨List.mem_of_getElem? (i := 599) (by decide +kernel), by decide +kernel⟩
theorem k_X4_hasHouse : CF0 M_X4_hasHouse 1 := ⟨rfl, w_527, w_2, ⟨by decide +kernel, by decide +kernel, by decide +kernel⟩, by decide +kernel, by decide +kernel, rfl, rfl, rfl⟩
theorem w_524 : (Jvm.Cond.methodLink "ErrataPress" (95 : Nat) ({ cls := "ErrataPress$State", name := "hasHouse", desc := "(I)Z" } : Jvm.MethodName)) ∈ gtb := List.mem_filter.mpr ⟨List.mem_of_getElem? (i := 596) (by decide +kernel), by decide +kernel⟩
theorem w_525 : (Jvm.Cond.instanceMethod ({ cls := "ErrataPress$State", name := "hasHouse", desc := "(I)Z" } : Jvm.MethodName)) ∈ gtb := List.mem_filter.mpr ⟨List.mem_of_getElem? (i := 597) (by decide +kernel), by decide +kernel⟩
theorem sel_X4_hasHouse : (Jvm.Cond.selects "ErrataPress$State" ({ cls := "ErrataPress$State", name := "hasHouse", desc := "(I)Z" } : Jvm.MethodName) ({ cls := "ErrataPress$State", name := "hasHouse", desc := "(I)Z" } : Jvm.MethodName)) ∈ gtb := List.mem_filter.mpr ⟨List.mem_of_getElem? (i := 598) (by decide +kernel), by decide +kernel⟩
theorem cv_X5_95 : CFV RX5 95 0 M_X4_hasHouse 1 := ⟨k_X4_hasHouse, w_524, w_525, sel_X4_hasHouse, rfl, _, rfl, rfl⟩
theorem w_337 : (Jvm.Cond.classLink "ErrataPress" (106 : Nat) "java/lang/IllegalArgumentException") ∈ gtb := List.mem_filter.mpr ⟨List.mem_of_getElem? (i := 409) (by decide +kernel), by decide +kernel⟩
theorem w_13 : (Jvm.Cond.initialized "java/lang/IllegalArgumentException") ∈ gtb := List.mem_filter.mpr ⟨List.mem_of_getElem? (i := 85) (by decide +kernel), by decide +kernel⟩
theorem tf_106_108_110 : TF RX5 106 108 110 "java/lang/IllegalArgumentException" "no such number of a house" ["java/lang/RuntimeException", "java/lang/Exception"] := TF_of (by decide +kernel) (by decide +kernel) w_337 w_13 (by decide +kernel) wsL_law_x2 (by decide +kernel) (by decide +kernel) (by decide)
theorem w_654 : (Jvm.Cond.code ({ cls := "ErrataPress$State", name := "numberOfHouse", desc := "(II)I" } : Jvm.MethodName) prog_6_method_18_code (3 : Nat) (Option.some Jvm.ClassFile.FieldType.int)) ∈ gtb := List.mem_filter.mpr ⟨List.mem_of_getElem? (i := 726) (by decide +kernel), by decide +kernel⟩
theorem k_X4_numberOfHouse : CF0 M_X4_numberOfHouse 2 := ⟨rfl, w_654, w_2, ⟨by decide +kernel, by decide +kernel, by decide +kernel⟩, by decide +kernel, by decide +kernel, rfl, rfl, rfl⟩
theorem w_651 : (Jvm.Cond.methodLink "ErrataPress" (111 : Nat) ({ cls := "ErrataPress$State", name := "numberOfHouse", desc := "(II)I" } : Jvm.MethodName)) ∈ gtb := List.mem_filter.mpr ⟨List.mem_of_getElem? (i := 723) (by decide +kernel), by decide +kernel⟩
theorem w_652 : (Jvm.Cond.instanceMethod ({ cls := "ErrataPress$State", name := "numberOfHouse", desc := "(II)I" } : Jvm.MethodName)) ∈ gtb := List.mem_filter.mpr ⟨List.mem_of_getElem? (i := 724) (by decide +kernel), by decide +kernel⟩
theorem sel_X4_numberOfHouse : (Jvm.Cond.selects "ErrataPress$State" ({ cls := "ErrataPress$State", name := "numberOfHouse", desc := "(II)I" } : Jvm.MethodName) ({ cls := "ErrataPress$State", name := "numberOfHouse", desc := "(II)I" } : Jvm.MethodName)) ∈ gtb := List.mem_filter.mpr ⟨List.mem_of_getElem? (i := 725) (by decide +kernel), by decide +kernel⟩
theorem cv_X5_111 : CFV RX5 111 0 M_X4_numberOfHouse 2 := ⟨k_X4_numberOfHouse, w_651, w_652, sel_X4_numberOfHouse, rfl, _, rfl, rfl⟩
theorem w_265 : (Jvm.Cond.classLink "ErrataPress" (99 : Nat) "java/lang/IndexOutOfBoundsException") ∈ gtb := List.mem_filter.mpr ⟨List.mem_of_getElem? (i := 337) (by decide +kernel), by decide +kernel⟩
theorem w_12 : (Jvm.Cond.initialized "java/lang/IndexOutOfBoundsException") ∈ gtb := List.mem_filter.mpr ⟨List.mem_of_getElem? (i := 84) (by decide +kernel), by decide +kernel⟩
theorem tf_99_101_103 : TF RX5 99 101 103 "java/lang/IndexOutOfBoundsException" "no such house" ["java/lang/RuntimeException", "java/lang/Exception"] := TF_of (by decide +kernel) (by decide +kernel) w_265 w_12 (by decide +kernel) wsL_law_x1 (by decide +kernel) (by decide +kernel) (by decide)
def M_X5_houseOf : MI := (yX5_houseOf, cX5_houseOf, 3, some .int, 8, 1, 0, 0, [])
theorem w_547 : (Jvm.Cond.methodLink "ErrataPress" (114 : Nat) ({ cls := "ErrataPress$State", name := "hasSheet", desc := "(I)Z" } : Jvm.MethodName)) ∈ gtb := List.mem_filter.mpr ⟨List.mem_of_getElem? (i := 619) (by decide +kernel), by decide +kernel⟩
theorem cv_X5_114 : CFV RX5 114 0 M_X4_hasSheet 1 := ⟨k_X4_hasSheet, w_547, w_548, sel_X4_hasSheet, rfl, _, rfl, rfl⟩
theorem tf_106_119_110 : TF RX5 106 119 110 "java/lang/IllegalArgumentException" "no such number of a sheet" ["java/lang/RuntimeException", "java/lang/Exception"] := TF_of (by decide +kernel) (by decide +kernel) w_337 w_13 (by decide +kernel) wsL_law_x2 (by decide +kernel) (by decide +kernel) (by decide)
theorem w_672 : (Jvm.Cond.code ({ cls := "ErrataPress$State", name := "numberOfSheet", desc := "(II)I" } : Jvm.MethodName) prog_6_method_19_code (3 : Nat) (Option.some Jvm.ClassFile.FieldType.int)) ∈ gtb := List.mem_filter.mpr ⟨List.mem_of_getElem? (i := 744) (by decide +kernel), by decide +kernel⟩
theorem k_X4_numberOfSheet : CF0 M_X4_numberOfSheet 2 := ⟨rfl, w_672, w_2, ⟨by decide +kernel, by decide +kernel, by decide +kernel⟩, by decide +kernel, by decide +kernel, rfl, rfl, rfl⟩
theorem w_669 : (Jvm.Cond.methodLink "ErrataPress" (121 : Nat) ({ cls := "ErrataPress$State", name := "numberOfSheet", desc := "(II)I" } : Jvm.MethodName)) ∈ gtb := List.mem_filter.mpr ⟨List.mem_of_getElem? (i := 741) (by decide +kernel), by decide +kernel⟩
theorem w_670 : (Jvm.Cond.instanceMethod ({ cls := "ErrataPress$State", name := "numberOfSheet", desc := "(II)I" } : Jvm.MethodName)) ∈ gtb := List.mem_filter.mpr ⟨List.mem_of_getElem? (i := 742) (by decide +kernel), by decide +kernel⟩
theorem sel_X4_numberOfSheet : (Jvm.Cond.selects "ErrataPress$State" ({ cls := "ErrataPress$State", name := "numberOfSheet", desc := "(II)I" } : Jvm.MethodName) ({ cls := "ErrataPress$State", name := "numberOfSheet", desc := "(II)I" } : Jvm.MethodName)) ∈ gtb := List.mem_filter.mpr ⟨List.mem_of_getElem? (i := 743) (by decide +kernel), by decide +kernel⟩
theorem cv_X5_121 : CFV RX5 121 0 M_X4_numberOfSheet 2 := ⟨k_X4_numberOfSheet, w_669, w_670, sel_X4_numberOfSheet, rfl, _, rfl, rfl⟩
theorem tf_99_117_103 : TF RX5 99 117 103 "java/lang/IndexOutOfBoundsException" "no such sheet" ["java/lang/RuntimeException", "java/lang/Exception"] := TF_of (by decide +kernel) (by decide +kernel) w_265 w_12 (by decide +kernel) wsL_law_x1 (by decide +kernel) (by decide +kernel) (by decide)
def M_X5_sheetOf : MI := (yX5_sheetOf, cX5_sheetOf, 3, some .int, 8, 1, 0, 0, [])
theorem w_569 : (Jvm.Cond.code ({ cls := "ErrataPress$State", name := "hasPlace", desc := "(II)Z" } : Jvm.MethodName) prog_6_method_5_code (3 : Nat) (Option.some Jvm.ClassFile.FieldType.boolean)) ∈ gtb := List.mem_filter.mpr ⟨List.mem_of_getElem? (i := 641) (by decide +kernel), by decide +kernel⟩
theorem k_X4_hasPlace : CF0 M_X4_hasPlace 2 := ⟨rfl, w_569, w_2, ⟨by decide +kernel, by decide +kernel, by decide +kernel⟩, by decide +kernel, by decide +kernel, rfl, rfl, rfl⟩
theorem w_566 : (Jvm.Cond.methodLink "ErrataPress" (124 : Nat) ({ cls := "ErrataPress$State", name := "hasPlace", desc := "(II)Z" } : Jvm.MethodName)) ∈ gtb := List.mem_filter.mpr ⟨List.mem_of_getElem? (i := 638) (by decide +kernel), by decide +kernel⟩
theorem w_567 : (Jvm.Cond.instanceMethod ({ cls := "ErrataPress$State", name := "hasPlace", desc := "(II)Z" } : Jvm.MethodName)) ∈ gtb := List.mem_filter.mpr ⟨List.mem_of_getElem? (i := 639) (by decide +kernel), by decide +kernel⟩
theorem sel_X4_hasPlace : (Jvm.Cond.selects "ErrataPress$State" ({ cls := "ErrataPress$State", name := "hasPlace", desc := "(II)Z" } : Jvm.MethodName) ({ cls := "ErrataPress$State", name := "hasPlace", desc := "(II)Z" } : Jvm.MethodName)) ∈ gtb := List.mem_filter.mpr ⟨List.mem_of_getElem? (i := 640) (by decide +kernel), by decide +kernel⟩
theorem cv_X5_124 : CFV RX5 124 0 M_X4_hasPlace 2 := ⟨k_X4_hasPlace, w_566, w_567, sel_X4_hasPlace, rfl, _, rfl, rfl⟩
theorem w_571 : (Jvm.Cond.methodLink "ErrataPress" (133 : Nat) ({ cls := "ErrataPress$State", name := "placedAt", desc := "(II)I" } : Jvm.MethodName)) ∈ gtb := List.mem_filter.mpr ⟨List.mem_of_getElem? (i := 643) (by decide +kernel), by decide +kernel⟩
theorem cv_X5_133 : CFV RX5 133 0 M_X4_placedAt 2 := ⟨k_X4_placedAt, w_571, w_392, sel_X4_placedAt, rfl, _, rfl, rfl⟩
def M_X5_letterOf : MI := (yX5_letterOf, cX5_letterOf, 1, some .char, 2, 0, 0, 0, [])
theorem w_687 : (Jvm.Cond.code ({ cls := "ErrataPress", name := "letterOf", desc := "(I)C" } : Jvm.MethodName) prog_1_method_57_code (1 : Nat) (Option.some Jvm.ClassFile.FieldType.char)) ∈ gtb := List.mem_filter.mpr ⟨List.mem_of_getElem? (i := 759) (by decide +kernel), by decide +kernel⟩
theorem k_X5_letterOf : CF0 M_X5_letterOf 1 := ⟨rfl, w_687, w_1, ⟨by decide +kernel, by decide +kernel, by decide +kernel⟩, by decide +kernel, by decide +kernel, rfl, rfl, rfl⟩
theorem w_685 : (Jvm.Cond.methodLink "ErrataPress" (136 : Nat) ({ cls := "ErrataPress", name := "letterOf", desc := "(I)C" } : Jvm.MethodName)) ∈ gtb := List.mem_filter.mpr ⟨List.mem_of_getElem? (i := 757) (by decide +kernel), by decide +kernel⟩
theorem w_686 : (Jvm.Cond.static ({ cls := "ErrataPress", name := "letterOf", desc := "(I)C" } : Jvm.MethodName)) ∈ gtb := List.mem_filter.mpr ⟨List.mem_of_getElem? (i := 758) (by decide +kernel), by decide +kernel⟩
theorem cs_X5_136 : CFS RX5 136 M_X5_letterOf 1 := ⟨k_X5_letterOf, w_685, w_686⟩
theorem w_441 : (Jvm.Cond.methodLink "ErrataPress" (130 : Nat) ({ cls := "ErrataPress$State", name := "rightAt", desc := "(II)I" } : Jvm.MethodName)) ∈ gtb := List.mem_filter.mpr ⟨List.mem_of_getElem? (i := 513) (by decide +kernel), by decide +kernel⟩
theorem cv_X5_130 : CFV RX5 130 0 M_X4_rightAt 2 := ⟨k_X4_rightAt, w_441, w_442, sel_X4_rightAt, rfl, _, rfl, rfl⟩
theorem tf_99_128_103 : TF RX5 99 128 103 "java/lang/IndexOutOfBoundsException" "no such place" ["java/lang/RuntimeException", "java/lang/Exception"] := TF_of (by decide +kernel) (by decide +kernel) w_265 w_12 (by decide +kernel) wsL_law_x1 (by decide +kernel) (by decide +kernel) (by decide)
def M_X5_letterAt : MI := (yX5_letterAt, cX5_letterAt, 4, some .char, 8, 1, 0, 0, [])
theorem w_457 : (Jvm.Cond.methodLink "ErrataPress" (140 : Nat) ({ cls := "ErrataPress$State", name := "levelAt", desc := "(II)I" } : Jvm.MethodName)) ∈ gtb := List.mem_filter.mpr ⟨List.mem_of_getElem? (i := 529) (by decide +kernel), by decide +kernel⟩
theorem cv_X5_140 : CFV RX5 140 0 M_X4_levelAt 2 := ⟨k_X4_levelAt, w_457, w_388, sel_X4_levelAt, rfl, _, rfl, rfl⟩
def M_X5_markAt : MI := (yX5_markAt, cX5_markAt, 3, some .int, 8, 1, 0, 0, [])
theorem w_440 : (Jvm.Cond.methodLink "ErrataPress" (146 : Nat) ({ cls := "ErrataPress$State", name := "fineByRules", desc := "(II)I" } : Jvm.MethodName)) ∈ gtb := List.mem_filter.mpr ⟨List.mem_of_getElem? (i := 512) (by decide +kernel), by decide +kernel⟩
theorem cv_X5_146 : CFV RX5 146 0 M_X4_fineByRules 2 := ⟨k_X4_fineByRules, w_440, w_433, sel_X4_fineByRules, rfl, _, rfl, rfl⟩
theorem w_456 : (Jvm.Cond.code ({ cls := "ErrataPress$State", name := "fineAtOnce", desc := "(II)I" } : Jvm.MethodName) prog_6_method_25_code (3 : Nat) (Option.some Jvm.ClassFile.FieldType.int)) ∈ gtb := List.mem_filter.mpr ⟨List.mem_of_getElem? (i := 528) (by decide +kernel), by decide +kernel⟩
theorem k_X4_fineAtOnce : CF0 M_X4_fineAtOnce 2 := ⟨rfl, w_456, w_2, ⟨by decide +kernel, by decide +kernel, by decide +kernel⟩, by decide +kernel, by decide +kernel, rfl, rfl, rfl⟩
theorem w_453 : (Jvm.Cond.methodLink "ErrataPress" (143 : Nat) ({ cls := "ErrataPress$State", name := "fineAtOnce", desc := "(II)I" } : Jvm.MethodName)) ∈ gtb := List.mem_filter.mpr ⟨List.mem_of_getElem? (i := 525) (by decide +kernel), by decide +kernel⟩
theorem w_454 : (Jvm.Cond.instanceMethod ({ cls := "ErrataPress$State", name := "fineAtOnce", desc := "(II)I" } : Jvm.MethodName)) ∈ gtb := List.mem_filter.mpr ⟨List.mem_of_getElem? (i := 526) (by decide +kernel), by decide +kernel⟩
theorem sel_X4_fineAtOnce : (Jvm.Cond.selects "ErrataPress$State" ({ cls := "ErrataPress$State", name := "fineAtOnce", desc := "(II)I" } : Jvm.MethodName) ({ cls := "ErrataPress$State", name := "fineAtOnce", desc := "(II)I" } : Jvm.MethodName)) ∈ gtb := List.mem_filter.mpr ⟨List.mem_of_getElem? (i := 527) (by decide +kernel), by decide +kernel⟩
theorem cv_X5_143 : CFV RX5 143 0 M_X4_fineAtOnce 2 := ⟨k_X4_fineAtOnce, w_453, w_454, sel_X4_fineAtOnce, rfl, _, rfl, rfl⟩
def M_X5_fine : MI := (yX5_fine, cX5_fine, 4, some .int, 8, 1, 0, 0, [])
theorem w_431 : (Jvm.Cond.code ({ cls := "ErrataPress$State", name := "finesByPlace", desc := "(I)I" } : Jvm.MethodName) prog_6_method_26_code (4 : Nat) (Option.some Jvm.ClassFile.FieldType.int)) ∈ gtb := List.mem_filter.mpr ⟨List.mem_of_getElem? (i := 503) (by decide +kernel), by decide +kernel⟩
theorem k_X4_finesByPlace : CF0 M_X4_finesByPlace 1 := ⟨rfl, w_431, w_2, ⟨by decide +kernel, by decide +kernel, by decide +kernel⟩, by decide +kernel, by decide +kernel, rfl, rfl, rfl⟩
theorem w_428 : (Jvm.Cond.methodLink "ErrataPress" (152 : Nat) ({ cls := "ErrataPress$State", name := "finesByPlace", desc := "(I)I" } : Jvm.MethodName)) ∈ gtb := List.mem_filter.mpr ⟨List.mem_of_getElem? (i := 500) (by decide +kernel), by decide +kernel⟩
theorem w_429 : (Jvm.Cond.instanceMethod ({ cls := "ErrataPress$State", name := "finesByPlace", desc := "(I)I" } : Jvm.MethodName)) ∈ gtb := List.mem_filter.mpr ⟨List.mem_of_getElem? (i := 501) (by decide +kernel), by decide +kernel⟩
theorem sel_X4_finesByPlace : (Jvm.Cond.selects "ErrataPress$State" ({ cls := "ErrataPress$State", name := "finesByPlace", desc := "(I)I" } : Jvm.MethodName) ({ cls := "ErrataPress$State", name := "finesByPlace", desc := "(I)I" } : Jvm.MethodName)) ∈ gtb := List.mem_filter.mpr ⟨List.mem_of_getElem? (i := 502) (by decide +kernel), by decide +kernel⟩
theorem cv_X5_152 : CFV RX5 152 0 M_X4_finesByPlace 1 := ⟨k_X4_finesByPlace, w_428, w_429, sel_X4_finesByPlace, rfl, _, rfl, rfl⟩
def M_X5_finesInThought : MI := (yX5_finesInThought, cX5_finesInThought, 4, some .int, 4, 0, 0, 0, [])
theorem w_439 : (Jvm.Cond.code ({ cls := "ErrataPress", name := "finesInThought", desc := "(I)I" } : Jvm.MethodName) prog_1_method_52_code (4 : Nat) (Option.some Jvm.ClassFile.FieldType.int)) ∈ gtb := List.mem_filter.mpr ⟨List.mem_of_getElem? (i := 511) (by decide +kernel), by decide +kernel⟩
theorem k_X5_finesInThought : CF0 M_X5_finesInThought 1 := ⟨rfl, w_439, w_1, ⟨by decide +kernel, by decide +kernel, by decide +kernel⟩, by decide +kernel, by decide +kernel, rfl, rfl, rfl⟩
theorem w_436 : (Jvm.Cond.methodLink "ErrataPress" (149 : Nat) ({ cls := "ErrataPress", name := "finesInThought", desc := "(I)I" } : Jvm.MethodName)) ∈ gtb := List.mem_filter.mpr ⟨List.mem_of_getElem? (i := 508) (by decide +kernel), by decide +kernel⟩
theorem w_438 : (Jvm.Cond.instanceMethod ({ cls := "ErrataPress", name := "finesInThought", desc := "(I)I" } : Jvm.MethodName)) ∈ gtb := List.mem_filter.mpr ⟨List.mem_of_getElem? (i := 510) (by decide +kernel), by decide +kernel⟩
theorem sel_X5_finesInThought : Cond.selects "ErrataPress" ({ cls := "ErrataPress", name := "finesInThought", desc := "(I)I" } : Jvm.MethodName) ({ cls := "ErrataPress", name := "finesInThought", desc := "(I)I" } : Jvm.MethodName) ∈ gtb := List.mem_filter.mpr ⟨List.mem_of_getElem? (i := 4) (by decide +kernel), by decide +kernel⟩
theorem cv_X5_149 : CFV RX5 149 11 M_X5_finesInThought 1 := ⟨k_X5_finesInThought, w_436, w_438, sel_X5_finesInThought, rfl, _, rfl, rfl⟩
def M_X5_fines : MI := (yX5_fines, cX5_fines, 3, some .int, 8, 1, 0, 0, [])
theorem w_51 : (Jvm.Cond.fieldLink "ErrataPress" (155 : Nat) "ErrataPress$State" "coins" "[I") ∈ gtb := List.mem_filter.mpr ⟨List.mem_of_getElem? (i := 123) (by decide +kernel), by decide +kernel⟩
theorem ff_X5_155 : FF RX5 155 0 8 := ⟨RX4, TX4, 18, rfl, inG4, by decide, rfl, w_51⟩
theorem w_57 : (Jvm.Cond.fieldLink "ErrataPress" (159 : Nat) "ErrataPress$State" "owners" "[I") ∈ gtb := List.mem_filter.mpr ⟨List.mem_of_getElem? (i := 129) (by decide +kernel), by decide +kernel⟩
theorem ff_X5_159 : FF RX5 159 0 11 := ⟨RX4, TX4, 18, rfl, inG4, by decide, rfl, w_57⟩
def M_X5_canMend : MI := (yX5_canMend, cX5_canMend, 2, some .boolean, 8, 1, 0, 0, [])
theorem w_723 : (Jvm.Cond.methodLink "ErrataPress" (162 : Nat) ({ cls := "ErrataPress$State", name := "laughersAt", desc := "(II)I" } : Jvm.MethodName)) ∈ gtb := List.mem_filter.mpr ⟨List.mem_of_getElem? (i := 795) (by decide +kernel), by decide +kernel⟩
theorem cv_X5_162 : CFV RX5 162 0 M_X4_laughersAt 2 := ⟨k_X4_laughersAt, w_723, w_411, sel_X4_laughersAt, rfl, _, rfl, rfl⟩
def M_X5_laughing : MI := (yX5_laughing, cX5_laughing, 3, some .int, 8, 1, 0, 0, [])
def M_X5_bestBargain : MI := (yX5_bestBargain, cX5_bestBargain, 8, some .int, 6, 0, 0, 0, [])
theorem w_735 : (Jvm.Cond.code ({ cls := "ErrataPress", name := "bestBargain", desc := "()I" } : Jvm.MethodName) prog_1_method_54_code (8 : Nat) (Option.some Jvm.ClassFile.FieldType.int)) ∈ gtb := List.mem_filter.mpr ⟨List.mem_of_getElem? (i := 807) (by decide +kernel), by decide +kernel⟩
theorem k_X5_bestBargain : CF0 M_X5_bestBargain 0 := ⟨rfl, w_735, w_1, ⟨by decide +kernel, by decide +kernel, by decide +kernel⟩, by decide +kernel, by decide +kernel, rfl, rfl, rfl⟩
theorem w_732 : (Jvm.Cond.methodLink "ErrataPress" (165 : Nat) ({ cls := "ErrataPress", name := "bestBargain", desc := "()I" } : Jvm.MethodName)) ∈ gtb := List.mem_filter.mpr ⟨List.mem_of_getElem? (i := 804) (by decide +kernel), by decide +kernel⟩
theorem w_734 : (Jvm.Cond.instanceMethod ({ cls := "ErrataPress", name := "bestBargain", desc := "()I" } : Jvm.MethodName)) ∈ gtb := List.mem_filter.mpr ⟨List.mem_of_getElem? (i := 806) (by decide +kernel), by decide +kernel⟩
theorem sel_X5_bestBargain : Cond.selects "ErrataPress" ({ cls := "ErrataPress", name := "bestBargain", desc := "()I" } : Jvm.MethodName) ({ cls := "ErrataPress", name := "bestBargain", desc := "()I" } : Jvm.MethodName) ∈ gtb := List.mem_filter.mpr ⟨List.mem_of_getElem? (i := 15) (by decide +kernel), by decide +kernel⟩
theorem cv_X5_165 : CFV RX5 165 11 M_X5_bestBargain 0 := ⟨k_X5_bestBargain, w_732, w_734, sel_X5_bestBargain, rfl, _, rfl, rfl⟩
theorem w_741 : (Jvm.Cond.classLink "ErrataPress" (168 : Nat) "java/util/NoSuchElementException") ∈ gtb := List.mem_filter.mpr ⟨List.mem_of_getElem? (i := 813) (by decide +kernel), by decide +kernel⟩
theorem w_19 : (Jvm.Cond.initialized "java/util/NoSuchElementException") ∈ gtb := List.mem_filter.mpr ⟨List.mem_of_getElem? (i := 91) (by decide +kernel), by decide +kernel⟩
theorem tf_168_170_172 : TFX RX5 168 170 172 "java/util/NoSuchElementException" "no bargain" ["java/lang/RuntimeException", "java/lang/Exception"] := TFX_no w_741 w_19 (by decide +kernel)
def M_X5_bargain : MI := (yX5_bargain, cX5_bargain, 3, some .int, 8, 1, 0, 0, [])
theorem w_53 : (Jvm.Cond.fieldLink "ErrataPress" (173 : Nat) "ErrataPress$State" "shame" "[I") ∈ gtb := List.mem_filter.mpr ⟨List.mem_of_getElem? (i := 125) (by decide +kernel), by decide +kernel⟩
theorem ff_X5_173 : FF RX5 173 0 9 := ⟨RX4, TX4, 18, rfl, inG4, by decide, rfl, w_53⟩
theorem w_767 : (Jvm.Cond.code ({ cls := "ErrataPress$State", name := "shameToCome", desc := "(I)I" } : Jvm.MethodName) prog_6_method_32_code (5 : Nat) (Option.some Jvm.ClassFile.FieldType.int)) ∈ gtb := List.mem_filter.mpr ⟨List.mem_of_getElem? (i := 839) (by decide +kernel), by decide +kernel⟩
theorem k_X4_shameToCome : CF0 M_X4_shameToCome 1 := ⟨rfl, w_767, w_2, ⟨by decide +kernel, by decide +kernel, by decide +kernel⟩, by decide +kernel, by decide +kernel, rfl, rfl, rfl⟩
theorem w_764 : (Jvm.Cond.methodLink "ErrataPress" (176 : Nat) ({ cls := "ErrataPress$State", name := "shameToCome", desc := "(I)I" } : Jvm.MethodName)) ∈ gtb := List.mem_filter.mpr ⟨List.mem_of_getElem? (i := 836) (by decide +kernel), by decide +kernel⟩
theorem w_765 : (Jvm.Cond.instanceMethod ({ cls := "ErrataPress$State", name := "shameToCome", desc := "(I)I" } : Jvm.MethodName)) ∈ gtb := List.mem_filter.mpr ⟨List.mem_of_getElem? (i := 837) (by decide +kernel), by decide +kernel⟩
theorem sel_X4_shameToCome : (Jvm.Cond.selects "ErrataPress$State" ({ cls := "ErrataPress$State", name := "shameToCome", desc := "(I)I" } : Jvm.MethodName) ({ cls := "ErrataPress$State", name := "shameToCome", desc := "(I)I" } : Jvm.MethodName)) ∈ gtb := List.mem_filter.mpr ⟨List.mem_of_getElem? (i := 838) (by decide +kernel), by decide +kernel⟩
theorem cv_X5_176 : CFV RX5 176 0 M_X4_shameToCome 1 := ⟨k_X4_shameToCome, w_764, w_765, sel_X4_shameToCome, rfl, _, rfl, rfl⟩
theorem w_768 : (Jvm.Cond.methodLink "ErrataPress" (179 : Nat) ({ cls := "ErrataPress", name := "atMostKept", desc := "(I)I" } : Jvm.MethodName)) ∈ gtb := List.mem_filter.mpr ⟨List.mem_of_getElem? (i := 840) (by decide +kernel), by decide +kernel⟩
theorem cs_X5_179 : CFS RX5 179 M_X5_atMostKept 1 := ⟨k_X5_atMostKept, w_768, w_248⟩
def M_X5_wouldShame : MI := (yX5_wouldShame, cX5_wouldShame, 2, some .int, 8, 1, 0, 0, [])
theorem w_409 : (Jvm.Cond.code ({ cls := "ErrataPress$State", name := "laughsByMisprint", desc := "()I" } : Jvm.MethodName) prog_6_method_29_code (4 : Nat) (Option.some Jvm.ClassFile.FieldType.int)) ∈ gtb := List.mem_filter.mpr ⟨List.mem_of_getElem? (i := 481) (by decide +kernel), by decide +kernel⟩
theorem k_X4_laughsByMisprint : CF0 M_X4_laughsByMisprint 0 := ⟨rfl, w_409, w_2, ⟨by decide +kernel, by decide +kernel, by decide +kernel⟩, by decide +kernel, by decide +kernel, rfl, rfl, rfl⟩
theorem w_406 : (Jvm.Cond.methodLink "ErrataPress" (185 : Nat) ({ cls := "ErrataPress$State", name := "laughsByMisprint", desc := "()I" } : Jvm.MethodName)) ∈ gtb := List.mem_filter.mpr ⟨List.mem_of_getElem? (i := 478) (by decide +kernel), by decide +kernel⟩
theorem w_407 : (Jvm.Cond.instanceMethod ({ cls := "ErrataPress$State", name := "laughsByMisprint", desc := "()I" } : Jvm.MethodName)) ∈ gtb := List.mem_filter.mpr ⟨List.mem_of_getElem? (i := 479) (by decide +kernel), by decide +kernel⟩
theorem sel_X4_laughsByMisprint : (Jvm.Cond.selects "ErrataPress$State" ({ cls := "ErrataPress$State", name := "laughsByMisprint", desc := "()I" } : Jvm.MethodName) ({ cls := "ErrataPress$State", name := "laughsByMisprint", desc := "()I" } : Jvm.MethodName)) ∈ gtb := List.mem_filter.mpr ⟨List.mem_of_getElem? (i := 480) (by decide +kernel), by decide +kernel⟩
theorem cv_X5_185 : CFV RX5 185 0 M_X4_laughsByMisprint 0 := ⟨k_X4_laughsByMisprint, w_406, w_407, sel_X4_laughsByMisprint, rfl, _, rfl, rfl⟩
theorem w_382 : (Jvm.Cond.code ({ cls := "ErrataPress$State", name := "laughsByReader", desc := "()I" } : Jvm.MethodName) prog_6_method_30_code (3 : Nat) (Option.some Jvm.ClassFile.FieldType.int)) ∈ gtb := List.mem_filter.mpr ⟨List.mem_of_getElem? (i := 454) (by decide +kernel), by decide +kernel⟩
theorem k_X4_laughsByReader : CF0 M_X4_laughsByReader 0 := ⟨rfl, w_382, w_2, ⟨by decide +kernel, by decide +kernel, by decide +kernel⟩, by decide +kernel, by decide +kernel, rfl, rfl, rfl⟩
theorem w_379 : (Jvm.Cond.methodLink "ErrataPress" (182 : Nat) ({ cls := "ErrataPress$State", name := "laughsByReader", desc := "()I" } : Jvm.MethodName)) ∈ gtb := List.mem_filter.mpr ⟨List.mem_of_getElem? (i := 451) (by decide +kernel), by decide +kernel⟩
theorem w_380 : (Jvm.Cond.instanceMethod ({ cls := "ErrataPress$State", name := "laughsByReader", desc := "()I" } : Jvm.MethodName)) ∈ gtb := List.mem_filter.mpr ⟨List.mem_of_getElem? (i := 452) (by decide +kernel), by decide +kernel⟩
theorem sel_X4_laughsByReader : (Jvm.Cond.selects "ErrataPress$State" ({ cls := "ErrataPress$State", name := "laughsByReader", desc := "()I" } : Jvm.MethodName) ({ cls := "ErrataPress$State", name := "laughsByReader", desc := "()I" } : Jvm.MethodName)) ∈ gtb := List.mem_filter.mpr ⟨List.mem_of_getElem? (i := 453) (by decide +kernel), by decide +kernel⟩
theorem cv_X5_182 : CFV RX5 182 0 M_X4_laughsByReader 0 := ⟨k_X4_laughsByReader, w_379, w_380, sel_X4_laughsByReader, rfl, _, rfl, rfl⟩
def M_X5_wouldLaugh : MI := (yX5_wouldLaugh, cX5_wouldLaugh, 2, some .int, 5, 0, 0, 0, [])
theorem w_39 : (Jvm.Cond.fieldLink "ErrataPress" (188 : Nat) "ErrataPress$State" "sheets" "I") ∈ gtb := List.mem_filter.mpr ⟨List.mem_of_getElem? (i := 111) (by decide +kernel), by decide +kernel⟩
theorem ff_X5_188 : FF RX5 188 0 1 := ⟨RX4, TX4, 18, rfl, inG4, by decide, rfl, w_39⟩
theorem w_779 : (Jvm.Cond.code ({ cls := "ErrataPress$State", name := "unlike", desc := "(II)I" } : Jvm.MethodName) prog_6_method_33_code (6 : Nat) (Option.some Jvm.ClassFile.FieldType.int)) ∈ gtb := List.mem_filter.mpr ⟨List.mem_of_getElem? (i := 851) (by decide +kernel), by decide +kernel⟩
theorem k_X4_unlike : CF0 M_X4_unlike 2 := ⟨rfl, w_779, w_2, ⟨by decide +kernel, by decide +kernel, by decide +kernel⟩, by decide +kernel, by decide +kernel, rfl, rfl, rfl⟩
theorem w_776 : (Jvm.Cond.methodLink "ErrataPress" (191 : Nat) ({ cls := "ErrataPress$State", name := "unlike", desc := "(II)I" } : Jvm.MethodName)) ∈ gtb := List.mem_filter.mpr ⟨List.mem_of_getElem? (i := 848) (by decide +kernel), by decide +kernel⟩
theorem w_777 : (Jvm.Cond.instanceMethod ({ cls := "ErrataPress$State", name := "unlike", desc := "(II)I" } : Jvm.MethodName)) ∈ gtb := List.mem_filter.mpr ⟨List.mem_of_getElem? (i := 849) (by decide +kernel), by decide +kernel⟩
theorem sel_X4_unlike : (Jvm.Cond.selects "ErrataPress$State" ({ cls := "ErrataPress$State", name := "unlike", desc := "(II)I" } : Jvm.MethodName) ({ cls := "ErrataPress$State", name := "unlike", desc := "(II)I" } : Jvm.MethodName)) ∈ gtb := List.mem_filter.mpr ⟨List.mem_of_getElem? (i := 850) (by decide +kernel), by decide +kernel⟩
theorem cv_X5_191 : CFV RX5 191 0 M_X4_unlike 2 := ⟨k_X4_unlike, w_776, w_777, sel_X4_unlike, rfl, _, rfl, rfl⟩
def M_X5_nearest : MI := (yX5_nearest, cX5_nearest, 4, some .int, 8, 1, 0, 0, [])
theorem w_788 : (Jvm.Cond.methodLink "ErrataPress" (194 : Nat) ({ cls := "java/lang/Math", name := "max", desc := "(II)I" } : Jvm.MethodName)) ∈ gtb := List.mem_filter.mpr ⟨List.mem_of_getElem? (i := 860) (by decide +kernel), by decide +kernel⟩
def M_X5_calmIn : MI := (yX5_calmIn, cX5_calmIn, 2, some .int, 8, 1, 0, 0, [])
theorem w_37 : (Jvm.Cond.fieldLink "ErrataPress" (199 : Nat) "ErrataPress$State" "houses" "I") ∈ gtb := List.mem_filter.mpr ⟨List.mem_of_getElem? (i := 109) (by decide +kernel), by decide +kernel⟩
theorem ff_X5_199 : FF RX5 199 0 0 := ⟨RX4, TX4, 18, rfl, inG4, by decide, rfl, w_37⟩
theorem tf_168_128_172 : TFX RX5 168 128 172 "java/util/NoSuchElementException" "no such place" ["java/lang/RuntimeException", "java/lang/Exception"] := TFX_no w_741 w_19 (by decide +kernel)
theorem w_799 : (Jvm.Cond.code ({ cls := "ErrataPress$State", name := "rankOfHouse", desc := "(I)I" } : Jvm.MethodName) prog_6_method_34_code (4 : Nat) (Option.some Jvm.ClassFile.FieldType.int)) ∈ gtb := List.mem_filter.mpr ⟨List.mem_of_getElem? (i := 871) (by decide +kernel), by decide +kernel⟩
theorem k_X4_rankOfHouse : CF0 M_X4_rankOfHouse 1 := ⟨rfl, w_799, w_2, ⟨by decide +kernel, by decide +kernel, by decide +kernel⟩, by decide +kernel, by decide +kernel, rfl, rfl, rfl⟩
theorem w_796 : (Jvm.Cond.methodLink "ErrataPress" (202 : Nat) ({ cls := "ErrataPress$State", name := "rankOfHouse", desc := "(I)I" } : Jvm.MethodName)) ∈ gtb := List.mem_filter.mpr ⟨List.mem_of_getElem? (i := 868) (by decide +kernel), by decide +kernel⟩
theorem w_797 : (Jvm.Cond.instanceMethod ({ cls := "ErrataPress$State", name := "rankOfHouse", desc := "(I)I" } : Jvm.MethodName)) ∈ gtb := List.mem_filter.mpr ⟨List.mem_of_getElem? (i := 869) (by decide +kernel), by decide +kernel⟩
theorem sel_X4_rankOfHouse : (Jvm.Cond.selects "ErrataPress$State" ({ cls := "ErrataPress$State", name := "rankOfHouse", desc := "(I)I" } : Jvm.MethodName) ({ cls := "ErrataPress$State", name := "rankOfHouse", desc := "(I)I" } : Jvm.MethodName)) ∈ gtb := List.mem_filter.mpr ⟨List.mem_of_getElem? (i := 870) (by decide +kernel), by decide +kernel⟩
theorem cv_X5_202 : CFV RX5 202 0 M_X4_rankOfHouse 1 := ⟨k_X4_rankOfHouse, w_796, w_797, sel_X4_rankOfHouse, rfl, _, rfl, rfl⟩
def M_X5_ashamed : MI := (yX5_ashamed, cX5_ashamed, 3, some .int, 8, 1, 0, 0, [])
theorem w_814 : (Jvm.Cond.code ({ cls := "ErrataPress$State", name := "rankOfSheet", desc := "(I)I" } : Jvm.MethodName) prog_6_method_36_code (4 : Nat) (Option.some Jvm.ClassFile.FieldType.int)) ∈ gtb := List.mem_filter.mpr ⟨List.mem_of_getElem? (i := 886) (by decide +kernel), by decide +kernel⟩
theorem k_X4_rankOfSheet : CF0 M_X4_rankOfSheet 1 := ⟨rfl, w_814, w_2, ⟨by decide +kernel, by decide +kernel, by decide +kernel⟩, by decide +kernel, by decide +kernel, rfl, rfl, rfl⟩
theorem w_811 : (Jvm.Cond.methodLink "ErrataPress" (205 : Nat) ({ cls := "ErrataPress$State", name := "rankOfSheet", desc := "(I)I" } : Jvm.MethodName)) ∈ gtb := List.mem_filter.mpr ⟨List.mem_of_getElem? (i := 883) (by decide +kernel), by decide +kernel⟩
theorem w_812 : (Jvm.Cond.instanceMethod ({ cls := "ErrataPress$State", name := "rankOfSheet", desc := "(I)I" } : Jvm.MethodName)) ∈ gtb := List.mem_filter.mpr ⟨List.mem_of_getElem? (i := 884) (by decide +kernel), by decide +kernel⟩
theorem sel_X4_rankOfSheet : (Jvm.Cond.selects "ErrataPress$State" ({ cls := "ErrataPress$State", name := "rankOfSheet", desc := "(I)I" } : Jvm.MethodName) ({ cls := "ErrataPress$State", name := "rankOfSheet", desc := "(I)I" } : Jvm.MethodName)) ∈ gtb := List.mem_filter.mpr ⟨List.mem_of_getElem? (i := 885) (by decide +kernel), by decide +kernel⟩
theorem cv_X5_205 : CFV RX5 205 0 M_X4_rankOfSheet 1 := ⟨k_X4_rankOfSheet, w_811, w_812, sel_X4_rankOfSheet, rfl, _, rfl, rfl⟩
def M_X5_worst : MI := (yX5_worst, cX5_worst, 3, some .int, 8, 1, 0, 0, [])
theorem w_205 : (Jvm.Cond.fieldLink "ErrataPress" (49 : Nat) "ErrataPress" "written" "LErrataPress$LineText;") ∈ gtb := List.mem_filter.mpr ⟨List.mem_of_getElem? (i := 277) (by decide +kernel), by decide +kernel⟩
theorem ff_X5_49 : FF RX5 49 11 7 := ⟨RX5, TX5, 10, rfl, inG5, by decide, rfl, w_205⟩
theorem w_192 : (Jvm.Cond.fieldLink "ErrataPress" (208 : Nat) "ErrataPress$LineText" "length" "I") ∈ gtb := List.mem_filter.mpr ⟨List.mem_of_getElem? (i := 264) (by decide +kernel), by decide +kernel⟩
theorem ff_X5_208 : FF RX5 208 17 1 := ⟨RX1, TX1, 2, rfl, inG1, by decide, rfl, w_192⟩
theorem fp_X5_208 : FP2 RX5 208 17 1 .int := ⟨RX1, TX1, 2, tyX1, rfl, inG1, by decide, rfl, w_192, tyX1_ok, nmX1, rfl, rfl, rfl⟩
theorem w_829 : (Jvm.Cond.code ({ cls := "ErrataPress$LineText", name := "putNumber", desc := "(I)V" } : Jvm.MethodName) prog_3_method_3_code (2 : Nat) (Option.none : Option Jvm.ClassFile.FieldType)) ∈ gtb := List.mem_filter.mpr ⟨List.mem_of_getElem? (i := 901) (by decide +kernel), by decide +kernel⟩
theorem k_X1_putNumber : CF0 M_X1_putNumber 1 := ⟨rfl, w_829, w_6, ⟨by decide +kernel, by decide +kernel, by decide +kernel⟩, by decide +kernel, by decide +kernel, rfl, rfl, rfl⟩
theorem w_826 : (Jvm.Cond.methodLink "ErrataPress" (211 : Nat) ({ cls := "ErrataPress$LineText", name := "putNumber", desc := "(I)V" } : Jvm.MethodName)) ∈ gtb := List.mem_filter.mpr ⟨List.mem_of_getElem? (i := 898) (by decide +kernel), by decide +kernel⟩
theorem w_827 : (Jvm.Cond.instanceMethod ({ cls := "ErrataPress$LineText", name := "putNumber", desc := "(I)V" } : Jvm.MethodName)) ∈ gtb := List.mem_filter.mpr ⟨List.mem_of_getElem? (i := 899) (by decide +kernel), by decide +kernel⟩
theorem sel_X1_putNumber : (Jvm.Cond.selects "ErrataPress$LineText" ({ cls := "ErrataPress$LineText", name := "putNumber", desc := "(I)V" } : Jvm.MethodName) ({ cls := "ErrataPress$LineText", name := "putNumber", desc := "(I)V" } : Jvm.MethodName)) ∈ gtb := List.mem_filter.mpr ⟨List.mem_of_getElem? (i := 900) (by decide +kernel), by decide +kernel⟩
theorem cv_X5_211 : CFV RX5 211 17 M_X1_putNumber 1 := ⟨k_X1_putNumber, w_826, w_827, sel_X1_putNumber, rfl, _, rfl, rfl⟩
theorem w_834 : (Jvm.Cond.methodLink "ErrataPress" (215 : Nat) ({ cls := "ErrataPress$LineText", name := "put", desc := "(C)V" } : Jvm.MethodName)) ∈ gtb := List.mem_filter.mpr ⟨List.mem_of_getElem? (i := 906) (by decide +kernel), by decide +kernel⟩
theorem cv_X5_215 : CFV RX5 215 17 M_X1_put 1 := ⟨k_X1_put, w_834, w_831, sel_X1_put, rfl, _, rfl, rfl⟩
theorem w_59 : (Jvm.Cond.fieldLink "ErrataPress" (219 : Nat) "ErrataPress$State" "lengths" "[I") ∈ gtb := List.mem_filter.mpr ⟨List.mem_of_getElem? (i := 131) (by decide +kernel), by decide +kernel⟩
theorem ff_X5_219 : FF RX5 219 0 12 := ⟨RX4, TX4, 18, rfl, inG4, by decide, rfl, w_59⟩
def M_X5_writePlace : MI := (yX5_writePlace, cX5_writePlace, 5, none, 3, 0, 0, 0, [])
theorem w_838 : (Jvm.Cond.code ({ cls := "ErrataPress", name := "writePlace", desc := "(II)V" } : Jvm.MethodName) prog_1_method_55_code (5 : Nat) (Option.none : Option Jvm.ClassFile.FieldType)) ∈ gtb := List.mem_filter.mpr ⟨List.mem_of_getElem? (i := 910) (by decide +kernel), by decide +kernel⟩
theorem k_X5_writePlace : CF0 M_X5_writePlace 2 := ⟨rfl, w_838, w_1, ⟨by decide +kernel, by decide +kernel, by decide +kernel⟩, by decide +kernel, by decide +kernel, rfl, rfl, rfl⟩
theorem w_835 : (Jvm.Cond.methodLink "ErrataPress" (222 : Nat) ({ cls := "ErrataPress", name := "writePlace", desc := "(II)V" } : Jvm.MethodName)) ∈ gtb := List.mem_filter.mpr ⟨List.mem_of_getElem? (i := 907) (by decide +kernel), by decide +kernel⟩
theorem w_837 : (Jvm.Cond.instanceMethod ({ cls := "ErrataPress", name := "writePlace", desc := "(II)V" } : Jvm.MethodName)) ∈ gtb := List.mem_filter.mpr ⟨List.mem_of_getElem? (i := 909) (by decide +kernel), by decide +kernel⟩
theorem sel_X5_writePlace : Cond.selects "ErrataPress" ({ cls := "ErrataPress", name := "writePlace", desc := "(II)V" } : Jvm.MethodName) ({ cls := "ErrataPress", name := "writePlace", desc := "(II)V" } : Jvm.MethodName) ∈ gtb := List.mem_filter.mpr ⟨List.mem_of_getElem? (i := 18) (by decide +kernel), by decide +kernel⟩
theorem cv_X5_222 : CFV RX5 222 11 M_X5_writePlace 2 := ⟨k_X5_writePlace, w_835, w_837, sel_X5_writePlace, rfl, _, rfl, rfl⟩
def M_X5_line : MI := (yX5_line, cX5_line, 3, some .int, 8, 1, 0, 0, [])
theorem w_596 : (Jvm.Cond.methodLink "ErrataPress" (226 : Nat) ({ cls := "ErrataPress$State", name := "isAshamed", desc := "(I)Z" } : Jvm.MethodName)) ∈ gtb := List.mem_filter.mpr ⟨List.mem_of_getElem? (i := 668) (by decide +kernel), by decide +kernel⟩
theorem cv_X5_226 : CFV RX5 226 0 M_X4_isAshamed 1 := ⟨k_X4_isAshamed, w_596, w_258, sel_X4_isAshamed, rfl, _, rfl, rfl⟩
def M_X5_houseLine : MI := (yX5_houseLine, cX5_houseLine, 2, some .int, 8, 1, 0, 0, [])
theorem tf_99_229_103 : TF RX5 99 229 103 "java/lang/IndexOutOfBoundsException" "no such character" ["java/lang/RuntimeException", "java/lang/Exception"] := TF_of (by decide +kernel) (by decide +kernel) w_265 w_12 (by decide +kernel) wsL_law_x1 (by decide +kernel) (by decide +kernel) (by decide)
theorem w_190 : (Jvm.Cond.fieldLink "ErrataPress" (231 : Nat) "ErrataPress$LineText" "signs" "[C") ∈ gtb := List.mem_filter.mpr ⟨List.mem_of_getElem? (i := 262) (by decide +kernel), by decide +kernel⟩
theorem ff_X5_231 : FF RX5 231 17 0 := ⟨RX1, TX1, 2, rfl, inG1, by decide, rfl, w_190⟩
def M_X5_character : MI := (yX5_character, cX5_character, 2, some .char, 8, 1, 0, 0, [])
theorem w_204 : (Jvm.Cond.fieldLink "ErrataPress" (42 : Nat) "ErrataPress" "input" "LErrataPress$OrderText;") ∈ gtb := List.mem_filter.mpr ⟨List.mem_of_getElem? (i := 276) (by decide +kernel), by decide +kernel⟩
theorem ff_X5_42 : FF RX5 42 11 6 := ⟨RX5, TX5, 10, rfl, inG5, by decide, rfl, w_204⟩
theorem w_156 : (Jvm.Cond.fieldLink "ErrataPress" (235 : Nat) "ErrataPress$OrderText" "length" "I") ∈ gtb := List.mem_filter.mpr ⟨List.mem_of_getElem? (i := 228) (by decide +kernel), by decide +kernel⟩
theorem ff_X5_235 : FF RX5 235 15 1 := ⟨RX2, TX2, 7, rfl, inG2, by decide, rfl, w_156⟩
theorem w_154 : (Jvm.Cond.fieldLink "ErrataPress" (241 : Nat) "ErrataPress$OrderText" "signs" "[C") ∈ gtb := List.mem_filter.mpr ⟨List.mem_of_getElem? (i := 226) (by decide +kernel), by decide +kernel⟩
theorem ff_X5_241 : FF RX5 241 15 0 := ⟨RX2, TX2, 7, rfl, inG2, by decide, rfl, w_154⟩
theorem fp_X5_235 : FP2 RX5 235 15 1 .int := ⟨RX2, TX2, 7, tyX2, rfl, inG2, by decide, rfl, w_156, tyX2_ok, nmX2, rfl, rfl, rfl⟩
theorem w_862 : (Jvm.Cond.classLink "ErrataPress" (236 : Nat) "java/lang/IllegalStateException") ∈ gtb := List.mem_filter.mpr ⟨List.mem_of_getElem? (i := 934) (by decide +kernel), by decide +kernel⟩
theorem w_20 : (Jvm.Cond.initialized "java/lang/IllegalStateException") ∈ gtb := List.mem_filter.mpr ⟨List.mem_of_getElem? (i := 92) (by decide +kernel), by decide +kernel⟩
theorem tf_236_238_240 : TF RX5 236 238 240 "java/lang/IllegalStateException" "the input is full" ["java/lang/RuntimeException", "java/lang/Exception"] := TF_of (by decide +kernel) (by decide +kernel) w_862 w_20 (by decide +kernel) wsL_law_x5 (by decide +kernel) (by decide +kernel) (by decide)
def M_X5_append : MI := (yX5_append, cX5_append, 2, some .int, 8, 1, 0, 0, [])
theorem w_888 : (Jvm.Cond.code ({ cls := "ErrataPress$OrderText", name := "findError", desc := "()I" } : Jvm.MethodName) prog_4_method_2_code (2 : Nat) (Option.some Jvm.ClassFile.FieldType.int)) ∈ gtb := List.mem_filter.mpr ⟨List.mem_of_getElem? (i := 960) (by decide +kernel), by decide +kernel⟩
theorem k_X2_findError : CF0 M_X2_findError 0 := ⟨rfl, w_888, w_5, ⟨by decide +kernel, by decide +kernel, by decide +kernel⟩, by decide +kernel, by decide +kernel, rfl, rfl, rfl⟩
theorem w_885 : (Jvm.Cond.methodLink "ErrataPress" (242 : Nat) ({ cls := "ErrataPress$OrderText", name := "findError", desc := "()I" } : Jvm.MethodName)) ∈ gtb := List.mem_filter.mpr ⟨List.mem_of_getElem? (i := 957) (by decide +kernel), by decide +kernel⟩
theorem w_886 : (Jvm.Cond.instanceMethod ({ cls := "ErrataPress$OrderText", name := "findError", desc := "()I" } : Jvm.MethodName)) ∈ gtb := List.mem_filter.mpr ⟨List.mem_of_getElem? (i := 958) (by decide +kernel), by decide +kernel⟩
theorem sel_X2_findError : (Jvm.Cond.selects "ErrataPress$OrderText" ({ cls := "ErrataPress$OrderText", name := "findError", desc := "()I" } : Jvm.MethodName) ({ cls := "ErrataPress$OrderText", name := "findError", desc := "()I" } : Jvm.MethodName)) ∈ gtb := List.mem_filter.mpr ⟨List.mem_of_getElem? (i := 959) (by decide +kernel), by decide +kernel⟩
theorem cv_X5_242 : CFV RX5 242 15 M_X2_findError 0 := ⟨k_X2_findError, w_885, w_886, sel_X2_findError, rfl, _, rfl, rfl⟩
theorem w_207 : (Jvm.Cond.fieldLink "ErrataPress" (53 : Nat) "ErrataPress" "errorOffset" "I") ∈ gtb := List.mem_filter.mpr ⟨List.mem_of_getElem? (i := 279) (by decide +kernel), by decide +kernel⟩
theorem ff_X5_53 : FF RX5 53 11 9 := ⟨RX5, TX5, 10, rfl, inG5, by decide, rfl, w_207⟩
theorem fp_X5_53 : FP2 RX5 53 11 9 .int := ⟨RX5, TX5, 10, tyX5, rfl, inG5, by decide, rfl, w_207, tyX5_ok, nmX5, rfl, rfl, rfl⟩
def M_X5_carryOutAll : MI := (yX5_carryOutAll, cX5_carryOutAll, 4, some .int, 7, 0, 0, 0, [])
theorem w_932 : (Jvm.Cond.code ({ cls := "ErrataPress", name := "carryOutAll", desc := "()I" } : Jvm.MethodName) prog_1_method_50_code (4 : Nat) (Option.some Jvm.ClassFile.FieldType.int)) ∈ gtb := List.mem_filter.mpr ⟨List.mem_of_getElem? (i := 1004) (by decide +kernel), by decide +kernel⟩
theorem k_X5_carryOutAll : CF0 M_X5_carryOutAll 0 := ⟨rfl, w_932, w_1, ⟨by decide +kernel, by decide +kernel, by decide +kernel⟩, by decide +kernel, by decide +kernel, rfl, rfl, rfl⟩
theorem w_929 : (Jvm.Cond.methodLink "ErrataPress" (245 : Nat) ({ cls := "ErrataPress", name := "carryOutAll", desc := "()I" } : Jvm.MethodName)) ∈ gtb := List.mem_filter.mpr ⟨List.mem_of_getElem? (i := 1001) (by decide +kernel), by decide +kernel⟩
theorem w_931 : (Jvm.Cond.instanceMethod ({ cls := "ErrataPress", name := "carryOutAll", desc := "()I" } : Jvm.MethodName)) ∈ gtb := List.mem_filter.mpr ⟨List.mem_of_getElem? (i := 1003) (by decide +kernel), by decide +kernel⟩
theorem sel_X5_carryOutAll : Cond.selects "ErrataPress" ({ cls := "ErrataPress", name := "carryOutAll", desc := "()I" } : Jvm.MethodName) ({ cls := "ErrataPress", name := "carryOutAll", desc := "()I" } : Jvm.MethodName) ∈ gtb := List.mem_filter.mpr ⟨List.mem_of_getElem? (i := 28) (by decide +kernel), by decide +kernel⟩
theorem cv_X5_245 : CFV RX5 245 11 M_X5_carryOutAll 0 := ⟨k_X5_carryOutAll, w_929, w_931, sel_X5_carryOutAll, rfl, _, rfl, rfl⟩
theorem w_202 : (Jvm.Cond.fieldLink "ErrataPress" (28 : Nat) "ErrataPress" "history" "LErrataPress$History;") ∈ gtb := List.mem_filter.mpr ⟨List.mem_of_getElem? (i := 274) (by decide +kernel), by decide +kernel⟩
theorem ff_X5_28 : FF RX5 28 11 4 := ⟨RX5, TX5, 10, rfl, inG5, by decide, rfl, w_202⟩
theorem w_372 : (Jvm.Cond.code ({ cls := "ErrataPress$History", name := "keep", desc := "(LErrataPress$State;)V" } : Jvm.MethodName) prog_2_method_2_code (2 : Nat) (Option.none : Option Jvm.ClassFile.FieldType)) ∈ gtb := List.mem_filter.mpr ⟨List.mem_of_getElem? (i := 444) (by decide +kernel), by decide +kernel⟩
theorem w_3 : (Jvm.Cond.initialized "ErrataPress$History") ∈ gtb := List.mem_filter.mpr ⟨List.mem_of_getElem? (i := 75) (by decide +kernel), by decide +kernel⟩
theorem k_X0_keep : CF0 M_X0_keep 1 := ⟨rfl, w_372, w_3, ⟨by decide +kernel, by decide +kernel, by decide +kernel⟩, by decide +kernel, by decide +kernel, rfl, rfl, rfl⟩
theorem w_369 : (Jvm.Cond.methodLink "ErrataPress" (255 : Nat) ({ cls := "ErrataPress$History", name := "keep", desc := "(LErrataPress$State;)V" } : Jvm.MethodName)) ∈ gtb := List.mem_filter.mpr ⟨List.mem_of_getElem? (i := 441) (by decide +kernel), by decide +kernel⟩
theorem w_370 : (Jvm.Cond.instanceMethod ({ cls := "ErrataPress$History", name := "keep", desc := "(LErrataPress$State;)V" } : Jvm.MethodName)) ∈ gtb := List.mem_filter.mpr ⟨List.mem_of_getElem? (i := 442) (by decide +kernel), by decide +kernel⟩
theorem sel_X0_keep : (Jvm.Cond.selects "ErrataPress$History" ({ cls := "ErrataPress$History", name := "keep", desc := "(LErrataPress$State;)V" } : Jvm.MethodName) ({ cls := "ErrataPress$History", name := "keep", desc := "(LErrataPress$State;)V" } : Jvm.MethodName)) ∈ gtb := List.mem_filter.mpr ⟨List.mem_of_getElem? (i := 443) (by decide +kernel), by decide +kernel⟩
theorem cv_X5_255 : CFV RX5 255 12 M_X0_keep 1 := ⟨k_X0_keep, w_369, w_370, sel_X0_keep, rfl, _, rfl, rfl⟩
theorem tf_106_253_110 : TF RX5 106 253 110 "java/lang/IllegalArgumentException" "the text cannot be carried out" ["java/lang/RuntimeException", "java/lang/Exception"] := TF_of (by decide +kernel) (by decide +kernel) w_337 w_13 (by decide +kernel) wsL_law_x2 (by decide +kernel) (by decide +kernel) (by decide)
theorem w_353 : (Jvm.Cond.classLink "ErrataPress" (248 : Nat) "java/lang/UnsupportedOperationException") ∈ gtb := List.mem_filter.mpr ⟨List.mem_of_getElem? (i := 425) (by decide +kernel), by decide +kernel⟩
theorem w_14 : (Jvm.Cond.initialized "java/lang/UnsupportedOperationException") ∈ gtb := List.mem_filter.mpr ⟨List.mem_of_getElem? (i := 86) (by decide +kernel), by decide +kernel⟩
theorem tf_248_250_252 : TF RX5 248 250 252 "java/lang/UnsupportedOperationException" "an order is refused" ["java/lang/RuntimeException", "java/lang/Exception"] := TF_of (by decide +kernel) (by decide +kernel) w_353 w_14 (by decide +kernel) wsL_law_x3 (by decide +kernel) (by decide +kernel) (by decide)
def M_X5_run : MI := (yX5_run, cX5_run, 2, some .int, 8, 1, 0, 0, [])
def M_X5_errorPosition : MI := (yX5_errorPosition, cX5_errorPosition, 1, some .int, 2, 0, 0, 0, [])
theorem w_203 : (Jvm.Cond.fieldLink "ErrataPress" (35 : Nat) "ErrataPress" "latestRefusal" "LErrataPress$Refusal;") ∈ gtb := List.mem_filter.mpr ⟨List.mem_of_getElem? (i := 275) (by decide +kernel), by decide +kernel⟩
theorem ff_X5_35 : FF RX5 35 11 5 := ⟨RX5, TX5, 10, rfl, inG5, by decide, rfl, w_203⟩
theorem w_131 : (Jvm.Cond.fieldLink "ErrataPress" (261 : Nat) "ErrataPress$Refusal" "reason" "I") ∈ gtb := List.mem_filter.mpr ⟨List.mem_of_getElem? (i := 203) (by decide +kernel), by decide +kernel⟩
theorem ff_X5_261 : FF RX5 261 14 0 := ⟨RX3, TX3, 4, rfl, inG3, by decide, rfl, w_131⟩
theorem w_133 : (Jvm.Cond.fieldLink "ErrataPress" (269 : Nat) "ErrataPress$Refusal" "detail" "I") ∈ gtb := List.mem_filter.mpr ⟨List.mem_of_getElem? (i := 205) (by decide +kernel), by decide +kernel⟩
theorem ff_X5_269 : FF RX5 269 14 1 := ⟨RX3, TX3, 4, rfl, inG3, by decide, rfl, w_133⟩
theorem w_137 : (Jvm.Cond.fieldLink "ErrataPress" (266 : Nat) "ErrataPress$Refusal" "detailBehind" "I") ∈ gtb := List.mem_filter.mpr ⟨List.mem_of_getElem? (i := 209) (by decide +kernel), by decide +kernel⟩
theorem ff_X5_266 : FF RX5 266 14 3 := ⟨RX3, TX3, 4, rfl, inG3, by decide, rfl, w_137⟩
theorem tf_168_264_172 : TFX RX5 168 264 172 "java/util/NoSuchElementException" "no such reason" ["java/lang/RuntimeException", "java/lang/Exception"] := TFX_no w_741 w_19 (by decide +kernel)
theorem w_135 : (Jvm.Cond.fieldLink "ErrataPress" (258 : Nat) "ErrataPress$Refusal" "reasonBehind" "I") ∈ gtb := List.mem_filter.mpr ⟨List.mem_of_getElem? (i := 207) (by decide +kernel), by decide +kernel⟩
theorem ff_X5_258 : FF RX5 258 14 2 := ⟨RX3, TX3, 4, rfl, inG3, by decide, rfl, w_135⟩
def M_X5_refusal : MI := (yX5_refusal, cX5_refusal, 4, some .int, 8, 1, 0, 0, [])
theorem tf_106_272_110 : TF RX5 106 272 110 "java/lang/IllegalArgumentException" "no such account" ["java/lang/RuntimeException", "java/lang/Exception"] := TF_of (by decide +kernel) (by decide +kernel) w_337 w_13 (by decide +kernel) wsL_law_x2 (by decide +kernel) (by decide +kernel) (by decide)
theorem w_963 : (Jvm.Cond.code ({ cls := "ErrataPress$State", name := "sumUp", desc := "(I)I" } : Jvm.MethodName) prog_6_method_20_code (2 : Nat) (Option.some Jvm.ClassFile.FieldType.int)) ∈ gtb := List.mem_filter.mpr ⟨List.mem_of_getElem? (i := 1035) (by decide +kernel), by decide +kernel⟩
theorem k_X4_sumUp : CF0 M_X4_sumUp 1 := ⟨rfl, w_963, w_2, ⟨by decide +kernel, by decide +kernel, by decide +kernel⟩, by decide +kernel, by decide +kernel, rfl, rfl, rfl⟩
theorem w_960 : (Jvm.Cond.methodLink "ErrataPress" (277 : Nat) ({ cls := "ErrataPress$State", name := "sumUp", desc := "(I)I" } : Jvm.MethodName)) ∈ gtb := List.mem_filter.mpr ⟨List.mem_of_getElem? (i := 1032) (by decide +kernel), by decide +kernel⟩
theorem w_961 : (Jvm.Cond.instanceMethod ({ cls := "ErrataPress$State", name := "sumUp", desc := "(I)I" } : Jvm.MethodName)) ∈ gtb := List.mem_filter.mpr ⟨List.mem_of_getElem? (i := 1033) (by decide +kernel), by decide +kernel⟩
theorem sel_X4_sumUp : (Jvm.Cond.selects "ErrataPress$State" ({ cls := "ErrataPress$State", name := "sumUp", desc := "(I)I" } : Jvm.MethodName) ({ cls := "ErrataPress$State", name := "sumUp", desc := "(I)I" } : Jvm.MethodName)) ∈ gtb := List.mem_filter.mpr ⟨List.mem_of_getElem? (i := 1034) (by decide +kernel), by decide +kernel⟩
theorem cv_X5_277 : CFV RX5 277 0 M_X4_sumUp 1 := ⟨k_X4_sumUp, w_960, w_961, sel_X4_sumUp, rfl, _, rfl, rfl⟩
theorem w_116 : (Jvm.Cond.fieldLink "ErrataPress" (274 : Nat) "ErrataPress$History" "count" "I") ∈ gtb := List.mem_filter.mpr ⟨List.mem_of_getElem? (i := 188) (by decide +kernel), by decide +kernel⟩
theorem ff_X5_274 : FF RX5 274 12 2 := ⟨RX0, TX0, 3, rfl, inG0, by decide, rfl, w_116⟩
def M_X5_account : MI := (yX5_account, cX5_account, 2, some .int, 8, 1, 0, 0, [])
def M_X5_isSheetWell : MI := (yX5_isSheetWell, cX5_isSheetWell, 3, some .boolean, 4, 0, 0, 0, [])
theorem w_452 : (Jvm.Cond.code ({ cls := "ErrataPress", name := "isSheetWell", desc := "(I)Z" } : Jvm.MethodName) prog_1_method_53_code (3 : Nat) (Option.some Jvm.ClassFile.FieldType.boolean)) ∈ gtb := List.mem_filter.mpr ⟨List.mem_of_getElem? (i := 524) (by decide +kernel), by decide +kernel⟩
theorem k_X5_isSheetWell : CF0 M_X5_isSheetWell 1 := ⟨rfl, w_452, w_1, ⟨by decide +kernel, by decide +kernel, by decide +kernel⟩, by decide +kernel, by decide +kernel, rfl, rfl, rfl⟩
theorem w_449 : (Jvm.Cond.methodLink "ErrataPress" (280 : Nat) ({ cls := "ErrataPress", name := "isSheetWell", desc := "(I)Z" } : Jvm.MethodName)) ∈ gtb := List.mem_filter.mpr ⟨List.mem_of_getElem? (i := 521) (by decide +kernel), by decide +kernel⟩
theorem w_451 : (Jvm.Cond.instanceMethod ({ cls := "ErrataPress", name := "isSheetWell", desc := "(I)Z" } : Jvm.MethodName)) ∈ gtb := List.mem_filter.mpr ⟨List.mem_of_getElem? (i := 523) (by decide +kernel), by decide +kernel⟩
theorem sel_X5_isSheetWell : Cond.selects "ErrataPress" ({ cls := "ErrataPress", name := "isSheetWell", desc := "(I)Z" } : Jvm.MethodName) ({ cls := "ErrataPress", name := "isSheetWell", desc := "(I)Z" } : Jvm.MethodName) ∈ gtb := List.mem_filter.mpr ⟨List.mem_of_getElem? (i := 5) (by decide +kernel), by decide +kernel⟩
theorem cv_X5_280 : CFV RX5 280 11 M_X5_isSheetWell 1 := ⟨k_X5_isSheetWell, w_449, w_451, sel_X5_isSheetWell, rfl, _, rfl, rfl⟩
def M_X5_isWell : MI := (yX5_isWell, cX5_isWell, 2, some .boolean, 5, 0, 0, 0, [])
theorem w_990 : (Jvm.Cond.classLink "ErrataPress" (283 : Nat) "java/lang/ArithmeticException") ∈ gtb := List.mem_filter.mpr ⟨List.mem_of_getElem? (i := 1062) (by decide +kernel), by decide +kernel⟩
theorem w_21 : (Jvm.Cond.initialized "java/lang/ArithmeticException") ∈ gtb := List.mem_filter.mpr ⟨List.mem_of_getElem? (i := 93) (by decide +kernel), by decide +kernel⟩
theorem tf_283_285_287 : TF RX5 283 285 287 "java/lang/ArithmeticException" "no houses" ["java/lang/RuntimeException", "java/lang/Exception"] := TF_of (by decide +kernel) (by decide +kernel) w_990 w_21 (by decide +kernel) wsL_law_x6 (by decide +kernel) (by decide +kernel) (by decide)
def M_X5_meanShame : MI := (yX5_meanShame, cX5_meanShame, 3, some .double, 8, 1, 0, 0, [])
theorem w_634 : (Jvm.Cond.methodLink "ErrataPress" (290 : Nat) ({ cls := "ErrataPress$State", name := "countInAll", desc := "(I)I" } : Jvm.MethodName)) ∈ gtb := List.mem_filter.mpr ⟨List.mem_of_getElem? (i := 706) (by decide +kernel), by decide +kernel⟩
theorem cv_X5_290 : CFV RX5 290 0 M_X4_countInAll 1 := ⟨k_X4_countInAll, w_634, w_635, sel_X4_countInAll, rfl, _, rfl, rfl⟩
theorem tf_283_288_287 : TF RX5 283 288 287 "java/lang/ArithmeticException" "no sheets" ["java/lang/RuntimeException", "java/lang/Exception"] := TF_of (by decide +kernel) (by decide +kernel) w_990 w_21 (by decide +kernel) wsL_law_x6 (by decide +kernel) (by decide +kernel) (by decide)
def M_X5_errorShare : MI := (yX5_errorShare, cX5_errorShare, 3, some .float, 8, 1, 0, 0, [])
theorem w_1012 : (Jvm.Cond.code ({ cls := "ErrataPress$History", name := "takeBack", desc := "(LErrataPress$State;)V" } : Jvm.MethodName) prog_2_method_3_code (2 : Nat) (Option.none : Option Jvm.ClassFile.FieldType)) ∈ gtb := List.mem_filter.mpr ⟨List.mem_of_getElem? (i := 1084) (by decide +kernel), by decide +kernel⟩
theorem k_X0_takeBack : CF0 M_X0_takeBack 1 := ⟨rfl, w_1012, w_3, ⟨by decide +kernel, by decide +kernel, by decide +kernel⟩, by decide +kernel, by decide +kernel, rfl, rfl, rfl⟩
theorem w_1009 : (Jvm.Cond.methodLink "ErrataPress" (295 : Nat) ({ cls := "ErrataPress$History", name := "takeBack", desc := "(LErrataPress$State;)V" } : Jvm.MethodName)) ∈ gtb := List.mem_filter.mpr ⟨List.mem_of_getElem? (i := 1081) (by decide +kernel), by decide +kernel⟩
theorem w_1010 : (Jvm.Cond.instanceMethod ({ cls := "ErrataPress$History", name := "takeBack", desc := "(LErrataPress$State;)V" } : Jvm.MethodName)) ∈ gtb := List.mem_filter.mpr ⟨List.mem_of_getElem? (i := 1082) (by decide +kernel), by decide +kernel⟩
theorem sel_X0_takeBack : (Jvm.Cond.selects "ErrataPress$History" ({ cls := "ErrataPress$History", name := "takeBack", desc := "(LErrataPress$State;)V" } : Jvm.MethodName) ({ cls := "ErrataPress$History", name := "takeBack", desc := "(LErrataPress$State;)V" } : Jvm.MethodName)) ∈ gtb := List.mem_filter.mpr ⟨List.mem_of_getElem? (i := 1083) (by decide +kernel), by decide +kernel⟩
theorem cv_X5_295 : CFV RX5 295 12 M_X0_takeBack 1 := ⟨k_X0_takeBack, w_1009, w_1010, sel_X0_takeBack, rfl, _, rfl, rfl⟩
theorem tf_236_293_240 : TF RX5 236 293 240 "java/lang/IllegalStateException" "nothing to undo" ["java/lang/RuntimeException", "java/lang/Exception"] := TF_of (by decide +kernel) (by decide +kernel) w_862 w_20 (by decide +kernel) wsL_law_x5 (by decide +kernel) (by decide +kernel) (by decide)
def M_X5_undo : MI := (yX5_undo, cX5_undo, 1, some .int, 8, 1, 0, 0, [])
theorem w_201 : (Jvm.Cond.fieldLink "ErrataPress" (22 : Nat) "ErrataPress" "snapshot" "LErrataPress$State;") ∈ gtb := List.mem_filter.mpr ⟨List.mem_of_getElem? (i := 273) (by decide +kernel), by decide +kernel⟩
theorem ff_X5_22 : FF RX5 22 11 3 := ⟨RX5, TX5, 10, rfl, inG5, by decide, rfl, w_201⟩
theorem w_206 : (Jvm.Cond.fieldLink "ErrataPress" (298 : Nat) "ErrataPress" "hasSnapshot" "Z") ∈ gtb := List.mem_filter.mpr ⟨List.mem_of_getElem? (i := 278) (by decide +kernel), by decide +kernel⟩
theorem ff_X5_298 : FF RX5 298 11 8 := ⟨RX5, TX5, 10, rfl, inG5, by decide, rfl, w_206⟩
theorem fp_X5_298 : FP2 RX5 298 11 8 .boolean := ⟨RX5, TX5, 10, tyX5, rfl, inG5, by decide, rfl, w_206, tyX5_ok, nmX5, rfl, rfl, rfl⟩
def M_X5_save : MI := (yX5_save, cX5_save, 1, some .int, 3, 0, 0, 0, [])
theorem fp_X5_274 : FP2 RX5 274 12 2 .int := ⟨RX0, TX0, 3, tyX0, rfl, inG0, by decide, rfl, w_116, tyX0_ok, nmX0, rfl, rfl, rfl⟩
theorem tf_236_302_240 : TF RX5 236 302 240 "java/lang/IllegalStateException" "no snapshot" ["java/lang/RuntimeException", "java/lang/Exception"] := TF_of (by decide +kernel) (by decide +kernel) w_862 w_20 (by decide +kernel) wsL_law_x5 (by decide +kernel) (by decide +kernel) (by decide)
def M_X5_restore : MI := (yX5_restore, cX5_restore, 1, some .int, 8, 1, 0, 0, [])
theorem tf_248_308_252 : TF RX5 248 308 252 "java/lang/UnsupportedOperationException" "refused" ["java/lang/RuntimeException", "java/lang/Exception"] := TF_of (by decide +kernel) (by decide +kernel) w_353 w_14 (by decide +kernel) wsL_law_x3 (by decide +kernel) (by decide +kernel) (by decide)
theorem tf_106_306_110 : TF RX5 106 306 110 "java/lang/IllegalArgumentException" "out of range" ["java/lang/RuntimeException", "java/lang/Exception"] := TF_of (by decide +kernel) (by decide +kernel) w_337 w_13 (by decide +kernel) wsL_law_x2 (by decide +kernel) (by decide +kernel) (by decide)
theorem tf_99_304_103 : TF RX5 99 304 103 "java/lang/IndexOutOfBoundsException" "no such house, sheet or place" ["java/lang/RuntimeException", "java/lang/Exception"] := TF_of (by decide +kernel) (by decide +kernel) w_265 w_12 (by decide +kernel) wsL_law_x1 (by decide +kernel) (by decide +kernel) (by decide)
theorem w_487 : (Jvm.Cond.code ({ cls := "ErrataPress$Refusal", name := "become", desc := "(II)V" } : Jvm.MethodName) prog_5_method_2_code (3 : Nat) (Option.none : Option Jvm.ClassFile.FieldType)) ∈ gtb := List.mem_filter.mpr ⟨List.mem_of_getElem? (i := 559) (by decide +kernel), by decide +kernel⟩
theorem w_4 : (Jvm.Cond.initialized "ErrataPress$Refusal") ∈ gtb := List.mem_filter.mpr ⟨List.mem_of_getElem? (i := 76) (by decide +kernel), by decide +kernel⟩
theorem k_X3_become : CF0 M_X3_become 2 := ⟨rfl, w_487, w_4, ⟨by decide +kernel, by decide +kernel, by decide +kernel⟩, by decide +kernel, by decide +kernel, rfl, rfl, rfl⟩
theorem w_484 : (Jvm.Cond.methodLink "ErrataPress" (310 : Nat) ({ cls := "ErrataPress$Refusal", name := "become", desc := "(II)V" } : Jvm.MethodName)) ∈ gtb := List.mem_filter.mpr ⟨List.mem_of_getElem? (i := 556) (by decide +kernel), by decide +kernel⟩
theorem w_485 : (Jvm.Cond.instanceMethod ({ cls := "ErrataPress$Refusal", name := "become", desc := "(II)V" } : Jvm.MethodName)) ∈ gtb := List.mem_filter.mpr ⟨List.mem_of_getElem? (i := 557) (by decide +kernel), by decide +kernel⟩
theorem sel_X3_become : (Jvm.Cond.selects "ErrataPress$Refusal" ({ cls := "ErrataPress$Refusal", name := "become", desc := "(II)V" } : Jvm.MethodName) ({ cls := "ErrataPress$Refusal", name := "become", desc := "(II)V" } : Jvm.MethodName)) ∈ gtb := List.mem_filter.mpr ⟨List.mem_of_getElem? (i := 558) (by decide +kernel), by decide +kernel⟩
theorem cv_X5_310 : CFV RX5 310 14 M_X3_become 2 := ⟨k_X3_become, w_484, w_485, sel_X3_become, rfl, _, rfl, rfl⟩
def M_X5_refuse : MI := (yX5_refuse, cX5_refuse, 3, some .int, 3, 0, 0, 0, [])
theorem w_491 : (Jvm.Cond.code ({ cls := "ErrataPress$State", name := "appendHouse", desc := "(I)I" } : Jvm.MethodName) prog_6_method_38_code (2 : Nat) (Option.some Jvm.ClassFile.FieldType.int)) ∈ gtb := List.mem_filter.mpr ⟨List.mem_of_getElem? (i := 563) (by decide +kernel), by decide +kernel⟩
theorem k_X4_appendHouse : CF0 M_X4_appendHouse 1 := ⟨rfl, w_491, w_2, ⟨by decide +kernel, by decide +kernel, by decide +kernel⟩, by decide +kernel, by decide +kernel, rfl, rfl, rfl⟩
theorem w_488 : (Jvm.Cond.methodLink "ErrataPress" (316 : Nat) ({ cls := "ErrataPress$State", name := "appendHouse", desc := "(I)I" } : Jvm.MethodName)) ∈ gtb := List.mem_filter.mpr ⟨List.mem_of_getElem? (i := 560) (by decide +kernel), by decide +kernel⟩
theorem w_489 : (Jvm.Cond.instanceMethod ({ cls := "ErrataPress$State", name := "appendHouse", desc := "(I)I" } : Jvm.MethodName)) ∈ gtb := List.mem_filter.mpr ⟨List.mem_of_getElem? (i := 561) (by decide +kernel), by decide +kernel⟩
theorem sel_X4_appendHouse : (Jvm.Cond.selects "ErrataPress$State" ({ cls := "ErrataPress$State", name := "appendHouse", desc := "(I)I" } : Jvm.MethodName) ({ cls := "ErrataPress$State", name := "appendHouse", desc := "(I)I" } : Jvm.MethodName)) ∈ gtb := List.mem_filter.mpr ⟨List.mem_of_getElem? (i := 562) (by decide +kernel), by decide +kernel⟩
theorem cv_X5_316 : CFV RX5 316 0 M_X4_appendHouse 1 := ⟨k_X4_appendHouse, w_488, w_489, sel_X4_appendHouse, rfl, _, rfl, rfl⟩
theorem w_483 : (Jvm.Cond.code ({ cls := "ErrataPress", name := "refuse", desc := "(II)I" } : Jvm.MethodName) prog_1_method_41_code (3 : Nat) (Option.some Jvm.ClassFile.FieldType.int)) ∈ gtb := List.mem_filter.mpr ⟨List.mem_of_getElem? (i := 555) (by decide +kernel), by decide +kernel⟩
theorem k_X5_refuse : CF0 M_X5_refuse 2 := ⟨rfl, w_483, w_1, ⟨by decide +kernel, by decide +kernel, by decide +kernel⟩, by decide +kernel, by decide +kernel, rfl, rfl, rfl⟩
theorem w_480 : (Jvm.Cond.methodLink "ErrataPress" (313 : Nat) ({ cls := "ErrataPress", name := "refuse", desc := "(II)I" } : Jvm.MethodName)) ∈ gtb := List.mem_filter.mpr ⟨List.mem_of_getElem? (i := 552) (by decide +kernel), by decide +kernel⟩
theorem w_482 : (Jvm.Cond.instanceMethod ({ cls := "ErrataPress", name := "refuse", desc := "(II)I" } : Jvm.MethodName)) ∈ gtb := List.mem_filter.mpr ⟨List.mem_of_getElem? (i := 554) (by decide +kernel), by decide +kernel⟩
theorem sel_X5_refuse : Cond.selects "ErrataPress" ({ cls := "ErrataPress", name := "refuse", desc := "(II)I" } : Jvm.MethodName) ({ cls := "ErrataPress", name := "refuse", desc := "(II)I" } : Jvm.MethodName) ∈ gtb := List.mem_filter.mpr ⟨List.mem_of_getElem? (i := 7) (by decide +kernel), by decide +kernel⟩
theorem cv_X5_313 : CFV RX5 313 11 M_X5_refuse 2 := ⟨k_X5_refuse, w_480, w_482, sel_X5_refuse, rfl, _, rfl, rfl⟩
def M_X5_lettersIn : MI := (yX5_lettersIn, cX5_lettersIn, 3, some .int, 2, 0, 0, 0, [])
theorem w_530 : (Jvm.Cond.code ({ cls := "ErrataPress", name := "lettersIn", desc := "(I)I" } : Jvm.MethodName) prog_1_method_56_code (3 : Nat) (Option.some Jvm.ClassFile.FieldType.int)) ∈ gtb := List.mem_filter.mpr ⟨List.mem_of_getElem? (i := 602) (by decide +kernel), by decide +kernel⟩
theorem k_X5_lettersIn : CF0 M_X5_lettersIn 1 := ⟨rfl, w_530, w_1, ⟨by decide +kernel, by decide +kernel, by decide +kernel⟩, by decide +kernel, by decide +kernel, rfl, rfl, rfl⟩
theorem w_528 : (Jvm.Cond.methodLink "ErrataPress" (319 : Nat) ({ cls := "ErrataPress", name := "lettersIn", desc := "(I)I" } : Jvm.MethodName)) ∈ gtb := List.mem_filter.mpr ⟨List.mem_of_getElem? (i := 600) (by decide +kernel), by decide +kernel⟩
theorem w_529 : (Jvm.Cond.static ({ cls := "ErrataPress", name := "lettersIn", desc := "(I)I" } : Jvm.MethodName)) ∈ gtb := List.mem_filter.mpr ⟨List.mem_of_getElem? (i := 601) (by decide +kernel), by decide +kernel⟩
theorem cs_X5_319 : CFS RX5 319 M_X5_lettersIn 1 := ⟨k_X5_lettersIn, w_528, w_529⟩
theorem w_534 : (Jvm.Cond.code ({ cls := "ErrataPress$State", name := "appendSheet", desc := "(III)I" } : Jvm.MethodName) prog_6_method_39_code (6 : Nat) (Option.some Jvm.ClassFile.FieldType.int)) ∈ gtb := List.mem_filter.mpr ⟨List.mem_of_getElem? (i := 606) (by decide +kernel), by decide +kernel⟩
theorem k_X4_appendSheet : CF0 M_X4_appendSheet 3 := ⟨rfl, w_534, w_2, ⟨by decide +kernel, by decide +kernel, by decide +kernel⟩, by decide +kernel, by decide +kernel, rfl, rfl, rfl⟩
theorem w_531 : (Jvm.Cond.methodLink "ErrataPress" (322 : Nat) ({ cls := "ErrataPress$State", name := "appendSheet", desc := "(III)I" } : Jvm.MethodName)) ∈ gtb := List.mem_filter.mpr ⟨List.mem_of_getElem? (i := 603) (by decide +kernel), by decide +kernel⟩
theorem w_532 : (Jvm.Cond.instanceMethod ({ cls := "ErrataPress$State", name := "appendSheet", desc := "(III)I" } : Jvm.MethodName)) ∈ gtb := List.mem_filter.mpr ⟨List.mem_of_getElem? (i := 604) (by decide +kernel), by decide +kernel⟩
theorem sel_X4_appendSheet : (Jvm.Cond.selects "ErrataPress$State" ({ cls := "ErrataPress$State", name := "appendSheet", desc := "(III)I" } : Jvm.MethodName) ({ cls := "ErrataPress$State", name := "appendSheet", desc := "(III)I" } : Jvm.MethodName)) ∈ gtb := List.mem_filter.mpr ⟨List.mem_of_getElem? (i := 605) (by decide +kernel), by decide +kernel⟩
theorem cv_X5_322 : CFV RX5 322 0 M_X4_appendSheet 3 := ⟨k_X4_appendSheet, w_531, w_532, sel_X4_appendSheet, rfl, _, rfl, rfl⟩
theorem w_554 : (Jvm.Cond.code ({ cls := "ErrataPress$State", name := "removeSheet", desc := "(I)V" } : Jvm.MethodName) prog_6_method_41_code (5 : Nat) (Option.none : Option Jvm.ClassFile.FieldType)) ∈ gtb := List.mem_filter.mpr ⟨List.mem_of_getElem? (i := 626) (by decide +kernel), by decide +kernel⟩
theorem k_X4_removeSheet : CF0 M_X4_removeSheet 1 := ⟨rfl, w_554, w_2, ⟨by decide +kernel, by decide +kernel, by decide +kernel⟩, by decide +kernel, by decide +kernel, rfl, rfl, rfl⟩
theorem w_551 : (Jvm.Cond.methodLink "ErrataPress" (326 : Nat) ({ cls := "ErrataPress$State", name := "removeSheet", desc := "(I)V" } : Jvm.MethodName)) ∈ gtb := List.mem_filter.mpr ⟨List.mem_of_getElem? (i := 623) (by decide +kernel), by decide +kernel⟩
theorem w_552 : (Jvm.Cond.instanceMethod ({ cls := "ErrataPress$State", name := "removeSheet", desc := "(I)V" } : Jvm.MethodName)) ∈ gtb := List.mem_filter.mpr ⟨List.mem_of_getElem? (i := 624) (by decide +kernel), by decide +kernel⟩
theorem sel_X4_removeSheet : (Jvm.Cond.selects "ErrataPress$State" ({ cls := "ErrataPress$State", name := "removeSheet", desc := "(I)V" } : Jvm.MethodName) ({ cls := "ErrataPress$State", name := "removeSheet", desc := "(I)V" } : Jvm.MethodName)) ∈ gtb := List.mem_filter.mpr ⟨List.mem_of_getElem? (i := 625) (by decide +kernel), by decide +kernel⟩
theorem cv_X5_326 : CFV RX5 326 0 M_X4_removeSheet 1 := ⟨k_X4_removeSheet, w_551, w_552, sel_X4_removeSheet, rfl, _, rfl, rfl⟩
theorem w_445 : (Jvm.Cond.methodLink "ErrataPress" (329 : Nat) ({ cls := "ErrataPress$State", name := "putLetter", desc := "(III)V" } : Jvm.MethodName)) ∈ gtb := List.mem_filter.mpr ⟨List.mem_of_getElem? (i := 517) (by decide +kernel), by decide +kernel⟩
theorem cv_X5_329 : CFV RX5 329 0 M_X4_putLetter 3 := ⟨k_X4_putLetter, w_445, w_446, sel_X4_putLetter, rfl, _, rfl, rfl⟩
theorem w_572 : (Jvm.Cond.methodLink "ErrataPress" (333 : Nat) ({ cls := "ErrataPress$State", name := "countOnSheet", desc := "(II)I" } : Jvm.MethodName)) ∈ gtb := List.mem_filter.mpr ⟨List.mem_of_getElem? (i := 644) (by decide +kernel), by decide +kernel⟩
theorem cv_X5_333 : CFV RX5 333 0 M_X4_countOnSheet 2 := ⟨k_X4_countOnSheet, w_572, w_573, sel_X4_countOnSheet, rfl, _, rfl, rfl⟩
theorem w_587 : (Jvm.Cond.methodLink "ErrataPress" (336 : Nat) ({ cls := "ErrataPress$State", name := "licenceCost", desc := "(I)I" } : Jvm.MethodName)) ∈ gtb := List.mem_filter.mpr ⟨List.mem_of_getElem? (i := 659) (by decide +kernel), by decide +kernel⟩
theorem cv_X5_336 : CFV RX5 336 0 M_X4_licenceCost 1 := ⟨k_X4_licenceCost, w_587, w_588, sel_X4_licenceCost, rfl, _, rfl, rfl⟩
theorem w_49 : (Jvm.Cond.fieldLink "ErrataPress" (339 : Nat) "ErrataPress$State" "licencesPaid" "I") ∈ gtb := List.mem_filter.mpr ⟨List.mem_of_getElem? (i := 121) (by decide +kernel), by decide +kernel⟩
theorem ff_X5_339 : FF RX5 339 0 7 := ⟨RX4, TX4, 18, rfl, inG4, by decide, rfl, w_49⟩
theorem fp_X5_339 : FP2 RX5 339 0 7 .int := ⟨RX4, TX4, 18, tyX4, rfl, inG4, by decide, rfl, w_49, tyX4_ok, nmX4, rfl, rfl, rfl⟩
theorem w_63 : (Jvm.Cond.fieldLink "ErrataPress" (342 : Nat) "ErrataPress$State" "levels" "[I") ∈ gtb := List.mem_filter.mpr ⟨List.mem_of_getElem? (i := 135) (by decide +kernel), by decide +kernel⟩
theorem ff_X5_342 : FF RX5 342 0 15 := ⟨RX4, TX4, 18, rfl, inG4, by decide, rfl, w_63⟩
theorem w_55 : (Jvm.Cond.fieldLink "ErrataPress" (345 : Nat) "ErrataPress$State" "finesPaid" "[I") ∈ gtb := List.mem_filter.mpr ⟨List.mem_of_getElem? (i := 127) (by decide +kernel), by decide +kernel⟩
theorem ff_X5_345 : FF RX5 345 0 10 := ⟨RX4, TX4, 18, rfl, inG4, by decide, rfl, w_55⟩
theorem w_41 : (Jvm.Cond.fieldLink "ErrataPress" (348 : Nat) "ErrataPress$State" "readers" "I") ∈ gtb := List.mem_filter.mpr ⟨List.mem_of_getElem? (i := 113) (by decide +kernel), by decide +kernel⟩
theorem ff_X5_348 : FF RX5 348 0 2 := ⟨RX4, TX4, 18, rfl, inG4, by decide, rfl, w_41⟩
theorem w_622 : (Jvm.Cond.code ({ cls := "ErrataPress$State", name := "appendReader", desc := "(II)I" } : Jvm.MethodName) prog_6_method_40_code (3 : Nat) (Option.some Jvm.ClassFile.FieldType.int)) ∈ gtb := List.mem_filter.mpr ⟨List.mem_of_getElem? (i := 694) (by decide +kernel), by decide +kernel⟩
theorem k_X4_appendReader : CF0 M_X4_appendReader 2 := ⟨rfl, w_622, w_2, ⟨by decide +kernel, by decide +kernel, by decide +kernel⟩, by decide +kernel, by decide +kernel, rfl, rfl, rfl⟩
theorem w_619 : (Jvm.Cond.methodLink "ErrataPress" (351 : Nat) ({ cls := "ErrataPress$State", name := "appendReader", desc := "(II)I" } : Jvm.MethodName)) ∈ gtb := List.mem_filter.mpr ⟨List.mem_of_getElem? (i := 691) (by decide +kernel), by decide +kernel⟩
theorem w_620 : (Jvm.Cond.instanceMethod ({ cls := "ErrataPress$State", name := "appendReader", desc := "(II)I" } : Jvm.MethodName)) ∈ gtb := List.mem_filter.mpr ⟨List.mem_of_getElem? (i := 692) (by decide +kernel), by decide +kernel⟩
theorem sel_X4_appendReader : (Jvm.Cond.selects "ErrataPress$State" ({ cls := "ErrataPress$State", name := "appendReader", desc := "(II)I" } : Jvm.MethodName) ({ cls := "ErrataPress$State", name := "appendReader", desc := "(II)I" } : Jvm.MethodName)) ∈ gtb := List.mem_filter.mpr ⟨List.mem_of_getElem? (i := 693) (by decide +kernel), by decide +kernel⟩
theorem cv_X5_351 : CFV RX5 351 0 M_X4_appendReader 2 := ⟨k_X4_appendReader, w_619, w_620, sel_X4_appendReader, rfl, _, rfl, rfl⟩
theorem w_44 : (Jvm.Cond.fieldLink "ErrataPress" (354 : Nat) "ErrataPress$State" "editions" "I") ∈ gtb := List.mem_filter.mpr ⟨List.mem_of_getElem? (i := 116) (by decide +kernel), by decide +kernel⟩
theorem ff_X5_354 : FF RX5 354 0 4 := ⟨RX4, TX4, 18, rfl, inG4, by decide, rfl, w_44⟩
theorem fp_X5_354 : FP2 RX5 354 0 4 .int := ⟨RX4, TX4, 18, tyX4, rfl, inG4, by decide, rfl, w_44, tyX4_ok, nmX4, rfl, rfl, rfl⟩
theorem w_47 : (Jvm.Cond.fieldLink "ErrataPress" (360 : Nat) "ErrataPress$State" "laughs" "I") ∈ gtb := List.mem_filter.mpr ⟨List.mem_of_getElem? (i := 119) (by decide +kernel), by decide +kernel⟩
theorem ff_X5_360 : FF RX5 360 0 6 := ⟨RX4, TX4, 18, rfl, inG4, by decide, rfl, w_47⟩
theorem fp_X5_360 : FP2 RX5 360 0 6 .int := ⟨RX4, TX4, 18, tyX4, rfl, inG4, by decide, rfl, w_47, tyX4_ok, nmX4, rfl, rfl, rfl⟩
theorem w_641 : (Jvm.Cond.code ({ cls := "ErrataPress$State", name := "printOne", desc := "(II)I" } : Jvm.MethodName) prog_6_method_43_code (5 : Nat) (Option.some Jvm.ClassFile.FieldType.int)) ∈ gtb := List.mem_filter.mpr ⟨List.mem_of_getElem? (i := 713) (by decide +kernel), by decide +kernel⟩
theorem k_X4_printOne : CF0 M_X4_printOne 2 := ⟨rfl, w_641, w_2, ⟨by decide +kernel, by decide +kernel, by decide +kernel⟩, by decide +kernel, by decide +kernel, rfl, rfl, rfl⟩
theorem w_638 : (Jvm.Cond.methodLink "ErrataPress" (357 : Nat) ({ cls := "ErrataPress$State", name := "printOne", desc := "(II)I" } : Jvm.MethodName)) ∈ gtb := List.mem_filter.mpr ⟨List.mem_of_getElem? (i := 710) (by decide +kernel), by decide +kernel⟩
theorem w_639 : (Jvm.Cond.instanceMethod ({ cls := "ErrataPress$State", name := "printOne", desc := "(II)I" } : Jvm.MethodName)) ∈ gtb := List.mem_filter.mpr ⟨List.mem_of_getElem? (i := 711) (by decide +kernel), by decide +kernel⟩
theorem sel_X4_printOne : (Jvm.Cond.selects "ErrataPress$State" ({ cls := "ErrataPress$State", name := "printOne", desc := "(II)I" } : Jvm.MethodName) ({ cls := "ErrataPress$State", name := "printOne", desc := "(II)I" } : Jvm.MethodName)) ∈ gtb := List.mem_filter.mpr ⟨List.mem_of_getElem? (i := 712) (by decide +kernel), by decide +kernel⟩
theorem cv_X5_357 : CFV RX5 357 0 M_X4_printOne 2 := ⟨k_X4_printOne, w_638, w_639, sel_X4_printOne, rfl, _, rfl, rfl⟩
theorem w_158 : (Jvm.Cond.fieldLink "ErrataPress" (363 : Nat) "ErrataPress$OrderText" "at" "I") ∈ gtb := List.mem_filter.mpr ⟨List.mem_of_getElem? (i := 230) (by decide +kernel), by decide +kernel⟩
theorem ff_X5_363 : FF RX5 363 15 2 := ⟨RX2, TX2, 7, rfl, inG2, by decide, rfl, w_158⟩
theorem fp_X5_363 : FP2 RX5 363 15 2 .int := ⟨RX2, TX2, 7, tyX2, rfl, inG2, by decide, rfl, w_158, tyX2_ok, nmX2, rfl, rfl, rfl⟩
theorem w_933 : (Jvm.Cond.methodLink "ErrataPress" (366 : Nat) ({ cls := "ErrataPress$OrderText", name := "readNext", desc := "()Z" } : Jvm.MethodName)) ∈ gtb := List.mem_filter.mpr ⟨List.mem_of_getElem? (i := 1005) (by decide +kernel), by decide +kernel⟩
theorem cv_X5_366 : CFV RX5 366 15 M_X2_readNext 0 := ⟨k_X2_readNext, w_933, w_890, sel_X2_readNext, rfl, _, rfl, rfl⟩
def M_X5_carryOutOrder : MI := (yX5_carryOutOrder, cX5_carryOutOrder, 1, some .int, 6, 0, 0, 0, [])
theorem w_937 : (Jvm.Cond.code ({ cls := "ErrataPress", name := "carryOutOrder", desc := "()I" } : Jvm.MethodName) prog_1_method_51_code (1 : Nat) (Option.some Jvm.ClassFile.FieldType.int)) ∈ gtb := List.mem_filter.mpr ⟨List.mem_of_getElem? (i := 1009) (by decide +kernel), by decide +kernel⟩
theorem k_X5_carryOutOrder : CF0 M_X5_carryOutOrder 0 := ⟨rfl, w_937, w_1, ⟨by decide +kernel, by decide +kernel, by decide +kernel⟩, by decide +kernel, by decide +kernel, rfl, rfl, rfl⟩
theorem w_934 : (Jvm.Cond.methodLink "ErrataPress" (370 : Nat) ({ cls := "ErrataPress", name := "carryOutOrder", desc := "()I" } : Jvm.MethodName)) ∈ gtb := List.mem_filter.mpr ⟨List.mem_of_getElem? (i := 1006) (by decide +kernel), by decide +kernel⟩
theorem w_936 : (Jvm.Cond.instanceMethod ({ cls := "ErrataPress", name := "carryOutOrder", desc := "()I" } : Jvm.MethodName)) ∈ gtb := List.mem_filter.mpr ⟨List.mem_of_getElem? (i := 1008) (by decide +kernel), by decide +kernel⟩
theorem sel_X5_carryOutOrder : Cond.selects "ErrataPress" ({ cls := "ErrataPress", name := "carryOutOrder", desc := "()I" } : Jvm.MethodName) ({ cls := "ErrataPress", name := "carryOutOrder", desc := "()I" } : Jvm.MethodName) ∈ gtb := List.mem_filter.mpr ⟨List.mem_of_getElem? (i := 29) (by decide +kernel), by decide +kernel⟩
theorem cv_X5_370 : CFV RX5 370 11 M_X5_carryOutOrder 0 := ⟨k_X5_carryOutOrder, w_934, w_936, sel_X5_carryOutOrder, rfl, _, rfl, rfl⟩
theorem w_941 : (Jvm.Cond.code ({ cls := "ErrataPress$Refusal", name := "standBehind", desc := "(II)V" } : Jvm.MethodName) prog_5_method_3_code (3 : Nat) (Option.none : Option Jvm.ClassFile.FieldType)) ∈ gtb := List.mem_filter.mpr ⟨List.mem_of_getElem? (i := 1013) (by decide +kernel), by decide +kernel⟩
theorem k_X3_standBehind : CF0 M_X3_standBehind 2 := ⟨rfl, w_941, w_4, ⟨by decide +kernel, by decide +kernel, by decide +kernel⟩, by decide +kernel, by decide +kernel, rfl, rfl, rfl⟩
theorem w_938 : (Jvm.Cond.methodLink "ErrataPress" (373 : Nat) ({ cls := "ErrataPress$Refusal", name := "standBehind", desc := "(II)V" } : Jvm.MethodName)) ∈ gtb := List.mem_filter.mpr ⟨List.mem_of_getElem? (i := 1010) (by decide +kernel), by decide +kernel⟩
theorem w_939 : (Jvm.Cond.instanceMethod ({ cls := "ErrataPress$Refusal", name := "standBehind", desc := "(II)V" } : Jvm.MethodName)) ∈ gtb := List.mem_filter.mpr ⟨List.mem_of_getElem? (i := 1011) (by decide +kernel), by decide +kernel⟩
theorem sel_X3_standBehind : (Jvm.Cond.selects "ErrataPress$Refusal" ({ cls := "ErrataPress$Refusal", name := "standBehind", desc := "(II)V" } : Jvm.MethodName) ({ cls := "ErrataPress$Refusal", name := "standBehind", desc := "(II)V" } : Jvm.MethodName)) ∈ gtb := List.mem_filter.mpr ⟨List.mem_of_getElem? (i := 1012) (by decide +kernel), by decide +kernel⟩
theorem cv_X5_373 : CFV RX5 373 14 M_X3_standBehind 2 := ⟨k_X3_standBehind, w_938, w_939, sel_X3_standBehind, rfl, _, rfl, rfl⟩
theorem w_160 : (Jvm.Cond.fieldLink "ErrataPress" (376 : Nat) "ErrataPress$OrderText" "order" "C") ∈ gtb := List.mem_filter.mpr ⟨List.mem_of_getElem? (i := 232) (by decide +kernel), by decide +kernel⟩
theorem ff_X5_376 : FF RX5 376 15 3 := ⟨RX2, TX2, 7, rfl, inG2, by decide, rfl, w_160⟩
theorem w_162 : (Jvm.Cond.fieldLink "ErrataPress" (380 : Nat) "ErrataPress$OrderText" "first" "I") ∈ gtb := List.mem_filter.mpr ⟨List.mem_of_getElem? (i := 234) (by decide +kernel), by decide +kernel⟩
theorem ff_X5_380 : FF RX5 380 15 4 := ⟨RX2, TX2, 7, rfl, inG2, by decide, rfl, w_162⟩
theorem w_164 : (Jvm.Cond.fieldLink "ErrataPress" (383 : Nat) "ErrataPress$OrderText" "second" "I") ∈ gtb := List.mem_filter.mpr ⟨List.mem_of_getElem? (i := 236) (by decide +kernel), by decide +kernel⟩
theorem ff_X5_383 : FF RX5 383 15 5 := ⟨RX2, TX2, 7, rfl, inG2, by decide, rfl, w_164⟩
theorem w_166 : (Jvm.Cond.fieldLink "ErrataPress" (386 : Nat) "ErrataPress$OrderText" "letter" "C") ∈ gtb := List.mem_filter.mpr ⟨List.mem_of_getElem? (i := 238) (by decide +kernel), by decide +kernel⟩
theorem ff_X5_386 : FF RX5 386 15 6 := ⟨RX2, TX2, 7, rfl, inG2, by decide, rfl, w_166⟩
theorem w_200 : (Jvm.Cond.fieldLink "ErrataPress" (19 : Nat) "ErrataPress" "thought" "LErrataPress$State;") ∈ gtb := List.mem_filter.mpr ⟨List.mem_of_getElem? (i := 272) (by decide +kernel), by decide +kernel⟩
theorem ff_X5_19 : FF RX5 19 11 2 := ⟨RX5, TX5, 10, rfl, inG5, by decide, rfl, w_200⟩
theorem w_461 : (Jvm.Cond.code ({ cls := "ErrataPress$State", name := "isMisprint", desc := "(II)Z" } : Jvm.MethodName) prog_6_method_8_code (3 : Nat) (Option.some Jvm.ClassFile.FieldType.boolean)) ∈ gtb := List.mem_filter.mpr ⟨List.mem_of_getElem? (i := 533) (by decide +kernel), by decide +kernel⟩
theorem k_X4_isMisprint : CF0 M_X4_isMisprint 2 := ⟨rfl, w_461, w_2, ⟨by decide +kernel, by decide +kernel, by decide +kernel⟩, by decide +kernel, by decide +kernel, rfl, rfl, rfl⟩
theorem w_458 : (Jvm.Cond.methodLink "ErrataPress" (389 : Nat) ({ cls := "ErrataPress$State", name := "isMisprint", desc := "(II)Z" } : Jvm.MethodName)) ∈ gtb := List.mem_filter.mpr ⟨List.mem_of_getElem? (i := 530) (by decide +kernel), by decide +kernel⟩
theorem w_459 : (Jvm.Cond.instanceMethod ({ cls := "ErrataPress$State", name := "isMisprint", desc := "(II)Z" } : Jvm.MethodName)) ∈ gtb := List.mem_filter.mpr ⟨List.mem_of_getElem? (i := 531) (by decide +kernel), by decide +kernel⟩
theorem sel_X4_isMisprint : (Jvm.Cond.selects "ErrataPress$State" ({ cls := "ErrataPress$State", name := "isMisprint", desc := "(II)Z" } : Jvm.MethodName) ({ cls := "ErrataPress$State", name := "isMisprint", desc := "(II)Z" } : Jvm.MethodName)) ∈ gtb := List.mem_filter.mpr ⟨List.mem_of_getElem? (i := 532) (by decide +kernel), by decide +kernel⟩
theorem cv_X5_389 : CFV RX5 389 0 M_X4_isMisprint 2 := ⟨k_X4_isMisprint, w_458, w_459, sel_X4_isMisprint, rfl, _, rfl, rfl⟩
theorem w_739 : (Jvm.Cond.code ({ cls := "ErrataPress$State", name := "canPayLicence", desc := "(I)Z" } : Jvm.MethodName) prog_6_method_23_code (2 : Nat) (Option.some Jvm.ClassFile.FieldType.boolean)) ∈ gtb := List.mem_filter.mpr ⟨List.mem_of_getElem? (i := 811) (by decide +kernel), by decide +kernel⟩
theorem k_X4_canPayLicence : CF0 M_X4_canPayLicence 1 := ⟨rfl, w_739, w_2, ⟨by decide +kernel, by decide +kernel, by decide +kernel⟩, by decide +kernel, by decide +kernel, rfl, rfl, rfl⟩
theorem w_736 : (Jvm.Cond.methodLink "ErrataPress" (392 : Nat) ({ cls := "ErrataPress$State", name := "canPayLicence", desc := "(I)Z" } : Jvm.MethodName)) ∈ gtb := List.mem_filter.mpr ⟨List.mem_of_getElem? (i := 808) (by decide +kernel), by decide +kernel⟩
theorem w_737 : (Jvm.Cond.instanceMethod ({ cls := "ErrataPress$State", name := "canPayLicence", desc := "(I)Z" } : Jvm.MethodName)) ∈ gtb := List.mem_filter.mpr ⟨List.mem_of_getElem? (i := 809) (by decide +kernel), by decide +kernel⟩
theorem sel_X4_canPayLicence : (Jvm.Cond.selects "ErrataPress$State" ({ cls := "ErrataPress$State", name := "canPayLicence", desc := "(I)Z" } : Jvm.MethodName) ({ cls := "ErrataPress$State", name := "canPayLicence", desc := "(I)Z" } : Jvm.MethodName)) ∈ gtb := List.mem_filter.mpr ⟨List.mem_of_getElem? (i := 810) (by decide +kernel), by decide +kernel⟩
theorem cv_X5_392 : CFV RX5 392 0 M_X4_canPayLicence 1 := ⟨k_X4_canPayLicence, w_736, w_737, sel_X4_canPayLicence, rfl, _, rfl, rfl⟩
theorem w_740 : (Jvm.Cond.methodLink "ErrataPress" (395 : Nat) ({ cls := "java/lang/Integer", name := "bitCount", desc := "(I)I" } : Jvm.MethodName)) ∈ gtb := List.mem_filter.mpr ⟨List.mem_of_getElem? (i := 812) (by decide +kernel), by decide +kernel⟩
theorem cs_X5_395 : CFS RX5 395 M_J6_bitCount_0f7a4 1 := ⟨k_J6_bitCount_0f7a4, w_740, w_415⟩
theorem w_250 : (Jvm.Cond.methodLink "ErrataPress" (400 : Nat) ({ cls := "java/lang/Math", name := "min", desc := "(II)I" } : Jvm.MethodName)) ∈ gtb := List.mem_filter.mpr ⟨List.mem_of_getElem? (i := 322) (by decide +kernel), by decide +kernel⟩
theorem w_1035 : (Jvm.Cond.fieldLink "ErrataPressModel" (36 : Nat) "ErrataPressModel" "code" "I") ∈ gtb := List.mem_filter.mpr ⟨List.mem_of_getElem? (i := 1107) (by decide +kernel), by decide +kernel⟩
theorem ff_X6_36 : FF RX6 36 19 8 := ⟨RX6, TX6, 21, rfl, inG6, by decide, rfl, w_1035⟩
def M_X6_thrown : MI := (yX6_thrown, cX6_thrown, 1, some .int, 2, 0, 0, 0, [])
theorem fp_X6_36 : FP2 RX6 36 19 8 .int := ⟨RX6, TX6, 21, tyX6, rfl, inG6, by decide, rfl, w_1035, tyX6_ok, nmX6, rfl, rfl, rfl⟩
theorem w_1034 : (Jvm.Cond.fieldLink "ErrataPressModel" (39 : Nat) "ErrataPressModel" "isRefused" "Z") ∈ gtb := List.mem_filter.mpr ⟨List.mem_of_getElem? (i := 1106) (by decide +kernel), by decide +kernel⟩
theorem ff_X6_39 : FF RX6 39 19 7 := ⟨RX6, TX6, 21, rfl, inG6, by decide, rfl, w_1034⟩
theorem fp_X6_39 : FP2 RX6 39 19 7 .boolean := ⟨RX6, TX6, 21, tyX6, rfl, inG6, by decide, rfl, w_1034, tyX6_ok, nmX6, rfl, rfl, rfl⟩
def M_X6_fails : MI := (yX6_fails, cX6_fails, 2, some .boolean, 2, 0, 0, 0, [])
theorem w_1036 : (Jvm.Cond.fieldLink "ErrataPressModel" (43 : Nat) "ErrataPressModel" "why" "I") ∈ gtb := List.mem_filter.mpr ⟨List.mem_of_getElem? (i := 1108) (by decide +kernel), by decide +kernel⟩
theorem ff_X6_43 : FF RX6 43 19 9 := ⟨RX6, TX6, 21, rfl, inG6, by decide, rfl, w_1036⟩
theorem fp_X6_43 : FP2 RX6 43 19 9 .int := ⟨RX6, TX6, 21, tyX6, rfl, inG6, by decide, rfl, w_1036, tyX6_ok, nmX6, rfl, rfl, rfl⟩
theorem w_1037 : (Jvm.Cond.fieldLink "ErrataPressModel" (46 : Nat) "ErrataPressModel" "detail" "I") ∈ gtb := List.mem_filter.mpr ⟨List.mem_of_getElem? (i := 1109) (by decide +kernel), by decide +kernel⟩
theorem ff_X6_46 : FF RX6 46 19 10 := ⟨RX6, TX6, 21, rfl, inG6, by decide, rfl, w_1037⟩
theorem fp_X6_46 : FP2 RX6 46 19 10 .int := ⟨RX6, TX6, 21, tyX6, rfl, inG6, by decide, rfl, w_1037, tyX6_ok, nmX6, rfl, rfl, rfl⟩
theorem w_1038 : (Jvm.Cond.fieldLink "ErrataPressModel" (49 : Nat) "ErrataPressModel" "whyBehind" "I") ∈ gtb := List.mem_filter.mpr ⟨List.mem_of_getElem? (i := 1110) (by decide +kernel), by decide +kernel⟩
theorem ff_X6_49 : FF RX6 49 19 11 := ⟨RX6, TX6, 21, rfl, inG6, by decide, rfl, w_1038⟩
theorem fp_X6_49 : FP2 RX6 49 19 11 .int := ⟨RX6, TX6, 21, tyX6, rfl, inG6, by decide, rfl, w_1038, tyX6_ok, nmX6, rfl, rfl, rfl⟩
theorem w_1039 : (Jvm.Cond.fieldLink "ErrataPressModel" (52 : Nat) "ErrataPressModel" "detailBehind" "I") ∈ gtb := List.mem_filter.mpr ⟨List.mem_of_getElem? (i := 1111) (by decide +kernel), by decide +kernel⟩
theorem ff_X6_52 : FF RX6 52 19 12 := ⟨RX6, TX6, 21, rfl, inG6, by decide, rfl, w_1039⟩
theorem fp_X6_52 : FP2 RX6 52 19 12 .int := ⟨RX6, TX6, 21, tyX6, rfl, inG6, by decide, rfl, w_1039, tyX6_ok, nmX6, rfl, rfl, rfl⟩
def M_X6_refuses : MI := (yX6_refuses, cX6_refuses, 4, some .int, 2, 0, 0, 0, [])
def M_X6_in : MI := (yX6_in, cX6_in, 3, some .boolean, 2, 0, 0, 0, [])
def M_X6_atMost : MI := (yX6_atMost, cX6_atMost, 2, some .int, 2, 0, 0, 0, [])
def M_X6_apart : MI := (yX6_apart, cX6_apart, 2, some .int, 2, 0, 0, 0, [])
def M_X6_copies : MI := (yX6_copies, cX6_copies, 5, none, 2, 0, 0, 0, [])
theorem w_1033 : (Jvm.Cond.fieldLink "ErrataPressModel" (55 : Nat) "ErrataPressModel" "isWithin" "Z") ∈ gtb := List.mem_filter.mpr ⟨List.mem_of_getElem? (i := 1105) (by decide +kernel), by decide +kernel⟩
theorem ff_X6_55 : FF RX6 55 19 6 := ⟨RX6, TX6, 21, rfl, inG6, by decide, rfl, w_1033⟩
theorem w_1032 : (Jvm.Cond.fieldLink "ErrataPressModel" (58 : Nat) "ErrataPressModel" "changes" "I") ∈ gtb := List.mem_filter.mpr ⟨List.mem_of_getElem? (i := 1104) (by decide +kernel), by decide +kernel⟩
theorem ff_X6_58 : FF RX6 58 19 5 := ⟨RX6, TX6, 21, rfl, inG6, by decide, rfl, w_1032⟩
theorem w_1028 : (Jvm.Cond.fieldLink "ErrataPressModel" (13 : Nat) "ErrataPressModel" "kept" "[I") ∈ gtb := List.mem_filter.mpr ⟨List.mem_of_getElem? (i := 1100) (by decide +kernel), by decide +kernel⟩
theorem ff_X6_13 : FF RX6 13 19 1 := ⟨RX6, TX6, 21, rfl, inG6, by decide, rfl, w_1028⟩
theorem w_1116 : (Jvm.Cond.code ({ cls := "ErrataPressModel", name := "copies", desc := "([II[II)V" } : Jvm.MethodName) prog_8_method_8_code (5 : Nat) (Option.none : Option Jvm.ClassFile.FieldType)) ∈ gtb := List.mem_filter.mpr ⟨List.mem_of_getElem? (i := 1188) (by decide +kernel), by decide +kernel⟩
theorem w_7 : (Jvm.Cond.initialized "ErrataPressModel") ∈ gtb := List.mem_filter.mpr ⟨List.mem_of_getElem? (i := 79) (by decide +kernel), by decide +kernel⟩
theorem k_X6_copies : CF0 M_X6_copies 4 := ⟨rfl, w_1116, w_7, ⟨by decide +kernel, by decide +kernel, by decide +kernel⟩, by decide +kernel, by decide +kernel, rfl, rfl, rfl⟩
theorem w_1114 : (Jvm.Cond.methodLink "ErrataPressModel" (61 : Nat) ({ cls := "ErrataPressModel", name := "copies", desc := "([II[II)V" } : Jvm.MethodName)) ∈ gtb := List.mem_filter.mpr ⟨List.mem_of_getElem? (i := 1186) (by decide +kernel), by decide +kernel⟩
theorem w_1115 : (Jvm.Cond.static ({ cls := "ErrataPressModel", name := "copies", desc := "([II[II)V" } : Jvm.MethodName)) ∈ gtb := List.mem_filter.mpr ⟨List.mem_of_getElem? (i := 1187) (by decide +kernel), by decide +kernel⟩
theorem cs_X6_61 : CFS RX6 61 M_X6_copies 4 := ⟨k_X6_copies, w_1114, w_1115⟩
theorem fp_X6_58 : FP2 RX6 58 19 5 .int := ⟨RX6, TX6, 21, tyX6, rfl, inG6, by decide, rfl, w_1032, tyX6_ok, nmX6, rfl, rfl, rfl⟩
def M_X6_keeps : MI := (yX6_keeps, cX6_keeps, 3, none, 3, 0, 0, 0, [])
theorem w_1027 : (Jvm.Cond.fieldLink "ErrataPressModel" (7 : Nat) "ErrataPressModel" "g" "[I") ∈ gtb := List.mem_filter.mpr ⟨List.mem_of_getElem? (i := 1099) (by decide +kernel), by decide +kernel⟩
theorem ff_X6_7 : FF RX6 7 19 0 := ⟨RX6, TX6, 21, rfl, inG6, by decide, rfl, w_1027⟩
def M_X6_by : MI := (yX6_by, cX6_by, 3, some .int, 2, 0, 0, 0, [])
def M_X6_adds : MI := (yX6_adds, cX6_adds, 4, none, 2, 0, 0, 0, [])
theorem w_1175 : (Jvm.Cond.code ({ cls := "ErrataPressModel", name := "by", desc := "(II)I" } : Jvm.MethodName) prog_8_method_10_code (3 : Nat) (Option.some Jvm.ClassFile.FieldType.int)) ∈ gtb := List.mem_filter.mpr ⟨List.mem_of_getElem? (i := 1247) (by decide +kernel), by decide +kernel⟩
theorem k_X6_by : CF0 M_X6_by 2 := ⟨rfl, w_1175, w_7, ⟨by decide +kernel, by decide +kernel, by decide +kernel⟩, by decide +kernel, by decide +kernel, rfl, rfl, rfl⟩
theorem w_1172 : (Jvm.Cond.methodLink "ErrataPressModel" (65 : Nat) ({ cls := "ErrataPressModel", name := "by", desc := "(II)I" } : Jvm.MethodName)) ∈ gtb := List.mem_filter.mpr ⟨List.mem_of_getElem? (i := 1244) (by decide +kernel), by decide +kernel⟩
theorem w_1174 : (Jvm.Cond.instanceMethod ({ cls := "ErrataPressModel", name := "by", desc := "(II)I" } : Jvm.MethodName)) ∈ gtb := List.mem_filter.mpr ⟨List.mem_of_getElem? (i := 1246) (by decide +kernel), by decide +kernel⟩
theorem sel_X6_by : Cond.selects "ErrataPressModel" ({ cls := "ErrataPressModel", name := "by", desc := "(II)I" } : Jvm.MethodName) ({ cls := "ErrataPressModel", name := "by", desc := "(II)I" } : Jvm.MethodName) ∈ gtb := List.mem_filter.mpr ⟨List.mem_of_getElem? (i := 43) (by decide +kernel), by decide +kernel⟩
theorem cv_X6_65 : CFV RX6 65 19 M_X6_by 2 := ⟨k_X6_by, w_1172, w_1174, sel_X6_by, rfl, _, rfl, rfl⟩
theorem w_1217 : (Jvm.Cond.code ({ cls := "ErrataPressModel", name := "atMost", desc := "(II)I" } : Jvm.MethodName) prog_8_method_6_code (2 : Nat) (Option.some Jvm.ClassFile.FieldType.int)) ∈ gtb := List.mem_filter.mpr ⟨List.mem_of_getElem? (i := 1289) (by decide +kernel), by decide +kernel⟩
theorem k_X6_atMost : CF0 M_X6_atMost 2 := ⟨rfl, w_1217, w_7, ⟨by decide +kernel, by decide +kernel, by decide +kernel⟩, by decide +kernel, by decide +kernel, rfl, rfl, rfl⟩
theorem w_1215 : (Jvm.Cond.methodLink "ErrataPressModel" (69 : Nat) ({ cls := "ErrataPressModel", name := "atMost", desc := "(II)I" } : Jvm.MethodName)) ∈ gtb := List.mem_filter.mpr ⟨List.mem_of_getElem? (i := 1287) (by decide +kernel), by decide +kernel⟩
theorem w_1216 : (Jvm.Cond.static ({ cls := "ErrataPressModel", name := "atMost", desc := "(II)I" } : Jvm.MethodName)) ∈ gtb := List.mem_filter.mpr ⟨List.mem_of_getElem? (i := 1288) (by decide +kernel), by decide +kernel⟩
theorem cs_X6_69 : CFS RX6 69 M_X6_atMost 2 := ⟨k_X6_atMost, w_1215, w_1216⟩
def M_X6_gets : MI := (yX6_gets, cX6_gets, 4, none, 3, 0, 0, 0, [])
def M_X6_of : MI := (yX6_of, cX6_of, 3, some .int, 2, 0, 0, 0, [])
def M_X6_lays : MI := (yX6_lays, cX6_lays, 4, none, 2, 0, 0, 0, [])
theorem w_1101 : (Jvm.Cond.code ({ cls := "ErrataPressModel", name := "in", desc := "(III)Z" } : Jvm.MethodName) prog_8_method_5_code (3 : Nat) (Option.some Jvm.ClassFile.FieldType.boolean)) ∈ gtb := List.mem_filter.mpr ⟨List.mem_of_getElem? (i := 1173) (by decide +kernel), by decide +kernel⟩
theorem k_X6_in : CF0 M_X6_in 3 := ⟨rfl, w_1101, w_7, ⟨by decide +kernel, by decide +kernel, by decide +kernel⟩, by decide +kernel, by decide +kernel, rfl, rfl, rfl⟩
theorem w_1099 : (Jvm.Cond.methodLink "ErrataPressModel" (72 : Nat) ({ cls := "ErrataPressModel", name := "in", desc := "(III)Z" } : Jvm.MethodName)) ∈ gtb := List.mem_filter.mpr ⟨List.mem_of_getElem? (i := 1171) (by decide +kernel), by decide +kernel⟩
theorem w_1100 : (Jvm.Cond.static ({ cls := "ErrataPressModel", name := "in", desc := "(III)Z" } : Jvm.MethodName)) ∈ gtb := List.mem_filter.mpr ⟨List.mem_of_getElem? (i := 1172) (by decide +kernel), by decide +kernel⟩
theorem cs_X6_72 : CFS RX6 72 M_X6_in 3 := ⟨k_X6_in, w_1099, w_1100⟩
def M_X6_isHouse : MI := (yX6_isHouse, cX6_isHouse, 2, some .boolean, 3, 0, 0, 0, [])
def M_X6_isSheet : MI := (yX6_isSheet, cX6_isSheet, 2, some .boolean, 3, 0, 0, 0, [])
theorem w_1143 : (Jvm.Cond.code ({ cls := "ErrataPressModel", name := "isSheet", desc := "(I)Z" } : Jvm.MethodName) prog_8_method_16_code (2 : Nat) (Option.some Jvm.ClassFile.FieldType.boolean)) ∈ gtb := List.mem_filter.mpr ⟨List.mem_of_getElem? (i := 1215) (by decide +kernel), by decide +kernel⟩
theorem k_X6_isSheet : CF0 M_X6_isSheet 1 := ⟨rfl, w_1143, w_7, ⟨by decide +kernel, by decide +kernel, by decide +kernel⟩, by decide +kernel, by decide +kernel, rfl, rfl, rfl⟩
theorem w_1140 : (Jvm.Cond.methodLink "ErrataPressModel" (76 : Nat) ({ cls := "ErrataPressModel", name := "isSheet", desc := "(I)Z" } : Jvm.MethodName)) ∈ gtb := List.mem_filter.mpr ⟨List.mem_of_getElem? (i := 1212) (by decide +kernel), by decide +kernel⟩
theorem w_1142 : (Jvm.Cond.instanceMethod ({ cls := "ErrataPressModel", name := "isSheet", desc := "(I)Z" } : Jvm.MethodName)) ∈ gtb := List.mem_filter.mpr ⟨List.mem_of_getElem? (i := 1214) (by decide +kernel), by decide +kernel⟩
theorem sel_X6_isSheet : Cond.selects "ErrataPressModel" ({ cls := "ErrataPressModel", name := "isSheet", desc := "(I)Z" } : Jvm.MethodName) ({ cls := "ErrataPressModel", name := "isSheet", desc := "(I)Z" } : Jvm.MethodName) ∈ gtb := List.mem_filter.mpr ⟨List.mem_of_getElem? (i := 37) (by decide +kernel), by decide +kernel⟩
theorem cv_X6_76 : CFV RX6 76 19 M_X6_isSheet 1 := ⟨k_X6_isSheet, w_1140, w_1142, sel_X6_isSheet, rfl, _, rfl, rfl⟩
theorem w_1155 : (Jvm.Cond.code ({ cls := "ErrataPressModel", name := "of", desc := "(II)I" } : Jvm.MethodName) prog_8_method_13_code (3 : Nat) (Option.some Jvm.ClassFile.FieldType.int)) ∈ gtb := List.mem_filter.mpr ⟨List.mem_of_getElem? (i := 1227) (by decide +kernel), by decide +kernel⟩
theorem k_X6_of : CF0 M_X6_of 2 := ⟨rfl, w_1155, w_7, ⟨by decide +kernel, by decide +kernel, by decide +kernel⟩, by decide +kernel, by decide +kernel, rfl, rfl, rfl⟩
theorem w_1152 : (Jvm.Cond.methodLink "ErrataPressModel" (80 : Nat) ({ cls := "ErrataPressModel", name := "of", desc := "(II)I" } : Jvm.MethodName)) ∈ gtb := List.mem_filter.mpr ⟨List.mem_of_getElem? (i := 1224) (by decide +kernel), by decide +kernel⟩
theorem w_1154 : (Jvm.Cond.instanceMethod ({ cls := "ErrataPressModel", name := "of", desc := "(II)I" } : Jvm.MethodName)) ∈ gtb := List.mem_filter.mpr ⟨List.mem_of_getElem? (i := 1226) (by decide +kernel), by decide +kernel⟩
theorem sel_X6_of : Cond.selects "ErrataPressModel" ({ cls := "ErrataPressModel", name := "of", desc := "(II)I" } : Jvm.MethodName) ({ cls := "ErrataPressModel", name := "of", desc := "(II)I" } : Jvm.MethodName) ∈ gtb := List.mem_filter.mpr ⟨List.mem_of_getElem? (i := 39) (by decide +kernel), by decide +kernel⟩
theorem cv_X6_80 : CFV RX6 80 19 M_X6_of 2 := ⟨k_X6_of, w_1152, w_1154, sel_X6_of, rfl, _, rfl, rfl⟩
def M_X6_isPlace : MI := (yX6_isPlace, cX6_isPlace, 3, some .boolean, 4, 0, 0, 0, [])
def M_X6_mark : MI := (yX6_mark, cX6_mark, 3, some .int, 3, 0, 0, 0, [])
theorem w_1198 : (Jvm.Cond.code ({ cls := "ErrataPressModel", name := "apart", desc := "(II)I" } : Jvm.MethodName) prog_8_method_7_code (2 : Nat) (Option.some Jvm.ClassFile.FieldType.int)) ∈ gtb := List.mem_filter.mpr ⟨List.mem_of_getElem? (i := 1270) (by decide +kernel), by decide +kernel⟩
theorem k_X6_apart : CF0 M_X6_apart 2 := ⟨rfl, w_1198, w_7, ⟨by decide +kernel, by decide +kernel, by decide +kernel⟩, by decide +kernel, by decide +kernel, rfl, rfl, rfl⟩
theorem w_1196 : (Jvm.Cond.methodLink "ErrataPressModel" (83 : Nat) ({ cls := "ErrataPressModel", name := "apart", desc := "(II)I" } : Jvm.MethodName)) ∈ gtb := List.mem_filter.mpr ⟨List.mem_of_getElem? (i := 1268) (by decide +kernel), by decide +kernel⟩
theorem w_1197 : (Jvm.Cond.static ({ cls := "ErrataPressModel", name := "apart", desc := "(II)I" } : Jvm.MethodName)) ∈ gtb := List.mem_filter.mpr ⟨List.mem_of_getElem? (i := 1269) (by decide +kernel), by decide +kernel⟩
theorem cs_X6_83 : CFS RX6 83 M_X6_apart 2 := ⟨k_X6_apart, w_1196, w_1197⟩
def M_X6_bad : MI := (yX6_bad, cX6_bad, 3, some .int, 3, 0, 0, 0, [])
theorem w_1105 : (Jvm.Cond.code ({ cls := "ErrataPressModel", name := "fails", desc := "(I)Z" } : Jvm.MethodName) prog_8_method_3_code (2 : Nat) (Option.some Jvm.ClassFile.FieldType.boolean)) ∈ gtb := List.mem_filter.mpr ⟨List.mem_of_getElem? (i := 1177) (by decide +kernel), by decide +kernel⟩
theorem k_X6_fails : CF0 M_X6_fails 1 := ⟨rfl, w_1105, w_7, ⟨by decide +kernel, by decide +kernel, by decide +kernel⟩, by decide +kernel, by decide +kernel, rfl, rfl, rfl⟩
theorem w_1102 : (Jvm.Cond.methodLink "ErrataPressModel" (86 : Nat) ({ cls := "ErrataPressModel", name := "fails", desc := "(I)Z" } : Jvm.MethodName)) ∈ gtb := List.mem_filter.mpr ⟨List.mem_of_getElem? (i := 1174) (by decide +kernel), by decide +kernel⟩
theorem w_1104 : (Jvm.Cond.instanceMethod ({ cls := "ErrataPressModel", name := "fails", desc := "(I)Z" } : Jvm.MethodName)) ∈ gtb := List.mem_filter.mpr ⟨List.mem_of_getElem? (i := 1176) (by decide +kernel), by decide +kernel⟩
theorem sel_X6_fails : Cond.selects "ErrataPressModel" ({ cls := "ErrataPressModel", name := "fails", desc := "(I)Z" } : Jvm.MethodName) ({ cls := "ErrataPressModel", name := "fails", desc := "(I)Z" } : Jvm.MethodName) ∈ gtb := List.mem_filter.mpr ⟨List.mem_of_getElem? (i := 31) (by decide +kernel), by decide +kernel⟩
theorem cv_X6_86 : CFV RX6 86 19 M_X6_fails 1 := ⟨k_X6_fails, w_1102, w_1104, sel_X6_fails, rfl, _, rfl, rfl⟩
theorem w_1113 : (Jvm.Cond.code ({ cls := "ErrataPressModel", name := "keeps", desc := "([I)V" } : Jvm.MethodName) prog_8_method_9_code (3 : Nat) (Option.none : Option Jvm.ClassFile.FieldType)) ∈ gtb := List.mem_filter.mpr ⟨List.mem_of_getElem? (i := 1185) (by decide +kernel), by decide +kernel⟩
theorem k_X6_keeps : CF0 M_X6_keeps 1 := ⟨rfl, w_1113, w_7, ⟨by decide +kernel, by decide +kernel, by decide +kernel⟩, by decide +kernel, by decide +kernel, rfl, rfl, rfl⟩
theorem w_1110 : (Jvm.Cond.methodLink "ErrataPressModel" (93 : Nat) ({ cls := "ErrataPressModel", name := "keeps", desc := "([I)V" } : Jvm.MethodName)) ∈ gtb := List.mem_filter.mpr ⟨List.mem_of_getElem? (i := 1182) (by decide +kernel), by decide +kernel⟩
theorem w_1112 : (Jvm.Cond.instanceMethod ({ cls := "ErrataPressModel", name := "keeps", desc := "([I)V" } : Jvm.MethodName)) ∈ gtb := List.mem_filter.mpr ⟨List.mem_of_getElem? (i := 1184) (by decide +kernel), by decide +kernel⟩
theorem sel_X6_keeps : Cond.selects "ErrataPressModel" ({ cls := "ErrataPressModel", name := "keeps", desc := "([I)V" } : Jvm.MethodName) ({ cls := "ErrataPressModel", name := "keeps", desc := "([I)V" } : Jvm.MethodName) ∈ gtb := List.mem_filter.mpr ⟨List.mem_of_getElem? (i := 33) (by decide +kernel), by decide +kernel⟩
theorem cv_X6_93 : CFV RX6 93 19 M_X6_keeps 1 := ⟨k_X6_keeps, w_1110, w_1112, sel_X6_keeps, rfl, _, rfl, rfl⟩
theorem w_1109 : (Jvm.Cond.code ({ cls := "ErrataPressModel", name := "refuses", desc := "(III)I" } : Jvm.MethodName) prog_8_method_4_code (4 : Nat) (Option.some Jvm.ClassFile.FieldType.int)) ∈ gtb := List.mem_filter.mpr ⟨List.mem_of_getElem? (i := 1181) (by decide +kernel), by decide +kernel⟩
theorem k_X6_refuses : CF0 M_X6_refuses 3 := ⟨rfl, w_1109, w_7, ⟨by decide +kernel, by decide +kernel, by decide +kernel⟩, by decide +kernel, by decide +kernel, rfl, rfl, rfl⟩
theorem w_1106 : (Jvm.Cond.methodLink "ErrataPressModel" (89 : Nat) ({ cls := "ErrataPressModel", name := "refuses", desc := "(III)I" } : Jvm.MethodName)) ∈ gtb := List.mem_filter.mpr ⟨List.mem_of_getElem? (i := 1178) (by decide +kernel), by decide +kernel⟩
theorem w_1108 : (Jvm.Cond.instanceMethod ({ cls := "ErrataPressModel", name := "refuses", desc := "(III)I" } : Jvm.MethodName)) ∈ gtb := List.mem_filter.mpr ⟨List.mem_of_getElem? (i := 1180) (by decide +kernel), by decide +kernel⟩
theorem sel_X6_refuses : Cond.selects "ErrataPressModel" ({ cls := "ErrataPressModel", name := "refuses", desc := "(III)I" } : Jvm.MethodName) ({ cls := "ErrataPressModel", name := "refuses", desc := "(III)I" } : Jvm.MethodName) ∈ gtb := List.mem_filter.mpr ⟨List.mem_of_getElem? (i := 32) (by decide +kernel), by decide +kernel⟩
theorem cv_X6_89 : CFV RX6 89 19 M_X6_refuses 3 := ⟨k_X6_refuses, w_1106, w_1108, sel_X6_refuses, rfl, _, rfl, rfl⟩
theorem w_1120 : (Jvm.Cond.code ({ cls := "ErrataPressModel", name := "adds", desc := "(III)V" } : Jvm.MethodName) prog_8_method_11_code (4 : Nat) (Option.none : Option Jvm.ClassFile.FieldType)) ∈ gtb := List.mem_filter.mpr ⟨List.mem_of_getElem? (i := 1192) (by decide +kernel), by decide +kernel⟩
theorem k_X6_adds : CF0 M_X6_adds 3 := ⟨rfl, w_1120, w_7, ⟨by decide +kernel, by decide +kernel, by decide +kernel⟩, by decide +kernel, by decide +kernel, rfl, rfl, rfl⟩
theorem w_1117 : (Jvm.Cond.methodLink "ErrataPressModel" (97 : Nat) ({ cls := "ErrataPressModel", name := "adds", desc := "(III)V" } : Jvm.MethodName)) ∈ gtb := List.mem_filter.mpr ⟨List.mem_of_getElem? (i := 1189) (by decide +kernel), by decide +kernel⟩
theorem w_1119 : (Jvm.Cond.instanceMethod ({ cls := "ErrataPressModel", name := "adds", desc := "(III)V" } : Jvm.MethodName)) ∈ gtb := List.mem_filter.mpr ⟨List.mem_of_getElem? (i := 1191) (by decide +kernel), by decide +kernel⟩
theorem sel_X6_adds : Cond.selects "ErrataPressModel" ({ cls := "ErrataPressModel", name := "adds", desc := "(III)V" } : Jvm.MethodName) ({ cls := "ErrataPressModel", name := "adds", desc := "(III)V" } : Jvm.MethodName) ∈ gtb := List.mem_filter.mpr ⟨List.mem_of_getElem? (i := 34) (by decide +kernel), by decide +kernel⟩
theorem cv_X6_97 : CFV RX6 97 19 M_X6_adds 3 := ⟨k_X6_adds, w_1117, w_1119, sel_X6_adds, rfl, _, rfl, rfl⟩
def M_X6_house : MI := (yX6_house, cX6_house, 4, some .int, 4, 0, 0, 0, [])
def M_X6_letters : MI := (yX6_letters, cX6_letters, 3, some .int, 3, 0, 0, 0, [])
theorem w_1128 : (Jvm.Cond.code ({ cls := "ErrataPressModel", name := "isHouse", desc := "(I)Z" } : Jvm.MethodName) prog_8_method_15_code (2 : Nat) (Option.some Jvm.ClassFile.FieldType.boolean)) ∈ gtb := List.mem_filter.mpr ⟨List.mem_of_getElem? (i := 1200) (by decide +kernel), by decide +kernel⟩
theorem k_X6_isHouse : CF0 M_X6_isHouse 1 := ⟨rfl, w_1128, w_7, ⟨by decide +kernel, by decide +kernel, by decide +kernel⟩, by decide +kernel, by decide +kernel, rfl, rfl, rfl⟩
theorem w_1125 : (Jvm.Cond.methodLink "ErrataPressModel" (101 : Nat) ({ cls := "ErrataPressModel", name := "isHouse", desc := "(I)Z" } : Jvm.MethodName)) ∈ gtb := List.mem_filter.mpr ⟨List.mem_of_getElem? (i := 1197) (by decide +kernel), by decide +kernel⟩
theorem w_1127 : (Jvm.Cond.instanceMethod ({ cls := "ErrataPressModel", name := "isHouse", desc := "(I)Z" } : Jvm.MethodName)) ∈ gtb := List.mem_filter.mpr ⟨List.mem_of_getElem? (i := 1199) (by decide +kernel), by decide +kernel⟩
theorem sel_X6_isHouse : Cond.selects "ErrataPressModel" ({ cls := "ErrataPressModel", name := "isHouse", desc := "(I)Z" } : Jvm.MethodName) ({ cls := "ErrataPressModel", name := "isHouse", desc := "(I)Z" } : Jvm.MethodName) ∈ gtb := List.mem_filter.mpr ⟨List.mem_of_getElem? (i := 35) (by decide +kernel), by decide +kernel⟩
theorem cv_X6_101 : CFV RX6 101 19 M_X6_isHouse 1 := ⟨k_X6_isHouse, w_1125, w_1127, sel_X6_isHouse, rfl, _, rfl, rfl⟩
theorem w_1131 : (Jvm.Cond.code ({ cls := "ErrataPressModel", name := "letters", desc := "(I)I" } : Jvm.MethodName) prog_8_method_21_code (3 : Nat) (Option.some Jvm.ClassFile.FieldType.int)) ∈ gtb := List.mem_filter.mpr ⟨List.mem_of_getElem? (i := 1203) (by decide +kernel), by decide +kernel⟩
theorem k_X6_letters : CF0 M_X6_letters 1 := ⟨rfl, w_1131, w_7, ⟨by decide +kernel, by decide +kernel, by decide +kernel⟩, by decide +kernel, by decide +kernel, rfl, rfl, rfl⟩
theorem w_1129 : (Jvm.Cond.methodLink "ErrataPressModel" (104 : Nat) ({ cls := "ErrataPressModel", name := "letters", desc := "(I)I" } : Jvm.MethodName)) ∈ gtb := List.mem_filter.mpr ⟨List.mem_of_getElem? (i := 1201) (by decide +kernel), by decide +kernel⟩
theorem w_1130 : (Jvm.Cond.static ({ cls := "ErrataPressModel", name := "letters", desc := "(I)I" } : Jvm.MethodName)) ∈ gtb := List.mem_filter.mpr ⟨List.mem_of_getElem? (i := 1202) (by decide +kernel), by decide +kernel⟩
theorem cs_X6_104 : CFS RX6 104 M_X6_letters 1 := ⟨k_X6_letters, w_1129, w_1130⟩
theorem w_1135 : (Jvm.Cond.code ({ cls := "ErrataPressModel", name := "lays", desc := "(III)V" } : Jvm.MethodName) prog_8_method_14_code (4 : Nat) (Option.none : Option Jvm.ClassFile.FieldType)) ∈ gtb := List.mem_filter.mpr ⟨List.mem_of_getElem? (i := 1207) (by decide +kernel), by decide +kernel⟩
theorem k_X6_lays : CF0 M_X6_lays 3 := ⟨rfl, w_1135, w_7, ⟨by decide +kernel, by decide +kernel, by decide +kernel⟩, by decide +kernel, by decide +kernel, rfl, rfl, rfl⟩
theorem w_1132 : (Jvm.Cond.methodLink "ErrataPressModel" (108 : Nat) ({ cls := "ErrataPressModel", name := "lays", desc := "(III)V" } : Jvm.MethodName)) ∈ gtb := List.mem_filter.mpr ⟨List.mem_of_getElem? (i := 1204) (by decide +kernel), by decide +kernel⟩
theorem w_1134 : (Jvm.Cond.instanceMethod ({ cls := "ErrataPressModel", name := "lays", desc := "(III)V" } : Jvm.MethodName)) ∈ gtb := List.mem_filter.mpr ⟨List.mem_of_getElem? (i := 1206) (by decide +kernel), by decide +kernel⟩
theorem sel_X6_lays : Cond.selects "ErrataPressModel" ({ cls := "ErrataPressModel", name := "lays", desc := "(III)V" } : Jvm.MethodName) ({ cls := "ErrataPressModel", name := "lays", desc := "(III)V" } : Jvm.MethodName) ∈ gtb := List.mem_filter.mpr ⟨List.mem_of_getElem? (i := 36) (by decide +kernel), by decide +kernel⟩
theorem cv_X6_108 : CFV RX6 108 19 M_X6_lays 3 := ⟨k_X6_lays, w_1132, w_1134, sel_X6_lays, rfl, _, rfl, rfl⟩
def M_X6_sheet : MI := (yX6_sheet, cX6_sheet, 6, some .int, 4, 0, 0, 0, [])
def M_X6_take : MI := (yX6_take, cX6_take, 3, some .int, 4, 0, 0, 0, [])
theorem w_1163 : (Jvm.Cond.code ({ cls := "ErrataPressModel", name := "mark", desc := "(II)I" } : Jvm.MethodName) prog_8_method_18_code (3 : Nat) (Option.some Jvm.ClassFile.FieldType.int)) ∈ gtb := List.mem_filter.mpr ⟨List.mem_of_getElem? (i := 1235) (by decide +kernel), by decide +kernel⟩
theorem k_X6_mark : CF0 M_X6_mark 2 := ⟨rfl, w_1163, w_7, ⟨by decide +kernel, by decide +kernel, by decide +kernel⟩, by decide +kernel, by decide +kernel, rfl, rfl, rfl⟩
theorem w_1160 : (Jvm.Cond.methodLink "ErrataPressModel" (111 : Nat) ({ cls := "ErrataPressModel", name := "mark", desc := "(II)I" } : Jvm.MethodName)) ∈ gtb := List.mem_filter.mpr ⟨List.mem_of_getElem? (i := 1232) (by decide +kernel), by decide +kernel⟩
theorem w_1162 : (Jvm.Cond.instanceMethod ({ cls := "ErrataPressModel", name := "mark", desc := "(II)I" } : Jvm.MethodName)) ∈ gtb := List.mem_filter.mpr ⟨List.mem_of_getElem? (i := 1234) (by decide +kernel), by decide +kernel⟩
theorem sel_X6_mark : Cond.selects "ErrataPressModel" ({ cls := "ErrataPressModel", name := "mark", desc := "(II)I" } : Jvm.MethodName) ({ cls := "ErrataPressModel", name := "mark", desc := "(II)I" } : Jvm.MethodName) ∈ gtb := List.mem_filter.mpr ⟨List.mem_of_getElem? (i := 41) (by decide +kernel), by decide +kernel⟩
theorem cv_X6_111 : CFV RX6 111 19 M_X6_mark 2 := ⟨k_X6_mark, w_1160, w_1162, sel_X6_mark, rfl, _, rfl, rfl⟩
def M_X6_misprints : MI := (yX6_misprints, cX6_misprints, 5, some .int, 4, 0, 0, 0, [])
theorem w_1151 : (Jvm.Cond.code ({ cls := "ErrataPressModel", name := "isPlace", desc := "(II)Z" } : Jvm.MethodName) prog_8_method_17_code (3 : Nat) (Option.some Jvm.ClassFile.FieldType.boolean)) ∈ gtb := List.mem_filter.mpr ⟨List.mem_of_getElem? (i := 1223) (by decide +kernel), by decide +kernel⟩
theorem k_X6_isPlace : CF0 M_X6_isPlace 2 := ⟨rfl, w_1151, w_7, ⟨by decide +kernel, by decide +kernel, by decide +kernel⟩, by decide +kernel, by decide +kernel, rfl, rfl, rfl⟩
theorem w_1148 : (Jvm.Cond.methodLink "ErrataPressModel" (114 : Nat) ({ cls := "ErrataPressModel", name := "isPlace", desc := "(II)Z" } : Jvm.MethodName)) ∈ gtb := List.mem_filter.mpr ⟨List.mem_of_getElem? (i := 1220) (by decide +kernel), by decide +kernel⟩
theorem w_1150 : (Jvm.Cond.instanceMethod ({ cls := "ErrataPressModel", name := "isPlace", desc := "(II)Z" } : Jvm.MethodName)) ∈ gtb := List.mem_filter.mpr ⟨List.mem_of_getElem? (i := 1222) (by decide +kernel), by decide +kernel⟩
theorem sel_X6_isPlace : Cond.selects "ErrataPressModel" ({ cls := "ErrataPressModel", name := "isPlace", desc := "(II)Z" } : Jvm.MethodName) ({ cls := "ErrataPressModel", name := "isPlace", desc := "(II)Z" } : Jvm.MethodName) ∈ gtb := List.mem_filter.mpr ⟨List.mem_of_getElem? (i := 38) (by decide +kernel), by decide +kernel⟩
theorem cv_X6_114 : CFV RX6 114 19 M_X6_isPlace 2 := ⟨k_X6_isPlace, w_1148, w_1150, sel_X6_isPlace, rfl, _, rfl, rfl⟩
theorem w_1159 : (Jvm.Cond.code ({ cls := "ErrataPressModel", name := "misprints", desc := "(II)I" } : Jvm.MethodName) prog_8_method_24_code (5 : Nat) (Option.some Jvm.ClassFile.FieldType.int)) ∈ gtb := List.mem_filter.mpr ⟨List.mem_of_getElem? (i := 1231) (by decide +kernel), by decide +kernel⟩
theorem k_X6_misprints : CF0 M_X6_misprints 2 := ⟨rfl, w_1159, w_7, ⟨by decide +kernel, by decide +kernel, by decide +kernel⟩, by decide +kernel, by decide +kernel, rfl, rfl, rfl⟩
theorem w_1156 : (Jvm.Cond.methodLink "ErrataPressModel" (118 : Nat) ({ cls := "ErrataPressModel", name := "misprints", desc := "(II)I" } : Jvm.MethodName)) ∈ gtb := List.mem_filter.mpr ⟨List.mem_of_getElem? (i := 1228) (by decide +kernel), by decide +kernel⟩
theorem w_1158 : (Jvm.Cond.instanceMethod ({ cls := "ErrataPressModel", name := "misprints", desc := "(II)I" } : Jvm.MethodName)) ∈ gtb := List.mem_filter.mpr ⟨List.mem_of_getElem? (i := 1230) (by decide +kernel), by decide +kernel⟩
theorem sel_X6_misprints : Cond.selects "ErrataPressModel" ({ cls := "ErrataPressModel", name := "misprints", desc := "(II)I" } : Jvm.MethodName) ({ cls := "ErrataPressModel", name := "misprints", desc := "(II)I" } : Jvm.MethodName) ∈ gtb := List.mem_filter.mpr ⟨List.mem_of_getElem? (i := 40) (by decide +kernel), by decide +kernel⟩
theorem cv_X6_118 : CFV RX6 118 19 M_X6_misprints 2 := ⟨k_X6_misprints, w_1156, w_1158, sel_X6_misprints, rfl, _, rfl, rfl⟩
def M_X6_set : MI := (yX6_set, cX6_set, 5, some .int, 5, 0, 0, 0, [])
def M_X6_ofHouse : MI := (yX6_ofHouse, cX6_ofHouse, 5, some .int, 5, 0, 0, 0, [])
theorem w_1183 : (Jvm.Cond.code ({ cls := "ErrataPressModel", name := "ofHouse", desc := "(II)I" } : Jvm.MethodName) prog_8_method_26_code (5 : Nat) (Option.some Jvm.ClassFile.FieldType.int)) ∈ gtb := List.mem_filter.mpr ⟨List.mem_of_getElem? (i := 1255) (by decide +kernel), by decide +kernel⟩
theorem k_X6_ofHouse : CF0 M_X6_ofHouse 2 := ⟨rfl, w_1183, w_7, ⟨by decide +kernel, by decide +kernel, by decide +kernel⟩, by decide +kernel, by decide +kernel, rfl, rfl, rfl⟩
theorem w_1180 : (Jvm.Cond.methodLink "ErrataPressModel" (121 : Nat) ({ cls := "ErrataPressModel", name := "ofHouse", desc := "(II)I" } : Jvm.MethodName)) ∈ gtb := List.mem_filter.mpr ⟨List.mem_of_getElem? (i := 1252) (by decide +kernel), by decide +kernel⟩
theorem w_1182 : (Jvm.Cond.instanceMethod ({ cls := "ErrataPressModel", name := "ofHouse", desc := "(II)I" } : Jvm.MethodName)) ∈ gtb := List.mem_filter.mpr ⟨List.mem_of_getElem? (i := 1254) (by decide +kernel), by decide +kernel⟩
theorem sel_X6_ofHouse : Cond.selects "ErrataPressModel" ({ cls := "ErrataPressModel", name := "ofHouse", desc := "(II)I" } : Jvm.MethodName) ({ cls := "ErrataPressModel", name := "ofHouse", desc := "(II)I" } : Jvm.MethodName) ∈ gtb := List.mem_filter.mpr ⟨List.mem_of_getElem? (i := 45) (by decide +kernel), by decide +kernel⟩
theorem cv_X6_121 : CFV RX6 121 19 M_X6_ofHouse 2 := ⟨k_X6_ofHouse, w_1180, w_1182, sel_X6_ofHouse, rfl, _, rfl, rfl⟩
def M_X6_price : MI := (yX6_price, cX6_price, 2, some .int, 6, 0, 0, 0, [])
def M_X6_isAshamed : MI := (yX6_isAshamed, cX6_isAshamed, 2, some .boolean, 3, 0, 0, 0, [])
theorem w_1171 : (Jvm.Cond.code ({ cls := "ErrataPressModel", name := "isAshamed", desc := "(I)Z" } : Jvm.MethodName) prog_8_method_28_code (2 : Nat) (Option.some Jvm.ClassFile.FieldType.boolean)) ∈ gtb := List.mem_filter.mpr ⟨List.mem_of_getElem? (i := 1243) (by decide +kernel), by decide +kernel⟩
theorem k_X6_isAshamed : CF0 M_X6_isAshamed 1 := ⟨rfl, w_1171, w_7, ⟨by decide +kernel, by decide +kernel, by decide +kernel⟩, by decide +kernel, by decide +kernel, rfl, rfl, rfl⟩
theorem w_1168 : (Jvm.Cond.methodLink "ErrataPressModel" (124 : Nat) ({ cls := "ErrataPressModel", name := "isAshamed", desc := "(I)Z" } : Jvm.MethodName)) ∈ gtb := List.mem_filter.mpr ⟨List.mem_of_getElem? (i := 1240) (by decide +kernel), by decide +kernel⟩
theorem w_1170 : (Jvm.Cond.instanceMethod ({ cls := "ErrataPressModel", name := "isAshamed", desc := "(I)Z" } : Jvm.MethodName)) ∈ gtb := List.mem_filter.mpr ⟨List.mem_of_getElem? (i := 1242) (by decide +kernel), by decide +kernel⟩
theorem sel_X6_isAshamed : Cond.selects "ErrataPressModel" ({ cls := "ErrataPressModel", name := "isAshamed", desc := "(I)Z" } : Jvm.MethodName) ({ cls := "ErrataPressModel", name := "isAshamed", desc := "(I)Z" } : Jvm.MethodName) ∈ gtb := List.mem_filter.mpr ⟨List.mem_of_getElem? (i := 42) (by decide +kernel), by decide +kernel⟩
theorem cv_X6_124 : CFV RX6 124 19 M_X6_isAshamed 1 := ⟨k_X6_isAshamed, w_1168, w_1170, sel_X6_isAshamed, rfl, _, rfl, rfl⟩
theorem w_1179 : (Jvm.Cond.code ({ cls := "ErrataPressModel", name := "price", desc := "(I)I" } : Jvm.MethodName) prog_8_method_27_code (2 : Nat) (Option.some Jvm.ClassFile.FieldType.int)) ∈ gtb := List.mem_filter.mpr ⟨List.mem_of_getElem? (i := 1251) (by decide +kernel), by decide +kernel⟩
theorem k_X6_price : CF0 M_X6_price 1 := ⟨rfl, w_1179, w_7, ⟨by decide +kernel, by decide +kernel, by decide +kernel⟩, by decide +kernel, by decide +kernel, rfl, rfl, rfl⟩
theorem w_1176 : (Jvm.Cond.methodLink "ErrataPressModel" (127 : Nat) ({ cls := "ErrataPressModel", name := "price", desc := "(I)I" } : Jvm.MethodName)) ∈ gtb := List.mem_filter.mpr ⟨List.mem_of_getElem? (i := 1248) (by decide +kernel), by decide +kernel⟩
theorem w_1178 : (Jvm.Cond.instanceMethod ({ cls := "ErrataPressModel", name := "price", desc := "(I)I" } : Jvm.MethodName)) ∈ gtb := List.mem_filter.mpr ⟨List.mem_of_getElem? (i := 1250) (by decide +kernel), by decide +kernel⟩
theorem sel_X6_price : Cond.selects "ErrataPressModel" ({ cls := "ErrataPressModel", name := "price", desc := "(I)I" } : Jvm.MethodName) ({ cls := "ErrataPressModel", name := "price", desc := "(I)I" } : Jvm.MethodName) ∈ gtb := List.mem_filter.mpr ⟨List.mem_of_getElem? (i := 44) (by decide +kernel), by decide +kernel⟩
theorem cv_X6_127 : CFV RX6 127 19 M_X6_price 1 := ⟨k_X6_price, w_1176, w_1178, sel_X6_price, rfl, _, rfl, rfl⟩
def M_X6_license : MI := (yX6_license, cX6_license, 5, some .int, 7, 0, 0, 0, [])
theorem w_1195 : (Jvm.Cond.code ({ cls := "ErrataPressModel", name := "bad", desc := "(II)I" } : Jvm.MethodName) prog_8_method_19_code (3 : Nat) (Option.some Jvm.ClassFile.FieldType.int)) ∈ gtb := List.mem_filter.mpr ⟨List.mem_of_getElem? (i := 1267) (by decide +kernel), by decide +kernel⟩
theorem k_X6_bad : CF0 M_X6_bad 2 := ⟨rfl, w_1195, w_7, ⟨by decide +kernel, by decide +kernel, by decide +kernel⟩, by decide +kernel, by decide +kernel, rfl, rfl, rfl⟩
theorem w_1192 : (Jvm.Cond.methodLink "ErrataPressModel" (130 : Nat) ({ cls := "ErrataPressModel", name := "bad", desc := "(II)I" } : Jvm.MethodName)) ∈ gtb := List.mem_filter.mpr ⟨List.mem_of_getElem? (i := 1264) (by decide +kernel), by decide +kernel⟩
theorem w_1194 : (Jvm.Cond.instanceMethod ({ cls := "ErrataPressModel", name := "bad", desc := "(II)I" } : Jvm.MethodName)) ∈ gtb := List.mem_filter.mpr ⟨List.mem_of_getElem? (i := 1266) (by decide +kernel), by decide +kernel⟩
theorem sel_X6_bad : Cond.selects "ErrataPressModel" ({ cls := "ErrataPressModel", name := "bad", desc := "(II)I" } : Jvm.MethodName) ({ cls := "ErrataPressModel", name := "bad", desc := "(II)I" } : Jvm.MethodName) ∈ gtb := List.mem_filter.mpr ⟨List.mem_of_getElem? (i := 47) (by decide +kernel), by decide +kernel⟩
theorem cv_X6_130 : CFV RX6 130 19 M_X6_bad 2 := ⟨k_X6_bad, w_1192, w_1194, sel_X6_bad, rfl, _, rfl, rfl⟩
def M_X6_fineAt : MI := (yX6_fineAt, cX6_fineAt, 4, some .int, 4, 0, 0, 0, [])
theorem w_1191 : (Jvm.Cond.code ({ cls := "ErrataPressModel", name := "fineAt", desc := "(II)I" } : Jvm.MethodName) prog_8_method_30_code (4 : Nat) (Option.some Jvm.ClassFile.FieldType.int)) ∈ gtb := List.mem_filter.mpr ⟨List.mem_of_getElem? (i := 1263) (by decide +kernel), by decide +kernel⟩
theorem k_X6_fineAt : CF0 M_X6_fineAt 2 := ⟨rfl, w_1191, w_7, ⟨by decide +kernel, by decide +kernel, by decide +kernel⟩, by decide +kernel, by decide +kernel, rfl, rfl, rfl⟩
theorem w_1188 : (Jvm.Cond.methodLink "ErrataPressModel" (133 : Nat) ({ cls := "ErrataPressModel", name := "fineAt", desc := "(II)I" } : Jvm.MethodName)) ∈ gtb := List.mem_filter.mpr ⟨List.mem_of_getElem? (i := 1260) (by decide +kernel), by decide +kernel⟩
theorem w_1190 : (Jvm.Cond.instanceMethod ({ cls := "ErrataPressModel", name := "fineAt", desc := "(II)I" } : Jvm.MethodName)) ∈ gtb := List.mem_filter.mpr ⟨List.mem_of_getElem? (i := 1262) (by decide +kernel), by decide +kernel⟩
theorem sel_X6_fineAt : Cond.selects "ErrataPressModel" ({ cls := "ErrataPressModel", name := "fineAt", desc := "(II)I" } : Jvm.MethodName) ({ cls := "ErrataPressModel", name := "fineAt", desc := "(II)I" } : Jvm.MethodName) ∈ gtb := List.mem_filter.mpr ⟨List.mem_of_getElem? (i := 46) (by decide +kernel), by decide +kernel⟩
theorem cv_X6_133 : CFV RX6 133 19 M_X6_fineAt 2 := ⟨k_X6_fineAt, w_1188, w_1190, sel_X6_fineAt, rfl, _, rfl, rfl⟩
def M_X6_correct : MI := (yX6_correct, cX6_correct, 5, some .int, 5, 0, 0, 0, [])
def M_X6_reader : MI := (yX6_reader, cX6_reader, 3, some .int, 4, 0, 0, 0, [])
def M_X6_laughers : MI := (yX6_laughers, cX6_laughers, 7, some .int, 4, 0, 0, 0, [])
theorem w_1225 : (Jvm.Cond.code ({ cls := "ErrataPressModel", name := "laughers", desc := "(II)I" } : Jvm.MethodName) prog_8_method_33_code (7 : Nat) (Option.some Jvm.ClassFile.FieldType.int)) ∈ gtb := List.mem_filter.mpr ⟨List.mem_of_getElem? (i := 1297) (by decide +kernel), by decide +kernel⟩
theorem k_X6_laughers : CF0 M_X6_laughers 2 := ⟨rfl, w_1225, w_7, ⟨by decide +kernel, by decide +kernel, by decide +kernel⟩, by decide +kernel, by decide +kernel, rfl, rfl, rfl⟩
theorem w_1222 : (Jvm.Cond.methodLink "ErrataPressModel" (136 : Nat) ({ cls := "ErrataPressModel", name := "laughers", desc := "(II)I" } : Jvm.MethodName)) ∈ gtb := List.mem_filter.mpr ⟨List.mem_of_getElem? (i := 1294) (by decide +kernel), by decide +kernel⟩
theorem w_1224 : (Jvm.Cond.instanceMethod ({ cls := "ErrataPressModel", name := "laughers", desc := "(II)I" } : Jvm.MethodName)) ∈ gtb := List.mem_filter.mpr ⟨List.mem_of_getElem? (i := 1296) (by decide +kernel), by decide +kernel⟩
theorem sel_X6_laughers : Cond.selects "ErrataPressModel" ({ cls := "ErrataPressModel", name := "laughers", desc := "(II)I" } : Jvm.MethodName) ({ cls := "ErrataPressModel", name := "laughers", desc := "(II)I" } : Jvm.MethodName) ∈ gtb := List.mem_filter.mpr ⟨List.mem_of_getElem? (i := 51) (by decide +kernel), by decide +kernel⟩
theorem cv_X6_136 : CFV RX6 136 19 M_X6_laughers 2 := ⟨k_X6_laughers, w_1222, w_1224, sel_X6_laughers, rfl, _, rfl, rfl⟩
def M_X6_laughs : MI := (yX6_laughs, cX6_laughs, 5, some .int, 5, 0, 0, 0, [])
def M_X6_printable : MI := (yX6_printable, cX6_printable, 3, some .int, 5, 0, 0, 0, [])
theorem w_1210 : (Jvm.Cond.code ({ cls := "ErrataPressModel", name := "printable", desc := "()I" } : Jvm.MethodName) prog_8_method_35_code (3 : Nat) (Option.some Jvm.ClassFile.FieldType.int)) ∈ gtb := List.mem_filter.mpr ⟨List.mem_of_getElem? (i := 1282) (by decide +kernel), by decide +kernel⟩
theorem k_X6_printable : CF0 M_X6_printable 0 := ⟨rfl, w_1210, w_7, ⟨by decide +kernel, by decide +kernel, by decide +kernel⟩, by decide +kernel, by decide +kernel, rfl, rfl, rfl⟩
theorem w_1207 : (Jvm.Cond.methodLink "ErrataPressModel" (139 : Nat) ({ cls := "ErrataPressModel", name := "printable", desc := "()I" } : Jvm.MethodName)) ∈ gtb := List.mem_filter.mpr ⟨List.mem_of_getElem? (i := 1279) (by decide +kernel), by decide +kernel⟩
theorem w_1209 : (Jvm.Cond.instanceMethod ({ cls := "ErrataPressModel", name := "printable", desc := "()I" } : Jvm.MethodName)) ∈ gtb := List.mem_filter.mpr ⟨List.mem_of_getElem? (i := 1281) (by decide +kernel), by decide +kernel⟩
theorem sel_X6_printable : Cond.selects "ErrataPressModel" ({ cls := "ErrataPressModel", name := "printable", desc := "()I" } : Jvm.MethodName) ({ cls := "ErrataPressModel", name := "printable", desc := "()I" } : Jvm.MethodName) ∈ gtb := List.mem_filter.mpr ⟨List.mem_of_getElem? (i := 48) (by decide +kernel), by decide +kernel⟩
theorem cv_X6_139 : CFV RX6 139 19 M_X6_printable 0 := ⟨k_X6_printable, w_1207, w_1209, sel_X6_printable, rfl, _, rfl, rfl⟩
theorem w_1214 : (Jvm.Cond.code ({ cls := "ErrataPressModel", name := "gets", desc := "(III)V" } : Jvm.MethodName) prog_8_method_12_code (4 : Nat) (Option.none : Option Jvm.ClassFile.FieldType)) ∈ gtb := List.mem_filter.mpr ⟨List.mem_of_getElem? (i := 1286) (by decide +kernel), by decide +kernel⟩
theorem k_X6_gets : CF0 M_X6_gets 3 := ⟨rfl, w_1214, w_7, ⟨by decide +kernel, by decide +kernel, by decide +kernel⟩, by decide +kernel, by decide +kernel, rfl, rfl, rfl⟩
theorem w_1211 : (Jvm.Cond.methodLink "ErrataPressModel" (143 : Nat) ({ cls := "ErrataPressModel", name := "gets", desc := "(III)V" } : Jvm.MethodName)) ∈ gtb := List.mem_filter.mpr ⟨List.mem_of_getElem? (i := 1283) (by decide +kernel), by decide +kernel⟩
theorem w_1213 : (Jvm.Cond.instanceMethod ({ cls := "ErrataPressModel", name := "gets", desc := "(III)V" } : Jvm.MethodName)) ∈ gtb := List.mem_filter.mpr ⟨List.mem_of_getElem? (i := 1285) (by decide +kernel), by decide +kernel⟩
theorem sel_X6_gets : Cond.selects "ErrataPressModel" ({ cls := "ErrataPressModel", name := "gets", desc := "(III)V" } : Jvm.MethodName) ({ cls := "ErrataPressModel", name := "gets", desc := "(III)V" } : Jvm.MethodName) ∈ gtb := List.mem_filter.mpr ⟨List.mem_of_getElem? (i := 49) (by decide +kernel), by decide +kernel⟩
theorem cv_X6_143 : CFV RX6 143 19 M_X6_gets 3 := ⟨k_X6_gets, w_1211, w_1213, sel_X6_gets, rfl, _, rfl, rfl⟩
theorem w_1221 : (Jvm.Cond.code ({ cls := "ErrataPressModel", name := "laughs", desc := "(II)I" } : Jvm.MethodName) prog_8_method_34_code (5 : Nat) (Option.some Jvm.ClassFile.FieldType.int)) ∈ gtb := List.mem_filter.mpr ⟨List.mem_of_getElem? (i := 1293) (by decide +kernel), by decide +kernel⟩
theorem k_X6_laughs : CF0 M_X6_laughs 2 := ⟨rfl, w_1221, w_7, ⟨by decide +kernel, by decide +kernel, by decide +kernel⟩, by decide +kernel, by decide +kernel, rfl, rfl, rfl⟩
theorem w_1218 : (Jvm.Cond.methodLink "ErrataPressModel" (146 : Nat) ({ cls := "ErrataPressModel", name := "laughs", desc := "(II)I" } : Jvm.MethodName)) ∈ gtb := List.mem_filter.mpr ⟨List.mem_of_getElem? (i := 1290) (by decide +kernel), by decide +kernel⟩
theorem w_1220 : (Jvm.Cond.instanceMethod ({ cls := "ErrataPressModel", name := "laughs", desc := "(II)I" } : Jvm.MethodName)) ∈ gtb := List.mem_filter.mpr ⟨List.mem_of_getElem? (i := 1292) (by decide +kernel), by decide +kernel⟩
theorem sel_X6_laughs : Cond.selects "ErrataPressModel" ({ cls := "ErrataPressModel", name := "laughs", desc := "(II)I" } : Jvm.MethodName) ({ cls := "ErrataPressModel", name := "laughs", desc := "(II)I" } : Jvm.MethodName) ∈ gtb := List.mem_filter.mpr ⟨List.mem_of_getElem? (i := 50) (by decide +kernel), by decide +kernel⟩
theorem cv_X6_146 : CFV RX6 146 19 M_X6_laughs 2 := ⟨k_X6_laughs, w_1218, w_1220, sel_X6_laughs, rfl, _, rfl, rfl⟩
def M_X6_edition : MI := (yX6_edition, cX6_edition, 4, some .int, 6, 0, 0, 0, [])
def M_X6_day : MI := (yX6_day, cX6_day, 3, some .int, 4, 0, 0, 0, [])
def M_X6_sheetsOf : MI := (yX6_sheetsOf, cX6_sheetsOf, 4, some .int, 3, 0, 0, 0, [])
theorem w_1237 : (Jvm.Cond.code ({ cls := "ErrataPressModel", name := "sheetsOf", desc := "(I)I" } : Jvm.MethodName) prog_8_method_38_code (4 : Nat) (Option.some Jvm.ClassFile.FieldType.int)) ∈ gtb := List.mem_filter.mpr ⟨List.mem_of_getElem? (i := 1309) (by decide +kernel), by decide +kernel⟩
theorem k_X6_sheetsOf : CF0 M_X6_sheetsOf 1 := ⟨rfl, w_1237, w_7, ⟨by decide +kernel, by decide +kernel, by decide +kernel⟩, by decide +kernel, by decide +kernel, rfl, rfl, rfl⟩
theorem w_1234 : (Jvm.Cond.methodLink "ErrataPressModel" (149 : Nat) ({ cls := "ErrataPressModel", name := "sheetsOf", desc := "(I)I" } : Jvm.MethodName)) ∈ gtb := List.mem_filter.mpr ⟨List.mem_of_getElem? (i := 1306) (by decide +kernel), by decide +kernel⟩
theorem w_1236 : (Jvm.Cond.instanceMethod ({ cls := "ErrataPressModel", name := "sheetsOf", desc := "(I)I" } : Jvm.MethodName)) ∈ gtb := List.mem_filter.mpr ⟨List.mem_of_getElem? (i := 1308) (by decide +kernel), by decide +kernel⟩
theorem sel_X6_sheetsOf : Cond.selects "ErrataPressModel" ({ cls := "ErrataPressModel", name := "sheetsOf", desc := "(I)I" } : Jvm.MethodName) ({ cls := "ErrataPressModel", name := "sheetsOf", desc := "(I)I" } : Jvm.MethodName) ∈ gtb := List.mem_filter.mpr ⟨List.mem_of_getElem? (i := 52) (by decide +kernel), by decide +kernel⟩
theorem cv_X6_149 : CFV RX6 149 19 M_X6_sheetsOf 1 := ⟨k_X6_sheetsOf, w_1234, w_1236, sel_X6_sheetsOf, rfl, _, rfl, rfl⟩
def M_X6_houseOf : MI := (yX6_houseOf, cX6_houseOf, 3, some .int, 7, 0, 0, 0, [])
def M_X6_badOf : MI := (yX6_badOf, cX6_badOf, 4, some .int, 4, 0, 0, 0, [])
theorem w_1245 : (Jvm.Cond.code ({ cls := "ErrataPressModel", name := "badOf", desc := "(I)I" } : Jvm.MethodName) prog_8_method_40_code (4 : Nat) (Option.some Jvm.ClassFile.FieldType.int)) ∈ gtb := List.mem_filter.mpr ⟨List.mem_of_getElem? (i := 1317) (by decide +kernel), by decide +kernel⟩
theorem k_X6_badOf : CF0 M_X6_badOf 1 := ⟨rfl, w_1245, w_7, ⟨by decide +kernel, by decide +kernel, by decide +kernel⟩, by decide +kernel, by decide +kernel, rfl, rfl, rfl⟩
theorem w_1242 : (Jvm.Cond.methodLink "ErrataPressModel" (152 : Nat) ({ cls := "ErrataPressModel", name := "badOf", desc := "(I)I" } : Jvm.MethodName)) ∈ gtb := List.mem_filter.mpr ⟨List.mem_of_getElem? (i := 1314) (by decide +kernel), by decide +kernel⟩
theorem w_1244 : (Jvm.Cond.instanceMethod ({ cls := "ErrataPressModel", name := "badOf", desc := "(I)I" } : Jvm.MethodName)) ∈ gtb := List.mem_filter.mpr ⟨List.mem_of_getElem? (i := 1316) (by decide +kernel), by decide +kernel⟩
theorem sel_X6_badOf : Cond.selects "ErrataPressModel" ({ cls := "ErrataPressModel", name := "badOf", desc := "(I)I" } : Jvm.MethodName) ({ cls := "ErrataPressModel", name := "badOf", desc := "(I)I" } : Jvm.MethodName) ∈ gtb := List.mem_filter.mpr ⟨List.mem_of_getElem? (i := 53) (by decide +kernel), by decide +kernel⟩
theorem cv_X6_152 : CFV RX6 152 19 M_X6_badOf 1 := ⟨k_X6_badOf, w_1242, w_1244, sel_X6_badOf, rfl, _, rfl, rfl⟩
def M_X6_sheetOf : MI := (yX6_sheetOf, cX6_sheetOf, 3, some .int, 5, 0, 0, 0, [])
def M_X6_isNowhere : MI := (yX6_isNowhere, cX6_isNowhere, 3, some .boolean, 5, 0, 0, 0, [])
theorem w_1253 : (Jvm.Cond.code ({ cls := "ErrataPressModel", name := "isNowhere", desc := "(II)Z" } : Jvm.MethodName) prog_8_method_42_code (3 : Nat) (Option.some Jvm.ClassFile.FieldType.boolean)) ∈ gtb := List.mem_filter.mpr ⟨List.mem_of_getElem? (i := 1325) (by decide +kernel), by decide +kernel⟩
theorem k_X6_isNowhere : CF0 M_X6_isNowhere 2 := ⟨rfl, w_1253, w_7, ⟨by decide +kernel, by decide +kernel, by decide +kernel⟩, by decide +kernel, by decide +kernel, rfl, rfl, rfl⟩
theorem w_1250 : (Jvm.Cond.methodLink "ErrataPressModel" (155 : Nat) ({ cls := "ErrataPressModel", name := "isNowhere", desc := "(II)Z" } : Jvm.MethodName)) ∈ gtb := List.mem_filter.mpr ⟨List.mem_of_getElem? (i := 1322) (by decide +kernel), by decide +kernel⟩
theorem w_1252 : (Jvm.Cond.instanceMethod ({ cls := "ErrataPressModel", name := "isNowhere", desc := "(II)Z" } : Jvm.MethodName)) ∈ gtb := List.mem_filter.mpr ⟨List.mem_of_getElem? (i := 1324) (by decide +kernel), by decide +kernel⟩
theorem sel_X6_isNowhere : Cond.selects "ErrataPressModel" ({ cls := "ErrataPressModel", name := "isNowhere", desc := "(II)Z" } : Jvm.MethodName) ({ cls := "ErrataPressModel", name := "isNowhere", desc := "(II)Z" } : Jvm.MethodName) ∈ gtb := List.mem_filter.mpr ⟨List.mem_of_getElem? (i := 54) (by decide +kernel), by decide +kernel⟩
theorem cv_X6_155 : CFV RX6 155 19 M_X6_isNowhere 2 := ⟨k_X6_isNowhere, w_1250, w_1252, sel_X6_isNowhere, rfl, _, rfl, rfl⟩
def M_X6_letterAt : MI := (yX6_letterAt, cX6_letterAt, 4, some .char, 6, 0, 0, 0, [])
def M_X6_markAt : MI := (yX6_markAt, cX6_markAt, 3, some .int, 6, 0, 0, 0, [])
def M_X6_fine : MI := (yX6_fine, cX6_fine, 4, some .int, 6, 0, 0, 0, [])
def M_X6_finesOf : MI := (yX6_finesOf, cX6_finesOf, 4, some .int, 5, 0, 0, 0, [])
theorem w_1269 : (Jvm.Cond.code ({ cls := "ErrataPressModel", name := "finesOf", desc := "(I)I" } : Jvm.MethodName) prog_8_method_46_code (4 : Nat) (Option.some Jvm.ClassFile.FieldType.int)) ∈ gtb := List.mem_filter.mpr ⟨List.mem_of_getElem? (i := 1341) (by decide +kernel), by decide +kernel⟩
theorem k_X6_finesOf : CF0 M_X6_finesOf 1 := ⟨rfl, w_1269, w_7, ⟨by decide +kernel, by decide +kernel, by decide +kernel⟩, by decide +kernel, by decide +kernel, rfl, rfl, rfl⟩
theorem w_1266 : (Jvm.Cond.methodLink "ErrataPressModel" (158 : Nat) ({ cls := "ErrataPressModel", name := "finesOf", desc := "(I)I" } : Jvm.MethodName)) ∈ gtb := List.mem_filter.mpr ⟨List.mem_of_getElem? (i := 1338) (by decide +kernel), by decide +kernel⟩
theorem w_1268 : (Jvm.Cond.instanceMethod ({ cls := "ErrataPressModel", name := "finesOf", desc := "(I)I" } : Jvm.MethodName)) ∈ gtb := List.mem_filter.mpr ⟨List.mem_of_getElem? (i := 1340) (by decide +kernel), by decide +kernel⟩
theorem sel_X6_finesOf : Cond.selects "ErrataPressModel" ({ cls := "ErrataPressModel", name := "finesOf", desc := "(I)I" } : Jvm.MethodName) ({ cls := "ErrataPressModel", name := "finesOf", desc := "(I)I" } : Jvm.MethodName) ∈ gtb := List.mem_filter.mpr ⟨List.mem_of_getElem? (i := 55) (by decide +kernel), by decide +kernel⟩
theorem cv_X6_158 : CFV RX6 158 19 M_X6_finesOf 1 := ⟨k_X6_finesOf, w_1266, w_1268, sel_X6_finesOf, rfl, _, rfl, rfl⟩
def M_X6_fines : MI := (yX6_fines, cX6_fines, 3, some .int, 6, 0, 0, 0, [])
def M_X6_canMend : MI := (yX6_canMend, cX6_canMend, 2, some .boolean, 6, 0, 0, 0, [])
def M_X6_laughing : MI := (yX6_laughing, cX6_laughing, 3, some .int, 6, 0, 0, 0, [])
def M_X6_canLicense : MI := (yX6_canLicense, cX6_canLicense, 4, some .boolean, 7, 0, 0, 0, [])
theorem w_1285 : (Jvm.Cond.code ({ cls := "ErrataPressModel", name := "canLicense", desc := "(II)Z" } : Jvm.MethodName) prog_8_method_50_code (4 : Nat) (Option.some Jvm.ClassFile.FieldType.boolean)) ∈ gtb := List.mem_filter.mpr ⟨List.mem_of_getElem? (i := 1357) (by decide +kernel), by decide +kernel⟩
theorem k_X6_canLicense : CF0 M_X6_canLicense 2 := ⟨rfl, w_1285, w_7, ⟨by decide +kernel, by decide +kernel, by decide +kernel⟩, by decide +kernel, by decide +kernel, rfl, rfl, rfl⟩
theorem w_1282 : (Jvm.Cond.methodLink "ErrataPressModel" (161 : Nat) ({ cls := "ErrataPressModel", name := "canLicense", desc := "(II)Z" } : Jvm.MethodName)) ∈ gtb := List.mem_filter.mpr ⟨List.mem_of_getElem? (i := 1354) (by decide +kernel), by decide +kernel⟩
theorem w_1284 : (Jvm.Cond.instanceMethod ({ cls := "ErrataPressModel", name := "canLicense", desc := "(II)Z" } : Jvm.MethodName)) ∈ gtb := List.mem_filter.mpr ⟨List.mem_of_getElem? (i := 1356) (by decide +kernel), by decide +kernel⟩
theorem sel_X6_canLicense : Cond.selects "ErrataPressModel" ({ cls := "ErrataPressModel", name := "canLicense", desc := "(II)Z" } : Jvm.MethodName) ({ cls := "ErrataPressModel", name := "canLicense", desc := "(II)Z" } : Jvm.MethodName) ∈ gtb := List.mem_filter.mpr ⟨List.mem_of_getElem? (i := 56) (by decide +kernel), by decide +kernel⟩
theorem cv_X6_161 : CFV RX6 161 19 M_X6_canLicense 2 := ⟨k_X6_canLicense, w_1282, w_1284, sel_X6_canLicense, rfl, _, rfl, rfl⟩
def M_X6_bargain : MI := (yX6_bargain, cX6_bargain, 6, some .int, 8, 0, 0, 0, [])
def M_X6_wouldShame : MI := (yX6_wouldShame, cX6_wouldShame, 5, some .int, 4, 0, 0, 0, [])
def M_X6_wouldLaugh : MI := (yX6_wouldLaugh, cX6_wouldLaugh, 5, some .int, 6, 0, 0, 0, [])
def M_X6_far : MI := (yX6_far, cX6_far, 5, some .int, 3, 0, 0, 0, [])
theorem w_1301 : (Jvm.Cond.code ({ cls := "ErrataPressModel", name := "far", desc := "(II)I" } : Jvm.MethodName) prog_8_method_54_code (5 : Nat) (Option.some Jvm.ClassFile.FieldType.int)) ∈ gtb := List.mem_filter.mpr ⟨List.mem_of_getElem? (i := 1373) (by decide +kernel), by decide +kernel⟩
theorem k_X6_far : CF0 M_X6_far 2 := ⟨rfl, w_1301, w_7, ⟨by decide +kernel, by decide +kernel, by decide +kernel⟩, by decide +kernel, by decide +kernel, rfl, rfl, rfl⟩
theorem w_1298 : (Jvm.Cond.methodLink "ErrataPressModel" (164 : Nat) ({ cls := "ErrataPressModel", name := "far", desc := "(II)I" } : Jvm.MethodName)) ∈ gtb := List.mem_filter.mpr ⟨List.mem_of_getElem? (i := 1370) (by decide +kernel), by decide +kernel⟩
theorem w_1300 : (Jvm.Cond.instanceMethod ({ cls := "ErrataPressModel", name := "far", desc := "(II)I" } : Jvm.MethodName)) ∈ gtb := List.mem_filter.mpr ⟨List.mem_of_getElem? (i := 1372) (by decide +kernel), by decide +kernel⟩
theorem sel_X6_far : Cond.selects "ErrataPressModel" ({ cls := "ErrataPressModel", name := "far", desc := "(II)I" } : Jvm.MethodName) ({ cls := "ErrataPressModel", name := "far", desc := "(II)I" } : Jvm.MethodName) ∈ gtb := List.mem_filter.mpr ⟨List.mem_of_getElem? (i := 57) (by decide +kernel), by decide +kernel⟩
theorem cv_X6_164 : CFV RX6 164 19 M_X6_far 2 := ⟨k_X6_far, w_1298, w_1300, sel_X6_far, rfl, _, rfl, rfl⟩
def M_X6_nearest : MI := (yX6_nearest, cX6_nearest, 4, some .int, 4, 0, 0, 0, [])
def M_X6_calmIn : MI := (yX6_calmIn, cX6_calmIn, 2, some .int, 4, 0, 0, 0, [])
def M_X6_isMoreAshamed : MI := (yX6_isMoreAshamed, cX6_isMoreAshamed, 5, some .boolean, 3, 0, 0, 0, [])
theorem w_1313 : (Jvm.Cond.code ({ cls := "ErrataPressModel", name := "isMoreAshamed", desc := "(II)Z" } : Jvm.MethodName) prog_8_method_57_code (5 : Nat) (Option.some Jvm.ClassFile.FieldType.boolean)) ∈ gtb := List.mem_filter.mpr ⟨List.mem_of_getElem? (i := 1385) (by decide +kernel), by decide +kernel⟩
theorem k_X6_isMoreAshamed : CF0 M_X6_isMoreAshamed 2 := ⟨rfl, w_1313, w_7, ⟨by decide +kernel, by decide +kernel, by decide +kernel⟩, by decide +kernel, by decide +kernel, rfl, rfl, rfl⟩
theorem w_1310 : (Jvm.Cond.methodLink "ErrataPressModel" (167 : Nat) ({ cls := "ErrataPressModel", name := "isMoreAshamed", desc := "(II)Z" } : Jvm.MethodName)) ∈ gtb := List.mem_filter.mpr ⟨List.mem_of_getElem? (i := 1382) (by decide +kernel), by decide +kernel⟩
theorem w_1312 : (Jvm.Cond.instanceMethod ({ cls := "ErrataPressModel", name := "isMoreAshamed", desc := "(II)Z" } : Jvm.MethodName)) ∈ gtb := List.mem_filter.mpr ⟨List.mem_of_getElem? (i := 1384) (by decide +kernel), by decide +kernel⟩
theorem sel_X6_isMoreAshamed : Cond.selects "ErrataPressModel" ({ cls := "ErrataPressModel", name := "isMoreAshamed", desc := "(II)Z" } : Jvm.MethodName) ({ cls := "ErrataPressModel", name := "isMoreAshamed", desc := "(II)Z" } : Jvm.MethodName) ∈ gtb := List.mem_filter.mpr ⟨List.mem_of_getElem? (i := 58) (by decide +kernel), by decide +kernel⟩
theorem cv_X6_167 : CFV RX6 167 19 M_X6_isMoreAshamed 2 := ⟨k_X6_isMoreAshamed, w_1310, w_1312, sel_X6_isMoreAshamed, rfl, _, rfl, rfl⟩
def M_X6_ashamed : MI := (yX6_ashamed, cX6_ashamed, 5, some .int, 4, 0, 0, 0, [])
def M_X6_isWorse : MI := (yX6_isWorse, cX6_isWorse, 5, some .boolean, 5, 0, 0, 0, [])
theorem w_1321 : (Jvm.Cond.code ({ cls := "ErrataPressModel", name := "isWorse", desc := "(II)Z" } : Jvm.MethodName) prog_8_method_59_code (5 : Nat) (Option.some Jvm.ClassFile.FieldType.boolean)) ∈ gtb := List.mem_filter.mpr ⟨List.mem_of_getElem? (i := 1393) (by decide +kernel), by decide +kernel⟩
theorem k_X6_isWorse : CF0 M_X6_isWorse 2 := ⟨rfl, w_1321, w_7, ⟨by decide +kernel, by decide +kernel, by decide +kernel⟩, by decide +kernel, by decide +kernel, rfl, rfl, rfl⟩
theorem w_1318 : (Jvm.Cond.methodLink "ErrataPressModel" (170 : Nat) ({ cls := "ErrataPressModel", name := "isWorse", desc := "(II)Z" } : Jvm.MethodName)) ∈ gtb := List.mem_filter.mpr ⟨List.mem_of_getElem? (i := 1390) (by decide +kernel), by decide +kernel⟩
theorem w_1320 : (Jvm.Cond.instanceMethod ({ cls := "ErrataPressModel", name := "isWorse", desc := "(II)Z" } : Jvm.MethodName)) ∈ gtb := List.mem_filter.mpr ⟨List.mem_of_getElem? (i := 1392) (by decide +kernel), by decide +kernel⟩
theorem sel_X6_isWorse : Cond.selects "ErrataPressModel" ({ cls := "ErrataPressModel", name := "isWorse", desc := "(II)Z" } : Jvm.MethodName) ({ cls := "ErrataPressModel", name := "isWorse", desc := "(II)Z" } : Jvm.MethodName) ∈ gtb := List.mem_filter.mpr ⟨List.mem_of_getElem? (i := 59) (by decide +kernel), by decide +kernel⟩
theorem cv_X6_170 : CFV RX6 170 19 M_X6_isWorse 2 := ⟨k_X6_isWorse, w_1318, w_1320, sel_X6_isWorse, rfl, _, rfl, rfl⟩
def M_X6_worst : MI := (yX6_worst, cX6_worst, 5, some .int, 6, 0, 0, 0, [])
theorem w_1043 : (Jvm.Cond.fieldLink "ErrataPressModel" (29 : Nat) "ErrataPressModel" "signs" "[C") ∈ gtb := List.mem_filter.mpr ⟨List.mem_of_getElem? (i := 1115) (by decide +kernel), by decide +kernel⟩
theorem ff_X6_29 : FF RX6 29 19 16 := ⟨RX6, TX6, 21, rfl, inG6, by decide, rfl, w_1043⟩
theorem w_1044 : (Jvm.Cond.fieldLink "ErrataPressModel" (173 : Nat) "ErrataPressModel" "signMany" "I") ∈ gtb := List.mem_filter.mpr ⟨List.mem_of_getElem? (i := 1116) (by decide +kernel), by decide +kernel⟩
theorem ff_X6_173 : FF RX6 173 19 17 := ⟨RX6, TX6, 21, rfl, inG6, by decide, rfl, w_1044⟩
theorem fp_X6_173 : FP2 RX6 173 19 17 .int := ⟨RX6, TX6, 21, tyX6, rfl, inG6, by decide, rfl, w_1044, tyX6_ok, nmX6, rfl, rfl, rfl⟩
def M_X6_writes : MI := (yX6_writes, cX6_writes, 2, none, 2, 0, 0, 0, [])
theorem w_1333 : (Jvm.Cond.code ({ cls := "ErrataPressModel", name := "writes", desc := "(I)V" } : Jvm.MethodName) prog_8_method_61_code (2 : Nat) (Option.none : Option Jvm.ClassFile.FieldType)) ∈ gtb := List.mem_filter.mpr ⟨List.mem_of_getElem? (i := 1405) (by decide +kernel), by decide +kernel⟩
theorem k_X6_writes : CF0 M_X6_writes 1 := ⟨rfl, w_1333, w_7, ⟨by decide +kernel, by decide +kernel, by decide +kernel⟩, by decide +kernel, by decide +kernel, rfl, rfl, rfl⟩
theorem w_1330 : (Jvm.Cond.methodLink "ErrataPressModel" (176 : Nat) ({ cls := "ErrataPressModel", name := "writes", desc := "(I)V" } : Jvm.MethodName)) ∈ gtb := List.mem_filter.mpr ⟨List.mem_of_getElem? (i := 1402) (by decide +kernel), by decide +kernel⟩
theorem w_1332 : (Jvm.Cond.instanceMethod ({ cls := "ErrataPressModel", name := "writes", desc := "(I)V" } : Jvm.MethodName)) ∈ gtb := List.mem_filter.mpr ⟨List.mem_of_getElem? (i := 1404) (by decide +kernel), by decide +kernel⟩
theorem sel_X6_writes : Cond.selects "ErrataPressModel" ({ cls := "ErrataPressModel", name := "writes", desc := "(I)V" } : Jvm.MethodName) ({ cls := "ErrataPressModel", name := "writes", desc := "(I)V" } : Jvm.MethodName) ∈ gtb := List.mem_filter.mpr ⟨List.mem_of_getElem? (i := 61) (by decide +kernel), by decide +kernel⟩
theorem cv_X6_176 : CFV RX6 176 19 M_X6_writes 1 := ⟨k_X6_writes, w_1330, w_1332, sel_X6_writes, rfl, _, rfl, rfl⟩
def M_X6_writesNumber : MI := (yX6_writesNumber, cX6_writesNumber, 2, none, 3, 0, 0, 0, [])
theorem w_1329 : (Jvm.Cond.code ({ cls := "ErrataPressModel", name := "writesNumber", desc := "(I)V" } : Jvm.MethodName) prog_8_method_62_code (2 : Nat) (Option.none : Option Jvm.ClassFile.FieldType)) ∈ gtb := List.mem_filter.mpr ⟨List.mem_of_getElem? (i := 1401) (by decide +kernel), by decide +kernel⟩
theorem k_X6_writesNumber : CF0 M_X6_writesNumber 1 := ⟨rfl, w_1329, w_7, ⟨by decide +kernel, by decide +kernel, by decide +kernel⟩, by decide +kernel, by decide +kernel, rfl, rfl, rfl⟩
theorem w_1326 : (Jvm.Cond.methodLink "ErrataPressModel" (180 : Nat) ({ cls := "ErrataPressModel", name := "writesNumber", desc := "(I)V" } : Jvm.MethodName)) ∈ gtb := List.mem_filter.mpr ⟨List.mem_of_getElem? (i := 1398) (by decide +kernel), by decide +kernel⟩
theorem w_1328 : (Jvm.Cond.instanceMethod ({ cls := "ErrataPressModel", name := "writesNumber", desc := "(I)V" } : Jvm.MethodName)) ∈ gtb := List.mem_filter.mpr ⟨List.mem_of_getElem? (i := 1400) (by decide +kernel), by decide +kernel⟩
theorem sel_X6_writesNumber : Cond.selects "ErrataPressModel" ({ cls := "ErrataPressModel", name := "writesNumber", desc := "(I)V" } : Jvm.MethodName) ({ cls := "ErrataPressModel", name := "writesNumber", desc := "(I)V" } : Jvm.MethodName) ∈ gtb := List.mem_filter.mpr ⟨List.mem_of_getElem? (i := 60) (by decide +kernel), by decide +kernel⟩
theorem cv_X6_180 : CFV RX6 180 19 M_X6_writesNumber 1 := ⟨k_X6_writesNumber, w_1326, w_1328, sel_X6_writesNumber, rfl, _, rfl, rfl⟩
def M_X6_line : MI := (yX6_line, cX6_line, 4, some .int, 4, 0, 0, 0, [])
def M_X6_houseLine : MI := (yX6_houseLine, cX6_houseLine, 2, some .int, 4, 0, 0, 0, [])
def M_X6_character : MI := (yX6_character, cX6_character, 2, some .char, 3, 0, 0, 0, [])
theorem w_1041 : (Jvm.Cond.fieldLink "ErrataPressModel" (183 : Nat) "ErrataPressModel" "length" "I") ∈ gtb := List.mem_filter.mpr ⟨List.mem_of_getElem? (i := 1113) (by decide +kernel), by decide +kernel⟩
theorem ff_X6_183 : FF RX6 183 19 14 := ⟨RX6, TX6, 21, rfl, inG6, by decide, rfl, w_1041⟩
theorem w_1040 : (Jvm.Cond.fieldLink "ErrataPressModel" (22 : Nat) "ErrataPressModel" "input" "[I") ∈ gtb := List.mem_filter.mpr ⟨List.mem_of_getElem? (i := 1112) (by decide +kernel), by decide +kernel⟩
theorem ff_X6_22 : FF RX6 22 19 13 := ⟨RX6, TX6, 21, rfl, inG6, by decide, rfl, w_1040⟩
theorem fp_X6_183 : FP2 RX6 183 19 14 .int := ⟨RX6, TX6, 21, tyX6, rfl, inG6, by decide, rfl, w_1041, tyX6_ok, nmX6, rfl, rfl, rfl⟩
def M_X6_append : MI := (yX6_append, cX6_append, 2, some .int, 3, 0, 0, 0, [])
theorem w_1045 : (Jvm.Cond.fieldLink "ErrataPressModel" (186 : Nat) "ErrataPressModel" "at" "I") ∈ gtb := List.mem_filter.mpr ⟨List.mem_of_getElem? (i := 1117) (by decide +kernel), by decide +kernel⟩
theorem ff_X6_186 : FF RX6 186 19 18 := ⟨RX6, TX6, 21, rfl, inG6, by decide, rfl, w_1045⟩
def M_X6_here : MI := (yX6_here, cX6_here, 1, some .int, 2, 0, 0, 0, [])
theorem w_1361 : (Jvm.Cond.code ({ cls := "ErrataPressModel", name := "here", desc := "()I" } : Jvm.MethodName) prog_8_method_67_code (1 : Nat) (Option.some Jvm.ClassFile.FieldType.int)) ∈ gtb := List.mem_filter.mpr ⟨List.mem_of_getElem? (i := 1433) (by decide +kernel), by decide +kernel⟩
theorem k_X6_here : CF0 M_X6_here 0 := ⟨rfl, w_1361, w_7, ⟨by decide +kernel, by decide +kernel, by decide +kernel⟩, by decide +kernel, by decide +kernel, rfl, rfl, rfl⟩
theorem w_1358 : (Jvm.Cond.methodLink "ErrataPressModel" (189 : Nat) ({ cls := "ErrataPressModel", name := "here", desc := "()I" } : Jvm.MethodName)) ∈ gtb := List.mem_filter.mpr ⟨List.mem_of_getElem? (i := 1430) (by decide +kernel), by decide +kernel⟩
theorem w_1360 : (Jvm.Cond.instanceMethod ({ cls := "ErrataPressModel", name := "here", desc := "()I" } : Jvm.MethodName)) ∈ gtb := List.mem_filter.mpr ⟨List.mem_of_getElem? (i := 1432) (by decide +kernel), by decide +kernel⟩
theorem sel_X6_here : Cond.selects "ErrataPressModel" ({ cls := "ErrataPressModel", name := "here", desc := "()I" } : Jvm.MethodName) ({ cls := "ErrataPressModel", name := "here", desc := "()I" } : Jvm.MethodName) ∈ gtb := List.mem_filter.mpr ⟨List.mem_of_getElem? (i := 64) (by decide +kernel), by decide +kernel⟩
theorem cv_X6_189 : CFV RX6 189 19 M_X6_here 0 := ⟨k_X6_here, w_1358, w_1360, sel_X6_here, rfl, _, rfl, rfl⟩
theorem fp_X6_186 : FP2 RX6 186 19 18 .int := ⟨RX6, TX6, 21, tyX6, rfl, inG6, by decide, rfl, w_1045, tyX6_ok, nmX6, rfl, rfl, rfl⟩
def M_X6_skips : MI := (yX6_skips, cX6_skips, 2, some .boolean, 3, 0, 0, 0, [])
theorem w_1046 : (Jvm.Cond.fieldLink "ErrataPressModel" (33 : Nat) "ErrataPressModel" "told" "[I") ∈ gtb := List.mem_filter.mpr ⟨List.mem_of_getElem? (i := 1118) (by decide +kernel), by decide +kernel⟩
theorem ff_X6_33 : FF RX6 33 19 19 := ⟨RX6, TX6, 21, rfl, inG6, by decide, rfl, w_1046⟩
def M_X6_figures : MI := (yX6_figures, cX6_figures, 4, some .boolean, 3, 0, 0, 0, [])
def M_X6_wordHere : MI := (yX6_wordHere, cX6_wordHere, 5, some .boolean, 3, 0, 0, 0, [])
theorem w_1047 : (Jvm.Cond.fieldLink "ErrataPressModel" (192 : Nat) "ErrataPressModel" "toldMany" "I") ∈ gtb := List.mem_filter.mpr ⟨List.mem_of_getElem? (i := 1119) (by decide +kernel), by decide +kernel⟩
theorem ff_X6_192 : FF RX6 192 19 20 := ⟨RX6, TX6, 21, rfl, inG6, by decide, rfl, w_1047⟩
theorem w_1365 : (Jvm.Cond.code ({ cls := "ErrataPressModel", name := "skips", desc := "(I)Z" } : Jvm.MethodName) prog_8_method_68_code (2 : Nat) (Option.some Jvm.ClassFile.FieldType.boolean)) ∈ gtb := List.mem_filter.mpr ⟨List.mem_of_getElem? (i := 1437) (by decide +kernel), by decide +kernel⟩
theorem k_X6_skips : CF0 M_X6_skips 1 := ⟨rfl, w_1365, w_7, ⟨by decide +kernel, by decide +kernel, by decide +kernel⟩, by decide +kernel, by decide +kernel, rfl, rfl, rfl⟩
theorem w_1362 : (Jvm.Cond.methodLink "ErrataPressModel" (195 : Nat) ({ cls := "ErrataPressModel", name := "skips", desc := "(I)Z" } : Jvm.MethodName)) ∈ gtb := List.mem_filter.mpr ⟨List.mem_of_getElem? (i := 1434) (by decide +kernel), by decide +kernel⟩
theorem w_1364 : (Jvm.Cond.instanceMethod ({ cls := "ErrataPressModel", name := "skips", desc := "(I)Z" } : Jvm.MethodName)) ∈ gtb := List.mem_filter.mpr ⟨List.mem_of_getElem? (i := 1436) (by decide +kernel), by decide +kernel⟩
theorem sel_X6_skips : Cond.selects "ErrataPressModel" ({ cls := "ErrataPressModel", name := "skips", desc := "(I)Z" } : Jvm.MethodName) ({ cls := "ErrataPressModel", name := "skips", desc := "(I)Z" } : Jvm.MethodName) ∈ gtb := List.mem_filter.mpr ⟨List.mem_of_getElem? (i := 65) (by decide +kernel), by decide +kernel⟩
theorem cv_X6_195 : CFV RX6 195 19 M_X6_skips 1 := ⟨k_X6_skips, w_1362, w_1364, sel_X6_skips, rfl, _, rfl, rfl⟩
theorem w_1369 : (Jvm.Cond.code ({ cls := "ErrataPressModel", name := "figures", desc := "(II)Z" } : Jvm.MethodName) prog_8_method_69_code (4 : Nat) (Option.some Jvm.ClassFile.FieldType.boolean)) ∈ gtb := List.mem_filter.mpr ⟨List.mem_of_getElem? (i := 1441) (by decide +kernel), by decide +kernel⟩
theorem k_X6_figures : CF0 M_X6_figures 2 := ⟨rfl, w_1369, w_7, ⟨by decide +kernel, by decide +kernel, by decide +kernel⟩, by decide +kernel, by decide +kernel, rfl, rfl, rfl⟩
theorem w_1366 : (Jvm.Cond.methodLink "ErrataPressModel" (198 : Nat) ({ cls := "ErrataPressModel", name := "figures", desc := "(II)Z" } : Jvm.MethodName)) ∈ gtb := List.mem_filter.mpr ⟨List.mem_of_getElem? (i := 1438) (by decide +kernel), by decide +kernel⟩
theorem w_1368 : (Jvm.Cond.instanceMethod ({ cls := "ErrataPressModel", name := "figures", desc := "(II)Z" } : Jvm.MethodName)) ∈ gtb := List.mem_filter.mpr ⟨List.mem_of_getElem? (i := 1440) (by decide +kernel), by decide +kernel⟩
theorem sel_X6_figures : Cond.selects "ErrataPressModel" ({ cls := "ErrataPressModel", name := "figures", desc := "(II)Z" } : Jvm.MethodName) ({ cls := "ErrataPressModel", name := "figures", desc := "(II)Z" } : Jvm.MethodName) ∈ gtb := List.mem_filter.mpr ⟨List.mem_of_getElem? (i := 66) (by decide +kernel), by decide +kernel⟩
theorem cv_X6_198 : CFV RX6 198 19 M_X6_figures 2 := ⟨k_X6_figures, w_1366, w_1368, sel_X6_figures, rfl, _, rfl, rfl⟩
theorem w_1373 : (Jvm.Cond.code ({ cls := "ErrataPressModel", name := "wordHere", desc := "(III)Z" } : Jvm.MethodName) prog_8_method_70_code (5 : Nat) (Option.some Jvm.ClassFile.FieldType.boolean)) ∈ gtb := List.mem_filter.mpr ⟨List.mem_of_getElem? (i := 1445) (by decide +kernel), by decide +kernel⟩
theorem k_X6_wordHere : CF0 M_X6_wordHere 3 := ⟨rfl, w_1373, w_7, ⟨by decide +kernel, by decide +kernel, by decide +kernel⟩, by decide +kernel, by decide +kernel, rfl, rfl, rfl⟩
theorem w_1370 : (Jvm.Cond.methodLink "ErrataPressModel" (201 : Nat) ({ cls := "ErrataPressModel", name := "wordHere", desc := "(III)Z" } : Jvm.MethodName)) ∈ gtb := List.mem_filter.mpr ⟨List.mem_of_getElem? (i := 1442) (by decide +kernel), by decide +kernel⟩
theorem w_1372 : (Jvm.Cond.instanceMethod ({ cls := "ErrataPressModel", name := "wordHere", desc := "(III)Z" } : Jvm.MethodName)) ∈ gtb := List.mem_filter.mpr ⟨List.mem_of_getElem? (i := 1444) (by decide +kernel), by decide +kernel⟩
theorem sel_X6_wordHere : Cond.selects "ErrataPressModel" ({ cls := "ErrataPressModel", name := "wordHere", desc := "(III)Z" } : Jvm.MethodName) ({ cls := "ErrataPressModel", name := "wordHere", desc := "(III)Z" } : Jvm.MethodName) ∈ gtb := List.mem_filter.mpr ⟨List.mem_of_getElem? (i := 67) (by decide +kernel), by decide +kernel⟩
theorem cv_X6_201 : CFV RX6 201 19 M_X6_wordHere 3 := ⟨k_X6_wordHere, w_1370, w_1372, sel_X6_wordHere, rfl, _, rfl, rfl⟩
def M_X6_orderHere : MI := (yX6_orderHere, cX6_orderHere, 2, some .boolean, 4, 0, 0, 0, [])
theorem fp_X6_192 : FP2 RX6 192 19 20 .int := ⟨RX6, TX6, 21, tyX6, rfl, inG6, by decide, rfl, w_1047, tyX6_ok, nmX6, rfl, rfl, rfl⟩
theorem w_1357 : (Jvm.Cond.code ({ cls := "ErrataPressModel", name := "orderHere", desc := "()Z" } : Jvm.MethodName) prog_8_method_71_code (2 : Nat) (Option.some Jvm.ClassFile.FieldType.boolean)) ∈ gtb := List.mem_filter.mpr ⟨List.mem_of_getElem? (i := 1429) (by decide +kernel), by decide +kernel⟩
theorem k_X6_orderHere : CF0 M_X6_orderHere 0 := ⟨rfl, w_1357, w_7, ⟨by decide +kernel, by decide +kernel, by decide +kernel⟩, by decide +kernel, by decide +kernel, rfl, rfl, rfl⟩
theorem w_1354 : (Jvm.Cond.methodLink "ErrataPressModel" (204 : Nat) ({ cls := "ErrataPressModel", name := "orderHere", desc := "()Z" } : Jvm.MethodName)) ∈ gtb := List.mem_filter.mpr ⟨List.mem_of_getElem? (i := 1426) (by decide +kernel), by decide +kernel⟩
theorem w_1356 : (Jvm.Cond.instanceMethod ({ cls := "ErrataPressModel", name := "orderHere", desc := "()Z" } : Jvm.MethodName)) ∈ gtb := List.mem_filter.mpr ⟨List.mem_of_getElem? (i := 1428) (by decide +kernel), by decide +kernel⟩
theorem sel_X6_orderHere : Cond.selects "ErrataPressModel" ({ cls := "ErrataPressModel", name := "orderHere", desc := "()Z" } : Jvm.MethodName) ({ cls := "ErrataPressModel", name := "orderHere", desc := "()Z" } : Jvm.MethodName) ∈ gtb := List.mem_filter.mpr ⟨List.mem_of_getElem? (i := 63) (by decide +kernel), by decide +kernel⟩
theorem cv_X6_204 : CFV RX6 204 19 M_X6_orderHere 0 := ⟨k_X6_orderHere, w_1354, w_1356, sel_X6_orderHere, rfl, _, rfl, rfl⟩
def M_X6_isText : MI := (yX6_isText, cX6_isText, 1, some .boolean, 5, 0, 0, 0, [])
theorem w_1187 : (Jvm.Cond.code ({ cls := "ErrataPressModel", name := "correct", desc := "(II)I" } : Jvm.MethodName) prog_8_method_31_code (5 : Nat) (Option.some Jvm.ClassFile.FieldType.int)) ∈ gtb := List.mem_filter.mpr ⟨List.mem_of_getElem? (i := 1259) (by decide +kernel), by decide +kernel⟩
theorem k_X6_correct : CF0 M_X6_correct 2 := ⟨rfl, w_1187, w_7, ⟨by decide +kernel, by decide +kernel, by decide +kernel⟩, by decide +kernel, by decide +kernel, rfl, rfl, rfl⟩
theorem w_1382 : (Jvm.Cond.methodLink "ErrataPressModel" (221 : Nat) ({ cls := "ErrataPressModel", name := "correct", desc := "(II)I" } : Jvm.MethodName)) ∈ gtb := List.mem_filter.mpr ⟨List.mem_of_getElem? (i := 1454) (by decide +kernel), by decide +kernel⟩
theorem w_1185 : (Jvm.Cond.instanceMethod ({ cls := "ErrataPressModel", name := "correct", desc := "(II)I" } : Jvm.MethodName)) ∈ gtb := List.mem_filter.mpr ⟨List.mem_of_getElem? (i := 1257) (by decide +kernel), by decide +kernel⟩
theorem sel_X6_correct : (Jvm.Cond.selects "ErrataPressModel" ({ cls := "ErrataPressModel", name := "correct", desc := "(II)I" } : Jvm.MethodName) ({ cls := "ErrataPressModel", name := "correct", desc := "(II)I" } : Jvm.MethodName)) ∈ gtb := List.mem_filter.mpr ⟨List.mem_of_getElem? (i := 1258) (by decide +kernel), by decide +kernel⟩
theorem cv_X6_221 : CFV RX6 221 19 M_X6_correct 2 := ⟨k_X6_correct, w_1382, w_1185, sel_X6_correct, rfl, _, rfl, rfl⟩
theorem w_1206 : (Jvm.Cond.code ({ cls := "ErrataPressModel", name := "edition", desc := "()I" } : Jvm.MethodName) prog_8_method_36_code (4 : Nat) (Option.some Jvm.ClassFile.FieldType.int)) ∈ gtb := List.mem_filter.mpr ⟨List.mem_of_getElem? (i := 1278) (by decide +kernel), by decide +kernel⟩
theorem k_X6_edition : CF0 M_X6_edition 0 := ⟨rfl, w_1206, w_7, ⟨by decide +kernel, by decide +kernel, by decide +kernel⟩, by decide +kernel, by decide +kernel, rfl, rfl, rfl⟩
theorem w_1385 : (Jvm.Cond.methodLink "ErrataPressModel" (230 : Nat) ({ cls := "ErrataPressModel", name := "edition", desc := "()I" } : Jvm.MethodName)) ∈ gtb := List.mem_filter.mpr ⟨List.mem_of_getElem? (i := 1457) (by decide +kernel), by decide +kernel⟩
theorem w_1204 : (Jvm.Cond.instanceMethod ({ cls := "ErrataPressModel", name := "edition", desc := "()I" } : Jvm.MethodName)) ∈ gtb := List.mem_filter.mpr ⟨List.mem_of_getElem? (i := 1276) (by decide +kernel), by decide +kernel⟩
theorem sel_X6_edition : (Jvm.Cond.selects "ErrataPressModel" ({ cls := "ErrataPressModel", name := "edition", desc := "()I" } : Jvm.MethodName) ({ cls := "ErrataPressModel", name := "edition", desc := "()I" } : Jvm.MethodName)) ∈ gtb := List.mem_filter.mpr ⟨List.mem_of_getElem? (i := 1277) (by decide +kernel), by decide +kernel⟩
theorem cv_X6_230 : CFV RX6 230 19 M_X6_edition 0 := ⟨k_X6_edition, w_1385, w_1204, sel_X6_edition, rfl, _, rfl, rfl⟩
theorem w_1098 : (Jvm.Cond.code ({ cls := "ErrataPressModel", name := "house", desc := "(I)I" } : Jvm.MethodName) prog_8_method_20_code (4 : Nat) (Option.some Jvm.ClassFile.FieldType.int)) ∈ gtb := List.mem_filter.mpr ⟨List.mem_of_getElem? (i := 1170) (by decide +kernel), by decide +kernel⟩
theorem k_X6_house : CF0 M_X6_house 1 := ⟨rfl, w_1098, w_7, ⟨by decide +kernel, by decide +kernel, by decide +kernel⟩, by decide +kernel, by decide +kernel, rfl, rfl, rfl⟩
theorem w_1378 : (Jvm.Cond.methodLink "ErrataPressModel" (208 : Nat) ({ cls := "ErrataPressModel", name := "house", desc := "(I)I" } : Jvm.MethodName)) ∈ gtb := List.mem_filter.mpr ⟨List.mem_of_getElem? (i := 1450) (by decide +kernel), by decide +kernel⟩
theorem w_1096 : (Jvm.Cond.instanceMethod ({ cls := "ErrataPressModel", name := "house", desc := "(I)I" } : Jvm.MethodName)) ∈ gtb := List.mem_filter.mpr ⟨List.mem_of_getElem? (i := 1168) (by decide +kernel), by decide +kernel⟩
theorem sel_X6_house : (Jvm.Cond.selects "ErrataPressModel" ({ cls := "ErrataPressModel", name := "house", desc := "(I)I" } : Jvm.MethodName) ({ cls := "ErrataPressModel", name := "house", desc := "(I)I" } : Jvm.MethodName)) ∈ gtb := List.mem_filter.mpr ⟨List.mem_of_getElem? (i := 1169) (by decide +kernel), by decide +kernel⟩
theorem cv_X6_208 : CFV RX6 208 19 M_X6_house 1 := ⟨k_X6_house, w_1378, w_1096, sel_X6_house, rfl, _, rfl, rfl⟩
theorem w_1167 : (Jvm.Cond.code ({ cls := "ErrataPressModel", name := "license", desc := "(II)I" } : Jvm.MethodName) prog_8_method_29_code (5 : Nat) (Option.some Jvm.ClassFile.FieldType.int)) ∈ gtb := List.mem_filter.mpr ⟨List.mem_of_getElem? (i := 1239) (by decide +kernel), by decide +kernel⟩
theorem k_X6_license : CF0 M_X6_license 2 := ⟨rfl, w_1167, w_7, ⟨by decide +kernel, by decide +kernel, by decide +kernel⟩, by decide +kernel, by decide +kernel, rfl, rfl, rfl⟩
theorem w_1381 : (Jvm.Cond.methodLink "ErrataPressModel" (218 : Nat) ({ cls := "ErrataPressModel", name := "license", desc := "(II)I" } : Jvm.MethodName)) ∈ gtb := List.mem_filter.mpr ⟨List.mem_of_getElem? (i := 1453) (by decide +kernel), by decide +kernel⟩
theorem w_1165 : (Jvm.Cond.instanceMethod ({ cls := "ErrataPressModel", name := "license", desc := "(II)I" } : Jvm.MethodName)) ∈ gtb := List.mem_filter.mpr ⟨List.mem_of_getElem? (i := 1237) (by decide +kernel), by decide +kernel⟩
theorem sel_X6_license : (Jvm.Cond.selects "ErrataPressModel" ({ cls := "ErrataPressModel", name := "license", desc := "(II)I" } : Jvm.MethodName) ({ cls := "ErrataPressModel", name := "license", desc := "(II)I" } : Jvm.MethodName)) ∈ gtb := List.mem_filter.mpr ⟨List.mem_of_getElem? (i := 1238) (by decide +kernel), by decide +kernel⟩
theorem cv_X6_218 : CFV RX6 218 19 M_X6_license 2 := ⟨k_X6_license, w_1381, w_1165, sel_X6_license, rfl, _, rfl, rfl⟩
theorem w_1147 : (Jvm.Cond.code ({ cls := "ErrataPressModel", name := "set", desc := "(IIC)I" } : Jvm.MethodName) prog_8_method_25_code (5 : Nat) (Option.some Jvm.ClassFile.FieldType.int)) ∈ gtb := List.mem_filter.mpr ⟨List.mem_of_getElem? (i := 1219) (by decide +kernel), by decide +kernel⟩
theorem k_X6_set : CF0 M_X6_set 3 := ⟨rfl, w_1147, w_7, ⟨by decide +kernel, by decide +kernel, by decide +kernel⟩, by decide +kernel, by decide +kernel, rfl, rfl, rfl⟩
theorem w_1380 : (Jvm.Cond.methodLink "ErrataPressModel" (214 : Nat) ({ cls := "ErrataPressModel", name := "set", desc := "(IIC)I" } : Jvm.MethodName)) ∈ gtb := List.mem_filter.mpr ⟨List.mem_of_getElem? (i := 1452) (by decide +kernel), by decide +kernel⟩
theorem w_1145 : (Jvm.Cond.instanceMethod ({ cls := "ErrataPressModel", name := "set", desc := "(IIC)I" } : Jvm.MethodName)) ∈ gtb := List.mem_filter.mpr ⟨List.mem_of_getElem? (i := 1217) (by decide +kernel), by decide +kernel⟩
theorem sel_X6_set : (Jvm.Cond.selects "ErrataPressModel" ({ cls := "ErrataPressModel", name := "set", desc := "(IIC)I" } : Jvm.MethodName) ({ cls := "ErrataPressModel", name := "set", desc := "(IIC)I" } : Jvm.MethodName)) ∈ gtb := List.mem_filter.mpr ⟨List.mem_of_getElem? (i := 1218) (by decide +kernel), by decide +kernel⟩
theorem cv_X6_214 : CFV RX6 214 19 M_X6_set 3 := ⟨k_X6_set, w_1380, w_1145, sel_X6_set, rfl, _, rfl, rfl⟩
theorem w_1202 : (Jvm.Cond.code ({ cls := "ErrataPressModel", name := "reader", desc := "(II)I" } : Jvm.MethodName) prog_8_method_32_code (3 : Nat) (Option.some Jvm.ClassFile.FieldType.int)) ∈ gtb := List.mem_filter.mpr ⟨List.mem_of_getElem? (i := 1274) (by decide +kernel), by decide +kernel⟩
theorem k_X6_reader : CF0 M_X6_reader 2 := ⟨rfl, w_1202, w_7, ⟨by decide +kernel, by decide +kernel, by decide +kernel⟩, by decide +kernel, by decide +kernel, rfl, rfl, rfl⟩
theorem w_1383 : (Jvm.Cond.methodLink "ErrataPressModel" (224 : Nat) ({ cls := "ErrataPressModel", name := "reader", desc := "(II)I" } : Jvm.MethodName)) ∈ gtb := List.mem_filter.mpr ⟨List.mem_of_getElem? (i := 1455) (by decide +kernel), by decide +kernel⟩
theorem w_1200 : (Jvm.Cond.instanceMethod ({ cls := "ErrataPressModel", name := "reader", desc := "(II)I" } : Jvm.MethodName)) ∈ gtb := List.mem_filter.mpr ⟨List.mem_of_getElem? (i := 1272) (by decide +kernel), by decide +kernel⟩
theorem sel_X6_reader : (Jvm.Cond.selects "ErrataPressModel" ({ cls := "ErrataPressModel", name := "reader", desc := "(II)I" } : Jvm.MethodName) ({ cls := "ErrataPressModel", name := "reader", desc := "(II)I" } : Jvm.MethodName)) ∈ gtb := List.mem_filter.mpr ⟨List.mem_of_getElem? (i := 1273) (by decide +kernel), by decide +kernel⟩
theorem cv_X6_224 : CFV RX6 224 19 M_X6_reader 2 := ⟨k_X6_reader, w_1383, w_1200, sel_X6_reader, rfl, _, rfl, rfl⟩
theorem w_1124 : (Jvm.Cond.code ({ cls := "ErrataPressModel", name := "sheet", desc := "(II)I" } : Jvm.MethodName) prog_8_method_22_code (6 : Nat) (Option.some Jvm.ClassFile.FieldType.int)) ∈ gtb := List.mem_filter.mpr ⟨List.mem_of_getElem? (i := 1196) (by decide +kernel), by decide +kernel⟩
theorem k_X6_sheet : CF0 M_X6_sheet 2 := ⟨rfl, w_1124, w_7, ⟨by decide +kernel, by decide +kernel, by decide +kernel⟩, by decide +kernel, by decide +kernel, rfl, rfl, rfl⟩
theorem w_1379 : (Jvm.Cond.methodLink "ErrataPressModel" (211 : Nat) ({ cls := "ErrataPressModel", name := "sheet", desc := "(II)I" } : Jvm.MethodName)) ∈ gtb := List.mem_filter.mpr ⟨List.mem_of_getElem? (i := 1451) (by decide +kernel), by decide +kernel⟩
theorem w_1122 : (Jvm.Cond.instanceMethod ({ cls := "ErrataPressModel", name := "sheet", desc := "(II)I" } : Jvm.MethodName)) ∈ gtb := List.mem_filter.mpr ⟨List.mem_of_getElem? (i := 1194) (by decide +kernel), by decide +kernel⟩
theorem sel_X6_sheet : (Jvm.Cond.selects "ErrataPressModel" ({ cls := "ErrataPressModel", name := "sheet", desc := "(II)I" } : Jvm.MethodName) ({ cls := "ErrataPressModel", name := "sheet", desc := "(II)I" } : Jvm.MethodName)) ∈ gtb := List.mem_filter.mpr ⟨List.mem_of_getElem? (i := 1195) (by decide +kernel), by decide +kernel⟩
theorem cv_X6_211 : CFV RX6 211 19 M_X6_sheet 2 := ⟨k_X6_sheet, w_1379, w_1122, sel_X6_sheet, rfl, _, rfl, rfl⟩
theorem w_1139 : (Jvm.Cond.code ({ cls := "ErrataPressModel", name := "take", desc := "(I)I" } : Jvm.MethodName) prog_8_method_23_code (3 : Nat) (Option.some Jvm.ClassFile.FieldType.int)) ∈ gtb := List.mem_filter.mpr ⟨List.mem_of_getElem? (i := 1211) (by decide +kernel), by decide +kernel⟩
theorem k_X6_take : CF0 M_X6_take 1 := ⟨rfl, w_1139, w_7, ⟨by decide +kernel, by decide +kernel, by decide +kernel⟩, by decide +kernel, by decide +kernel, rfl, rfl, rfl⟩
theorem w_1384 : (Jvm.Cond.methodLink "ErrataPressModel" (227 : Nat) ({ cls := "ErrataPressModel", name := "take", desc := "(I)I" } : Jvm.MethodName)) ∈ gtb := List.mem_filter.mpr ⟨List.mem_of_getElem? (i := 1456) (by decide +kernel), by decide +kernel⟩
theorem w_1137 : (Jvm.Cond.instanceMethod ({ cls := "ErrataPressModel", name := "take", desc := "(I)I" } : Jvm.MethodName)) ∈ gtb := List.mem_filter.mpr ⟨List.mem_of_getElem? (i := 1209) (by decide +kernel), by decide +kernel⟩
theorem sel_X6_take : (Jvm.Cond.selects "ErrataPressModel" ({ cls := "ErrataPressModel", name := "take", desc := "(I)I" } : Jvm.MethodName) ({ cls := "ErrataPressModel", name := "take", desc := "(I)I" } : Jvm.MethodName)) ∈ gtb := List.mem_filter.mpr ⟨List.mem_of_getElem? (i := 1210) (by decide +kernel), by decide +kernel⟩
theorem cv_X6_227 : CFV RX6 227 19 M_X6_take 1 := ⟨k_X6_take, w_1384, w_1137, sel_X6_take, rfl, _, rfl, rfl⟩
theorem w_1229 : (Jvm.Cond.code ({ cls := "ErrataPressModel", name := "day", desc := "()I" } : Jvm.MethodName) prog_8_method_37_code (3 : Nat) (Option.some Jvm.ClassFile.FieldType.int)) ∈ gtb := List.mem_filter.mpr ⟨List.mem_of_getElem? (i := 1301) (by decide +kernel), by decide +kernel⟩
theorem k_X6_day : CF0 M_X6_day 0 := ⟨rfl, w_1229, w_7, ⟨by decide +kernel, by decide +kernel, by decide +kernel⟩, by decide +kernel, by decide +kernel, rfl, rfl, rfl⟩
theorem w_1386 : (Jvm.Cond.methodLink "ErrataPressModel" (233 : Nat) ({ cls := "ErrataPressModel", name := "day", desc := "()I" } : Jvm.MethodName)) ∈ gtb := List.mem_filter.mpr ⟨List.mem_of_getElem? (i := 1458) (by decide +kernel), by decide +kernel⟩
theorem w_1227 : (Jvm.Cond.instanceMethod ({ cls := "ErrataPressModel", name := "day", desc := "()I" } : Jvm.MethodName)) ∈ gtb := List.mem_filter.mpr ⟨List.mem_of_getElem? (i := 1299) (by decide +kernel), by decide +kernel⟩
theorem sel_X6_day : (Jvm.Cond.selects "ErrataPressModel" ({ cls := "ErrataPressModel", name := "day", desc := "()I" } : Jvm.MethodName) ({ cls := "ErrataPressModel", name := "day", desc := "()I" } : Jvm.MethodName)) ∈ gtb := List.mem_filter.mpr ⟨List.mem_of_getElem? (i := 1300) (by decide +kernel), by decide +kernel⟩
theorem cv_X6_233 : CFV RX6 233 19 M_X6_day 0 := ⟨k_X6_day, w_1386, w_1227, sel_X6_day, rfl, _, rfl, rfl⟩
def M_X6_carries : MI := (yX6_carries, cX6_carries, 4, some .int, 8, 0, 0, 0, [])
def M_X6_refusesRun : MI := (yX6_refusesRun, cX6_refusesRun, 4, some .int, 3, 0, 0, 0, [])
theorem w_1353 : (Jvm.Cond.code ({ cls := "ErrataPressModel", name := "isText", desc := "()Z" } : Jvm.MethodName) prog_8_method_72_code (1 : Nat) (Option.some Jvm.ClassFile.FieldType.boolean)) ∈ gtb := List.mem_filter.mpr ⟨List.mem_of_getElem? (i := 1425) (by decide +kernel), by decide +kernel⟩
theorem k_X6_isText : CF0 M_X6_isText 0 := ⟨rfl, w_1353, w_7, ⟨by decide +kernel, by decide +kernel, by decide +kernel⟩, by decide +kernel, by decide +kernel, rfl, rfl, rfl⟩
theorem w_1350 : (Jvm.Cond.methodLink "ErrataPressModel" (236 : Nat) ({ cls := "ErrataPressModel", name := "isText", desc := "()Z" } : Jvm.MethodName)) ∈ gtb := List.mem_filter.mpr ⟨List.mem_of_getElem? (i := 1422) (by decide +kernel), by decide +kernel⟩
theorem w_1352 : (Jvm.Cond.instanceMethod ({ cls := "ErrataPressModel", name := "isText", desc := "()Z" } : Jvm.MethodName)) ∈ gtb := List.mem_filter.mpr ⟨List.mem_of_getElem? (i := 1424) (by decide +kernel), by decide +kernel⟩
theorem sel_X6_isText : Cond.selects "ErrataPressModel" ({ cls := "ErrataPressModel", name := "isText", desc := "()Z" } : Jvm.MethodName) ({ cls := "ErrataPressModel", name := "isText", desc := "()Z" } : Jvm.MethodName) ∈ gtb := List.mem_filter.mpr ⟨List.mem_of_getElem? (i := 62) (by decide +kernel), by decide +kernel⟩
theorem cv_X6_236 : CFV RX6 236 19 M_X6_isText 0 := ⟨k_X6_isText, w_1350, w_1352, sel_X6_isText, rfl, _, rfl, rfl⟩
theorem w_1042 : (Jvm.Cond.fieldLink "ErrataPressModel" (25 : Nat) "ErrataPressModel" "error" "I") ∈ gtb := List.mem_filter.mpr ⟨List.mem_of_getElem? (i := 1114) (by decide +kernel), by decide +kernel⟩
theorem ff_X6_25 : FF RX6 25 19 15 := ⟨RX6, TX6, 21, rfl, inG6, by decide, rfl, w_1042⟩
theorem fp_X6_25 : FP2 RX6 25 19 15 .int := ⟨RX6, TX6, 21, tyX6, rfl, inG6, by decide, rfl, w_1042, tyX6_ok, nmX6, rfl, rfl, rfl⟩
theorem w_1030 : (Jvm.Cond.fieldLink "ErrataPressModel" (19 : Nat) "ErrataPressModel" "before" "[I") ∈ gtb := List.mem_filter.mpr ⟨List.mem_of_getElem? (i := 1102) (by decide +kernel), by decide +kernel⟩
theorem ff_X6_19 : FF RX6 19 19 3 := ⟨RX6, TX6, 21, rfl, inG6, by decide, rfl, w_1030⟩
theorem fp_X6_55 : FP2 RX6 55 19 6 .boolean := ⟨RX6, TX6, 21, tyX6, rfl, inG6, by decide, rfl, w_1033, tyX6_ok, nmX6, rfl, rfl, rfl⟩
theorem w_1390 : (Jvm.Cond.code ({ cls := "ErrataPressModel", name := "refusesRun", desc := "(I)I" } : Jvm.MethodName) prog_8_method_74_code (4 : Nat) (Option.some Jvm.ClassFile.FieldType.int)) ∈ gtb := List.mem_filter.mpr ⟨List.mem_of_getElem? (i := 1462) (by decide +kernel), by decide +kernel⟩
theorem k_X6_refusesRun : CF0 M_X6_refusesRun 1 := ⟨rfl, w_1390, w_7, ⟨by decide +kernel, by decide +kernel, by decide +kernel⟩, by decide +kernel, by decide +kernel, rfl, rfl, rfl⟩
theorem w_1387 : (Jvm.Cond.methodLink "ErrataPressModel" (242 : Nat) ({ cls := "ErrataPressModel", name := "refusesRun", desc := "(I)I" } : Jvm.MethodName)) ∈ gtb := List.mem_filter.mpr ⟨List.mem_of_getElem? (i := 1459) (by decide +kernel), by decide +kernel⟩
theorem w_1389 : (Jvm.Cond.instanceMethod ({ cls := "ErrataPressModel", name := "refusesRun", desc := "(I)I" } : Jvm.MethodName)) ∈ gtb := List.mem_filter.mpr ⟨List.mem_of_getElem? (i := 1461) (by decide +kernel), by decide +kernel⟩
theorem sel_X6_refusesRun : Cond.selects "ErrataPressModel" ({ cls := "ErrataPressModel", name := "refusesRun", desc := "(I)I" } : Jvm.MethodName) ({ cls := "ErrataPressModel", name := "refusesRun", desc := "(I)I" } : Jvm.MethodName) ∈ gtb := List.mem_filter.mpr ⟨List.mem_of_getElem? (i := 69) (by decide +kernel), by decide +kernel⟩
theorem cv_X6_242 : CFV RX6 242 19 M_X6_refusesRun 1 := ⟨k_X6_refusesRun, w_1387, w_1389, sel_X6_refusesRun, rfl, _, rfl, rfl⟩
theorem w_1377 : (Jvm.Cond.code ({ cls := "ErrataPressModel", name := "carries", desc := "(I)I" } : Jvm.MethodName) prog_8_method_73_code (4 : Nat) (Option.some Jvm.ClassFile.FieldType.int)) ∈ gtb := List.mem_filter.mpr ⟨List.mem_of_getElem? (i := 1449) (by decide +kernel), by decide +kernel⟩
theorem k_X6_carries : CF0 M_X6_carries 1 := ⟨rfl, w_1377, w_7, ⟨by decide +kernel, by decide +kernel, by decide +kernel⟩, by decide +kernel, by decide +kernel, rfl, rfl, rfl⟩
theorem w_1374 : (Jvm.Cond.methodLink "ErrataPressModel" (239 : Nat) ({ cls := "ErrataPressModel", name := "carries", desc := "(I)I" } : Jvm.MethodName)) ∈ gtb := List.mem_filter.mpr ⟨List.mem_of_getElem? (i := 1446) (by decide +kernel), by decide +kernel⟩
theorem w_1376 : (Jvm.Cond.instanceMethod ({ cls := "ErrataPressModel", name := "carries", desc := "(I)I" } : Jvm.MethodName)) ∈ gtb := List.mem_filter.mpr ⟨List.mem_of_getElem? (i := 1448) (by decide +kernel), by decide +kernel⟩
theorem sel_X6_carries : Cond.selects "ErrataPressModel" ({ cls := "ErrataPressModel", name := "carries", desc := "(I)I" } : Jvm.MethodName) ({ cls := "ErrataPressModel", name := "carries", desc := "(I)I" } : Jvm.MethodName) ∈ gtb := List.mem_filter.mpr ⟨List.mem_of_getElem? (i := 68) (by decide +kernel), by decide +kernel⟩
theorem cv_X6_239 : CFV RX6 239 19 M_X6_carries 1 := ⟨k_X6_carries, w_1374, w_1376, sel_X6_carries, rfl, _, rfl, rfl⟩
def M_X6_run : MI := (yX6_run, cX6_run, 4, some .int, 9, 0, 0, 0, [])
def M_X6_errorPosition : MI := (yX6_errorPosition, cX6_errorPosition, 1, some .int, 2, 0, 0, 0, [])
def M_X6_refusal : MI := (yX6_refusal, cX6_refusal, 3, some .int, 3, 0, 0, 0, [])
def M_X6_all : MI := (yX6_all, cX6_all, 4, some .int, 5, 0, 0, 0, [])
def M_X6_summed : MI := (yX6_summed, cX6_summed, 4, some .int, 3, 0, 0, 0, [])
theorem w_1406 : (Jvm.Cond.code ({ cls := "ErrataPressModel", name := "all", desc := "(I)I" } : Jvm.MethodName) prog_8_method_78_code (4 : Nat) (Option.some Jvm.ClassFile.FieldType.int)) ∈ gtb := List.mem_filter.mpr ⟨List.mem_of_getElem? (i := 1478) (by decide +kernel), by decide +kernel⟩
theorem k_X6_all : CF0 M_X6_all 1 := ⟨rfl, w_1406, w_7, ⟨by decide +kernel, by decide +kernel, by decide +kernel⟩, by decide +kernel, by decide +kernel, rfl, rfl, rfl⟩
theorem w_1403 : (Jvm.Cond.methodLink "ErrataPressModel" (245 : Nat) ({ cls := "ErrataPressModel", name := "all", desc := "(I)I" } : Jvm.MethodName)) ∈ gtb := List.mem_filter.mpr ⟨List.mem_of_getElem? (i := 1475) (by decide +kernel), by decide +kernel⟩
theorem w_1405 : (Jvm.Cond.instanceMethod ({ cls := "ErrataPressModel", name := "all", desc := "(I)I" } : Jvm.MethodName)) ∈ gtb := List.mem_filter.mpr ⟨List.mem_of_getElem? (i := 1477) (by decide +kernel), by decide +kernel⟩
theorem sel_X6_all : Cond.selects "ErrataPressModel" ({ cls := "ErrataPressModel", name := "all", desc := "(I)I" } : Jvm.MethodName) ({ cls := "ErrataPressModel", name := "all", desc := "(I)I" } : Jvm.MethodName) ∈ gtb := List.mem_filter.mpr ⟨List.mem_of_getElem? (i := 70) (by decide +kernel), by decide +kernel⟩
theorem cv_X6_245 : CFV RX6 245 19 M_X6_all 1 := ⟨k_X6_all, w_1403, w_1405, sel_X6_all, rfl, _, rfl, rfl⟩
theorem w_1410 : (Jvm.Cond.code ({ cls := "ErrataPressModel", name := "summed", desc := "(I)I" } : Jvm.MethodName) prog_8_method_79_code (4 : Nat) (Option.some Jvm.ClassFile.FieldType.int)) ∈ gtb := List.mem_filter.mpr ⟨List.mem_of_getElem? (i := 1482) (by decide +kernel), by decide +kernel⟩
theorem k_X6_summed : CF0 M_X6_summed 1 := ⟨rfl, w_1410, w_7, ⟨by decide +kernel, by decide +kernel, by decide +kernel⟩, by decide +kernel, by decide +kernel, rfl, rfl, rfl⟩
theorem w_1407 : (Jvm.Cond.methodLink "ErrataPressModel" (248 : Nat) ({ cls := "ErrataPressModel", name := "summed", desc := "(I)I" } : Jvm.MethodName)) ∈ gtb := List.mem_filter.mpr ⟨List.mem_of_getElem? (i := 1479) (by decide +kernel), by decide +kernel⟩
theorem w_1409 : (Jvm.Cond.instanceMethod ({ cls := "ErrataPressModel", name := "summed", desc := "(I)I" } : Jvm.MethodName)) ∈ gtb := List.mem_filter.mpr ⟨List.mem_of_getElem? (i := 1481) (by decide +kernel), by decide +kernel⟩
theorem sel_X6_summed : Cond.selects "ErrataPressModel" ({ cls := "ErrataPressModel", name := "summed", desc := "(I)I" } : Jvm.MethodName) ({ cls := "ErrataPressModel", name := "summed", desc := "(I)I" } : Jvm.MethodName) ∈ gtb := List.mem_filter.mpr ⟨List.mem_of_getElem? (i := 71) (by decide +kernel), by decide +kernel⟩
theorem cv_X6_248 : CFV RX6 248 19 M_X6_summed 1 := ⟨k_X6_summed, w_1407, w_1409, sel_X6_summed, rfl, _, rfl, rfl⟩
def M_X6_account : MI := (yX6_account, cX6_account, 2, some .int, 6, 0, 0, 0, [])
def M_X6_isWell : MI := (yX6_isWell, cX6_isWell, 3, some .boolean, 4, 0, 0, 0, [])
def M_X6_meanShame : MI := (yX6_meanShame, cX6_meanShame, 1, some .double, 4, 0, 0, 0, [])
def M_X6_errorShare : MI := (yX6_errorShare, cX6_errorShare, 3, some .float, 6, 0, 0, 0, [])
def M_X6_undo : MI := (yX6_undo, cX6_undo, 1, some .int, 3, 0, 0, 0, [])
theorem w_1031 : (Jvm.Cond.fieldLink "ErrataPressModel" (251 : Nat) "ErrataPressModel" "isSaved" "Z") ∈ gtb := List.mem_filter.mpr ⟨List.mem_of_getElem? (i := 1103) (by decide +kernel), by decide +kernel⟩
theorem ff_X6_251 : FF RX6 251 19 4 := ⟨RX6, TX6, 21, rfl, inG6, by decide, rfl, w_1031⟩
theorem fp_X6_251 : FP2 RX6 251 19 4 .boolean := ⟨RX6, TX6, 21, tyX6, rfl, inG6, by decide, rfl, w_1031, tyX6_ok, nmX6, rfl, rfl, rfl⟩
theorem w_1029 : (Jvm.Cond.fieldLink "ErrataPressModel" (16 : Nat) "ErrataPressModel" "saved" "[I") ∈ gtb := List.mem_filter.mpr ⟨List.mem_of_getElem? (i := 1101) (by decide +kernel), by decide +kernel⟩
theorem ff_X6_16 : FF RX6 16 19 2 := ⟨RX6, TX6, 21, rfl, inG6, by decide, rfl, w_1029⟩
def M_X6_save : MI := (yX6_save, cX6_save, 1, some .int, 3, 0, 0, 0, [])
def M_X6_restore : MI := (yX6_restore, cX6_restore, 1, some .int, 3, 0, 0, 0, [])
theorem w_417 : (Jvm.Cond.constant "java/lang/Integer" (265 : Nat) (1431655765 : Int32)) ∈ gtb := List.mem_filter.mpr ⟨List.mem_of_getElem? (i := 489) (by decide +kernel), by decide +kernel⟩
theorem w_418 : (Jvm.Cond.constant "java/lang/Integer" (266 : Nat) (858993459 : Int32)) ∈ gtb := List.mem_filter.mpr ⟨List.mem_of_getElem? (i := 490) (by decide +kernel), by decide +kernel⟩
theorem w_419 : (Jvm.Cond.constant "java/lang/Integer" (267 : Nat) (252645135 : Int32)) ∈ gtb := List.mem_filter.mpr ⟨List.mem_of_getElem? (i := 491) (by decide +kernel), by decide +kernel⟩
